/-! ===== predict and advance ===== -/
/-- the grammar as the class keeps it -/
def mj_GI (w : mj_w) : Prop := (0 ≤ w 1 0 0 ∧ w 1 0 0 ≤ 10) ∧ (∀ r : Int, 0 ≤ r → r < w 1 0 0 → 0 ≤ w 2 r 0 ∧ w 2 r 0 < 5) ∧ ∀ s : Int, 0 ≤ s → s < 44 → -1 ≤ w 3 s 0 ∧ w 3 s 0 < 12 ∧ (w 3 s 0 < 5 ∨ 8 ≤ w 3 s 0) ∧ (s % 4 = 3 → w 3 s 0 = -1)
theorem mj_add.gr {i : Int} {A : Int → Int → Prop} {w w' : mj_w} (h : mj_add i A w w') {p : Nat} (hp : p ≠ 7 ∧ p ≠ 8 ∧ p ≠ 10 ∧ p ≠ 6) (a b : Int) : w' p a b = w p a b :=
  h.1 p a b (fun q => hp.1 q.1) (fun q => hp.2.1 q.1) hp.2.2.1 (fun q => hp.2.2.2 q.1)
theorem mj_add.GI {i : Int} {A : Int → Int → Prop} {w w' : mj_w} (h : mj_add i A w w') (hG : mj_GI w) : mj_GI w' := by
  have e1 := h.gr (p := 1) (by decide)
  have e2 := h.gr (p := 2) (by decide)
  have e3 := h.gr (p := 3) (by decide)
  unfold mj_GI
  simp only [e1, e2, e3]
  exact hG
/-- another set's row, or this one's, behind put -/
theorem mj_add.row {i f : Int} {A : Int → Int → Prop} {w w' : mj_w} (h : mj_add i A w w') (hf : ∀ s : Int, 0 ≤ s → s < 44 → 0 ≤ w 7 f s ∧ w 7 f s < 8192) : ∀ s : Int, 0 ≤ s → s < 44 → 0 ≤ w' 7 f s ∧ w' 7 f s < 8192 := by
  intro s h0 h1
  by_cases e : f = i
  · subst e; exact h.2.2.1 s h0 h1
  · rw [h.1 7 f s (fun q => e q.2) (fun q => by cases q.1) (by decide) (fun q => by cases q.1)]
    exact hf s h0 h1
theorem mj_add.it {i f : Int} {A : Int → Int → Prop} {w w' : mj_w} (h : mj_add i A w w') {s o : Int} (hr : mj_rg s o) (hi : mj_it w f s o) : mj_it w' f s o := by
  by_cases e : f = i
  · subst e; exact (h.2.1 s o hr).mpr (Or.inl hi)
  · unfold mj_it
    rw [h.1 7 f s (fun q => e q.2) (fun q => by cases q.1) (by decide) (fun q => by cases q.1)]
    exact hi
section C52
variable {g : mj_G} {nn d : Nat} {xs : mj_M} {Post : Option mj_V → mj_w → Prop}
theorem c_predict_loop (hn : 21 ≤ nn) {i b : Int} (hi0 : 0 ≤ i) (hi1 : i < 13) (hb : mj_i b) {w0 : mj_w} (hG : mj_GI w0) (h : ∀ w', mj_add i (fun s o => o = i ∧ ∃ r : Int, 0 ≤ r ∧ r < w0 1 0 0 ∧ w0 2 r 0 = b ∧ s = (r + 1) * 4) w0 w' → Post none w') :
    ∀ (n : Nat) (r : Int) (w : mj_w), 0 ≤ r → r ≤ w0 1 0 0 → (w0 1 0 0 - r).toNat = n → mj_add i (fun s o => o = i ∧ ∃ q : Int, 0 ≤ q ∧ q < r ∧ w0 2 q 0 = b ∧ s = (q + 1) * 4) w0 w →
    mj_J g y_Ch_predict (d + 2) 0 0 (2, [some (mj_R 6), some (.inl i), some (.inl b), some (.inl r)], [], mj_mem nn xs w) (mj_P nn xs Post) := by
  intro n
  induction n with
  | zero =>
    intro r w h0 h1 h2 ha
    have e1 := ha.gr (p := 1) (by decide) 0 0
    have hc := hG.1
    refine v_Ch_predict_2 (d := d + 1) hn ⟨⟨by omega, by omega⟩, ⟨by omega, by omega⟩, fun q => by omega, fun q => ?_⟩
    have er : r = w0 1 0 0 := by omega
    subst er
    exact h w ha
  | succ n ih =>
    intro r w h0 h1 h2 ha
    have e1 := ha.gr (p := 1) (by decide) 0 0
    have e2 := ha.gr (p := 2) (by decide) r 0
    have hc := hG.1
    have hGw := ha.GI hG
    refine v_Ch_predict_2 (d := d + 1) hn ⟨⟨by omega, by omega⟩, ⟨by omega, by omega⟩, fun q => ?_, fun q => by omega⟩
    have hl := hG.2.1 r h0 (by omega)
    refine c_leftOf hn ⟨by omega, by omega⟩ (by omega) (by omega) ⟨_, rfl, ?_⟩
    have elo : mj_lo w r = w0 2 r 0 := by unfold mj_lo; rw [if_pos (by omega), e2]
    rw [elo]
    refine ⟨⟨by omega, by omega⟩, hb, fun q2 => ?_, fun q2 => ?_⟩
    · refine c_slotOf hn ⟨_, rfl, ?_⟩
      refine c_put' hn hi0 hi1 ⟨by omega, by omega, by omega, by omega⟩ ha.2.2.1 ha.2.2.2.1 (fun w' hw' => ⟨rfl, ?_⟩)
      refine ih (r + 1) w' (by omega) (by omega) (by omega) ((ha.trans hw').to fun s o hr => ?_)
      constructor
      · rintro (⟨rfl, q, q0, q1, q3, q4⟩ | ⟨rfl, rfl⟩)
        · exact ⟨rfl, q, q0, by omega, q3, q4⟩
        · exact ⟨rfl, r, h0, by omega, q2, by omega⟩
      · rintro ⟨rfl, q, q0, q1, q3, q4⟩
        by_cases e : q = r
        · subst e; exact Or.inr ⟨by omega, rfl⟩
        · exact Or.inl ⟨rfl, q, q0, by omega, q3, q4⟩
    · refine ih (r + 1) w (by omega) (by omega) (by omega) (ha.to fun s o hr => ?_)
      constructor
      · rintro ⟨rfl, q, q0, q1, q3, q4⟩
        exact ⟨rfl, q, q0, by omega, q3, q4⟩
      · rintro ⟨rfl, q, q0, q1, q3, q4⟩
        by_cases e : q = r
        · subst e; exact absurd q3 q2
        · exact ⟨rfl, q, q0, by omega, q3, q4⟩
theorem c_predict (hn : 21 ≤ nn) {i b : Int} {w : mj_w} (hi0 : 0 ≤ i) (hi1 : i < 13) (hb : mj_i b) (hG : mj_GI w) (h1 : ∀ s : Int, 0 ≤ s → s < 44 → 0 ≤ w 7 i s ∧ w 7 i s < 8192) (h2 : mj_AG i w) (h : ∀ w', mj_add i (fun s o => o = i ∧ ∃ r : Int, 0 ≤ r ∧ r < w 1 0 0 ∧ w 2 r 0 = b ∧ s = (r + 1) * 4) w w' → Post none w') :
    mj_J g y_Ch_predict (d + 2) 0 0 (0, [some (mj_R 6), some (.inl i), some (.inl b), none], [], mj_mem nn xs w) (mj_P nn xs Post) :=
  v_Ch_predict_0 (d := d + 1) hn (c_predict_loop hn hi0 hi1 hb hG h _ 0 w (Int.le_refl _) hG.1.1 rfl ((mj_add.refl h1 h2).to fun s o _ => ⟨fun q => q.elim, fun ⟨_, q, q0, q1, _⟩ => by omega⟩))
/-- what advance has put so far: slots below k, and of slot k the origins below m -/
def mj_adv (f b i k m : Int) (w0 : mj_w) (A : Int → Int → Prop) (w : mj_w) : Prop := mj_add i A w0 w ∧ (∀ s o : Int, mj_rg s o → o ≤ f → (s < k ∨ (s = k ∧ o < m)) → mj_it w0 f s o → w0 3 s 0 = b → A (s + 1) o) ∧ ∀ s o : Int, mj_rg s o → A s o → ∃ s0 : Int, s = s0 + 1 ∧ mj_rg s0 o ∧ w0 3 s0 0 = b ∧ mj_it w f s0 o
theorem c_advance_inner (hn : 21 ≤ nn) {f b i k : Int} (hf0 : 0 ≤ f) (hf1 : f < 13) (hi0 : 0 ≤ i) (hi1 : i < 13) (hb0 : 0 ≤ b) (hb1 : b < 12) (hk0 : 0 ≤ k) (hk1 : k < 44) {w0 : mj_w} (hG : mj_GI w0) (hrow : ∀ s : Int, 0 ≤ s → s < 44 → 0 ≤ w0 7 f s ∧ w0 7 f s < 8192) (hkb : w0 3 k 0 = b)
    (h : ∀ w A, mj_adv f b i (k + 1) 0 w0 A w → mj_J g y_Ch_advance (d + 2) 0 0 (3, [some (mj_R 6), some (.inl f), some (.inl b), some (.inl i), some (.inl (k + 1)), none], [], mj_mem nn xs w) (mj_P nn xs Post)) :
    ∀ (n : Nat) (m : Int) (w : mj_w) (A : Int → Int → Prop), 0 ≤ m → m ≤ f + 1 → (f + 1 - m).toNat = n → mj_adv f b i k m w0 A w →
    mj_J g y_Ch_advance (d + 2) 0 0 (39, [some (mj_R 6), some (.inl f), some (.inl b), some (.inl i), some (.inl k), some (.inl m)], [], mj_mem nn xs w) (mj_P nn xs Post) := by
  intro n
  have hk3 : k % 4 ≠ 3 := fun q => by have := (hG.2.2 k hk0 hk1).2.2.2 q; omega
  induction n with
  | zero =>
    intro m w A h0 h1 h2 ha
    refine v_Ch_advance_39 (d := d + 1) hn ⟨⟨by omega, by omega⟩, ⟨by omega, by omega⟩, fun q => ?_, fun q => by omega⟩
    refine h w A ⟨ha.1, fun s o hr ho hs => ha.2.1 s o hr ho ?_, ha.2.2⟩
    have := hr.2.2.1
    omega
  | succ n ih =>
    intro m w A h0 h1 h2 ha
    have hroww := ha.1.row hrow
    refine v_Ch_advance_39 (d := d + 1) hn ⟨⟨by omega, by omega⟩, ⟨by omega, by omega⟩, fun q => by omega, fun q => ?_⟩
    refine c_holds hn hf0 hf1 hk0 hk1 h0 (by omega) (hroww k hk0 hk1).1 (hroww k hk0 hk1).2 ⟨_, rfl, ?_⟩
    unfold mj_b
    have hrm : mj_rg k m := ⟨hk0, hk1, h0, by omega⟩
    by_cases q2 : mj_t (w 7 f k) m = true
    · rw [if_pos q2]
      refine ⟨⟨by decide, by decide⟩, fun q3 => absurd q3 (by decide), fun _ => ?_⟩
      refine c_put' hn hi0 hi1 ⟨by omega, by omega, by omega, by omega⟩ ha.1.2.2.1 ha.1.2.2.2.1 (fun w' hw' => ⟨rfl, ?_⟩)
      refine ih (m + 1) w' (fun s o => A s o ∨ (s = k + 1 ∧ o = m)) (by omega) (by omega) (by omega) ⟨ha.1.trans hw', fun s o hr ho hs hit hsb => ?_, fun s o hr hA => ?_⟩
      · by_cases e : s = k ∧ o = m
        · obtain ⟨rfl, rfl⟩ := e
          exact Or.inr ⟨rfl, rfl⟩
        · exact Or.inl (ha.2.1 s o hr ho (by omega) hit hsb)
      · rcases hA with hA | ⟨rfl, rfl⟩
        · obtain ⟨s0, e1, e2, e3, e4⟩ := ha.2.2 s o hr hA
          exact ⟨s0, e1, e2, e3, hw'.it e2 e4⟩
        · exact ⟨k, rfl, hrm, hkb, hw'.it hrm q2⟩
    · rw [if_neg q2]
      refine ⟨⟨by decide, by decide⟩, fun _ => ?_, fun q3 => absurd rfl q3⟩
      refine ih (m + 1) w A (by omega) (by omega) (by omega) ⟨ha.1, fun s o hr ho hs hit hsb => ?_, ha.2.2⟩
      by_cases e : s = k ∧ o = m
      · obtain ⟨rfl, rfl⟩ := e
        exact absurd (ha.1.it hr hit) q2
      · exact ha.2.1 s o hr ho (by omega) hit hsb
theorem c_advance_loop (hn : 21 ≤ nn) {f b i : Int} (hf0 : 0 ≤ f) (hf1 : f < 13) (hi0 : 0 ≤ i) (hi1 : i < 13) (hb0 : 0 ≤ b) (hb1 : b < 12) {w0 : mj_w} (hG : mj_GI w0) (hrow : ∀ s : Int, 0 ≤ s → s < 44 → 0 ≤ w0 7 f s ∧ w0 7 f s < 8192)
    (h : ∀ w A, mj_adv f b i 44 0 w0 A w → Post none w) : ∀ (n : Nat) (k : Int) (w : mj_w) (A : Int → Int → Prop), 0 ≤ k → k ≤ 44 → (44 - k).toNat = n → mj_adv f b i k 0 w0 A w →
    mj_J g y_Ch_advance (d + 2) 0 0 (3, [some (mj_R 6), some (.inl f), some (.inl b), some (.inl i), some (.inl k), none], [], mj_mem nn xs w) (mj_P nn xs Post) := by
  intro n
  induction n with
  | zero =>
    intro k w A h0 h1 h2 ha
    have e : k = 44 := by omega
    subst e
    exact v_Ch_advance_3 (d := d + 1) hn ⟨⟨by decide, by decide⟩, fun q => absurd q (by decide), fun _ => h w A ha⟩
  | succ n ih =>
    intro k w A h0 h1 h2 ha
    have hroww := ha.1.row hrow k h0 (by omega)
    have e3 := ha.1.gr (p := 3) (by decide) k 0
    have hg3 := hG.2.2 k h0 (by omega)
    have skip : (∀ o : Int, mj_rg k o → o ≤ f → mj_it w0 f k o → w0 3 k 0 = b → False) → mj_adv f b i (k + 1) 0 w0 A w := fun hno => ⟨ha.1, fun s o hr ho hs hit hsb => by
      by_cases e : s = k
      · subst e; exact (hno o hr ho hit hsb).elim
      · exact ha.2.1 s o hr ho (by have := hr.2.2.1; omega) hit hsb, ha.2.2⟩
    refine v_Ch_advance_3 (d := d + 1) hn ⟨⟨by omega, by omega⟩, fun q => ⟨hf0, hf1, h0, q, ⟨by omega, by omega⟩, fun q2 => ?_, fun q2 => ⟨by rw [e3]; exact ⟨by omega, by omega⟩, ⟨by omega, by omega⟩, fun q4 => ?_, fun q4 => ?_⟩⟩, fun q => by omega⟩
    · refine ih (k + 1) w A (by omega) (by omega) (by omega) (skip fun o hr ho hit _ => ?_)
      have h3 := ha.1.it hr hit
      unfold mj_it at h3
      rw [q2, mj_t_zero] at h3
      cases h3
    · rw [e3] at q4
      exact c_advance_inner hn hf0 hf1 hi0 hi1 hb0 hb1 h0 q hG hrow q4 (fun w' A' ha' => ih (k + 1) w' A' (by omega) (by omega) (by omega) ha') _ 0 w A (Int.le_refl _) (by omega) rfl ha
    · rw [e3] at q4
      exact ih (k + 1) w A (by omega) (by omega) (by omega) (skip fun o hr ho hit hsb => q4 hsb)
theorem c_advance (hn : 21 ≤ nn) {f b i : Int} {w : mj_w} (hf0 : 0 ≤ f) (hf1 : f < 13) (hi0 : 0 ≤ i) (hi1 : i < 13) (hb0 : 0 ≤ b) (hb1 : b < 12) (hG : mj_GI w) (hrow : ∀ s : Int, 0 ≤ s → s < 44 → 0 ≤ w 7 f s ∧ w 7 f s < 8192) (h1 : ∀ s : Int, 0 ≤ s → s < 44 → 0 ≤ w 7 i s ∧ w 7 i s < 8192) (h2 : mj_AG i w)
    (h : ∀ w' A, mj_add i A w w' → (∀ s o : Int, mj_rg s o → o ≤ f → mj_it w f s o → w 3 s 0 = b → A (s + 1) o) → (∀ s o : Int, mj_rg s o → A s o → ∃ s0 : Int, s = s0 + 1 ∧ mj_rg s0 o ∧ w 3 s0 0 = b ∧ mj_it w' f s0 o) → Post none w') :
    mj_J g y_Ch_advance (d + 2) 0 0 (0, [some (mj_R 6), some (.inl f), some (.inl b), some (.inl i), none, none], [], mj_mem nn xs w) (mj_P nn xs Post) :=
  v_Ch_advance_0 (d := d + 1) hn (c_advance_loop hn hf0 hf1 hi0 hi1 hb0 hb1 hG hrow (fun w' A ha => h w' A ha.1 (fun s o hr ho hit hsb => ha.2.1 s o hr ho (by have := hr.2.1; omega) hit hsb) ha.2.2) _ 0 w (fun _ _ => False) (Int.le_refl _) (by decide) rfl
    ⟨mj_add.refl h1 h2, fun s o hr _ hs => by have := hr.1; have := hr.2.2.1; omega, fun s o _ q => q.elim⟩)
end C52
