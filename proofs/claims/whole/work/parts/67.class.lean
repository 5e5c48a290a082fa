/-! ===== the class's methods but rule and those of the forest ===== -/
theorem mj_CI.le {n m : Int} {w : mj_w} (h : mj_CI n w) (h0 : 0 ≤ m) (h1 : m ≤ n) : mj_CI m w := by
  obtain ⟨b1, b2, b3, b4, b5, b6, b7, b8⟩ := h
  exact ⟨b1, by omega, b3, fun f s f0 f1 => b4 f s f0 (by omega), fun f s o f0 f1 => b5 f s o f0 (by omega), fun f f0 f1 => b6 f f0 (by omega), fun f l f0 f1 => b7 f l f0 (by omega), fun f f0 f1 => b8 f f0 (by omega)⟩
theorem mj_CI.congr {n : Int} {w w' : mj_w} (h : mj_CI n w) (low : mj_low n w w') (h5 : ∀ a : Int, a < n → w' 5 a 0 = w 5 a 0) (h8 : ∀ f : Int, 0 ≤ f → f ≤ n → w' 8 f 0 = w 8 f 0) : mj_CI n w' := by
  obtain ⟨b1, b2, b3, b4, b5, b6, b7, b8⟩ := h
  refine ⟨low.GI b1, b2, by rw [low.2.2.2.1]; exact b3, fun f s f0 f1 s0 s1 => by rw [low.2.2.2.2.1 f s f1]; exact b4 f s f0 f1 s0 s1, fun f s o f0 f1 hr hit => b5 f s o f0 f1 hr (by rw [← low.it f1]; exact hit), fun f f0 f1 => ?_, fun f l f0 f1 l0 l1 => ?_, fun f f0 f1 => ?_⟩
  · rw [h8 f f0 f1, b6 f f0 f1]
    unfold mj_ct
    simp only [low.2.2.2.2.1 f _ f1]
  · rw [low.nmOK (by omega), low.2.2.2.2.2 f l f1]; exact b7 f l f0 f1 l0 l1
  · exact (low.le f1).set (h5 _ (by omega)) (b8 f f0 f1)
theorem mj_ex_lt {w : mj_w} (hG : mj_GI w) {i k : Int} (hk : 4 ≤ k) : ¬ mj_ex w i k := by
  rintro ⟨s, o, hr, -, hb⟩
  have := hG.2.2 s hr.1 hr.2.1
  omega
section C67
variable {g : mj_G} {nn d : Nat} {xs : mj_M} {w : mj_w}
theorem c_isSet (hn : 21 ≤ nn) {Post : Option mj_V → mj_w → Prop} {i : Int} (hi : mj_i i) (hC : mj_CI (w 4 0 0) w) (h1 : 0 ≤ i → i ≤ w 4 0 0 → Post (some (.inl 1)) w) (h0 : ¬ (0 ≤ i ∧ i ≤ w 4 0 0) → Post (some (.inl 0)) w) :
    mj_J g y_CF_isSet d 0 0 (0, [some (mj_R 0), some (.inl i)], [], mj_mem nn xs w) (mj_P nn xs Post) := by
  have := hC.2.1
  exact v_CF_isSet_0 hn ⟨hi, fun q => h0 (by omega), fun q => ⟨⟨by omega, by omega⟩, fun q1 => h0 (by omega), fun q1 => h1 (by omega) (by omega)⟩⟩
theorem c_CF_accepts (hn : 21 ≤ nn) {Post : Option mj_V → mj_w → Prop} (hC : mj_CI (w 4 0 0) w) (h : Post (some (.inl (mj_b (mj_t (w 7 (w 4 0 0) 1) 0)))) w) :
    mj_J g y_CF_accepts (d + 1) 0 0 (0, [some (mj_R 0)], [], mj_mem nn xs w) (mj_P nn xs Post) := by
  have hl := hC.2.1
  have hr := hC.2.2.2.1 (w 4 0 0) 1 hl.1 (Int.le_refl _) (by decide) (by decide)
  refine v_CF_accepts_0 hn (c_slotOf hn ⟨_, rfl, c_holds hn hl.1 (by omega) (by decide) (by decide) (by decide) (by decide) hr.1 hr.2 ⟨_, rfl, ?_, h⟩⟩)
  show mj_b (mj_t (w 7 (w 4 0 0) 1) 0) = 0 ∨ mj_b (mj_t (w 7 (w 4 0 0) 1) 0) = 1
  unfold mj_b
  split
  · exact Or.inr rfl
  · exact Or.inl rfl
theorem c_CF_expected (hn : 21 ≤ nn) {Post : Option mj_V → mj_w → Prop} (hC : mj_CI (w 4 0 0) w) (h : ∀ x, mj_mk x (mj_ex w (w 4 0 0)) → Post (some (.inl x)) w) :
    mj_J g y_CF_expected (d + 2) 0 0 (0, [some (mj_R 0)], [], mj_mem nn xs w) (mj_P nn xs Post) := by
  have hl := hC.2.1
  exact v_CF_expected_0 (d := d + 1) hn (c_tbd hn hl.1 (by omega) hC.1 (fun s s0 s1 => hC.2.2.2.1 _ s hl.1 (Int.le_refl _) s0 s1) (fun x hx => ⟨_, rfl, h x hx⟩))
variable {Post : Option mj_V ⊕ Nat → mj_w → Prop}
theorem c_CF_items (hn : 21 ≤ nn) {i : Int} (hi : mj_i i) (hC : mj_CI (w 4 0 0) w) (h10 : ¬ (0 ≤ i ∧ i ≤ w 4 0 0) → Post (.inr 10) w) (h : 0 ≤ i → i ≤ w 4 0 0 → Post (.inl (some (.inl (mj_ct w i : Int)))) w) :
    mj_J g y_CF_items (d + 6) 1 6 (0, [some (mj_R 0), some (.inl i)], [], mj_mem nn xs w) (mj_PT nn xs Post) := by
  have hl := hC.2.1
  refine v_CF_items_0 hn (c_isSet hn hi hC (fun i0 i1 => ⟨_, rfl, ⟨by decide, by decide⟩, fun z => absurd z (by decide), fun _ => ⟨i0, by omega, ?_⟩⟩) (fun q => ⟨_, rfl, ⟨by decide, by decide⟩, fun _ => h10 q, fun z => absurd rfl z⟩))
  rw [hC.2.2.2.2.2.1 i i0 i1]
  exact h i0 i1
theorem c_CF_has (hn : 21 ≤ nn) {i r t o : Int} (hi : mj_i i) (hr : mj_i r) (ht : mj_i t) (ho : mj_i o) (hC : mj_CI (w 4 0 0) w) (h10 : ¬ (0 ≤ i ∧ i ≤ w 4 0 0) → Post (.inr 10) w)
    (h0 : 0 ≤ i → i ≤ w 4 0 0 → ¬ (-1 ≤ r ∧ r < w 1 0 0 ∧ 0 ≤ t ∧ t < 4 ∧ 0 ≤ o ∧ o ≤ w 4 0 0) → Post (.inl (some (.inl 0))) w)
    (h : 0 ≤ i → i ≤ w 4 0 0 → (-1 ≤ r ∧ r < w 1 0 0 ∧ 0 ≤ t ∧ t < 4 ∧ 0 ≤ o ∧ o ≤ w 4 0 0) → Post (.inl (some (.inl (mj_b (mj_t (w 7 i ((r + 1) * 4 + t)) o))))) w) :
    mj_J g y_CF_has (d + 6) 1 6 (0, [some (mj_R 0), some (.inl i), some (.inl r), some (.inl t), some (.inl o)], [], mj_mem nn xs w) (mj_PT nn xs Post) := by
  have hl := hC.2.1
  have hcnt := hC.1.1
  refine v_CF_has_0 hn (c_isSet hn hi hC (fun i0 i1 => ⟨_, rfl, ⟨by decide, by decide⟩, fun z => absurd z (by decide), fun _ => ⟨hr, fun q1 => h0 i0 i1 (by omega), fun q1 => ⟨⟨by omega, by omega⟩, fun q2 => ⟨ht, fun q3 => h0 i0 i1 (by omega), fun q3 => ⟨fun q4 => ?_, fun q4 => h0 i0 i1 (by omega)⟩⟩, fun q2 => h0 i0 i1 (by omega)⟩⟩⟩) (fun q => ⟨_, rfl, ⟨by decide, by decide⟩, fun _ => h10 q, fun z => absurd rfl z⟩))
  refine c_isSet hn ho hC (fun o0 o1 => ⟨_, rfl, ⟨by decide, by decide⟩, fun z => absurd z (by decide), fun _ => c_slotOf hn ⟨_, rfl, ?_⟩⟩) (fun q => ⟨_, rfl, ⟨by decide, by decide⟩, fun _ => h0 i0 i1 (by omega), fun z => absurd rfl z⟩)
  have hrow := hC.2.2.2.1 i ((r + 1) * 4 + t) i0 i1 (by omega) (by omega)
  refine c_holds hn i0 (by omega) (by omega) (by omega) o0 (by omega) hrow.1 hrow.2 ⟨_, rfl, ?_, h i0 i1 ⟨by omega, q2, by omega, q4, o0, o1⟩⟩
  unfold mj_b
  split
  · exact Or.inr rfl
  · exact Or.inl rfl
/-- a leap as it is written -/
def mj_wl (x : Int) : Int := if x = -1 then -1 else 1000 * (x / 13 / 4) + 100 * (x / 13 % 4) + x % 13
theorem c_CF_leap (hn : 21 ≤ nn) {i l : Int} (hi : mj_i i) (hl : mj_i l) (hC : mj_CI (w 4 0 0) w) (h10 : ¬ ((0 ≤ i ∧ i ≤ w 4 0 0) ∧ 0 ≤ l ∧ l < 5) → Post (.inr 10) w)
    (h : 0 ≤ i → i ≤ w 4 0 0 → 0 ≤ l → l < 5 → Post (.inl (some (.inl (if i = w 4 0 0 then -1 else mj_wl (w 9 i l))))) w) :
    mj_J g y_CF_leap (d + 6) 1 6 (0, [some (mj_R 0), some (.inl i), some (.inl l)], [], mj_mem nn xs w) (mj_PT nn xs Post) := by
  have hlen := hC.2.1
  refine v_CF_leap_0 hn (c_isSet hn hi hC (fun i0 i1 => ⟨_, rfl, ⟨by decide, by decide⟩, fun z => absurd z (by decide), fun _ => c_isNonterminal hn hl ⟨_, rfl, ?_⟩⟩) (fun q => ⟨_, rfl, ⟨by decide, by decide⟩, fun _ => h10 (fun z => q z.1), fun z => absurd rfl z⟩))
  unfold mj_isN
  by_cases q : 0 ≤ l ∧ l < 5
  · rw [if_pos q]
    refine ⟨⟨by decide, by decide⟩, fun z => absurd z (by decide), fun _ => ⟨hi, ⟨by omega, by omega⟩, fun q1 => ?_, fun q1 => ?_⟩⟩
    · have := h i0 i1 q.1 q.2
      rwa [if_pos q1] at this
    · have hp := h i0 i1 q.1 q.2
      rw [if_neg q1] at hp
      have hN := hC.names _ i l rfl i0 (by omega) q.1 q.2
      refine v_Ch_writtenLeap_0 hn ⟨i0, by omega, q.1, q.2, ⟨by omega, by omega⟩, fun q2 => ⟨_, rfl, ?_⟩, fun q2 => ⟨by omega, ⟨by omega, by omega⟩, by omega, _, rfl, ?_⟩⟩
      · rwa [mj_wl, if_pos q2] at hp
      · rwa [mj_wl, if_neg q2] at hp
  · rw [if_neg q]
    exact ⟨⟨by decide, by decide⟩, fun _ => h10 (fun z => q z.2), fun z => absurd rfl z⟩
theorem c_CF_back (hn : 21 ≤ nn) {k : Int} (hk : mj_i k) (hC : mj_CI (w 4 0 0) w) (h3 : 0 ≤ w 11 3 0 ∧ w 11 3 0 ≤ 13)
    (h8 : ¬ (0 ≤ k ∧ k ≤ w 4 0 0) → Post (.inr 8) w)
    (h : 0 ≤ k → k ≤ w 4 0 0 → ∀ w', (∀ (p : Nat) (a e : Int), ¬ (p = 4 ∧ a = 0 ∧ e = 0) → ¬ (p = 11 ∧ a = 3 ∧ e = 0) → w' p a e = w p a e) → w' 4 0 0 = w 4 0 0 - k → w' 11 3 0 = mj_min (w 11 3 0) (w 4 0 0 - k + 1) → mj_CI (w 4 0 0 - k) w' → Post (.inl (some (.inl (w 4 0 0 - k)))) w') :
    mj_J g y_CF_back (d + 6) 1 6 (0, [some (mj_R 0), some (.inl k)], [], mj_mem nn xs w) (mj_PT nn xs Post) := by
  have hlen := hC.2.1
  refine v_CF_back_0 hn ⟨hk, fun q => h8 (by omega), fun q => ⟨⟨by omega, by omega⟩, fun q1 => h8 (by omega), fun q1 => ?_⟩⟩
  rintro w5 rfl
  have e4 : mj_wu w 4 0 0 (w 4 0 0 - k) 4 0 0 = w 4 0 0 - k := by unfold mj_wu; simp
  have e11 : mj_wu w 4 0 0 (w 4 0 0 - k) 11 3 0 = w 11 3 0 := mj_wu_n (fun z => by cases z.1)
  rw [e4]
  refine v_Fo_forgetBehind_0 (d := d + 4) hn ⟨by rw [e11]; exact ⟨by omega, by omega⟩, ⟨by omega, by omega⟩, ?_⟩
  rintro w7 rfl
  rw [e11]
  have en : ∀ {p : Nat} {a e : Int}, ¬ (p = 4 ∧ a = 0 ∧ e = 0) → ¬ (p = 11 ∧ a = 3 ∧ e = 0) → mj_wu (mj_wu w 4 0 0 (w 4 0 0 - k)) 11 3 0 (mj_min (w 11 3 0) (w 4 0 0 - k + 1)) p a e = w p a e := fun z1 z2 => (mj_wu_n z2).trans (mj_wu_n z1)
  have e4' : mj_wu (mj_wu w 4 0 0 (w 4 0 0 - k)) 11 3 0 (mj_min (w 11 3 0) (w 4 0 0 - k + 1)) 4 0 0 = w 4 0 0 - k := (mj_wu_n (fun z => by cases z.1)).trans e4
  refine ⟨rfl, ?_⟩
  rw [e4']
  refine h (by omega) (by omega) _ (fun p a e z1 z2 => en z1 z2) e4' (by unfold mj_wu; simp) ((hC.le (m := w 4 0 0 - k) (by omega) (by omega)).congr ⟨en (fun z => by cases z.1) (fun z => by cases z.1), fun a => en (fun z => by cases z.1) (fun z => by cases z.1), fun a => en (fun z => by cases z.1) (fun z => by cases z.1), en (fun z => by cases z.1) (fun z => by cases z.1), fun a b _ => en (fun z => by cases z.1) (fun z => by cases z.1), fun a b _ => en (fun z => by cases z.1) (fun z => by cases z.1)⟩ (fun a _ => en (fun z => by cases z.1) (fun z => by cases z.1)) (fun f _ _ => en (fun z => by cases z.1) (fun z => by cases z.1)))
theorem c_CF_feed (hn : 21 ≤ nn) {t : Int} (ht : mj_i t) (hC : mj_CI (w 4 0 0) w)
    (h8 : ¬ (8 ≤ t ∧ t ≤ 11) → Post (.inr 8) w) (h9 : (8 ≤ t ∧ t ≤ 11) → w 4 0 0 = 12 → Post (.inr 9) w) (h11 : (8 ≤ t ∧ t ≤ 11) → w 4 0 0 < 12 → ¬ mj_ex w (w 4 0 0) (t - 8) → Post (.inr 11) w)
    (h : (8 ≤ t ∧ t ≤ 11) → w 4 0 0 < 12 → mj_ex w (w 4 0 0) (t - 8) → ∀ w', (∀ (p : Nat) (a e : Int), ¬ (p = 4 ∧ a = 0 ∧ e = 0) → ¬ (p = 5 ∧ a = w 4 0 0 ∧ e = 0) → p ≠ 7 → p ≠ 8 → p ≠ 9 → p ≠ 10 → ¬ (p = 6 ∧ (a = 6 ∨ a = 7)) → w' p a e = w p a e) → w' 4 0 0 = w 4 0 0 + 1 → w' 5 (w 4 0 0) 0 = t → mj_CI (w 4 0 0 + 1) w' → Post (.inl (some (.inl (mj_ct w' (w 4 0 0 + 1) : Int)))) w') :
    mj_J g y_CF_feed (d + 6) 1 6 (0, [some (mj_R 0), some (.inl t)], [], mj_mem nn xs w) (mj_PT nn xs Post) := by
  have hlen := hC.2.1
  refine v_CF_feed_0 hn (c_isTerminal hn ht ⟨_, rfl, ?_⟩)
  unfold mj_isT
  by_cases q : 8 ≤ t ∧ t ≤ 11
  · rw [if_pos q]
    refine ⟨⟨by decide, by decide⟩, fun z => absurd z (by decide), fun _ => ⟨⟨by omega, by omega⟩, fun q1 => ?_, fun q1 => h9 q (by omega)⟩⟩
    refine c_tbd (d := d + 4) hn hlen.1 (by omega) hC.1 (fun s s0 s1 => hC.2.2.2.1 _ s hlen.1 (Int.le_refl _) s0 s1) (fun x hx => ⟨_, rfl, v_CF_terminalBit_0 hn ⟨_, rfl, ?_⟩⟩)
    have hx16 := hx.lt (fun k hk => mj_ex_lt hC.1 hk)
    have hb := mj_bit16' hx.1.1 hx16 (k := t - 8) (by omega) (by omega)
    have hxt := hx.2 (t - 8) (by omega)
    refine ⟨hb.2.2.1, fun q2 => h11 q q1 (fun z => ?_), fun q2 => ?_⟩
    · rw [hb.1.mp q2] at hxt
      exact absurd (hxt.mpr z) (by decide)
    · have hex : mj_ex w (w 4 0 0) (t - 8) := by
        refine hxt.mp ?_
        cases e : mj_t x (t - 8) with
        | true => rfl
        | false => exact absurd (hb.1.mpr e) q2
      refine v_Ta_append_0 hn ⟨⟨by omega, by omega⟩, fun _ => ⟨hlen.1, q1, ?_⟩, fun z => absurd q1 z⟩
      rintro w5 rfl w7 rfl
      have e4 : mj_wu w 5 (w 4 0 0) 0 t 4 0 0 = w 4 0 0 := mj_wu_n (fun z => by cases z.1)
      rw [e4]
      have en : ∀ {p : Nat} {a e : Int}, ¬ (p = 4 ∧ a = 0 ∧ e = 0) → ¬ (p = 5 ∧ a = w 4 0 0 ∧ e = 0) → mj_wu (mj_wu w 5 (w 4 0 0) 0 t) 4 0 0 (w 4 0 0 + 1) p a e = w p a e := fun z1 z2 => (mj_wu_n z1).trans (mj_wu_n z2)
      have e44 : mj_wu (mj_wu w 5 (w 4 0 0) 0 t) 4 0 0 (w 4 0 0 + 1) 4 0 0 = w 4 0 0 + 1 := by unfold mj_wu; simp
      have e5 : mj_wu (mj_wu w 5 (w 4 0 0) 0 t) 4 0 0 (w 4 0 0 + 1) 5 (w 4 0 0) 0 = t := (mj_wu_n (fun z => by cases z.1)).trans (by unfold mj_wu; simp)
      refine ⟨rfl, ?_⟩
      rw [e44]
      have hC1 : mj_CI (w 4 0 0) (mj_wu (mj_wu w 5 (w 4 0 0) 0 t) 4 0 0 (w 4 0 0 + 1)) := hC.congr ⟨en (fun z => by cases z.1) (fun z => by cases z.1), fun a => en (fun z => by cases z.1) (fun z => by cases z.1), fun a => en (fun z => by cases z.1) (fun z => by cases z.1), en (fun z => by cases z.1) (fun z => by cases z.1), fun a b _ => en (fun z => by cases z.1) (fun z => by cases z.1), fun a b _ => en (fun z => by cases z.1) (fun z => by cases z.1)⟩ (fun a ha => en (fun z => by cases z.1) (fun z => by have := z.2.1; omega)) (fun f _ _ => en (fun z => by cases z.1) (fun z => by cases z.1))
      refine c_openNext (d := d) hn hC1 q1 q.1 (by omega) e5 (fun w' f' C' => ⟨rfl, ?_⟩)
      have e4' : w' 4 0 0 = w 4 0 0 + 1 := (f' 4 0 0 (fun z => by cases z.1) (fun z => by cases z.1) (fun z => by cases z.1) (by decide) (fun z => by cases z.1)).trans e44
      rw [e4']
      refine ⟨by omega, by omega, ?_⟩
      rw [C'.2.2.2.2.2.1 (w 4 0 0 + 1) (by omega) (Int.le_refl _)]
      refine h q q1 hex w' (fun p a e z1 z2 z7 z8 z9 z10 z6 => (f' p a e (fun z => z7 z.1) (fun z => z8 z.1) (fun z => z9 z.1) z10 z6).trans (en z1 z2)) e4' ?_ C'
      exact (f' 5 _ 0 (fun z => by cases z.1) (fun z => by cases z.1) (fun z => by cases z.1) (by decide) (fun z => by cases z.1)).trans e5
  · rw [if_neg q]
    exact ⟨⟨by decide, by decide⟩, fun _ => h8 q, fun z => absurd rfl z⟩
end C67
