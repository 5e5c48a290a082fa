/-! ===== the reference's methods but those of the forest ===== -/
/-- nothing but the refusal has changed, and it is c -/
def mm_rf (c : Int) (w w' : mj_w) : Prop := (∀ (p : Nat) (a e : Int), ¬ (p = 21 ∧ a = 1 ∧ e = 0) → w' p a e = w p a e) ∧ w' 21 1 0 = c
theorem mm_rf_wu (w : mj_w) (c : Int) : mm_rf c w (mj_wu w 21 1 0 c) := ⟨fun p a e q => mj_wu_n q, by unfold mj_wu; simp⟩
theorem mm_rf.then {c c' : Int} {w w1 : mj_w} (h : mm_rf c w w1) : mm_rf c' w (mj_wu w1 21 1 0 c') := ⟨fun p a e q => (mj_wu_n q).trans (h.1 p a e q), by unfold mj_wu; simp⟩
theorem mm_GI.congr {w w' : mj_w} (h : mm_GI w) (e2 : w' 21 2 0 = w 21 2 0) (e0 : w' 21 0 0 = w 21 0 0) (e : ∀ (p : Nat) (a : Int), (p = 22 ∨ p = 23 ∨ p = 24 ∨ p = 26) → w' p a 0 = w p a 0) : mm_GI w' := by
  obtain ⟨g1, g2, g3, g4, g5, g6⟩ := h
  have e22 := fun a => e 22 a (by decide)
  have e23 := fun a => e 23 a (by decide)
  have e24 := fun a => e 24 a (by decide)
  have e26 := fun a => e 26 a (by decide)
  unfold mm_GI
  simp only [e2, e0, e22, e23, e24, e26]
  exact ⟨g1, g2, g3, g4, g5, g6⟩
theorem mm_CI.le {n m : Int} {w : mj_w} (h : mm_CI n w) (h0 : 0 ≤ m) (h1 : m ≤ n) : mm_CI m w :=
  ⟨h.1, by have := h.2.1; omega, fun f s o f0 f1 => h.2.2.1 f s o f0 (by omega), fun f f0 f1 => h.2.2.2 f f0 (by omega)⟩
theorem mm_CI.congr {n : Int} {w w' : mj_w} (h : mm_CI n w) (e2 : w' 21 2 0 = w 21 2 0) (e0 : w' 21 0 0 = w 21 0 0) (e : ∀ (p : Nat) (a b : Int), (p = 22 ∨ p = 23 ∨ p = 24 ∨ p = 26) → w' p a b = w p a b) (e5 : ∀ a : Int, a < n → w' 25 a 0 = w 25 a 0) : mm_CI n w' := by
  obtain ⟨b1, b2, b3, b4⟩ := h
  have e23 := fun a b => e 23 a b (by decide)
  have e24 := fun a b => e 24 a b (by decide)
  have e26 := fun a b => e 26 a b (by decide)
  have ebh : ∀ s, mm_bh w' s = mm_bh w s := fun s => by unfold mm_bh mm_len; rw [e23, e24]
  have erow : ∀ f s, mm_row w' f s = mm_row w f s := fun f s => by unfold mm_row; simp only [e26]
  have eu : ∀ (f : Int) (N N' : Int → Int → Int), (∀ a b : Int, a < f → N' a b = N a b) → mj_low f (mm_u w N) (mm_u w' N') := fun f N N' hN => ⟨e2, fun a => e 22 a 0 (by decide), ebh, e0, fun a b _ => erow a b, hN⟩
  have eT : ∀ (m : Nat) (f l : Int), mm_T w' m f l = mm_T w m f l := by
    intro m
    induction m with
    | zero => intro f l; rfl
    | succ m ih =>
      intro f l
      show (if f = (m : Int) then mm_cmp (mm_u w' (mm_T w' m)) f l else mm_T w' m f l) = (if f = (m : Int) then mm_cmp (mm_u w (mm_T w m)) f l else mm_T w m f l)
      rw [ih f l, mm_cmp_low (eu f _ _ (fun a b _ => ih a b)) l]
  have low : ∀ f, mj_low f (mm_w w) (mm_w w') := fun f => eu f _ _ (fun a b _ => eT 13 a b)
  refine ⟨b1.congr e2 e0 (fun p a hp => e p a 0 hp), b2, fun f s o f0 f1 hr hh => ?_, fun f f0 f1 => (low f).set (e5 _ (by omega)) (b4 f f0 f1)⟩
  rw [e2]
  unfold mm_has at hh
  rw [e26] at hh
  exact b3 f s o f0 f1 hr hh
theorem mm_rf.CI {n c : Int} {w w' : mj_w} (h : mm_rf c w w') (hC : mm_CI n w) : mm_CI n w' :=
  hC.congr (h.1 21 2 0 (fun z => by have := z.2.1; omega)) (h.1 21 0 0 (fun z => by have := z.2.1; omega)) (fun p a b hp => h.1 p a b (fun z => by omega)) (fun a _ => h.1 25 a 0 (fun z => by cases z.1))
/-- the reference's grammar with one rule more -/
def mm_gram (w w' : mj_w) (l n b : Int) : Prop := w' 21 2 0 = w 21 2 0 + 1 ∧ w' 22 (w 21 2 0) 0 = l ∧ (∀ a : Int, a ≠ w 21 2 0 → w' 22 a 0 = w 22 a 0) ∧ w' 23 (w 21 2 0) 0 = n ∧ (∀ a : Int, a ≠ w 21 2 0 → w' 23 a 0 = w 23 a 0) ∧ (∀ k : Int, 0 ≤ k → k < n → w' 24 (3 * w 21 2 0 + k) 0 = mj_sy b k) ∧ ∀ s : Int, (s < 3 * w 21 2 0 ∨ 3 * w 21 2 0 + n ≤ s) → w' 24 s 0 = w 24 s 0
theorem mm_gram.GI {w w' : mj_w} {l n b : Int} (h : mm_gram w w' l n b) (hG : mm_GI w) (hb : mj_body n b) (hl : 0 ≤ l ∧ l < 5) (hc : w 21 2 0 < 10) (e0 : w' 21 0 0 = w 21 0 0) (e26 : ∀ a, w' 26 a 0 = w 26 a 0) : mm_GI w' := by
  obtain ⟨g1, g2, g3, g4, g5, g6, g7⟩ := h
  obtain ⟨a1, a2, a3, a4, a5, a6⟩ := hG
  refine ⟨by omega, fun r r0 r1 => ?_, fun r r0 r1 => ?_, fun r k r0 r1 k0 k1 => ?_, by rw [e0]; exact a5, fun a h0 h1 => by rw [e26]; exact a6 a h0 h1⟩
  · by_cases e : r = w 21 2 0
    · rw [e, g2]; exact hl
    · rw [g3 r e]; exact a2 r r0 r1
  · by_cases e : r = w 21 2 0
    · rw [e, g4]; exact ⟨hb.1, hb.2.1, fun z => by omega⟩
    · rw [g5 r e]
      have := a3 r r0 r1
      exact ⟨this.1, this.2.1, fun z => this.2.2 (by omega)⟩
  · by_cases e : r = w 21 2 0
    · subst e
      rw [g4] at k1
      rw [g6 k k0 k1]
      rcases hb.2.2.1 k k0 k1 with z | z <;> omega
    · rw [g5 r e] at k1
      have h3 := a3 r r0 r1
      have h4 := hb.2.1
      rw [g7 (3 * r + k) (by omega)]
      exact a4 r k r0 r1 k0 k1
section C68
variable {g : mj_G} {nn d : Nat} {xs : mj_M} {Post : Option mj_V → mj_w → Prop} {w : mj_w}
theorem c_M_refuse (hn : 33 ≤ nn) {c c' : Int} {w1 : mj_w} (h1 : mm_rf c' w w1) (h : ∀ w', mm_rf c w w' → Post (some (.inl 0)) w') :
    mj_J g y_Mo_refuse d 0 0 (0, [some (mj_R 21), some (.inl c)], [], mj_mem nn xs w1) (mj_P nn xs Post) := by
  refine v_Mo_refuse_0 hn ?_
  rintro w2 rfl
  exact h _ h1.then
theorem c_M_isSet (hn : 33 ≤ nn) {i : Int} (hi : mj_i i) (hl : 0 ≤ w 21 6 0 ∧ w 21 6 0 ≤ 12) (h1 : 0 ≤ i → i ≤ w 21 6 0 → Post (some (.inl 1)) w) (h0 : ¬ (0 ≤ i ∧ i ≤ w 21 6 0) → Post (some (.inl 0)) w) :
    mj_J g y_Mo_isSet d 0 0 (0, [some (mj_R 21), some (.inl i)], [], mj_mem nn xs w) (mj_P nn xs Post) :=
  v_Mo_isSet_0 hn ⟨hi, fun q => h0 (by omega), fun q => ⟨⟨by omega, by omega⟩, fun q1 => h0 (by omega), fun q1 => h1 (by omega) (by omega)⟩⟩
theorem mm_rf.e6 {c : Int} {w' : mj_w} (h : mm_rf c w w') : w' 21 6 0 = w 21 6 0 := h.1 21 6 0 (fun z => by have := z.2.1; omega)
theorem c_M_fed (hn : 33 ≤ nn) (h : ∀ w', mm_rf 0 w w' → Post (some (.inl (w 21 6 0))) w') : mj_J g y_Mo_fed d 0 0 (0, [some (mj_R 21)], [], mj_mem nn xs w) (mj_P nn xs Post) := by
  refine v_Mo_fed_0 hn ?_
  rintro w1 rfl
  have := h _ (mm_rf_wu w 0)
  rwa [← (mm_rf_wu w 0).e6] at this
theorem c_M_accepts (hn : 33 ≤ nn) (hC : mm_CI (w 21 6 0) w) (h : ∀ w', mm_rf 0 w w' → Post (some (.inl (w 26 (mm_at (w 21 6 0) 1 0) 0))) w') : mj_J g y_Mo_accepts (d + 2) 0 0 (0, [some (mj_R 21)], [], mj_mem nn xs w) (mj_P nn xs Post) := by
  have hl := hC.2.1
  refine v_Mo_accepts_0 (d := d + 1) hn ?_
  rintro w1 rfl
  have rf := mm_rf_wu w 0
  have e26 : ∀ a, mj_wu w 21 1 0 0 26 a 0 = w 26 a 0 := fun a => mj_wu_n (fun z => by cases z.1)
  have ha := mm_at_r hl.1 (show w 21 6 0 < 13 by omega) (s := 1) (o := 0) (by unfold mj_rg; decide)
  have hb := hC.1.2.2.2.2.2 _ ha.1 ha.2.1
  refine v_Mo_holds_0 (d := d) hn (v_Mo_place_0 hn ⟨_, rfl, ?_⟩)
  rw [rf.e6, show 572 * w 21 6 0 + 52 * (-1 + 1) + 13 * 1 + 0 = mm_at (w 21 6 0) 1 0 by unfold mm_at; omega, e26]
  exact ⟨ha.1, ha.2.1, hb, _, rfl, hb, h _ rf⟩
theorem c_M_expected (hn : 33 ≤ nn) (hC : mm_CI (w 21 6 0) w) (h : ∀ x w', mm_rf 0 w w' → mj_mk x (mj_ex (mm_w w') (w 21 6 0)) → Post (some (.inl x)) w') : mj_J g y_Mo_expected (d + 3) 0 0 (0, [some (mj_R 21)], [], mj_mem nn xs w) (mj_P nn xs Post) := by
  have hl := hC.2.1
  refine v_Mo_expected_0 (d := d + 2) hn ?_
  rintro w1 rfl
  have rf := mm_rf_wu w 0
  rw [rf.e6]
  exact c_M_expectedIn hn hl.1 (by omega) (rf.CI hC).1 (fun x hx => ⟨_, rfl, h x _ rf hx⟩)
theorem c_M_items (hn : 33 ≤ nn) {i : Int} (hi : mj_i i) (hC : mm_CI (w 21 6 0) w) (h1 : ¬ (0 ≤ i ∧ i ≤ w 21 6 0) → ∀ w', mm_rf 1 w w' → Post (some (.inl 0)) w') (h : 0 ≤ i → i ≤ w 21 6 0 → ∀ w', mm_rf 0 w w' → Post (some (.inl (mm_ct w i : Int))) w') :
    mj_J g y_Mo_items (d + 1) 0 0 (0, [some (mj_R 21), some (.inl i)], [], mj_mem nn xs w) (mj_P nn xs Post) := by
  have hl := hC.2.1
  refine v_Mo_items_0 hn ?_
  rintro w1 rfl
  have rf := mm_rf_wu w 0
  have e6 := rf.e6
  refine c_M_isSet hn hi (by rw [e6]; exact hl) (fun i0 i1 => ⟨_, rfl, ⟨by decide, by decide⟩, fun z => absurd z (by decide), fun _ => ?_⟩) (fun q => ⟨_, rfl, ⟨by decide, by decide⟩, fun _ => c_M_refuse hn rf (fun w' r' => ⟨_, rfl, h1 (by rw [← e6]; exact q) w' r'⟩), fun z => absurd rfl z⟩)
  rw [e6] at i1
  refine c_M_sizeOf hn i0 (by omega) (rf.CI hC).1 ⟨_, rfl, ?_⟩
  have : mm_ct (mj_wu w 21 1 0 0) i = mm_ct w i := by
    unfold mm_ct
    refine mj_cn_congr 572 (fun k _ => ?_)
    rw [mj_wu_n (fun z => by cases z.1)]
  rw [this]
  exact h i0 i1 _ rf
theorem c_M_has (hn : 33 ≤ nn) {i r t o : Int} (hi : mj_i i) (hr : mj_i r) (ht : mj_i t) (ho : mj_i o) (hC : mm_CI (w 21 6 0) w) (h1 : ¬ (0 ≤ i ∧ i ≤ w 21 6 0) → ∀ w', mm_rf 1 w w' → Post (some (.inl 0)) w')
    (h0 : 0 ≤ i → i ≤ w 21 6 0 → ¬ (-1 ≤ r ∧ r < w 21 2 0 ∧ 0 ≤ t ∧ t ≤ mm_len w r ∧ 0 ≤ o ∧ o ≤ w 21 6 0) → ∀ w', mm_rf 0 w w' → Post (some (.inl 0)) w')
    (h : 0 ≤ i → i ≤ w 21 6 0 → (-1 ≤ r ∧ r < w 21 2 0 ∧ 0 ≤ t ∧ t ≤ mm_len w r ∧ 0 ≤ o ∧ o ≤ w 21 6 0) → ∀ w', mm_rf 0 w w' → Post (some (.inl (w 26 (mm_at i ((r + 1) * 4 + t) o) 0))) w') :
    mj_J g y_Mo_has (d + 2) 0 0 (0, [some (mj_R 21), some (.inl i), some (.inl r), some (.inl t), some (.inl o)], [], mj_mem nn xs w) (mj_P nn xs Post) := by
  have hl := hC.2.1
  have hcnt := hC.1.1
  refine v_Mo_has_0 (d := d + 1) hn (c_M_isSet hn hi hl (fun i0 i1 => ⟨_, rfl, ⟨by decide, by decide⟩, fun z => absurd z (by decide), fun _ => ?_⟩) (fun q => ⟨_, rfl, ⟨by decide, by decide⟩, fun _ => ?_, fun z => absurd rfl z⟩))
  · rintro w26 rfl
    have rf := mm_rf_wu w 0
    have e6 := rf.e6
    have e2 : mj_wu w 21 1 0 0 21 2 0 = w 21 2 0 := mj_wu_n (fun z => by have := z.2.1; omega)
    have e26 : ∀ a, mj_wu w 21 1 0 0 26 a 0 = w 26 a 0 := fun a => mj_wu_n (fun z => by cases z.1)
    have el : ∀ r, mm_len (mj_wu w 21 1 0 0) r = mm_len w r := fun r => by unfold mm_len; rw [mj_wu_n (fun z => by cases z.1)]
    refine ⟨by rw [rf.2]; exact ⟨by decide, by decide⟩, fun _ => ⟨hr, fun q1 => h0 i0 i1 (by omega) _ rf, fun q1 => ⟨by rw [e2]; exact ⟨by omega, by omega⟩, fun q2 => ⟨ht, fun q3 => h0 i0 i1 (by omega) _ rf, fun q3 => ?_⟩, fun q2 => h0 i0 i1 (by rw [e2] at q2; omega) _ rf⟩⟩, fun z => absurd rf.2 z⟩
    rw [e2] at q2
    have hlr := mm_len_r hC.1 (r := r) (by omega)
    refine c_M_lengthOf hn (by omega) (by omega) ⟨_, rfl, ?_⟩
    rw [el]
    refine ⟨⟨by omega, by omega⟩, fun q4 => h0 i0 i1 (by omega) _ rf, fun q4 => c_M_isSet hn ho (by rw [e6]; exact hl) (fun o0 o1 => ⟨_, rfl, ⟨by decide, by decide⟩, fun z => absurd z (by decide), fun _ => ?_⟩) (fun q5 => ⟨_, rfl, ⟨by decide, by decide⟩, fun _ => h0 i0 i1 (by rw [e6] at q5; omega) _ rf, fun z => absurd rfl z⟩)⟩
    rw [e6] at o1
    have ha := mm_at_r i0 (show i < 13 by omega) (s := (r + 1) * 4 + t) (o := o) ⟨by omega, by omega, o0, by omega⟩
    have hb := hC.1.2.2.2.2.2 _ ha.1 ha.2.1
    refine v_Mo_holds_0 (d := d) hn (v_Mo_place_0 hn ⟨_, rfl, ?_⟩)
    rw [show 572 * i + 52 * (r + 1) + 13 * t + o = mm_at i ((r + 1) * 4 + t) o by unfold mm_at; omega, e26]
    exact ⟨ha.1, ha.2.1, hb, _, rfl, hb, h i0 i1 ⟨by omega, q2, by omega, by omega, o0, o1⟩ _ rf⟩
  · rintro w5 rfl
    have rf := mm_rf_wu w 1
    exact ⟨by rw [rf.2]; exact ⟨by decide, by decide⟩, fun z => by rw [rf.2] at z; omega, fun _ => h1 q _ rf⟩
theorem c_M_leap (hn : 33 ≤ nn) {i l : Int} (hi : mj_i i) (hl : mj_i l) (hC : mm_CI (w 21 6 0) w) (h1 : ¬ ((0 ≤ i ∧ i ≤ w 21 6 0) ∧ 0 ≤ l ∧ l < 5) → ∀ w', mm_rf 1 w w' → Post (some (.inl 0)) w')
    (h : 0 ≤ i → i ≤ w 21 6 0 → 0 ≤ l → l < 5 → ∀ w', mm_rf 0 w w' → Post (some (.inl (if i = w 21 6 0 then -1 else mj_wl (mm_w w' 9 i l)))) w') :
    mj_J g y_Mo_leap (d + 3) 0 0 (0, [some (mj_R 21), some (.inl i), some (.inl l), none], [], mj_mem nn xs w) (mj_P nn xs Post) := by
  have hlen := hC.2.1
  refine v_Mo_leap_0 (d := d + 2) hn ?_
  rintro w1 rfl
  have rf := mm_rf_wu w 0
  have e6 := rf.e6
  have hC1 := rf.CI hC
  refine c_M_isSet hn hi (by rw [e6]; exact hlen) (fun i0 i1 => ⟨_, rfl, ⟨by decide, by decide⟩, fun z => absurd z (by decide), fun _ => ?_⟩) (fun q => ⟨_, rfl, ⟨by decide, by decide⟩, fun _ => c_M_refuse hn rf (fun w' r' => ⟨_, rfl, h1 (fun z => q (by rw [e6]; exact z.1)) w' r'⟩), fun z => absurd rfl z⟩)
  rw [e6] at i1
  have no : ∀ {x : Int}, x = 0 → ¬ (0 ≤ l ∧ l < 5) → (mj_i x ∧ (x = 0 → mj_J g y_Mo_refuse (d + 2) 0 0 (0, [some (mj_R 21), some (.inl 1)], [], mj_mem nn xs (mj_wu w 21 1 0 0)) (mj_P nn xs (fun v w13 => ∃ x14 : Int, v = some (.inl x14) ∧ Post (some (.inl x14)) w13)))) := fun {x} hx q => ⟨by rw [hx]; exact ⟨by decide, by decide⟩, fun _ => c_M_refuse hn rf (fun w' r' => ⟨_, rfl, h1 (fun z => q z.2) w' r'⟩)⟩
  refine v_Mo_isNonterminal_0 hn ⟨hl, fun q => ⟨_, rfl, (no rfl (by omega)).1, (no rfl (by omega)).2, fun z => absurd rfl z⟩, fun q => ⟨fun q1 => ⟨_, rfl, (no rfl (by omega)).1, (no rfl (by omega)).2, fun z => absurd rfl z⟩, fun q1 => ⟨_, rfl, ⟨by decide, by decide⟩, fun z => absurd z (by decide), fun _ => ?_⟩⟩⟩
  have hp := h i0 i1 (by omega) (by omega) _ rf
  have h0 := hC1.1.2.2.2.2.1
  refine ⟨by rcases h0 with z | z <;> rw [z] <;> exact ⟨by decide, by decide⟩, fun q2 => ?_, fun q2 => ⟨hi, by rw [e6]; exact ⟨by omega, by omega⟩, fun q3 => ?_, fun q3 => ?_⟩⟩
  · have e : mm_w (mj_wu w 21 1 0 0) 9 i l = -1 := (mm_names _ i0 (by omega) l).1 q2
    rw [e, mj_wl, if_pos rfl] at hp
    split at hp <;> exact hp
  · rw [e6] at q3
    rw [if_neg (by omega)] at hp
    have hN := mm_NR (i := i + 1) hC1.1 (by omega) (fun f s o f0 f1 => hC1.2.2.1 f s o f0 (by omega)) _ i l rfl i0 (by omega) (by omega)
    refine c_M_leapOf (d := d) hn hC1.1 (h0.resolve_left q2) i0 (by omega) (fun f s o f0 f1 hr hh => (hC1.2.2.1 f s o f0 (by omega) hr hh).2) (by omega) (by omega) ⟨_, rfl, ⟨by omega, by omega⟩, fun q4 => ?_, fun q4 => ⟨by omega, ⟨by omega, by omega⟩, by omega, ?_⟩⟩
    · rwa [mj_wl, if_pos (by omega)] at hp
    · rw [mj_wl, if_neg (by omega)] at hp
      rw [show mm_w (mj_wu w 21 1 0 0) 9 i l / 52 = mm_w (mj_wu w 21 1 0 0) 9 i l / 13 / 4 by omega, show mm_w (mj_wu w 21 1 0 0) 9 i l % 52 / 13 = mm_w (mj_wu w 21 1 0 0) 9 i l / 13 % 4 by omega]
      exact hp
  · rw [e6] at q3
    rwa [if_pos (by omega)] at hp
theorem c_M_back (hn : 33 ≤ nn) {k : Int} (hk : mj_i k) (hC : mm_CI (w 21 6 0) w) (h1 : ¬ (0 ≤ k ∧ k ≤ w 21 6 0) → ∀ w', mm_rf 1 w w' → Post (some (.inl 0)) w')
    (h : 0 ≤ k → k ≤ w 21 6 0 → ∀ w', (∀ (p : Nat) (a e : Int), ¬ (p = 21 ∧ (a = 1 ∨ a = 6 ∨ a = 9) ∧ e = 0) → w' p a e = w p a e) → w' 21 1 0 = 0 → w' 21 6 0 = w 21 6 0 - k → w' 21 9 0 = 0 → mm_CI (w 21 6 0 - k) w' → Post (some (.inl (w 21 6 0 - k))) w') :
    mj_J g y_Mo_back (d + 1) 0 0 (0, [some (mj_R 21), some (.inl k)], [], mj_mem nn xs w) (mj_P nn xs Post) := by
  have hlen := hC.2.1
  refine v_Mo_back_0 hn ?_
  rintro w1 rfl
  have rf := mm_rf_wu w 0
  have e6 := rf.e6
  refine ⟨hk, fun q => c_M_refuse hn rf (fun w' r' => ⟨_, rfl, h1 (by omega) w' r'⟩), fun q => ⟨by rw [e6]; exact ⟨by omega, by omega⟩, fun q1 => c_M_refuse hn rf (fun w' r' => ⟨_, rfl, h1 (by rw [e6] at q1; omega) w' r'⟩), fun q1 => ?_⟩⟩
  rw [e6] at q1 ⊢
  rintro w11 rfl w13 rfl
  have en : ∀ {p : Nat} {a e : Int}, ¬ (p = 21 ∧ (a = 1 ∨ a = 6 ∨ a = 9) ∧ e = 0) → mj_wu (mj_wu (mj_wu w 21 1 0 0) 21 6 0 (w 21 6 0 - k)) 21 9 0 0 p a e = w p a e := fun {p a e} z => (mj_wu_n (fun y => z ⟨y.1, Or.inr (Or.inr y.2.1), y.2.2⟩)).trans ((mj_wu_n (fun y => z ⟨y.1, Or.inr (Or.inl y.2.1), y.2.2⟩)).trans (mj_wu_n (fun y => z ⟨y.1, Or.inl y.2.1, y.2.2⟩)))
  have e66 : mj_wu (mj_wu (mj_wu w 21 1 0 0) 21 6 0 (w 21 6 0 - k)) 21 9 0 0 21 6 0 = w 21 6 0 - k := by unfold mj_wu; simp
  rw [e66]
  refine h (by omega) (by omega) _ (fun p a e z => en z) (by unfold mj_wu; simp) e66 (by unfold mj_wu; simp) ((hC.le (m := w 21 6 0 - k) (by omega) (by omega)).congr (en (fun z => by omega)) (en (fun z => by omega)) (fun p a b hp => en (fun z => by omega)) (fun a _ => en (fun z => by cases z.1)))
theorem c_M_feed (hn : 33 ≤ nn) {t : Int} (ht : mj_i t) (hC : mm_CI (w 21 6 0) w)
    (h1 : ¬ (8 ≤ t ∧ t ≤ 11) → ∀ w', mm_rf 1 w w' → Post (some (.inl 0)) w') (h2 : (8 ≤ t ∧ t ≤ 11) → w 21 6 0 = 12 → ∀ w', mm_rf 2 w w' → Post (some (.inl 0)) w') (h3 : (8 ≤ t ∧ t ≤ 11) → w 21 6 0 < 12 → ¬ mj_ex (mm_w (mj_wu w 21 1 0 0)) (w 21 6 0) (t - 8) → ∀ w', mm_rf 3 w w' → Post (some (.inl 0)) w')
    (h : (8 ≤ t ∧ t ≤ 11) → w 21 6 0 < 12 → mj_ex (mm_w (mj_wu w 21 1 0 0)) (w 21 6 0) (t - 8) → ∀ w', (∀ (p : Nat) (a e : Int), ¬ (p = 21 ∧ (a = 1 ∨ a = 6 ∨ a = 9) ∧ e = 0) → ¬ (p = 25 ∧ a = w 21 6 0 ∧ e = 0) → p ≠ 26 → w' p a e = w p a e) → w' 21 1 0 = 0 → w' 21 6 0 = w 21 6 0 + 1 → w' 21 9 0 = 0 → w' 25 (w 21 6 0) 0 = t → mm_CI (w 21 6 0 + 1) w' → Post (some (.inl (mm_ct w' (w 21 6 0 + 1) : Int))) w') :
    mj_J g y_Mo_feed (d + 6) 0 0 (0, [some (mj_R 21), some (.inl t)], [], mj_mem nn xs w) (mj_P nn xs Post) := by
  have hlen := hC.2.1
  refine v_Mo_feed_0 (d := d + 5) hn ?_
  rintro w1 rfl
  have rf := mm_rf_wu w 0
  have e6 := rf.e6
  have hC1 := rf.CI hC
  have no : ¬ (8 ≤ t ∧ t ≤ 11) → mj_J g y_Mo_refuse (d + 5) 0 0 (0, [some (mj_R 21), some (.inl 1)], [], mj_mem nn xs (mj_wu w 21 1 0 0)) (mj_P nn xs (fun v w13 => ∃ x14 : Int, v = some (.inl x14) ∧ Post (some (.inl x14)) w13)) := fun q => c_M_refuse hn rf (fun w' r' => ⟨_, rfl, h1 q w' r'⟩)
  refine v_Mo_isTerminal_0 hn ⟨ht, fun q => ⟨_, rfl, ⟨by decide, by decide⟩, fun _ => no (by omega), fun z => absurd rfl z⟩, fun q => ⟨fun q1 => ⟨_, rfl, ⟨by decide, by decide⟩, fun _ => no (by omega), fun z => absurd rfl z⟩, fun q1 => ⟨_, rfl, ⟨by decide, by decide⟩, fun z => absurd z (by decide), fun _ => ?_⟩⟩⟩
  have qt : 8 ≤ t ∧ t ≤ 11 := by omega
  rw [e6]
  refine ⟨⟨by omega, by omega⟩, fun q2 => c_M_refuse hn rf (fun w' r' => ⟨_, rfl, h2 qt q2 w' r'⟩), fun q2 => ?_⟩
  refine c_M_expectedIn (d := d + 3) hn hlen.1 (by omega) hC1.1 (fun x hx => ⟨_, rfl, ?_⟩)
  have hx16 := hx.lt (fun k hk => mj_ex_lt hC1.1.GI hk)
  have hb := mj_bit16' hx.1.1 hx16 (k := t - 8) (by omega) (by omega)
  have hxt := hx.2 (t - 8) (by omega)
  refine ⟨hb.2.2.2, fun q3 => c_M_refuse hn rf (fun w' r' => ⟨_, rfl, h3 qt (by omega) (fun z => ?_) w' r'⟩), fun q3 => ?_⟩
  · rw [hb.2.1.mp q3] at hxt
    exact absurd (hxt.mpr z) (by decide)
  · have hex : mj_ex (mm_w (mj_wu w 21 1 0 0)) (w 21 6 0) (t - 8) := by
      refine hxt.mp ?_
      cases e : mj_t x (t - 8) with
      | true => rfl
      | false => exact absurd (hb.2.1.mpr e) q3
    rw [e6]
    refine ⟨hlen.1, by omega, ?_⟩
    rintro w21 rfl w23 rfl
    have e66 : mj_wu (mj_wu w 21 1 0 0) 25 (w 21 6 0) 0 t 21 6 0 = w 21 6 0 := (mj_wu_n (fun z => by cases z.1)).trans e6
    rw [e66]
    have en : ∀ {p : Nat} {a e : Int}, ¬ (p = 21 ∧ (a = 1 ∨ a = 6) ∧ e = 0) → ¬ (p = 25 ∧ a = w 21 6 0 ∧ e = 0) → mj_wu (mj_wu (mj_wu w 21 1 0 0) 25 (w 21 6 0) 0 t) 21 6 0 (w 21 6 0 + 1) p a e = w p a e := fun {p a e} z z2 => (mj_wu_n (fun y => z ⟨y.1, Or.inr y.2.1, y.2.2⟩)).trans ((mj_wu_n z2).trans (mj_wu_n (fun y => z ⟨y.1, Or.inl y.2.1, y.2.2⟩)))
    have e6' : mj_wu (mj_wu (mj_wu w 21 1 0 0) 25 (w 21 6 0) 0 t) 21 6 0 (w 21 6 0 + 1) 21 6 0 = w 21 6 0 + 1 := by unfold mj_wu; simp
    have e1' : mj_wu (mj_wu (mj_wu w 21 1 0 0) 25 (w 21 6 0) 0 t) 21 6 0 (w 21 6 0 + 1) 21 1 0 = 0 := by unfold mj_wu; simp
    have e25' : mj_wu (mj_wu (mj_wu w 21 1 0 0) 25 (w 21 6 0) 0 t) 21 6 0 (w 21 6 0 + 1) 25 (w 21 6 0) 0 = t := by unfold mj_wu; simp
    rw [e6']
    have hC2 : mm_CI (w 21 6 0) (mj_wu (mj_wu (mj_wu w 21 1 0 0) 25 (w 21 6 0) 0 t) 21 6 0 (w 21 6 0 + 1)) := hC.congr (en (fun z => by omega) (fun z => by cases z.1)) (en (fun z => by omega) (fun z => by cases z.1)) (fun p a b hp => en (fun z => by omega) (fun z => by omega)) (fun a ha => en (fun z => by cases z.1) (fun z => by have := z.2.1; omega))
    refine c_M_makeSet (d := d) hn (by omega) (by omega) hC2.1 (fun _ => by rw [show w 21 6 0 + 1 - 1 = w 21 6 0 by omega]; exact hC2) (fun _ => by rw [show w 21 6 0 + 1 - 1 = w 21 6 0 by omega, e25']; omega) (fun w' f' z9 C' => ⟨rfl, ?_⟩)
    have f6 : w' 21 6 0 = w 21 6 0 + 1 := (f' 21 6 0 (fun z => by cases z.1) (fun z => by have := z.2.1; omega)).trans e6'
    rw [f6]
    refine c_M_sizeOf hn (by omega) (by omega) C'.1 ⟨_, rfl, h qt (by omega) hex w' (fun p a e z1 z2 z3 => (f' p a e (fun y => z3 y.1) (fun y => z1 ⟨y.1, Or.inr (Or.inr y.2.1), y.2.2⟩)).trans (en (fun y => z1 ⟨y.1, by omega, y.2.2⟩) z2)) ?_ f6 z9 ?_ C'⟩
    · exact (f' 21 1 0 (fun z => by cases z.1) (fun z => by have := z.2.1; omega)).trans e1'
    · exact (f' 25 _ 0 (fun z => by cases z.1) (fun z => by cases z.1)).trans e25'
end C68
