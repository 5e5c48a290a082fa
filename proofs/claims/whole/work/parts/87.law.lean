/-! ===== the law: what holds between two calls ===== -/
theorem mm_w_congr {w w' : mj_w} (e0 : w' 21 0 0 = w 21 0 0) (e2 : w' 21 2 0 = w 21 2 0) (e : ∀ (p : Nat) (a : Int), 22 ≤ p ∧ p ≤ 26 → w' p a 0 = w p a 0) : mm_w w' = mm_w w := by
  have e22 := fun a => e 22 a (by omega)
  have e23 := fun a => e 23 a (by omega)
  have e24 := fun a => e 24 a (by omega)
  have e25 := fun a => e 25 a (by omega)
  have e26 := fun a => e 26 a (by omega)
  have hu : ∀ N, mm_u w' N = mm_u w N := fun N => by
    funext p a b
    unfold mm_u mm_bh mm_len mm_row
    simp only [e0, e2, e22, e23, e24, e25, e26]
  have hT : ∀ k, mm_T w' k = mm_T w k := fun k => by
    induction k with
    | zero => rfl
    | succ k ih =>
      funext f l
      show (if f = (k : Int) then mm_cmp (mm_u w' (mm_T w' k)) f l else mm_T w' k f l) = (if f = (k : Int) then mm_cmp (mm_u w (mm_T w k)) f l else mm_T w k f l)
      rw [ih, hu]
  unfold mm_w
  rw [hu, hT]
def mL_C (n : Int) (w : mj_w) : Prop := mj_CI n w ∧ w 4 0 0 = n ∧ mf_FI w
def mL_M (n : Int) (w : mj_w) : Prop := mm_CI n w ∧ w 21 6 0 = n ∧ (w 21 9 0 = 0 ∨ w 21 9 0 = 1) ∧ (w 21 9 0 ≠ 0 → mq_OK (mm_w w) n w)
def mL (n : Int) (w : mj_w) : Prop := mL_C n w ∧ mL_M n w ∧ mj_same n w (mm_w w)
theorem mL_low {n : Int} {w w' : mj_w} (h : ∀ (p : Nat) (a b : Int), p ≤ 9 → ¬ (p = 6 ∧ (a = 6 ∨ a = 7)) → w' p a b = w p a b) : mj_low n w w' :=
  ⟨h 1 0 0 (by omega) (fun z => by omega), fun a => h 2 a 0 (by omega) (fun z => by omega), fun a => h 3 a 0 (by omega) (fun z => by omega), h 6 1 0 (by omega) (fun z => by omega), fun a b _ => h 7 a b (by omega) (fun z => by omega), fun a b _ => h 9 a b (by omega) (fun z => by omega)⟩
theorem mL_C.congr {n : Int} {w w' : mj_w} (h : mL_C n w) (e : ∀ (p : Nat) (a b : Int), p < 21 → w' p a b = w p a b) : mL_C n w' :=
  ⟨h.1.congr (mL_low (fun p a b hp _ => e p a b (by omega))) (fun a _ => e 5 a 0 (by omega)) (fun f _ _ => e 8 f 0 (by omega)), (e 4 0 0 (by omega)).trans h.2.1, h.2.2.same (fun p a b hp => e p a b (by omega)) (e 11 3 0 (by omega))⟩
theorem mL_M.congr {n : Int} {w w' : mj_w} (h : mL_M n w) (e : ∀ (p : Nat) (a b : Int), 21 ≤ p → p ≤ 32 → ¬ (p = 21 ∧ a = 1) → w' p a b = w p a b) : mL_M n w' := by
  obtain ⟨h1, h2, h3, h4⟩ := h
  have e9 := e 21 9 0 (by omega) (by omega) (fun z => by omega)
  have ew : mm_w w' = mm_w w := mm_w_congr (e 21 0 0 (by omega) (by omega) (fun z => by omega)) (e 21 2 0 (by omega) (by omega) (fun z => by omega)) (fun p a hp => e p a 0 (by omega) (by omega) (fun z => by omega))
  refine ⟨h1.congr (e 21 2 0 (by omega) (by omega) (fun z => by omega)) (e 21 0 0 (by omega) (by omega) (fun z => by omega)) (fun p a b hp => e p a b (by omega) (by omega) (fun z => by omega)) (fun a _ => e 25 a 0 (by omega) (by omega) (fun z => by omega)), (e 21 6 0 (by omega) (by omega) (fun z => by omega)).trans h2, by rw [e9]; exact h3, fun z => ?_⟩
  rw [ew]
  exact (h4 (by rw [← e9]; exact z)).same (fun p a b hp => e p a b (by omega) (by omega) (fun z => by omega))
theorem mL_same {n : Int} {w w' : mj_w} (h : mj_same n w (mm_w w)) (e : ∀ (p : Nat) (a b : Int), (p = 1 ∨ p = 2 ∨ p = 3 ∨ p = 5 ∨ (p = 6 ∧ a = 1)) → w' p a b = w p a b) (e0 : w' 21 0 0 = w 21 0 0) (e2 : w' 21 2 0 = w 21 2 0) (eM : ∀ (p : Nat) (a : Int), 22 ≤ p ∧ p ≤ 26 → w' p a 0 = w p a 0) : mj_same n w' (mm_w w') := by
  rw [mm_w_congr e0 e2 eM]
  obtain ⟨h1, h2, h3, h4, h5⟩ := h
  have e1 := e 1 0 0 (by omega)
  exact ⟨by rw [e1]; exact h1, fun r r0 r1 => by rw [e 2 r 0 (by omega)]; exact h2 r r0 (by rw [← e1]; exact r1), fun s s0 s1 => by rw [e 3 s 0 (by omega)]; exact h3 s s0 s1, fun a a0 a1 => by rw [e 5 a 0 (by omega)]; exact h4 a a0 a1, by rw [e 6 1 0 (by omega)]; exact h5⟩
/-- a call that changes no more than refusal and the law's array -/
theorem mL.rf {n : Int} {w w' : mj_w} (h : mL n w) (e : ∀ (p : Nat) (a b : Int), p ≤ 32 → ¬ (p = 21 ∧ a = 1) → w' p a b = w p a b) : mL n w' :=
  ⟨h.1.congr (fun p a b hp => e p a b (by omega) (fun z => by omega)), h.2.1.congr (fun p a b _ hp hz => e p a b hp hz), mL_same h.2.2 (fun p a b hp => e p a b (by omega) (fun z => by omega)) (e 21 0 0 (by omega) (fun z => by omega)) (e 21 2 0 (by omega) (fun z => by omega)) (fun p a hp => e p a 0 (by omega) (fun z => by omega))⟩
theorem mm_w_3 {w : mj_w} {r k : Int} (r0 : 0 ≤ r) (k0 : 0 ≤ k) (k1 : k < 4) : mm_w w 3 ((r + 1) * 4 + k) 0 = if k < w 23 r 0 then w 24 (3 * r + k) 0 else -1 := by
  show mm_bh w ((r + 1) * 4 + k) = _
  unfold mm_bh mm_len
  rw [show ((r + 1) * 4 + k) % 4 = k by omega, show ((r + 1) * 4 + k) / 4 - 1 = r by omega, if_neg (show ¬ r < 0 by omega), if_neg (show ¬ r < 0 by omega)]
theorem mL_B {n : Int} {w : mj_w} (hM : mm_CI n w) (h6 : w 21 6 0 = n) (ht : ∀ a : Int, 0 ≤ a → a < n → 8 ≤ w 25 a 0 ∧ w 25 a 0 < 12) : mq_B (mm_w w) n w := by
  have hG := hM.1
  refine ⟨hG.GI, hM.2.1, ht, rfl, h6, fun r r0 r1 => ⟨rfl, ?_, fun k k0 k1 => ?_⟩, fun a _ _ => rfl⟩
  · have hr : r < 10 := by have := hG.1; have : r < w 21 2 0 := r1; omega
    have := hG.2.2.1 r r0 hr
    exact ⟨this.1, this.2.1⟩
  · have hr : r < 10 := by have := hG.1; have : r < w 21 2 0 := r1; omega
    rw [mm_w_3 r0 k0 (by omega)]
    exact ⟨fun z => by rw [if_pos z]; exact ⟨rfl, (hG.2.2.2.1 r k r0 hr k0 z).1⟩, fun z => by rw [if_neg z]⟩
theorem mL.t25 {n : Int} {w : mj_w} (h : mL n w) : ∀ a : Int, 0 ≤ a → a < n → 8 ≤ w 25 a 0 ∧ w 25 a 0 < 12 := fun a a0 a1 => by
  have e : w 25 a 0 = w 5 a 0 := h.2.2.2.2.2.1 a a0 a1
  rw [e]
  exact h.1.2.2.1.2.2.2.1 a a0 (by rw [h.1.2.1]; exact a1)
theorem mL.KI {n : Int} {w : mj_w} (h : mL n w) : mq_KI (mm_w w) n w := ⟨mL_B h.2.1.1 h.2.1.2.1 h.t25, h.2.1.2.2.1, h.2.1.2.2.2⟩
theorem mL_sg {n : Int} {u v : mj_w} (h : mj_same n u v) (hG : mj_GI u) : mf_sg u v 0 n :=
  ⟨h.1, fun r r0 r1 => ⟨h.2.1 r r0 r1, fun k k0 k1 => h.2.2.1 _ (by omega) (by have := hG.1; omega)⟩, fun a a0 a1 => h.2.2.2.1 a a0 a1⟩
/-- both tables are the same -/
theorem mL_V {u u' : mj_w} {V V' : Int → Int → Int → Int} {n : Int} (hG : mj_GI u) (hG' : mj_GI u') (hV : mf_RV V) (hV' : mf_RV V') (hsg : mf_sg u u' 0 n) (hT : ∀ a b : Int, 0 ≤ a → a ≤ b → b ≤ n → mf_TB u V a b) (hT' : ∀ a b : Int, 0 ≤ a → a ≤ b → b ≤ n → mf_TB u' V' a b) : ∀ (m : Nat) (s a b : Int), (b - a).toNat = m → 0 ≤ s → s < 5 → 0 ≤ a → a ≤ b → b ≤ n → V' s a b = V s a b := by
  intro m
  induction m using Nat.strongRecOn with
  | ind m ih =>
    intro s a b hm s0 s1 a0 ab b1
    refine ((hT a b a0 ab b1).unique (hT' a b a0 ab b1) hG hG' hV hV' ab ⟨hsg.1, hsg.2.1, fun x x0 x1 => hsg.2.2 x (by omega) (by omega)⟩ (fun s' x y s0' s1' x0 xy y1 hne => ?_) s s0 s1).symm
    exact (ih (y - x).toNat (by omega) s' x y rfl s0' s1' (by omega) xy (by omega)).symm
theorem mL.items {n : Int} {w : mj_w} (h : mL n w) : (∀ f s o : Int, 0 ≤ f → f ≤ n → mj_rg s o → (mj_it w f s o ↔ mj_it (mm_w w) f s o)) ∧ ∀ f l : Int, 0 ≤ f → f < n → 0 ≤ l → l < 5 → mm_w w 9 f l = w 9 f l :=
  mj_unique' h.2.1.1.2.1.1 h.2.2 h.1.1.cs h.2.1.1.cs
theorem mL.ex {n : Int} {w : mj_w} (h : mL n w) {f : Int} (f0 : 0 ≤ f) (f1 : f ≤ n) (k : Int) : mj_ex w f k ↔ mj_ex (mm_w w) f k := by
  have e3 : ∀ s o : Int, mj_rg s o → mm_w w 3 s 0 = w 3 s 0 := fun s o hr => h.2.2.2.2.1 s hr.1 hr.2.1
  constructor
  · rintro ⟨s, o, hr, hi, he⟩
    exact ⟨s, o, hr, (h.items.1 f s o f0 f1 hr).mp hi, by rw [e3 s o hr]; exact he⟩
  · rintro ⟨s, o, hr, hi, he⟩
    exact ⟨s, o, hr, (h.items.1 f s o f0 f1 hr).mpr hi, by rw [← e3 s o hr]; exact he⟩
/-- behind a dot something was -/
theorem mj_CI.dots {n : Int} {w : mj_w} (h : mj_CI n w) (ht : ∀ a : Int, 0 ≤ a → a < n → 8 ≤ w 5 a 0 ∧ w 5 a 0 < 12) : (∀ m : Nat, ∀ o l : Int, o.toNat = m → 0 ≤ o → o < n → 0 ≤ l → l < 5 → w 9 o l ≠ -1 → w 3 (w 9 o l / 13 - 1) 0 ≠ -1) ∧ ∀ f s o : Int, 0 ≤ f → f ≤ n → mj_rg s o → mj_it w f s o → s % 4 = 0 ∨ w 3 (s - 1) 0 ≠ -1 := by
  obtain ⟨b1, b2, b3, b4, b5, b6, b7, b8⟩ := h
  have hnames : ∀ m : Nat, ∀ o l : Int, o.toNat = m → 0 ≤ o → o < n → 0 ≤ l → l < 5 → w 9 o l ≠ -1 → w 3 (w 9 o l / 13 - 1) 0 ≠ -1 := by
    intro m
    induction m using Nat.strongRecOn with
    | ind m ih =>
      intro o l hm o0 o1 l0 l1 hne
      have hok := b7 o l o0 o1 l0 l1
      rcases b3 with z | z
      · exact absurd (hok.1 z) hne
      · have hok2 := hok.2 (by rw [z]; decide)
        apply Classical.byContradiction
        intro hcon
        refine hne (hok2.2 (fun s o' hlone hz => ?_))
        have hx := hok2.1 s o' hlone hz
        unfold mj_nm at hx
        obtain ⟨hr, _, hb, _⟩ := hlone
        unfold mj_rg at hr
        by_cases q : o' < o ∧ mj_ls_ w s ≠ -1 ∧ w 9 o' (mj_ls_ w s) ≠ -1
        · rw [if_pos q] at hx
          rw [hx] at hcon
          have hls : 0 ≤ mj_ls_ w s ∧ mj_ls_ w s < 5 := by
            have hq := q.2.1
            unfold mj_ls_ mj_lo at hq ⊢
            by_cases q2 : 0 ≤ s / 4 - 1 ∧ s / 4 - 1 < w 1 0 0
            · rw [if_pos q2]; exact b1.2.1 _ q2.1 q2.2
            · rw [if_neg q2] at hq; exact absurd rfl hq
          exact hcon (ih o'.toNat (by omega) o' (mj_ls_ w s) rfl (by omega) (by omega) hls.1 hls.2 q.2.2)
        · rw [if_neg q] at hx
          rw [hx, show ((s + 1) * 13 + o') / 13 - 1 = s by omega, hb] at hcon
          omega
  refine ⟨hnames, fun f s o f0 f1 hr hit => ?_⟩
  refine (b8 f f0 f1).2.2 (fun s _ => s % 4 = 0 ∨ w 3 (s - 1) 0 ≠ -1) ⟨fun s o hr ho hT r r0 r1 he => Or.inl (by omega), fun s o hr ho hT hz hls => ⟨fun o1 hne => Or.inr ?_, fun o1 he s' o' hr' ho' hi' h3 => Or.inr ?_, fun e s' o' hr' ho' hT' h3 => Or.inr ?_⟩⟩ ⟨fun _ => Or.inl rfl, fun hf s o hr ho hi h3 => Or.inr ?_⟩ s o hr hit
  · have hls2 : 0 ≤ mj_ls_ w s ∧ mj_ls_ w s < 5 := by
      unfold mj_ls_ mj_lo at hls ⊢
      by_cases q2 : 0 ≤ s / 4 - 1 ∧ s / 4 - 1 < w 1 0 0
      · rw [if_pos q2]; exact b1.2.1 _ q2.1 q2.2
      · rw [if_neg q2] at hls; exact absurd rfl hls
    unfold mj_rg at hr
    exact hnames o.toNat o (mj_ls_ w s) rfl (by omega) (by omega) hls2.1 hls2.2 hne
  · rw [show s' + 1 - 1 = s' by omega, h3]; exact hls
  · rw [show s' + 1 - 1 = s' by omega, h3]; exact hls
  · rw [show s + 1 - 1 = s by omega, h3]
    have := ht (f - 1) (by omega) (by omega)
    omega
