/-! ===== the reference's state, seen as the class's ===== -/
def mm_bits (f : Nat → Bool) : Nat → Nat
  | 0 => 0
  | n + 1 => mm_bits f n + (if f n then 2 ^ n else 0)
theorem mm_bits_lt (f : Nat → Bool) : ∀ n, mm_bits f n < 2 ^ n
  | 0 => Nat.one_pos
  | n + 1 => by
    have h := mm_bits_lt f n
    simp only [mm_bits, Nat.pow_succ]
    split <;> omega
theorem mm_bits_t (f : Nat → Bool) : ∀ n k, (mm_bits f n).testBit k = (decide (k < n) && f k)
  | 0, k => by simp [mm_bits]
  | n + 1, k => by
    have h := mm_bits_t f n k
    have hl := mm_bits_lt f n
    simp only [mm_bits]
    cases e : f n with
    | false =>
      simp only [Bool.false_eq_true, if_false, Nat.add_zero, h]
      by_cases q : k = n
      · subst q; simp [e]
      · have : decide (k < n) = decide (k < n + 1) := by simp; omega
        rw [this]
    | true =>
      simp only [if_true]
      rw [Nat.add_comm]
      by_cases q : k = n
      · subst q
        rw [Nat.testBit_two_pow_add_eq, Nat.testBit_lt_two_pow hl]
        simp [e]
      · by_cases q2 : k < n
        · rw [Nat.testBit_two_pow_add_gt q2, h]
          have : decide (k < n) = decide (k < n + 1) := by simp; omega
          rw [this]
        · have q3 : n + 1 ≤ k := by omega
          have h2 : 2 ^ n + mm_bits f n < 2 ^ k := Nat.lt_of_lt_of_le (by rw [Nat.pow_succ]; omega : 2 ^ n + mm_bits f n < 2 ^ (n + 1)) (Nat.pow_le_pow_right (by decide) q3)
          rw [Nat.testBit_lt_two_pow h2]
          have : decide (k < n + 1) = false := by simp; omega
          rw [this]
          rfl
/-- an item's place in the reference -/
def mm_at (i s o : Int) : Int := 572 * i + 13 * s + o
def mm_row (w : mj_w) (i s : Int) : Int := if 0 ≤ s ∧ s < 44 then ((mm_bits (fun o => decide (w 26 (mm_at i s (o : Int)) 0 ≠ 0)) 13 : Nat) : Int) else 0
theorem mm_row_r (w : mj_w) (i s : Int) : 0 ≤ mm_row w i s ∧ mm_row w i s < 8192 := by
  have := mm_bits_lt (fun o => decide (w 26 (mm_at i s (o : Int)) 0 ≠ 0)) 13
  unfold mm_row
  split <;> omega
theorem mm_row_t (w : mj_w) (i : Int) {s o : Int} (hs : 0 ≤ s ∧ s < 44) (h0 : 0 ≤ o) (h1 : o < 13) : mj_t (mm_row w i s) o = true ↔ w 26 (mm_at i s o) 0 ≠ 0 := by
  unfold mj_t mm_row
  rw [if_pos hs, Int.toNat_natCast, mm_bits_t]
  have e : ((o.toNat : Nat) : Int) = o := by omega
  simp only [e, Bool.and_eq_true, decide_eq_true_eq]
  exact ⟨fun q => q.2, fun q => ⟨by omega, q⟩⟩
def mm_len (w : mj_w) (r : Int) : Int := if r < 0 then 1 else w 23 r 0
def mm_bh (w : mj_w) (s : Int) : Int := if s % 4 < mm_len w (s / 4 - 1) then (if s / 4 - 1 < 0 then 0 else w 24 (3 * (s / 4 - 1) + s % 4) 0) else -1
/-- the reference's state with names N, in the class's cells -/
def mm_u (w : mj_w) (N : Int → Int → Int) : mj_w := fun p a b =>
  if p = 1 then w 21 2 0 else if p = 2 then w 22 a 0 else if p = 3 then mm_bh w a else if p = 5 then w 25 a 0 else if p = 6 then w 21 0 0 else if p = 7 then mm_row w a b else if p = 9 then N a b else 0
noncomputable def mm_pick (P : Int → Int → Prop) : Int × Int := by
  classical
  exact if h : ∃ q : Int × Int, P q.1 q.2 then Classical.choose h else (0, 0)
theorem mm_pick_ok {P : Int → Int → Prop} {s o : Int} (h : P s o) : P (mm_pick P).1 (mm_pick P).2 := by
  unfold mm_pick
  have hx : ∃ q : Int × Int, P q.1 q.2 := ⟨(s, o), h⟩
  rw [dif_pos hx]
  exact Classical.choose_spec hx
def mm_P (u : mj_w) (f l : Int) : Int → Int → Prop := fun s o => mj_lone u f l s o ∧ u 3 (s + 1) 0 = -1
noncomputable def mm_cmp (u : mj_w) (f l : Int) : Int := by
  classical
  exact if u 6 1 0 ≠ 0 ∧ ∃ s o, mm_P u f l s o then mj_nm u f (mm_pick (mm_P u f l)).1 (mm_pick (mm_P u f l)).2 else -1
theorem mm_cmp_ok (u : mj_w) (f l : Int) : mj_nmOK u f l (mm_cmp u f l) := by
  refine ⟨fun h => ?_, fun h => ⟨fun s o h1 h2 => ?_, fun h1 => ?_⟩⟩
  · unfold mm_cmp
    rw [if_neg (fun q => q.1 h)]
  · have hp : mm_P u f l s o := ⟨h1, h2⟩
    unfold mm_cmp
    rw [if_pos ⟨h, s, o, hp⟩]
    have h3 := (mm_pick_ok hp).1
    obtain ⟨e1, e2⟩ := h1.2.2.2 _ _ h3.1 h3.2.1 h3.2.2.1
    rw [e1, e2]
  · unfold mm_cmp
    rw [if_neg]
    rintro ⟨_, s, o, q1, q2⟩
    exact h1 s o q1 q2
theorem mm_cmp_low {u u' : mj_w} {f : Int} (h : mj_low f u u') (l : Int) : mm_cmp u' f l = mm_cmp u f l := by
  have e : mm_P u' f l = mm_P u f l := by
    funext s o
    unfold mm_P
    rw [h.lone (Int.le_refl _), h.2.2.1]
  unfold mm_cmp
  rw [e, h.2.2.2.1, h.nm (Int.le_refl _)]
/-- the names of the sets below n -/
noncomputable def mm_T (w : mj_w) : Nat → Int → Int → Int
  | 0 => fun _ _ => -1
  | n + 1 => fun f l => if f = (n : Int) then mm_cmp (mm_u w (mm_T w n)) f l else mm_T w n f l
noncomputable def mm_w (w : mj_w) : mj_w := mm_u w (mm_T w 13)
theorem mm_T_le (w : mj_w) : ∀ (m n : Nat) (f l : Int), f < (n : Int) → n ≤ m → mm_T w m f l = mm_T w n f l := by
  intro m
  induction m with
  | zero =>
    intro n f l _ hn
    have : n = 0 := by omega
    rw [this]
  | succ m ih =>
    intro n f l hf hn
    by_cases e : n = m + 1
    · rw [e]
    · have hne : f ≠ (m : Int) := by omega
      show (if f = (m : Int) then _ else mm_T w m f l) = _
      rw [if_neg hne]
      exact ih n f l hf (by omega)
theorem mm_u_low (w : mj_w) {N N' : Int → Int → Int} {f : Int} (h : ∀ a b : Int, a < f → N' a b = N a b) : mj_low f (mm_u w N) (mm_u w N') :=
  ⟨rfl, fun _ => rfl, fun _ => rfl, rfl, fun _ _ _ => rfl, fun a b q => h a b q⟩
theorem mm_names (w : mj_w) {f : Int} (h0 : 0 ≤ f) (h1 : f < 13) (l : Int) : mj_nmOK (mm_w w) f l (mm_w w 9 f l) := by
  have e : mm_w w 9 f l = mm_T w (f.toNat + 1) f l := mm_T_le w 13 (f.toNat + 1) f l (by omega) (by omega)
  have hlow : mj_low f (mm_u w (mm_T w f.toNat)) (mm_w w) := mm_u_low w (fun a b q => mm_T_le w 13 f.toNat a b (by omega) (by omega))
  rw [e]
  show mj_nmOK _ f l (if f = (f.toNat : Int) then _ else _)
  rw [if_pos (by omega), ← mm_cmp_low hlow l]
  exact mm_cmp_ok _ f l
/-- the reference's grammar -/
def mm_GI (w : mj_w) : Prop := (0 ≤ w 21 2 0 ∧ w 21 2 0 ≤ 10) ∧ (∀ r : Int, 0 ≤ r → r < 10 → 0 ≤ w 22 r 0 ∧ w 22 r 0 < 5) ∧ (∀ r : Int, 0 ≤ r → r < 10 → 0 ≤ w 23 r 0 ∧ w 23 r 0 ≤ 3 ∧ (w 21 2 0 ≤ r → w 23 r 0 = 0)) ∧ (∀ r k : Int, 0 ≤ r → r < 10 → 0 ≤ k → k < w 23 r 0 → 0 ≤ w 24 (3 * r + k) 0 ∧ w 24 (3 * r + k) 0 < 12 ∧ (w 24 (3 * r + k) 0 < 5 ∨ 8 ≤ w 24 (3 * r + k) 0)) ∧ (w 21 0 0 = 0 ∨ w 21 0 0 = 1) ∧ ∀ a : Int, 0 ≤ a → a < 7436 → w 26 a 0 = 0 ∨ w 26 a 0 = 1
theorem mm_GI.bh {w : mj_w} (h : mm_GI w) {s : Int} (h0 : 0 ≤ s) (h1 : s < 44) : -1 ≤ mm_bh w s ∧ mm_bh w s < 12 ∧ (mm_bh w s < 5 ∨ 8 ≤ mm_bh w s) ∧ (s % 4 = 3 → mm_bh w s = -1) ∧ (4 * (w 21 2 0 + 1) ≤ s → mm_bh w s = -1) := by
  unfold mm_bh mm_len
  by_cases q : s / 4 - 1 < 0
  · rw [if_pos q, if_pos q]
    have := h.1.1
    split <;> omega
  · rw [if_neg q, if_neg q]
    have hl := h.2.2.1 (s / 4 - 1) (by omega) (by omega)
    by_cases q2 : s % 4 < w 23 (s / 4 - 1) 0
    · rw [if_pos q2]
      have hb := h.2.2.2.1 (s / 4 - 1) (s % 4) (by omega) (by omega) (by omega) q2
      refine ⟨by omega, by omega, by omega, fun z => by omega, fun z => ?_⟩
      have := hl.2.2 (by omega)
      omega
    · rw [if_neg q2]
      omega
theorem mm_GI.GI {w : mj_w} (h : mm_GI w) : mj_GI (mm_w w) :=
  ⟨h.1, fun r r0 r1 => h.2.1 r r0 (by have := h.1.2; change r < w 21 2 0 at r1; omega), fun s s0 s1 => ⟨(h.bh s0 s1).1, (h.bh s0 s1).2.1, (h.bh s0 s1).2.2.1, (h.bh s0 s1).2.2.2.1⟩⟩
theorem mm_it (w : mj_w) (i : Int) {s o : Int} (hr : mj_rg s o) : mj_it (mm_w w) i s o ↔ w 26 (mm_at i s o) 0 ≠ 0 := mm_row_t w i ⟨hr.1, hr.2.1⟩ hr.2.2.1 hr.2.2.2
theorem mm_ls {w : mj_w} {s : Int} (h0 : 4 ≤ s) (h1 : s < 4 * (w 21 2 0 + 1)) : mj_ls_ (mm_w w) s = w 22 (s / 4 - 1) 0 := by
  unfold mj_ls_ mj_lo
  rw [if_pos]
  · rfl
  · constructor
    · omega
    · show s / 4 - 1 < w 21 2 0
      omega
theorem mm_ls_goal {w : mj_w} {s : Int} (h1 : s < 4) : mj_ls_ (mm_w w) s = -1 := by
  unfold mj_ls_ mj_lo
  rw [if_neg (fun q => by omega)]
/-- where nothing but items of sets from i on has changed -/
def mm_eq (i : Int) (w w' : mj_w) : Prop := ∀ (p : Nat) (a b : Int), 21 ≤ p → ¬ (p = 26 ∧ 572 * i ≤ a) → ¬ (p = 21 ∧ a ≠ 0 ∧ a ≠ 2) → p ≤ 26 → w' p a b = w p a b
theorem mm_eq.refl (i : Int) (w : mj_w) : mm_eq i w w := fun _ _ _ _ _ _ _ => rfl
theorem mm_eq.trans {i : Int} {w w1 w2 : mj_w} (h : mm_eq i w w1) (h' : mm_eq i w1 w2) : mm_eq i w w2 := fun p a b c1 c2 c3 c4 => (h' p a b c1 c2 c3 c4).trans (h p a b c1 c2 c3 c4)
theorem mm_eq.bh {i : Int} {w w' : mj_w} (h : mm_eq i w w') (s : Int) : mm_bh w' s = mm_bh w s := by
  unfold mm_bh mm_len
  rw [h 23 _ _ (by decide) (fun q => by cases q.1) (fun q => by cases q.1) (by decide), h 24 _ _ (by decide) (fun q => by cases q.1) (fun q => by cases q.1) (by decide)]
theorem mm_bits_congr {f g : Nat → Bool} : ∀ n, (∀ k, k < n → f k = g k) → mm_bits f n = mm_bits g n
  | 0, _ => rfl
  | n + 1, h => by
    simp only [mm_bits]
    rw [mm_bits_congr n (fun k hk => h k (by omega)), h n (by omega)]
theorem mm_eq.row {i : Int} {w w' : mj_w} (h : mm_eq i w w') {f : Int} (hf : f < i) (s : Int) : mm_row w' f s = mm_row w f s := by
  unfold mm_row
  by_cases q : 0 ≤ s ∧ s < 44
  · rw [if_pos q, if_pos q]
    congr 1
    refine mm_bits_congr 13 (fun k hk => ?_)
    have e := h 26 (mm_at f s (k : Int)) 0 (by decide) (fun q => by have := q.2; unfold mm_at at this; omega) (fun q => by cases q.1) (by decide)
    simp only [e]
  · rw [if_neg q, if_neg q]
theorem mm_eq.ulow {i : Int} {w w' : mj_w} (h : mm_eq i w w') {f : Int} (hf : f < i) {N N' : Int → Int → Int} (hN : ∀ a b : Int, a < f → N' a b = N a b) : mj_low f (mm_u w N) (mm_u w' N') :=
  ⟨h 21 2 0 (by decide) (fun q => by cases q.1) (fun q => by have := q.2.2; omega) (by decide), fun a => h 22 a 0 (by decide) (fun q => by cases q.1) (fun q => by cases q.1) (by decide), fun a => h.bh a, h 21 0 0 (by decide) (fun q => by cases q.1) (fun q => by have := q.2.1; omega) (by decide), fun a b q => h.row (by omega) b, fun a b q => hN a b q⟩
theorem mm_eq.T {i : Int} {w w' : mj_w} (h : mm_eq i w w') : ∀ (n : Nat) (f l : Int), f < i → mm_T w' n f l = mm_T w n f l := by
  intro n
  induction n with
  | zero => intro f l _; rfl
  | succ n ih =>
    intro f l hf
    show (if f = (n : Int) then mm_cmp (mm_u w' (mm_T w' n)) f l else mm_T w' n f l) = (if f = (n : Int) then mm_cmp (mm_u w (mm_T w n)) f l else mm_T w n f l)
    rw [ih f l hf, mm_cmp_low (h.ulow hf (fun a b q => ih a b (by omega))) l]
theorem mm_eq.low {i : Int} {w w' : mj_w} (h : mm_eq i w w') {f : Int} (hf : f < i) : mj_low f (mm_w w) (mm_w w') := h.ulow hf (fun a b q => h.T 13 a b (by omega))
/-- outside set i nothing is seen -/
theorem mm_eq.fr {i : Int} {w w' : mj_w} (h : mm_eq i w w') : w' 21 2 0 = w 21 2 0 ∧ (∀ a, w' 22 a 0 = w 22 a 0) ∧ (∀ s, mm_bh w' s = mm_bh w s) ∧ w' 21 0 0 = w 21 0 0 ∧ (∀ a, w' 25 a 0 = w 25 a 0) :=
  ⟨h 21 2 0 (by decide) (fun q => by cases q.1) (fun q => by have := q.2.2; omega) (by decide), fun a => h 22 a 0 (by decide) (fun q => by cases q.1) (fun q => by cases q.1) (by decide), fun a => h.bh a, h 21 0 0 (by decide) (fun q => by cases q.1) (fun q => by have := q.2.1; omega) (by decide), fun a => h 25 a 0 (by decide) (fun q => by cases q.1) (fun q => by cases q.1) (by decide)⟩
theorem mm_eq.ls {i : Int} {w w' : mj_w} (h : mm_eq i w w') (s : Int) : mj_ls_ (mm_w w') s = mj_ls_ (mm_w w) s := by
  unfold mj_ls_ mj_lo
  show (if 0 ≤ s / 4 - 1 ∧ s / 4 - 1 < w' 21 2 0 then w' 22 (s / 4 - 1) 0 else -1) = (if 0 ≤ s / 4 - 1 ∧ s / 4 - 1 < w 21 2 0 then w 22 (s / 4 - 1) 0 else -1)
  rw [h.fr.1, h.fr.2.1]
theorem mm_eq.closed {i : Int} {w w' : mj_w} (h : mm_eq i w w') {T : Int → Int → Prop} (hc : mj_closed i (mm_w w) T) : mj_closed i (mm_w w') T := by
  obtain ⟨e1, e2, e3, e4, e5⟩ := h.fr
  refine ⟨fun s o hr ho ht r r0 r1 r2 => hc.1 s o hr ho ht r r0 ?_ ?_, fun s o hr ho ht q1 q2 => ?_⟩
  · change r < w' 21 2 0 at r1
    show r < w 21 2 0
    rw [← e1]; exact r1
  · change w' 22 r 0 = mm_bh w' s at r2
    show w 22 r 0 = mm_bh w s
    rw [← e2, ← e3]; exact r2
  · rw [h.ls] at q2 ⊢
    have q1' : mm_bh w s = -1 := (e3 s).symm.trans q1
    obtain ⟨c1, c2, c3⟩ := hc.2 s o hr ho ht q1' q2
    have e9 : o < i → mm_w w' 9 o (mj_ls_ (mm_w w) s) = mm_w w 9 o (mj_ls_ (mm_w w) s) := fun x => h.T 13 o _ x
    refine ⟨fun x => ?_, fun x => ?_, fun x s' o' hr' ho' ht' hb' => c3 x s' o' hr' ho' ht' ((e3 s').symm.trans hb')⟩
    · rw [e9 x]; exact c1 x
    · rw [e9 x]
      intro y s' o' hr' ho' hit hb'
      refine c2 x y s' o' hr' ho' ?_ ((e3 s').symm.trans hb')
      rw [(h.low (f := o) x).it (Int.le_refl _)] at hit
      exact hit
theorem mm_eq.symm {i : Int} {w w' : mj_w} (h : mm_eq i w w') : mm_eq i w' w := fun p a b c1 c2 c3 c4 => (h p a b c1 c2 c3 c4).symm
