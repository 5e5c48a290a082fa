/-! ===== rule ===== -/
theorem mj_and_i (x y : Int) : mj_i (mj_and x y) := ⟨Int32.le_toInt _, Int32.toInt_lt _⟩
theorem mj_ush_i (x y : Int) : mj_i (mj_ush x y) := ⟨Int32.le_toInt _, Int32.toInt_lt _⟩
/-- symbol k of a body -/
def mj_sy (b k : Int) : Int := mj_and (mj_ush b (4 * k)) 15
def mj_okS (x : Int) : Prop := (0 ≤ x ∧ x < 5) ∨ (8 ≤ x ∧ x ≤ 11)
def mj_body (n b : Int) : Prop := 0 ≤ n ∧ n ≤ 3 ∧ (∀ k : Int, 0 ≤ k → k < n → mj_okS (mj_sy b k)) ∧ mj_ush b (4 * n) = 0
theorem mj_ush0 {b k : Int} (hb : mj_i b) (k0 : 0 ≤ k) (k1 : k ≤ 12) (h : mj_ush b k = 0) : 0 ≤ b ∧ b < 4096 := by
  by_cases q : 0 ≤ b
  · rw [mj_ush_nat q hb.2 k0 (by omega)] at h
    have h1 : b.toNat >>> k.toNat = 0 := by omega
    rw [Nat.shiftRight_eq_div_pow] at h1
    have h2 : b.toNat < 2 ^ k.toNat := by
      rcases Nat.div_eq_zero_iff.mp h1 with h3 | h3
      · have := Nat.two_pow_pos k.toNat
        omega
      · exact h3
    have h3 : 2 ^ k.toNat ≤ 2 ^ 12 := Nat.pow_le_pow_right (by decide) (by omega)
    omega
  · exfalso
    have h' : (BitVec.ofInt 32 b >>> ((BitVec.ofInt 32 k &&& 31#32) % 32#32)).toInt = 0 := h
    have hk2 : ((BitVec.ofInt 32 k &&& 31#32) % 32#32).toNat = k.toNat := by
      rw [BitVec.toNat_umod, BitVec.toNat_and, mj_bv k0 (by omega)]
      show (k.toNat &&& 31) % 32 = k.toNat
      rw [show (31 : Nat) = 2 ^ 5 - 1 by decide, Nat.and_two_pow_sub_one_eq_mod]
      omega
    have hz : (BitVec.ofInt 32 b >>> ((BitVec.ofInt 32 k &&& 31#32) % 32#32)) = 0#32 := BitVec.eq_of_toInt_eq (by rw [h']; rfl)
    have hz2 : (BitVec.ofInt 32 b >>> ((BitVec.ofInt 32 k &&& 31#32) % 32#32)).toNat = 0 := by rw [hz]; rfl
    rw [BitVec.ushiftRight_eq', BitVec.toNat_ushiftRight, hk2, Nat.shiftRight_eq_div_pow] at hz2
    have hb2 : (BitVec.ofInt 32 b).toNat = (b + 4294967296).toNat := by
      rw [BitVec.toNat_ofInt]
      congr 1
      have := hb.1
      show b % 4294967296 = _
      omega
    have h2 : (BitVec.ofInt 32 b).toNat < 2 ^ k.toNat := by
      rcases Nat.div_eq_zero_iff.mp hz2 with h3 | h3
      · have := Nat.two_pow_pos k.toNat
        omega
      · exact h3
    have h3 : 2 ^ k.toNat ≤ 2 ^ 12 := Nat.pow_le_pow_right (by decide) (by omega)
    have := hb.1
    omega
theorem mj_sh4096 : ∀ a : Fin 64, ∀ b : Fin 64, ∀ k : Fin 3, mj_shr ((64 * a.val + b.val : Nat) : Int) (4 * (k.val : Int)) = mj_ush ((64 * a.val + b.val : Nat) : Int) (4 * (k.val : Int)) := by decide +kernel
theorem mj_shr_ush {b k : Int} (h0 : 0 ≤ b) (h1 : b < 4096) (k0 : 0 ≤ k) (k1 : k < 3) : mj_shr b (4 * k) = mj_ush b (4 * k) := by
  have h := mj_sh4096 ⟨b.toNat / 64, by omega⟩ ⟨b.toNat % 64, by omega⟩ ⟨k.toNat, by omega⟩
  simp only at h
  rw [Nat.div_add_mod, show ((b.toNat : Nat) : Int) = b by omega, show ((k.toNat : Nat) : Int) = k by omega] at h
  exact h
theorem mj_body.rg {n b : Int} (h : mj_body n b) (hb : mj_i b) : 0 ≤ b ∧ b < 4096 := mj_ush0 hb (by have := h.1; omega) (by have := h.2.1; omega) h.2.2.2
/-- the grammar with one rule more -/
def mj_gram (w w' : mj_w) (l n b : Int) : Prop := w' 1 0 0 = w 1 0 0 + 1 ∧ w' 2 (w 1 0 0) 0 = l ∧ (∀ a : Int, a ≠ w 1 0 0 → w' 2 a 0 = w 2 a 0) ∧ (∀ k : Int, 0 ≤ k → k < n → w' 3 (4 * (w 1 0 0 + 1) + k) 0 = mj_sy b k) ∧ ∀ s : Int, (s < 4 * (w 1 0 0 + 1) ∨ 4 * (w 1 0 0 + 1) + n ≤ s) → w' 3 s 0 = w 3 s 0
theorem mj_gram.GI {w w' : mj_w} {l n b : Int} (h : mj_gram w w' l n b) (hG : mj_GI w) (hb : mj_body n b) (hl : 0 ≤ l ∧ l < 5) (hc : w 1 0 0 < 10) : mj_GI w' := by
  obtain ⟨g1, g2, g3, g4, g5⟩ := h
  obtain ⟨a1, a2, a3⟩ := hG
  refine ⟨by omega, fun r r0 r1 => ?_, fun s s0 s1 => ?_⟩
  · by_cases e : r = w 1 0 0
    · rw [e, g2]; exact hl
    · rw [g3 r e]; exact a2 r r0 (by omega)
  · by_cases e : s < 4 * (w 1 0 0 + 1) ∨ 4 * (w 1 0 0 + 1) + n ≤ s
    · rw [g5 s e]; exact a3 s s0 s1
    · have e2 := g4 (s - 4 * (w 1 0 0 + 1)) (by omega) (by omega)
      rw [show 4 * (w 1 0 0 + 1) + (s - 4 * (w 1 0 0 + 1)) = s by omega] at e2
      have h3 := hb.2.2.1 (s - 4 * (w 1 0 0 + 1)) (by omega) (by omega)
      rw [e2]
      have := hb.2.1
      rcases h3 with h3 | h3 <;> refine ⟨by omega, by omega, by omega, fun q => by omega⟩
section C66
variable {g : mj_G} {nn d : Nat} {xs : mj_M} {Post : Option mj_V → mj_w → Prop} {w : mj_w}
theorem c_isBody_loop (hn : 21 ≤ nn) {n b : Int} (n0 : 0 ≤ n) (n3 : n ≤ 3) (h1 : mj_body n b → Post (some (.inl 1)) w) (h0 : ¬ mj_body n b → Post (some (.inl 0)) w) :
    ∀ (m : Nat) (k : Int), 0 ≤ k → k ≤ n → (n - k).toNat = m → (∀ j : Int, 0 ≤ j → j < k → mj_okS (mj_sy b j)) →
    mj_J g y_CF_isBody (d + 1) 0 0 (13, [some (.inl n), some (.inl b), some (.inl k), none], [], mj_mem nn xs w) (mj_P nn xs Post) := by
  intro m
  induction m with
  | zero =>
    intro k k0 k1 hm hk
    have ek : k = n := by omega
    subst ek
    exact v_CF_isBody_13 hn ⟨⟨by omega, by omega⟩, ⟨by omega, by omega⟩, fun q => by omega, fun _ => ⟨mj_ush_i _ _, fun q => h1 ⟨n0, n3, hk, q⟩, fun q => h0 fun z => q z.2.2.2⟩⟩
  | succ m ih =>
    intro k k0 k1 hm hk
    refine v_CF_isBody_13 hn ⟨⟨by omega, by omega⟩, ⟨by omega, by omega⟩, fun q => v_CF_symbolIn_0 hn ⟨_, rfl, ?_⟩, fun q => by omega⟩
    have nxt : mj_okS (mj_sy b k) → mj_J g y_CF_isBody (d + 1) 0 0 (13, [some (.inl n), some (.inl b), some (.inl (k + 1)), none], [], mj_mem nn xs w) (mj_P nn xs Post) := fun z =>
      ih (k + 1) (by omega) (by omega) (by omega) (fun j j0 j1 => by
        by_cases e : j = k
        · subst e; exact z
        · exact hk j j0 (by omega))
    refine c_isNonterminal hn (mj_and_i _ _) ⟨_, rfl, ?_⟩
    unfold mj_isN
    by_cases q1 : 0 ≤ mj_and (mj_ush b (4 * k)) 15 ∧ mj_and (mj_ush b (4 * k)) 15 < 5
    · rw [if_pos q1]
      exact ⟨⟨by decide, by decide⟩, fun z => absurd z (by decide), fun _ => nxt (Or.inl q1)⟩
    · rw [if_neg q1]
      refine ⟨⟨by decide, by decide⟩, fun _ => c_isTerminal hn (mj_and_i _ _) ⟨_, rfl, ?_⟩, fun z => absurd rfl z⟩
      unfold mj_isT
      by_cases q2 : 8 ≤ mj_and (mj_ush b (4 * k)) 15 ∧ mj_and (mj_ush b (4 * k)) 15 ≤ 11
      · rw [if_pos q2]
        exact ⟨⟨by decide, by decide⟩, fun z => absurd z (by decide), fun _ => nxt (Or.inr q2)⟩
      · rw [if_neg q2]
        refine ⟨⟨by decide, by decide⟩, fun _ => h0 fun z => ?_, fun z => absurd rfl z⟩
        rcases z.2.2.1 k k0 q with z | z
        · exact q1 z
        · exact q2 z
theorem c_isBody (hn : 21 ≤ nn) {n b : Int} (hi : mj_i n) (h1 : mj_body n b → Post (some (.inl 1)) w) (h0 : ¬ mj_body n b → Post (some (.inl 0)) w) :
    mj_J g y_CF_isBody (d + 1) 0 0 (0, [some (.inl n), some (.inl b), none, none], [], mj_mem nn xs w) (mj_P nn xs Post) :=
  v_CF_isBody_0 hn ⟨hi, fun q => h0 fun z => by have := z.1; omega, fun q => ⟨fun q1 => h0 fun z => by have := z.2.1; omega, fun q1 => c_isBody_loop hn (by omega) (by omega) h1 h0 _ 0 (Int.le_refl _) (by omega) rfl (fun j a b => by omega)⟩⟩
theorem c_append_loop (hn : 21 ≤ nn) {l n b c : Int} (n0 : 0 ≤ n) (n3 : n ≤ 3) (hc : w 1 0 0 = c) (c0 : 0 ≤ c) (c1 : c < 10)
    (h : ∀ w', (∀ (p : Nat) (a e : Int), p ≠ 1 → p ≠ 2 → p ≠ 3 → w' p a e = w p a e) → w' 1 0 0 = c + 1 → (∀ a, w' 2 a 0 = w 2 a 0) → (∀ k : Int, 0 ≤ k → k < n → w' 3 (4 * (c + 1) + k) 0 = mj_sy b k) → (∀ s : Int, (s < 4 * (c + 1) ∨ 4 * (c + 1) + n ≤ s) → w' 3 s 0 = w 3 s 0) → Post none w') :
    ∀ (m : Nat) (k : Int) (w1 : mj_w), 0 ≤ k → k ≤ n → (n - k).toNat = m → (∀ (p : Nat) (a e : Int), p ≠ 3 → w1 p a e = w p a e) → (∀ j : Int, 0 ≤ j → j < k → w1 3 (4 * (c + 1) + j) 0 = mj_sy b j) → (∀ s : Int, (s < 4 * (c + 1) ∨ 4 * (c + 1) + k ≤ s) → w1 3 s 0 = w 3 s 0) →
    mj_J g y_Gr_append (d + 1) 0 0 (27, [some (mj_R 1), some (.inl l), some (.inl n), some (.inl b), some (.inl k)], [], mj_mem nn xs w1) (mj_P nn xs Post) := by
  intro m
  induction m with
  | zero =>
    intro k w1 k0 k1 hm f1 f2 f3
    have ek : k = n := by omega
    subst ek
    refine v_Gr_append_27 hn ⟨⟨by omega, by omega⟩, ⟨by omega, by omega⟩, fun q => by omega, fun _ => ?_⟩
    rintro w12 rfl
    have e1 : w1 1 0 0 = c := (f1 1 0 0 (by decide)).trans hc
    refine h _ (fun p a e p1 p2 p3 => (mj_wu_n (fun q => p1 q.1)).trans (f1 p a e p3)) ?_ (fun a => (mj_wu_n (fun q => by cases q.1)).trans (f1 2 a 0 (by decide))) (fun j j0 j1 => (mj_wu_n (fun q => by cases q.1)).trans (f2 j j0 j1)) (fun s hs => (mj_wu_n (fun q => by cases q.1)).trans (f3 s hs))
    rw [e1]; unfold mj_wu; simp
  | succ m ih =>
    intro k w1 k0 k1 hm f1 f2 f3
    have e1 : w1 1 0 0 = c := (f1 1 0 0 (by decide)).trans hc
    refine v_Gr_append_27 hn ⟨⟨by omega, by omega⟩, ⟨by omega, by omega⟩, fun q => c_slotOf hn ⟨_, rfl, v_CF_symbolIn_0 hn ⟨_, rfl, by omega, by omega, ?_⟩⟩, fun q => by omega⟩
    rintro w10 rfl
    have ea : (w1 1 0 0 + 1) * 4 + k = 4 * (c + 1) + k := by omega
    rw [ea]
    refine ih (k + 1) _ (by omega) (by omega) (by omega) (fun p a e p3 => (mj_wu_n (fun z => p3 z.1)).trans (f1 p a e p3)) (fun j j0 j1 => ?_) (fun s hs => (mj_wu_n (fun z => by omega)).trans (f3 s (by omega)))
    by_cases e : j = k
    · rw [e]; unfold mj_wu mj_sy; simp
    · exact (mj_wu_n (fun z => by omega)).trans (f2 j j0 (by omega))
theorem c_append (hn : 21 ≤ nn) {l n b : Int} (n0 : 0 ≤ n) (n3 : n ≤ 3) (c0 : 0 ≤ w 1 0 0) (c1 : w 1 0 0 < 10)
    (h : ∀ w', (∀ (p : Nat) (a e : Int), p ≠ 1 → p ≠ 2 → p ≠ 3 → w' p a e = w p a e) → mj_gram w w' l n b → Post none w') :
    mj_J g y_Gr_append (d + 1) 0 0 (0, [some (mj_R 1), some (.inl l), some (.inl n), some (.inl b), none], [], mj_mem nn xs w) (mj_P nn xs Post) := by
  refine v_Gr_append_0 hn ⟨⟨by omega, by omega⟩, fun q => ⟨⟨by omega, by omega⟩, fun q1 => by omega, fun q1 => ⟨c0, c1, ?_⟩⟩, fun q => by omega⟩
  rintro w7 rfl
  have e1 : mj_wu w 2 (w 1 0 0) 0 l 1 0 0 = w 1 0 0 := mj_wu_n (fun q => by cases q.1)
  refine c_append_loop (w := mj_wu w 2 (w 1 0 0) 0 l) (c := w 1 0 0) hn n0 n3 e1 c0 c1 (fun w' f1 f2 f3 f4 f5 => h w' (fun p a e p1 p2 p3 => (f1 p a e p1 p2 p3).trans (mj_wu_n (fun q => p2 q.1))) ⟨f2, ?_, fun a ha => (f3 a).trans (mj_wu_n (fun q => ha q.2.1)), f4, fun s hs => (f5 s hs).trans (mj_wu_n (fun q => by cases q.1))⟩) _ 0 _ (Int.le_refl _) n0 rfl (fun _ _ _ _ => rfl) (fun j a b => by omega) (fun _ _ => rfl)
  rw [f3]; unfold mj_wu; simp
end C66
section C66b
variable {g : mj_G} {nn d : Nat} {xs : mj_M} {Post : Option mj_V ⊕ Nat → mj_w → Prop} {w : mj_w}
theorem c_CF_rule (hn : 21 ≤ nn) {l n b : Int} (hl : mj_i l) (hni : mj_i n) (hC : mj_CI (w 4 0 0) w) (h3 : 0 ≤ w 11 3 0 ∧ w 11 3 0 ≤ 13)
    (h8 : ¬ ((0 ≤ l ∧ l < 5) ∧ mj_body n b) → Post (.inr 8) w)
    (h9 : (0 ≤ l ∧ l < 5) → mj_body n b → (w 1 0 0 = 10 ∨ 0 < w 4 0 0) → Post (.inr 9) w)
    (h : (0 ≤ l ∧ l < 5) → mj_body n b → w 1 0 0 < 10 → w 4 0 0 = 0 → ∀ w', (∀ (p : Nat) (a e : Int), p ≠ 1 → p ≠ 2 → p ≠ 3 → p ≠ 7 → p ≠ 8 → p ≠ 10 → ¬ (p = 6 ∧ (a = 6 ∨ a = 7)) → ¬ (p = 11 ∧ a = 3 ∧ e = 0) → w' p a e = w p a e) → mj_gram w w' l n b → mj_CI 0 w' → w' 11 3 0 = 0 → Post (.inl (some (.inl (w 1 0 0)))) w') :
    mj_J g y_CF_rule (d + 6) 1 6 (0, [some (mj_R 0), some (.inl l), some (.inl n), some (.inl b)], [], mj_mem nn xs w) (mj_PT nn xs Post) := by
  have hcnt := hC.1.1
  have hlen := hC.2.1
  refine v_CF_rule_0 hn (c_isNonterminal hn hl ⟨_, rfl, ?_⟩)
  unfold mj_isN
  by_cases q : 0 ≤ l ∧ l < 5
  · rw [if_pos q]
    refine ⟨⟨by decide, by decide⟩, fun z => absurd z (by decide), fun _ => c_isBody (d := d + 4) hn hni (fun q1 => ⟨_, rfl, ⟨by decide, by decide⟩, fun z => absurd z (by decide), fun _ => ⟨⟨by omega, by omega⟩, fun q2 => ⟨⟨by omega, by omega⟩, fun q3 => h9 q q1 (Or.inr q3), fun q3 => ?_⟩, fun q2 => h9 q q1 (Or.inl (by omega))⟩⟩) (fun q1 => ⟨_, rfl, ⟨by decide, by decide⟩, fun _ => h8 (fun z => q1 z.2), fun z => absurd rfl z⟩)⟩
    refine c_append (d := d + 4) hn q1.1 q1.2.1 hcnt.1 q2 (fun w1 f1 g1 => ⟨rfl, ?_⟩)
    have e6 : w1 6 1 0 = w 6 1 0 := f1 6 1 0 (by decide) (by decide) (by decide)
    refine c_openFirst (d := d) hn (g1.GI hC.1 q1 q q2) (by rw [e6]; exact hC.2.2.1) (fun w2 f2 C2 => ⟨rfl, ?_⟩)
    have f12 : ∀ (p : Nat) (a e : Int), p ≠ 1 → p ≠ 2 → p ≠ 3 → p ≠ 7 → p ≠ 8 → p ≠ 10 → ¬ (p = 6 ∧ (a = 6 ∨ a = 7)) → w2 p a e = w p a e := fun p a e p1 p2 p3 p7 p8 p10 p6 => (f2 p a e (fun z => p7 z.1) (fun z => p8 z.1) p10 p6).trans (f1 p a e p1 p2 p3)
    have e113 : w2 11 3 0 = w 11 3 0 := f12 11 3 0 (by decide) (by decide) (by decide) (by decide) (by decide) (by decide) (fun z => by cases z.1)
    refine v_Fo_forgetBehind_0 (d := d + 4) hn ⟨⟨by omega, by omega⟩, ⟨by decide, by decide⟩, ?_⟩
    rintro w3 rfl
    refine ⟨rfl, ?_⟩
    have en : ∀ {p : Nat} {a e : Int}, ¬ (p = 11 ∧ a = 3 ∧ e = 0) → mj_wu w2 11 3 0 (mj_min (w2 11 3 0) (-1 + 1)) p a e = w2 p a e := fun z => mj_wu_n z
    have gE : ∀ {p : Nat}, p = 1 ∨ p = 2 ∨ p = 3 → ∀ a e, w2 p a e = w1 p a e := fun {p} hp a e => f2 p a e (fun z => by omega) (fun z => by omega) (by omega) (fun z => by omega)
    have e3 : mj_wu w2 11 3 0 (mj_min (w2 11 3 0) (-1 + 1)) 11 3 0 = 0 := by
      have : mj_min (w2 11 3 0) (-1 + 1) = 0 := by rw [e113]; unfold mj_min; split <;> omega
      rw [this]; unfold mj_wu; simp
    have e1 : mj_wu w2 11 3 0 (mj_min (w2 11 3 0) (-1 + 1)) 1 0 0 = w 1 0 0 + 1 := (en (fun z => by cases z.1)).trans ((gE (Or.inl rfl) 0 0).trans g1.1)
    rw [e1, show w 1 0 0 + 1 - 1 = w 1 0 0 by omega]
    refine h q q1 q2 (by omega) _ (fun p a e p1 p2 p3 p7 p8 p10 p6 p11 => (en p11).trans (f12 p a e p1 p2 p3 p7 p8 p10 p6)) ⟨e1, ?_, fun a ha => ?_, fun k k0 k1 => ?_, fun s hs => ?_⟩ ?_ e3
    · exact (en (fun z => by cases z.1)).trans ((gE (Or.inr (Or.inl rfl)) _ _).trans g1.2.1)
    · exact (en (fun z => by cases z.1)).trans ((gE (Or.inr (Or.inl rfl)) _ _).trans (g1.2.2.1 a ha))
    · exact (en (fun z => by cases z.1)).trans ((gE (Or.inr (Or.inr rfl)) _ _).trans (g1.2.2.2.1 k k0 k1))
    · exact (en (fun z => by cases z.1)).trans ((gE (Or.inr (Or.inr rfl)) _ _).trans (g1.2.2.2.2 s hs))
    · have low : mj_low 0 w2 (mj_wu w2 11 3 0 (mj_min (w2 11 3 0) (-1 + 1))) := ⟨en (fun z => by cases z.1), fun a => en (fun z => by cases z.1), fun a => en (fun z => by cases z.1), en (fun z => by cases z.1), fun a b _ => en (fun z => by cases z.1), fun a b _ => en (fun z => by cases z.1)⟩
      obtain ⟨b1, b2, b3, b4, b5, b6, b7, b8⟩ := C2
      refine ⟨low.GI b1, b2, by rw [low.2.2.2.1]; exact b3, fun f s f0 f1 s0 s1 => by rw [low.2.2.2.2.1 f s f1]; exact b4 f s f0 f1 s0 s1, fun f s o f0 f1 hr hit => b5 f s o f0 f1 hr (by rw [← low.it f1]; exact hit), fun f f0 f1 => ?_, fun f l f0 f1 => by omega, fun f f0 f1 => ?_⟩
      · rw [en (fun z => by cases z.1), b6 f f0 f1]
        unfold mj_ct
        simp only [low.2.2.2.2.1 f _ f1]
      · exact (low.le f1).set (en (fun z => by cases z.1)) (b8 f f0 f1)
  · rw [if_neg q]
    exact ⟨⟨by decide, by decide⟩, fun _ => h8 (fun z => q z.1), fun z => absurd rfl z⟩
end C66b
