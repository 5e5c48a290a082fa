/-! ===== the reference: close, makeSet ===== -/
/-- the reference's sets with n terminals fed -/
def mm_CI (n : Int) (w : mj_w) : Prop := mm_GI w ∧ (0 ≤ n ∧ n ≤ 12) ∧ (∀ f s o : Int, 0 ≤ f → f ≤ n → mj_rg s o → mm_has w f s o → o ≤ f ∧ s < 4 * (w 21 2 0 + 1)) ∧ ∀ f : Int, 0 ≤ f → f ≤ n → mj_set f (mm_w w)
theorem mm_ct_le (w : mj_w) (i : Int) : mm_ct w i ≤ 572 := mj_cn_le _ 572
theorem mm_gr.it {i n : Int} {w w' : mj_w} (h : mm_gr i n w w') {s o : Int} (q : mm_has w i s o) : mm_has w' i s o := h.2.1 _ q
section C63
variable {g : mj_G} {nn d : Nat} {xs : mj_M} {Post : Option mj_V → mj_w → Prop} {w : mj_w}
theorem c_M_close_inner (hn : 33 ≤ nn) {i : Int} (hk0 : mm_ok i w)
    (h0 : mj_closed i (mm_w w) (mj_it (mm_w w) i) → mj_J g y_Mo_close (d + 4) 0 0 (2, [some (mj_R 21), some (.inl i), some (.inl 0), none, none], [], mj_mem nn xs w) (mj_P nn xs Post))
    (h1 : ∀ n w', 0 < n → mm_gr i n w w' → mm_sub i w w' → mj_J g y_Mo_close (d + 4) 0 0 (2, [some (mj_R 21), some (.inl i), some (.inl 1), none, none], [], mj_mem nn xs w') (mj_P nn xs Post)) :
    ∀ (m k : Nat) (n : Int) (w1 : mj_w), k + m = 572 → mm_gr i n w w1 → mm_sub i w w1 → (n = 0 → ∀ j : Nat, j < k → w 26 (572 * i + (j : Int)) 0 ≠ 0 → mj_done i (mm_w w) (mj_it (mm_w w) i) ((j : Int) / 13) ((j : Int) % 13)) →
    mj_J g y_Mo_close (d + 4) 0 0 (10, [some (mj_R 21), some (.inl i), some (.inl (if n = 0 then 0 else 1)), some (.inl (k : Int)), none], [], mj_mem nn xs w1) (mj_P nn xs Post) := by
  intro m
  induction m with
  | zero =>
    intro k n w1 hk hg hs hd
    have ek : k = 572 := by omega
    subst ek
    refine v_Mo_close_10 (d := d + 3) hn ⟨⟨by omega, by omega⟩, fun q => absurd q (by decide), fun _ => ?_⟩
    by_cases e : n = 0
    · rw [if_pos e, hg.2.2.2.2.2 e]
      refine h0 (mj_closed_of fun s o hr ho hit => ?_)
      obtain ⟨r1, r2, r3, r4⟩ := hr
      have e1 : (((s * 13 + o).toNat : Nat) : Int) / 13 = s := by omega
      have e2 : (((s * 13 + o).toNat : Nat) : Int) % 13 = o := by omega
      have hh := (mm_it w i ⟨r1, r2, r3, r4⟩).mp hit
      have := hd e (s * 13 + o).toNat (by omega) (by unfold mm_at at hh; rw [show 572 * i + (((s * 13 + o).toNat : Nat) : Int) = 572 * i + 13 * s + o by omega]; exact hh)
      rw [e1, e2] at this
      exact this
    · rw [if_neg e]
      exact h1 n w1 (by have := hg.2.2.2.2.1; omega) hg hs
  | succ m ih =>
    intro k n w1 hk hg hs hd
    have hi := hk0.2.1
    have hok1 := hk0.step hg hs
    have hG1 := hok1.1
    have hs0 : (0 : Int) ≤ (k : Int) / 13 := by omega
    have hs1 : (k : Int) / 13 < 44 := by omega
    have hbool := hG1.2.2.2.2.2 (572 * i + (k : Int)) (by omega) (by omega)
    have hrk : mj_rg ((k : Int) / 13) ((k : Int) % 13) := ⟨hs0, hs1, by omega, by omega⟩
    have eat : mm_at i ((k : Int) / 13) ((k : Int) % 13) = 572 * i + (k : Int) := by unfold mm_at; omega
    have ek1 : (((k + 1 : Nat) : Int)) = (k : Int) + 1 := by omega
    refine v_Mo_close_10 (d := d + 3) hn ⟨⟨by omega, by omega⟩, fun q => ⟨by omega, by omega, ⟨by omega, by omega⟩, fun q1 => ?_, fun q1 => ⟨by omega, ⟨by omega, by omega⟩, by omega, ?_⟩⟩, fun q => by omega⟩
    · have := ih (k + 1) n w1 (by omega) hg hs (fun z j hj hh => by
        by_cases e : j = k
        · subst e
          rw [hg.2.2.2.2.2 z] at q1
          exact absurd q1 hh
        · exact hd z j (by omega) hh)
      rw [ek1] at this
      exact this
    · refine c_M_follow (d := d) hn hok1 hrk (by unfold mm_has; rw [eat]; exact q1) (by omega) (by omega) (fun n' w2 g2 s2 d2 => ⟨_, rfl, ?_⟩)
      have hgn : 0 ≤ n := hg.2.2.2.2.1
      have hgn' : 0 ≤ n' := g2.2.2.2.2.1
      have hle := mm_ct_le w2 i
      have hle1 := g2.2.2.2.1
      have nxt := ih (k + 1) (n + n') w2 (by omega) (hg.trans g2) (hs.trans hg.eq s2) (fun z j hj hh => by
        by_cases e : j = k
        · subst e
          have := d2 (by omega)
          rw [hg.2.2.2.2.2 (by omega)] at this
          exact this
        · exact hd (by omega) j (by omega) hh)
      rw [ek1] at nxt
      by_cases e : n = 0
      · rw [if_pos e]
        refine ⟨⟨by decide, by decide⟩, fun _ => ⟨⟨by omega, by omega⟩, fun z => ?_, fun z => ?_⟩, fun z => absurd rfl z⟩
        · rw [if_neg (by omega)] at nxt; exact nxt
        · rw [if_pos (by omega)] at nxt; exact nxt
      · rw [if_neg e]
        refine ⟨⟨by decide, by decide⟩, fun z => absurd z (by decide), fun _ => ?_⟩
        rw [if_neg (by omega)] at nxt; exact nxt
theorem c_M_close_loop (hn : 33 ≤ nn) {i : Int} :
    ∀ (m : Nat) (w : mj_w), 572 - mm_ct w i = m → mm_ok i w → (∀ n w', mm_gr i n w w' → mm_sub i w w' → mj_closed i (mm_w w') (mj_it (mm_w w') i) → Post none w') →
    mj_J g y_Mo_close (d + 4) 0 0 (2, [some (mj_R 21), some (.inl i), some (.inl 1), none, none], [], mj_mem nn xs w) (mj_P nn xs Post) := by
  intro m
  induction m using Nat.strongRecOn with
  | ind m ih =>
    intro w hm hk0 h
    refine v_Mo_close_2 (d := d + 3) hn ⟨⟨by decide, by decide⟩, fun q => absurd q (by decide), fun _ => ?_⟩
    refine c_M_close_inner hn hk0 (fun hc => ?_) (fun n w' n0 g1 s1 => ?_) 572 0 0 w rfl (mm_gr.refl i hk0.1) (mm_sub.refl i w) (fun _ j hj => by omega)
    · exact v_Mo_close_2 (d := d + 3) hn ⟨⟨by decide, by decide⟩, fun _ => h 0 w (mm_gr.refl i hk0.1) (mm_sub.refl i w) hc, fun q => absurd rfl q⟩
    · have hle := mm_ct_le w' i
      have hle1 := g1.2.2.2.1
      exact ih (572 - mm_ct w' i) (by omega) w' rfl (hk0.step g1 s1) (fun n2 w2 g2 s2 c2 => h (n + n2) w2 (g1.trans g2) (s1.trans g1.eq s2) c2)
theorem c_M_close (hn : 33 ≤ nn) {i : Int} (hk0 : mm_ok i w) (h : ∀ n w', mm_gr i n w w' → mm_sub i w w' → mj_closed i (mm_w w') (mj_it (mm_w w') i) → Post none w') :
    mj_J g y_Mo_close (d + 4) 0 0 (0, [some (mj_R 21), some (.inl i), none, none, none], [], mj_mem nn xs w) (mj_P nn xs Post) :=
  v_Mo_close_0 (d := d + 3) hn (c_M_close_loop hn _ w rfl hk0 h)
/-- outside set i's items and the mark that all is worked out, nothing changes -/
def mm_fr (i : Int) (w w' : mj_w) : Prop := ∀ (p : Nat) (a b : Int), ¬ (p = 26 ∧ 572 * i ≤ a ∧ a < 572 * i + 572 ∧ b = 0) → ¬ (p = 21 ∧ a = 9 ∧ b = 0) → w' p a b = w p a b
theorem mm_fr.eq {i : Int} {w w' : mj_w} (h : mm_fr i w w') : mm_eq i w w' := fun p a b _ q q2 _ => h p a b (fun z => q ⟨z.1, z.2.1⟩) (fun z => q2 ⟨z.1, by omega, by omega⟩)
theorem mm_fr.trans {i : Int} {w w1 w2 : mj_w} (h : mm_fr i w w1) (h' : mm_fr i w1 w2) : mm_fr i w w2 := fun p a b c1 c2 => (h' p a b c1 c2).trans (h p a b c1 c2)
theorem mm_gr.fr {i n : Int} {w w' : mj_w} (h : mm_gr i n w w') : mm_fr i w w' := fun p a b c1 _ => h.1 p a b c1
theorem mm_fr.GI {i : Int} {w w' : mj_w} (h : mm_fr i w w') (hb : ∀ a : Int, 0 ≤ a → a < 7436 → w' 26 a 0 = 0 ∨ w' 26 a 0 = 1) (hG : mm_GI w) : mm_GI w' := by
  obtain ⟨g1, g2, g3, g4, g5, g6⟩ := hG
  have e2 : w' 21 2 0 = w 21 2 0 := h 21 2 0 (fun q => by cases q.1) (fun q => by have := q.2.1; omega)
  have e0 : w' 21 0 0 = w 21 0 0 := h 21 0 0 (fun q => by cases q.1) (fun q => by have := q.2.1; omega)
  have e22 : ∀ a, w' 22 a 0 = w 22 a 0 := fun a => h 22 a 0 (fun q => by cases q.1) (fun q => by cases q.1)
  have e23 : ∀ a, w' 23 a 0 = w 23 a 0 := fun a => h 23 a 0 (fun q => by cases q.1) (fun q => by cases q.1)
  have e24 : ∀ a, w' 24 a 0 = w 24 a 0 := fun a => h 24 a 0 (fun q => by cases q.1) (fun q => by cases q.1)
  unfold mm_GI
  simp only [e2, e0, e22, e23, e24]
  exact ⟨g1, g2, g3, g4, g5, hb⟩
theorem c_M_clear (hn : 33 ≤ nn) {i : Int} (hi0 : 0 ≤ i) (hi1 : i < 13)
    (h : ∀ w', (∀ (p : Nat) (a b : Int), ¬ (p = 26 ∧ 572 * i ≤ a ∧ a < 572 * i + 572 ∧ b = 0) → w' p a b = w p a b) → (∀ a : Int, 572 * i ≤ a → a < 572 * i + 572 → w' 26 a 0 = 0) → mj_J g y_Mo_makeSet (d + 5) 0 0 (7, [some (mj_R 21), some (.inl i), some (.inl 572), none], [], mj_mem nn xs w') (mj_P nn xs Post)) :
    ∀ (m : Nat) (k : Int) (w1 : mj_w), 0 ≤ k → k ≤ 572 → (572 - k).toNat = m → (∀ (p : Nat) (a b : Int), ¬ (p = 26 ∧ 572 * i ≤ a ∧ a < 572 * i + 572 ∧ b = 0) → w1 p a b = w p a b) → (∀ a : Int, 572 * i ≤ a → a < 572 * i + k → w1 26 a 0 = 0) →
    mj_J g y_Mo_makeSet (d + 5) 0 0 (7, [some (mj_R 21), some (.inl i), some (.inl k), none], [], mj_mem nn xs w1) (mj_P nn xs Post) := by
  intro m
  induction m with
  | zero =>
    intro k w1 k0 k1 hm hf hz
    have ek : k = 572 := by omega
    subst ek
    exact h w1 hf hz
  | succ m ih =>
    intro k w1 k0 k1 hm hf hz
    refine v_Mo_makeSet_7 (d := d + 4) hn ⟨⟨by omega, by omega⟩, fun q => ⟨by omega, by omega, ?_⟩, fun q => by omega⟩
    rintro w5 rfl
    refine ih (k + 1) _ (by omega) (by omega) (by omega) (fun p a b q => ?_) (fun a a0 a1 => ?_)
    · rw [mj_wu_n (fun z => q ⟨z.1, by omega, by omega, z.2.2⟩)]
      exact hf p a b q
    · by_cases e : a = 572 * i + k
      · rw [e]; unfold mj_wu; simp
      · rw [mj_wu_n (fun z => e z.2.1)]
        exact hz a a0 (by omega)
theorem c_M_seed (hn : 33 ≤ nn) {i : Int} (hi0 : 0 < i) (hi1 : i < 13) (hG : mm_GI w) (ht : 8 ≤ w 25 (i - 1) 0 ∧ w 25 (i - 1) 0 < 12)
    (h : ∀ w', (∀ (p : Nat) (a b : Int), ¬ (p = 26 ∧ 572 * i ≤ a ∧ a < 572 * i + 572 ∧ b = 0) → w' p a b = w p a b) → mm_GI w' → (∀ s o : Int, mj_rg s o → mm_has w' i s o → mm_has w i s o ∨ ∃ s0 : Int, s = s0 + 1 ∧ mj_rg s0 o ∧ mm_has w (i - 1) s0 o ∧ mm_bh w s0 = w 25 (i - 1) 0) → (∀ s o : Int, mj_rg s o → mm_has w (i - 1) s o → mm_bh w s = w 25 (i - 1) 0 → mm_has w' i (s + 1) o) →
      mj_J g y_Mo_close (d + 4) 0 0 (0, [some (mj_R 21), some (.inl i), none, none, none], [], mj_mem nn xs w') (mj_P nn xs (fun v w28 => v = none ∧ Post none w28))) :
    ∀ (m k : Nat) (w1 : mj_w), k + m = 572 → (∀ (p : Nat) (a b : Int), ¬ (p = 26 ∧ 572 * i ≤ a ∧ a < 572 * i + 572 ∧ b = 0) → w1 p a b = w p a b) → mm_GI w1 → (∀ s o : Int, mj_rg s o → mm_has w1 i s o → mm_has w i s o ∨ ∃ s0 : Int, s = s0 + 1 ∧ mj_rg s0 o ∧ mm_has w (i - 1) s0 o ∧ mm_bh w s0 = w 25 (i - 1) 0) → (∀ j : Nat, j < k → w 26 (572 * (i - 1) + (j : Int)) 0 ≠ 0 → mm_bh w ((j : Int) / 13) = w 25 (i - 1) 0 → mm_has w1 i ((j : Int) / 13 + 1) ((j : Int) % 13)) →
    mj_J g y_Mo_makeSet (d + 5) 0 0 (46, [some (mj_R 21), some (.inl i), some (.inl (k : Int)), none], [], mj_mem nn xs w1) (mj_P nn xs Post) := by
  intro m
  induction m with
  | zero =>
    intro k w1 hk hf hG1 hx hd
    have ek : k = 572 := by omega
    subst ek
    refine v_Mo_makeSet_46 (d := d + 4) hn ⟨⟨by omega, by omega⟩, fun q => absurd q (by decide), fun _ => h w1 hf hG1 hx (fun s o hr hh hb => ?_)⟩
    obtain ⟨r1, r2, r3, r4⟩ := hr
    have e1 : (((s * 13 + o).toNat : Nat) : Int) / 13 = s := by omega
    have e2 : (((s * 13 + o).toNat : Nat) : Int) % 13 = o := by omega
    have := hd (s * 13 + o).toNat (by omega) (by unfold mm_has mm_at at hh; rw [show 572 * (i - 1) + (((s * 13 + o).toNat : Nat) : Int) = 572 * (i - 1) + 13 * s + o by omega]; exact hh) (by rw [e1]; exact hb)
    rw [e1, e2] at this
    exact this
  | succ m ih =>
    intro k w1 hk hf hG1 hx hd
    have hs0 : (0 : Int) ≤ (k : Int) / 13 := by omega
    have hs1 : (k : Int) / 13 < 44 := by omega
    have e26 : w1 26 (572 * (i - 1) + (k : Int)) 0 = w 26 (572 * (i - 1) + (k : Int)) 0 := hf _ _ _ (fun z => by have := z.2.1; omega)
    have e25 : w1 25 (i - 1) 0 = w 25 (i - 1) 0 := hf _ _ _ (fun z => by cases z.1)
    have hbool := hG.2.2.2.2.2 (572 * (i - 1) + (k : Int)) (by omega) (by omega)
    have feq : mm_eq i w w1 := fun p a b _ q _ _ => hf p a b (fun z => q ⟨z.1, z.2.1⟩)
    have ebh := feq.bh ((k : Int) / 13)
    have hbh := hG.bh hs0 hs1
    have ek1 : (((k + 1 : Nat) : Int)) = (k : Int) + 1 := by omega
    have hrk : mj_rg ((k : Int) / 13) ((k : Int) % 13) := ⟨hs0, hs1, by omega, by omega⟩
    have eat : mm_at (i - 1) ((k : Int) / 13) ((k : Int) % 13) = 572 * (i - 1) + (k : Int) := by unfold mm_at; omega
    have skip : (w 26 (572 * (i - 1) + (k : Int)) 0 ≠ 0 → mm_bh w ((k : Int) / 13) = w 25 (i - 1) 0 → False) → mj_J g y_Mo_makeSet (d + 5) 0 0 (46, [some (mj_R 21), some (.inl i), some (.inl ((k : Int) + 1)), none], [], mj_mem nn xs w1) (mj_P nn xs Post) := fun hno => by
      have := ih (k + 1) w1 (by omega) hf hG1 hx (fun j hj hh hb => by
        by_cases e : j = k
        · subst e; exact (hno hh hb).elim
        · exact hd j (by omega) hh hb)
      rw [ek1] at this
      exact this
    refine v_Mo_makeSet_46 (d := d + 4) hn ⟨⟨by omega, by omega⟩, fun q => ⟨⟨by omega, by omega⟩, fun _ => ⟨by omega, by omega, ⟨by omega, by omega⟩, fun q1 => skip fun hh _ => ?_, fun q1 => ⟨by omega, ⟨by omega, by omega⟩, by omega, ?_⟩⟩, fun z => absurd hi0 z⟩, fun q => by omega⟩
    · rw [e26] at q1; exact hh q1
    · refine c_M_behind (d := d + 3) hn hG1 hs0 hs1 (by omega) (by omega) ⟨_, rfl, by omega, by omega, by rw [ebh]; exact ⟨by omega, by omega⟩, by rw [e25]; exact ⟨by omega, by omega⟩, fun q2 => ?_, fun q2 => skip fun _ hb => q2 (by rw [ebh, e25]; exact hb)⟩
      rw [ebh, e25] at q2
      rw [e26] at q1
      have hm3 : (k : Int) / 13 % 4 ≠ 3 := fun z => by
        have h5 := hbh.2.2.2.1 z
        omega
      have hrn : mj_rg ((k : Int) / 13 + 1) ((k : Int) % 13) := ⟨by omega, by omega, by omega, by omega⟩
      have eat2 : mm_at i ((k : Int) / 13 + 1) ((k : Int) % 13) = 572 * i + (k : Int) + 13 := by unfold mm_at; omega
      refine ⟨by omega, by omega, ?_⟩
      rintro w23 rfl
      have ey : mj_wu w1 26 (572 * i + (k : Int) + 13) 0 1 26 (572 * i + (k : Int) + 13) 0 = 1 := by unfold mj_wu; simp
      have ef : ∀ (p : Nat) (a b : Int), ¬ (p = 26 ∧ 572 * i ≤ a ∧ a < 572 * i + 572 ∧ b = 0) → mj_wu w1 26 (572 * i + (k : Int) + 13) 0 1 p a b = w1 p a b := fun p a b q => mj_wu_n (fun z => q ⟨z.1, by omega, by omega, z.2.2⟩)
      have fr1 : mm_fr i w1 (mj_wu w1 26 (572 * i + (k : Int) + 13) 0 1) := fun p a b q _ => ef p a b q
      have := ih (k + 1) (mj_wu w1 26 (572 * i + (k : Int) + 13) 0 1) (by omega) (fun p a b q => (ef p a b q).trans (hf p a b q)) (fr1.GI (fun a a0 a1 => by
          by_cases e : a = 572 * i + (k : Int) + 13
          · rw [e, ey]; exact Or.inr rfl
          · rw [mj_wu_n (fun z => e z.2.1)]; exact hG1.2.2.2.2.2 a a0 a1) hG1) (fun s o hr hh => by
          by_cases e : mm_at i s o = 572 * i + (k : Int) + 13
          · obtain ⟨e1, e2⟩ := mm_at_inj hr hrn (e.trans eat2.symm)
            refine Or.inr ⟨(k : Int) / 13, e1, by rw [e2]; exact hrk, ?_, q2⟩
            unfold mm_has
            rw [e2, eat]
            exact q1
          · refine hx s o hr ?_
            unfold mm_has at hh ⊢
            rw [mj_wu_n (fun z => e z.2.1)] at hh
            exact hh) (fun j hj hh hb => by
          by_cases e : j = k
          · subst e
            unfold mm_has
            rw [eat2, ey]
            decide
          · have h7 := hd j (by omega) hh hb
            unfold mm_has at h7 ⊢
            by_cases e : mm_at i ((j : Int) / 13 + 1) ((j : Int) % 13) = 572 * i + (k : Int) + 13
            · rw [e, ey]; decide
            · rw [mj_wu_n (fun z => e z.2.1)]; exact h7)
      rw [ek1] at this
      exact this
theorem mm_CI.ok {n : Int} {w : mj_w} (h : mm_CI n w) {f : Int} (f0 : 0 ≤ f) (f1 : f ≤ n) : mm_ok f w :=
  ⟨h.1, ⟨f0, by have := h.2.1; omega⟩, fun f' s o a b => h.2.2.1 f' s o a (by omega), fun s o => h.2.2.1 f s o f0 f1⟩
/-- set i is made anew -/
theorem c_M_makeSet (hn : 33 ≤ nn) {i : Int} (hi0 : 0 ≤ i) (hi1 : i < 13) (hG : mm_GI w) (hO : 0 < i → mm_CI (i - 1) w) (ht : 0 < i → 8 ≤ w 25 (i - 1) 0 ∧ w 25 (i - 1) 0 < 12)
    (h : ∀ w', mm_fr i w w' → w' 21 9 0 = 0 → mm_CI i w' → Post none w') :
    mj_J g y_Mo_makeSet (d + 5) 0 0 (0, [some (mj_R 21), some (.inl i), none, none], [], mj_mem nn xs w) (mj_P nn xs Post) := by
  refine v_Mo_makeSet_0 (d := d + 4) hn ?_
  rintro w1 rfl
  have fin : ∀ (w2 : mj_w), mm_fr i w w2 → w2 21 9 0 = 0 → mm_GI w2 → (∀ s o : Int, mj_rg s o → mm_has w2 i s o → o ≤ i ∧ s < 4 * (w2 21 2 0 + 1)) → (∀ T : Int → Int → Prop, mj_seed i (mm_w w2) T → ∀ s o : Int, mj_rg s o → mm_has w2 i s o → T s o) → mj_seed i (mm_w w2) (mj_it (mm_w w2) i) →
      mj_J g y_Mo_close (d + 4) 0 0 (0, [some (mj_R 21), some (.inl i), none, none, none], [], mj_mem nn xs w2) (mj_P nn xs (fun v w28 => v = none ∧ Post none w28)) := by
    intro w2 f2 z2 G2 o2 sd2 sd2'
    have hlow : ∀ f s o : Int, 0 ≤ f → f < i → mj_rg s o → mm_has w2 f s o → o ≤ f ∧ s < 4 * (w2 21 2 0 + 1) := fun f s o f0 f1 hr hh => by
      rw [f2.eq.fr.1]
      refine (hO (by omega)).2.2.1 f s o f0 (by omega) hr ?_
      unfold mm_has at hh ⊢
      rw [f2 26 _ 0 (fun q => by have := q.2.1; unfold mm_at at this; obtain ⟨_, _, _, _⟩ := hr; omega) (fun q => by cases q.1)] at hh
      exact hh
    have hok : mm_ok i w2 := ⟨G2, ⟨hi0, hi1⟩, hlow, o2⟩
    refine c_M_close hn hok (fun n w3 g3 s3 c3 => ⟨rfl, ?_⟩)
    have hok3 := hok.step g3 s3
    have f3 := f2.trans g3.fr
    have z3 : w3 21 9 0 = 0 := (g3.1 21 9 0 (fun q => by cases q.1)).trans z2
    have tr : ∀ T : Int → Int → Prop, mj_seed i (mm_w w3) T → mj_seed i (mm_w w2) T := fun T hT => ⟨hT.1, fun q s o hr ho hit hb => hT.2 q s o hr ho (by rw [(g3.eq.low (f := i - 1) (by omega)).it (Int.le_refl _)]; exact hit) (by
      change mm_bh w2 s = w2 25 (i - 1) 0 at hb
      show mm_bh w3 s = w3 25 (i - 1) 0
      rw [g3.eq.fr.2.2.1, g3.eq.fr.2.2.2.2]; exact hb)⟩
    have tr' : ∀ T : Int → Int → Prop, mj_seed i (mm_w w2) T → mj_seed i (mm_w w3) T := fun T hT => ⟨hT.1, fun q s o hr ho hit hb => hT.2 q s o hr ho (by rw [(g3.eq.low (f := i - 1) (by omega)).it (Int.le_refl _)] at hit; exact hit) (by
      change mm_bh w3 s = w3 25 (i - 1) 0 at hb
      show mm_bh w2 s = w2 25 (i - 1) 0
      rw [← g3.eq.fr.2.2.1, ← g3.eq.fr.2.2.2.2]; exact hb)⟩
    refine h w3 f3 z3 ⟨hok3.1, ⟨hi0, by omega⟩, fun f s o f0 f1 hr hh => ?_, fun f f0 f1 => ?_⟩
    · by_cases e : f = i
      · subst e; exact hok3.2.2.2 s o hr hh
      · exact hok3.2.2.1 f s o f0 (by omega) hr hh
    · by_cases e : f = i
      · subst e
        refine ⟨c3, tr' _ ?_, fun T hT hS s o hr hit => s3 T (g3.eq.symm.closed hT) (sd2 T (tr T hS)) s o hr ((mm_it w3 f hr).mp hit)⟩
        have up : ∀ s o : Int, mj_rg s o → mj_it (mm_w w2) f s o → mj_it (mm_w w3) f s o := fun s o hr hit => (mm_it w3 f hr).mpr (g3.it ((mm_it w2 f hr).mp hit))
        refine ⟨fun q => up 0 0 (by unfold mj_rg; decide) (sd2'.1 q), fun q s o hr ho hit hb => up _ _ ?_ (sd2'.2 q s o hr ho hit hb)⟩
        refine G2.GI.nx hr ?_
        have ht' := ht q
        have e5 : w2 25 (f - 1) 0 = w 25 (f - 1) 0 := f2.eq.fr.2.2.2.2 (f - 1)
        change mm_bh w2 s = w2 25 (f - 1) 0 at hb
        show mm_bh w2 s ≠ -1
        omega
      · exact ((f3.eq.low (f := f) (by omega))).set (f3.eq.fr.2.2.2.2 (f - 1)) ((hO (by omega)).2.2.2 f f0 (by omega))
  have e0 : ∀ {p : Nat} {a b : Int}, ¬ (p = 21 ∧ a = 9 ∧ b = 0) → mj_wu w 21 9 0 0 p a b = w p a b := fun q => mj_wu_n q
  have e9 : mj_wu w 21 9 0 0 21 9 0 = 0 := by unfold mj_wu; simp
  refine c_M_clear (w := mj_wu w 21 9 0 0) hn hi0 hi1 (fun w2 f2 z2 => ?_) _ 0 _ (Int.le_refl _) (by decide) rfl (fun _ _ _ _ => rfl) (fun a a0 a1 => by omega)
  have fr2 : mm_fr i w w2 := fun p a b q1 q2 => (f2 p a b q1).trans (e0 q2)
  have z29 : w2 21 9 0 = 0 := (f2 21 9 0 (fun q => by cases q.1)).trans e9
  have G2 : mm_GI w2 := fr2.GI (fun a a0 a1 => by
    by_cases e : 572 * i ≤ a ∧ a < 572 * i + 572
    · exact Or.inl (z2 a e.1 e.2)
    · rw [fr2 26 a 0 (fun q => e ⟨q.2.1, q.2.2.1⟩) (fun q => by cases q.1)]
      exact hG.2.2.2.2.2 a a0 a1) hG
  have no2 : ∀ s o : Int, mj_rg s o → ¬ mm_has w2 i s o := fun s o hr hh => hh (z2 _ (mm_at_r hi0 hi1 hr).2.2.1 (mm_at_r hi0 hi1 hr).2.2.2)
  refine v_Mo_makeSet_7 (d := d + 4) hn ⟨⟨by decide, by decide⟩, fun q => absurd q (by decide), fun _ => ⟨⟨by omega, by omega⟩, fun q => ?_, fun q => ?_⟩⟩
  · subst q
    rintro w3 rfl
    have ey : mj_wu w2 26 0 0 1 26 0 0 = 1 := by unfold mj_wu; simp
    have en : ∀ {p : Nat} {a b : Int}, ¬ (p = 26 ∧ a = 0 ∧ b = 0) → mj_wu w2 26 0 0 1 p a b = w2 p a b := fun q => mj_wu_n q
    have fr3 : mm_fr 0 w (mj_wu w2 26 0 0 1) := fun p a b q1 q2 => (en (fun z => q1 ⟨z.1, by omega, by omega, z.2.2⟩)).trans (fr2 p a b q1 q2)
    have G3 : mm_GI (mj_wu w2 26 0 0 1) := fr3.GI (fun a a0 a1 => by
      by_cases e : a = 0
      · rw [e, ey]; exact Or.inr rfl
      · rw [en (fun z => e z.2.1)]; exact G2.2.2.2.2.2 a a0 a1) hG
    have r00 : mj_rg 0 0 := by unfold mj_rg; decide
    have only : ∀ s o : Int, mj_rg s o → mm_has (mj_wu w2 26 0 0 1) 0 s o → s = 0 ∧ o = 0 := fun s o hr hh => by
      by_cases e : mm_at 0 s o = 0
      · exact mm_at_inj (i := 0) hr r00 (by rw [e]; rfl)
      · exfalso
        refine no2 s o hr ?_
        unfold mm_has at hh ⊢
        rw [en (fun z => e z.2.1)] at hh
        exact hh
    refine v_Mo_makeSet_46 (d := d + 4) hn ⟨⟨by decide, by decide⟩, fun _ => ⟨⟨by decide, by decide⟩, fun z => absurd z (by decide), fun _ => ?_⟩, fun z => absurd (by decide) z⟩
    refine fin _ fr3 ((en (fun z => by cases z.1)).trans z29) G3 (fun s o hr hh => ?_) (fun T hT s o hr hh => ?_) ⟨fun _ => (mm_it _ 0 r00).mpr (by show mj_wu w2 26 0 0 1 26 0 0 ≠ 0; rw [ey]; decide), fun z => absurd z (by decide)⟩
    · have := only s o hr hh
      have := G3.1
      omega
    · obtain ⟨rfl, rfl⟩ := only s o hr hh
      exact hT.1 rfl
  · have ip : 0 < i := by omega
    have e25 : w2 25 (i - 1) 0 = w 25 (i - 1) 0 := fr2.eq.fr.2.2.2.2 (i - 1)
    have hCI := hO ip
    refine c_M_seed (w := w2) hn ip hi1 G2 (by rw [e25]; exact ht ip) (fun w3 f3 G3 x3 d3 => ?_) 572 0 w2 rfl (fun _ _ _ _ => rfl) G2 (fun s o hr hh => Or.inl hh) (fun j hj => by omega)
    have fr3 : mm_fr i w w3 := fun p a b q1 q2 => (f3 p a b q1).trans (fr2 p a b q1 q2)
    have feq : mm_eq i w2 w3 := fun p a b _ q _ _ => f3 p a b (fun z => q ⟨z.1, z.2.1⟩)
    have hasE : ∀ s o : Int, mj_rg s o → (mm_has w2 (i - 1) s o ↔ mm_has w (i - 1) s o) := fun s o hr => by
      unfold mm_has
      rw [fr2 26 _ 0 (fun q => by have := q.2.1; unfold mm_at at this; obtain ⟨_, _, _, _⟩ := hr; omega) (fun q => by cases q.1)]
    have hasE3 : ∀ s o : Int, mj_rg s o → (mm_has w3 (i - 1) s o ↔ mm_has w2 (i - 1) s o) := fun s o hr => by
      unfold mm_has
      rw [f3 26 _ 0 (fun q => by have := q.2.1; unfold mm_at at this; obtain ⟨_, _, _, _⟩ := hr; omega)]
    refine fin w3 fr3 ((f3 21 9 0 (fun q => by cases q.1)).trans z29) G3 (fun s o hr hh => ?_) (fun T hT s o hr hh => ?_) ⟨fun z => by omega, fun _ s o hr ho hit hb => ?_⟩
    · obtain ⟨s0, e1, hr0, h1, h2⟩ := (x3 s o hr hh).resolve_left (no2 s o hr)
      have h3 := hCI.2.2.1 (i - 1) s0 o (by omega) (Int.le_refl _) hr0 ((hasE s0 o hr0).mp h1)
      rw [fr3.eq.fr.1]
      have hb : s0 % 4 ≠ 3 := fun z => by
        have h5 := (G2.bh hr0.1 hr0.2.1).2.2.2.1 z
        have := ht ip
        omega
      omega
    · obtain ⟨s0, e1, hr0, h1, h2⟩ := (x3 s o hr hh).resolve_left (no2 s o hr)
      subst e1
      have h3 := hCI.2.2.1 (i - 1) s0 o (by omega) (Int.le_refl _) hr0 ((hasE s0 o hr0).mp h1)
      refine hT.2 ip s0 o hr0 h3.1 ((mm_it w3 (i - 1) hr0).mpr ((hasE3 s0 o hr0).mpr h1)) ?_
      show mm_bh w3 s0 = w3 25 (i - 1) 0
      rw [feq.bh, feq.fr.2.2.2.2]
      exact h2
    · change mm_bh w3 s = w3 25 (i - 1) 0 at hb
      rw [feq.bh, feq.fr.2.2.2.2] at hb
      have hnx := G2.GI.nx hr (show mm_bh w2 s ≠ -1 by have := ht ip; omega)
      exact (mm_it w3 i hnx).mpr (d3 s o hr ((hasE3 s o hr).mp ((mm_it w3 (i - 1) hr).mp hit)) hb)
end C63
