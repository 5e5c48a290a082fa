/-! ===== the reference: findDerived ===== -/
/-- closed: what has a way is there -/
def mq_cD (u : mj_w) (n : Int) (T : Int → Int → Int → Prop) : Prop := ∀ (i j : Int) (q : Int × Int × Int), 0 ≤ i → i ≤ j → j ≤ n → mf_cut u i j q → mf_way u T i j q → T (u 2 q.1 0) i j
def mq_lD (u : mj_w) (n : Int) (w : mj_w) : Prop := ∀ T, mq_cD u n T → ∀ s a b : Int, 0 ≤ s → s < 5 → 0 ≤ a → a ≤ b → b ≤ n → mq_VD w s a b ≠ 0 → T s a b
def mq_r27 (w : mj_w) : Prop := ∀ c : Int, 0 ≤ c → c < 845 → w 27 c 0 = 0 ∨ w 27 c 0 = 1
def mq_N (w : mj_w) : Nat := mj_cn (fun c : Nat => decide (w 27 (c : Int) 0 ≠ 0)) 845
/-- where findDerived stands -/
def mq_fd (u : mj_w) (n : Int) (w0 w : mj_w) : Prop := (∀ (p : Nat) (a b : Int), ¬ (p = 21 ∧ (a = 14 ∨ a = 15)) → p ≠ 27 → w p a b = w0 p a b) ∧ mq_r27 w ∧ mq_lD u n w
theorem mq_fd.B {u : mj_w} {n : Int} {w0 w : mj_w} (h : mq_fd u n w0 w) (hB : mq_B u n w0) : mq_B u n w := hB.same (fun p a b hp => h.1 p a b (by omega) (by omega))
theorem mq_fd.cf {u : mj_w} {n : Int} {w0 w w' : mj_w} (h : mq_fd u n w0 w) (hf : mq_cf w w') : mq_fd u n w0 w' := by
  obtain ⟨h1, h2, h3⟩ := h
  refine ⟨fun p a b z1 z2 => (hf p a b z1).trans (h1 p a b z1 z2), fun c c0 c1 => by rw [hf.p (by decide)]; exact h2 c c0 c1, ?_⟩
  unfold mq_lD
  rw [hf.VD]
  exact h3
theorem mq_N_cf {w w' : mj_w} (hf : mq_cf w w') : mq_N w' = mq_N w := by
  unfold mq_N
  exact mj_cn_congr 845 (fun k _ => by rw [hf.p (by decide)])
def mq_dn (u w : mj_w) (r i j : Int) : Prop := mq_VD w (u 2 r 0) i j ≠ 0 ∨ mf_out u (mq_VD w) r i j (j - i + 1).toNat = []
/-- what has been looked at in this round -/
def mq_vis (r i j r' i' j' : Int) : Prop := r' < r ∨ (r' = r ∧ (i' < i ∨ (i' = i ∧ j' < j)))
def mq_fst (u : mj_w) (n : Int) (N0 : Nat) (w : mj_w) (more r i j : Int) : Prop := (more = 0 ∧ N0 ≤ mq_N w ∧ ∀ r' i' j' : Int, 0 ≤ r' → r' < u 1 0 0 → 0 ≤ i' → i' ≤ j' → j' ≤ n → mq_vis r i j r' i' j' → mq_dn u w r' i' j') ∨ (more = 1 ∧ N0 + 1 ≤ mq_N w)
theorem mq_fst.cf {u : mj_w} {n : Int} {N0 : Nat} {w w' : mj_w} {more r i j : Int} (h : mq_fst u n N0 w more r i j) (hf : mq_cf w w') : mq_fst u n N0 w' more r i j := by
  unfold mq_fst mq_dn at *
  rw [mq_N_cf hf, hf.VD]
  exact h
theorem mq_fst.go {u : mj_w} {n : Int} {N0 : Nat} {w : mj_w} {more r i j r2 i2 j2 : Int} (h : mq_fst u n N0 w more r i j) (hv : ∀ r' i' j' : Int, 0 ≤ r' → r' < u 1 0 0 → 0 ≤ i' → i' ≤ j' → j' ≤ n → mq_vis r2 i2 j2 r' i' j' → mq_vis r i j r' i' j' ∨ mq_dn u w r' i' j') : mq_fst u n N0 w more r2 i2 j2 := by
  rcases h with ⟨h1, h2, h3⟩ | h
  · exact Or.inl ⟨h1, h2, fun r' i' j' a b c d e f => (hv r' i' j' a b c d e f).elim (h3 r' i' j' a b c d e) id⟩
  · exact Or.inr h
theorem mq_fst.i {u : mj_w} {n : Int} {N0 : Nat} {w : mj_w} {more r i j : Int} (h : mq_fst u n N0 w more r i j) : mj_i more ∧ (more = 0 ∨ more = 1) := by
  rcases h with h | h
  · rw [h.1]; exact ⟨⟨by decide, by decide⟩, Or.inl rfl⟩
  · rw [h.1]; exact ⟨⟨by decide, by decide⟩, Or.inr rfl⟩
section C82
variable {g : mj_G} {nn d : Nat} {xs : mj_M} {Post : Option mj_V → mj_w → Prop} {u w0 : mj_w} {n : Int}
theorem mq_fd_step {w w12 : mj_w} (h : mq_fd u n w0 w) (hB : mq_B u n w0) (f12 : mq_cf w w12) {r i j : Int} (hr : 0 ≤ r ∧ r < u 1 0 0) (hi : 0 ≤ i) (hij : i ≤ j) (hj : j ≤ n) (hz : w 27 (169 * u 2 r 0 + 13 * i + j) 0 = 0) (hne : mf_out u (mq_VD w) r i j (j - i + 1).toNat ≠ []) : mq_fd u n w0 (mj_wu w12 27 (169 * u 2 r 0 + 13 * i + j) 0 1) ∧ mq_N (mj_wu w12 27 (169 * u 2 r 0 + 13 * i + j) 0 1) = mq_N w + 1 := by
  have hl := hB.1.2.1 r hr.1 hr.2
  have hn12 := hB.2.1
  have h' := h.cf f12
  generalize hw' : mj_wu w12 27 (169 * u 2 r 0 + 13 * i + j) 0 1 = w'
  have eo : ∀ c : Int, c ≠ 169 * u 2 r 0 + 13 * i + j → w' 27 c 0 = w 27 c 0 := fun c hc => by
    rw [← hw', mj_wu_n (fun z => hc z.2.1), f12.p (by decide)]
  have ev : w' 27 (169 * u 2 r 0 + 13 * i + j) 0 = 1 := by rw [← hw']; unfold mj_wu; simp
  refine ⟨⟨fun p a b z1 z2 => ?_, fun c c0 c1 => ?_, fun T hT s a b s0 s1 a0 ab b1 hv => ?_⟩, ?_⟩
  · rw [← hw', mj_wu_n (fun z => z2 z.1)]; exact h'.1 p a b z1 z2
  · by_cases e : c = 169 * u 2 r 0 + 13 * i + j
    · rw [e, ev]; exact Or.inr rfl
    · rw [eo c e]; exact h.2.1 c c0 c1
  · rw [mq_VD_nz ⟨s0, s1⟩ (by omega) (by omega)] at hv
    by_cases e : 169 * s + 13 * a + b = 169 * u 2 r 0 + 13 * i + j
    · have es : s = u 2 r 0 := by omega
      have ea : a = i := by omega
      have eb : b = j := by omega
      rw [es, ea, eb]
      obtain ⟨q, hq⟩ := List.exists_mem_of_ne_nil _ hne
      obtain ⟨m1, m2, m3, m4, m5⟩ := (mf_out_mem _).mp hq
      have hc : mf_cut u i j q := ⟨by rw [m1]; exact hr, by omega, m3, m4⟩
      have hw := (mf_val_nz (mq_VD_rv w)).mp m5
      have := hT i j q hi hij hj hc (hw.mono hc.2 (fun _ _ _ => rfl) (fun k k0 k1 => hB.1.sy hc.1 k k0 k1) (fun _ _ _ => rfl) (fun s a b s0 s1 a0 ab b1 hN => h.2.2 T hT s a b s0 s1 (by omega) ab (by omega) hN))
      rw [m1] at this
      exact this
    · rw [eo _ e] at hv
      exact h.2.2 T hT s a b s0 s1 a0 ab b1 ((mq_VD_nz ⟨s0, s1⟩ (by omega) (by omega)).mpr hv)
  · unfold mq_N
    refine mj_cn_set (k := (169 * u 2 r 0 + 13 * i + j).toNat) ?_ ?_ 845 (by omega) (fun k hk hne => ?_)
    · rw [show (((169 * u 2 r 0 + 13 * i + j).toNat : Nat) : Int) = 169 * u 2 r 0 + 13 * i + j by omega]; simp [hz]
    · rw [show (((169 * u 2 r 0 + 13 * i + j).toNat : Nat) : Int) = 169 * u 2 r 0 + 13 * i + j by omega]; simp [ev]
    · rw [eo (k : Int) (by omega)]
theorem c_M_findDerived_53 (hn : 33 ≤ nn) (hB : mq_B u n w0) {r i : Int} {N0 : Nat} (hr : 0 ≤ r ∧ r < u 1 0 0) (hi : 0 ≤ i) (hin : i ≤ n)
    (h : ∀ (w : mj_w) (more : Int), mq_fd u n w0 w → mq_fst u n N0 w more r (i + 1) (i + 1) → mj_J g y_Mo_findDerived (d + 4) 0 0 (42, [some (mj_R 21), some (.inl more), some (.inl r), some (.inl (i + 1)), none, none], [], mj_mem nn xs w) (mj_P nn xs Post)) :
    ∀ (m : Nat) (j more : Int) (w : mj_w), i ≤ j → j ≤ n + 1 → (n + 1 - j).toNat = m → mq_fd u n w0 w → mq_fst u n N0 w more r i j →
    mj_J g y_Mo_findDerived (d + 4) 0 0 (53, [some (mj_R 21), some (.inl more), some (.inl r), some (.inl i), some (.inl j), none], [], mj_mem nn xs w) (mj_P nn xs Post) := by
  intro m
  have hn12 := hB.2.1
  have hl := hB.1.2.1 r hr.1 hr.2
  have hcnt := hB.1.1
  induction m with
  | zero =>
    intro j more w hij hj hm hfd hfs
    have hBw := hfd.B hB
    have e6 : w 21 6 0 = n := hBw.2.2.2.2.1
    refine v_Mo_findDerived_53 (d := d + 3) hn ⟨⟨by omega, by omega⟩, ⟨by omega, by omega⟩, fun _ => h w more hfd (hfs.go (fun r' i' j' a b c e f v => Or.inl ?_)), fun q => by omega⟩
    unfold mq_vis at *
    omega
  | succ m ih =>
    intro j more w hij hj hm hfd hfs
    have hBw := hfd.B hB
    have e6 : w 21 6 0 = n := hBw.2.2.2.2.1
    have e22 : w 22 r 0 = u 2 r 0 := (hBw.2.2.2.2.2.1 r hr.1 hr.2).1
    have hv : ∀ (w' : mj_w), mq_dn u w' r i j → ∀ r' i' j' : Int, mq_vis r i (j + 1) r' i' j' → mq_vis r i j r' i' j' ∨ mq_dn u w' r' i' j' := fun w' hd r' i' j' v => by
      by_cases e : r' = r ∧ i' = i ∧ j' = j
      · rw [e.1, e.2.1, e.2.2]; exact Or.inr hd
      · left; unfold mq_vis at *; omega
    refine v_Mo_findDerived_53 (d := d + 3) hn ⟨⟨by omega, by omega⟩, ⟨by omega, by omega⟩, fun q => by omega, fun _ => ⟨hr.1, by omega, ?_⟩⟩
    rw [e22]
    have h27 := hfd.2.1 (169 * u 2 r 0 + 13 * i + j) (by omega) (by omega)
    refine c_M_node hn ⟨_, rfl, by omega, by omega, by rcases h27 with z | z <;> rw [z] <;> exact ⟨by decide, by decide⟩, fun q1 => ?_, fun q1 => ?_⟩
    · refine c_M_waysBy (d := d) hn hBw hfd.2.1 hr hi hij (by omega) (fun w12 f12 => ⟨_, rfl, ?_⟩)
      have hlen := mf_out_91 u (mq_VD w) r i j (m := (j - i + 1).toNat) (by omega)
      refine ⟨⟨by omega, by omega⟩, fun q2 => ?_, fun q2 => ?_⟩
      · rintro w16 rfl
        have hne : mf_out u (mq_VD w) r i j (j - i + 1).toNat ≠ [] := fun z => by rw [z] at q2; exact absurd q2 (by decide)
        obtain ⟨s1, s2⟩ := mq_fd_step hfd hB f12 hr hi hij (by omega) q1 hne
        refine ih (j + 1) 1 _ (by omega) (by omega) (by omega) s1 (Or.inr ⟨rfl, ?_⟩)
        rw [s2]
        rcases hfs with z | z
        · have := z.2.1; omega
        · have := z.2; omega
      · have hnil : mf_out u (mq_VD w) r i j (j - i + 1).toNat = [] := List.length_eq_zero_iff.mp (by omega)
        exact ih (j + 1) more w12 (by omega) (by omega) (by omega) (hfd.cf f12) ((hfs.cf f12).go (fun r' i' j' _ _ _ _ _ v => hv w12 (Or.inr (by rw [f12.VD]; exact hnil)) r' i' j' v))
    · exact ih (j + 1) more w (by omega) (by omega) (by omega) hfd (hfs.go (fun r' i' j' _ _ _ _ _ v => hv w (Or.inl ((mq_VD_nz hl (by omega) (by omega)).mpr q1)) r' i' j' v))
theorem c_M_findDerived_42 (hn : 33 ≤ nn) (hB : mq_B u n w0) {r : Int} {N0 : Nat} (hr : 0 ≤ r ∧ r < u 1 0 0)
    (h : ∀ (w : mj_w) (more : Int), mq_fd u n w0 w → mq_fst u n N0 w more (r + 1) 0 0 → mj_J g y_Mo_findDerived (d + 4) 0 0 (32, [some (mj_R 21), some (.inl more), some (.inl (r + 1)), none, none, none], [], mj_mem nn xs w) (mj_P nn xs Post)) :
    ∀ (m : Nat) (i more : Int) (w : mj_w), 0 ≤ i → i ≤ n + 1 → (n + 1 - i).toNat = m → mq_fd u n w0 w → mq_fst u n N0 w more r i i →
    mj_J g y_Mo_findDerived (d + 4) 0 0 (42, [some (mj_R 21), some (.inl more), some (.inl r), some (.inl i), none, none], [], mj_mem nn xs w) (mj_P nn xs Post) := by
  intro m
  have hn12 := hB.2.1
  induction m with
  | zero =>
    intro i more w hi0 hi hm hfd hfs
    have e6 : w 21 6 0 = n := (hfd.B hB).2.2.2.2.1
    refine v_Mo_findDerived_42 (d := d + 3) hn ⟨⟨by omega, by omega⟩, ⟨by omega, by omega⟩, fun _ => h w more hfd (hfs.go (fun r' i' j' a b c e f v => Or.inl ?_)), fun q => by omega⟩
    unfold mq_vis at *
    omega
  | succ m ih =>
    intro i more w hi0 hi hm hfd hfs
    have e6 : w 21 6 0 = n := (hfd.B hB).2.2.2.2.1
    refine v_Mo_findDerived_42 (d := d + 3) hn ⟨⟨by omega, by omega⟩, ⟨by omega, by omega⟩, fun q => by omega, fun _ => ?_⟩
    exact c_M_findDerived_53 hn hB hr hi0 (by omega) (fun w' more' hfd' hfs' => ih (i + 1) more' w' (by omega) (by omega) (by omega) hfd' hfs') _ i more w (Int.le_refl _) (by omega) rfl hfd hfs
theorem c_M_findDerived_32 (hn : 33 ≤ nn) (hB : mq_B u n w0) {N0 : Nat}
    (h : ∀ (w : mj_w) (more : Int), mq_fd u n w0 w → mq_fst u n N0 w more (u 1 0 0) 0 0 → mj_J g y_Mo_findDerived (d + 4) 0 0 (24, [some (mj_R 21), some (.inl more), none, none, none, none], [], mj_mem nn xs w) (mj_P nn xs Post)) :
    ∀ (m : Nat) (r more : Int) (w : mj_w), 0 ≤ r → r ≤ u 1 0 0 → (u 1 0 0 - r).toNat = m → mq_fd u n w0 w → mq_fst u n N0 w more r 0 0 →
    mj_J g y_Mo_findDerived (d + 4) 0 0 (32, [some (mj_R 21), some (.inl more), some (.inl r), none, none, none], [], mj_mem nn xs w) (mj_P nn xs Post) := by
  intro m
  have hcnt := hB.1.1
  have hn12 := hB.2.1
  induction m with
  | zero =>
    intro r more w r0 r1 hm hfd hfs
    have e2 : w 21 2 0 = u 1 0 0 := (hfd.B hB).2.2.2.1
    have er : r = u 1 0 0 := by omega
    subst er
    exact v_Mo_findDerived_32 (d := d + 3) hn ⟨⟨by omega, by omega⟩, ⟨by omega, by omega⟩, fun q => by omega, fun _ => h w more hfd hfs⟩
  | succ m ih =>
    intro r more w r0 r1 hm hfd hfs
    have e2 : w 21 2 0 = u 1 0 0 := (hfd.B hB).2.2.2.1
    refine v_Mo_findDerived_32 (d := d + 3) hn ⟨⟨by omega, by omega⟩, ⟨by omega, by omega⟩, fun q => ?_, fun q => by omega⟩
    exact c_M_findDerived_42 hn hB ⟨r0, by omega⟩ (fun w' more' hfd' hfs' => ih (r + 1) more' w' (by omega) (by omega) (by omega) hfd' hfs') _ 0 more w (Int.le_refl _) (by omega) rfl hfd hfs
theorem c_M_findDerived_24 (hn : 33 ≤ nn) (hB : mq_B u n w0)
    (h : ∀ w, mq_fd u n w0 w → mq_cD u n (fun s a b => mq_VD w s a b ≠ 0) → Post none w) :
    ∀ (m : Nat) (w : mj_w), 846 - mq_N w = m → mq_fd u n w0 w →
    mj_J g y_Mo_findDerived (d + 4) 0 0 (24, [some (mj_R 21), some (.inl 1), none, none, none, none], [], mj_mem nn xs w) (mj_P nn xs Post) := by
  intro m
  induction m using Nat.strongRecOn with
  | ind m ih =>
    intro w hm hfd
    refine v_Mo_findDerived_24 (d := d + 3) hn ⟨⟨by decide, by decide⟩, fun z => absurd z (by decide), fun _ => ?_⟩
    refine c_M_findDerived_32 (N0 := mq_N w) hn hB (fun w' more' hfd' hfs' => ?_) _ 0 0 w (Int.le_refl _) hB.1.1.1 rfl hfd (Or.inl ⟨rfl, Nat.le_refl _, fun r' i' j' a b c e f v => by unfold mq_vis at v; omega⟩)
    have hle : mq_N w' ≤ 845 := mj_cn_le _ _
    rcases hfs' with ⟨z1, z2, z3⟩ | ⟨z1, z2⟩
    · rw [z1]
      refine v_Mo_findDerived_24 (d := d + 3) hn ⟨⟨by decide, by decide⟩, fun _ => h w' hfd' (fun i j q hi hij hj hc hw => ?_), fun z => absurd rfl z⟩
      rcases z3 q.1 i j hc.1.1 hc.1.2 hi hij hj (Or.inl hc.1.2) with y | y
      · exact y
      · exfalso
        have : q ∈ mf_out u (mq_VD w') q.1 i j (j - i + 1).toNat := (mf_out_mem _).mpr ⟨rfl, by have := hc.2.1; omega, hc.2.2.1, hc.2.2.2, (mf_val_nz (mq_VD_rv w')).mpr hw⟩
        rw [y] at this
        cases this
    · rw [z1]
      exact ih (846 - mq_N w') (by omega) w' rfl hfd'
theorem c_M_findDerived_2 (hn : 33 ≤ nn) (hB : mq_B u n w0)
    (h : ∀ w, mq_fd u n w0 w → mq_cD u n (fun s a b => mq_VD w s a b ≠ 0) → Post none w) :
    ∀ (m : Nat) (c : Int) (w : mj_w), 0 ≤ c → c ≤ 845 → (845 - c).toNat = m → (∀ (p : Nat) (a b : Int), p ≠ 27 → w p a b = w0 p a b) → (∀ k : Int, 0 ≤ k → k < c → w 27 k 0 = 0) →
    mj_J g y_Mo_findDerived (d + 4) 0 0 (2, [some (mj_R 21), some (.inl c), none, none, none, none], [], mj_mem nn xs w) (mj_P nn xs Post) := by
  intro m
  have hn12 := hB.2.1
  induction m with
  | zero =>
    intro c w c0 c1 hm hf hz
    refine v_Mo_findDerived_2 (d := d + 3) hn ⟨⟨by omega, by omega⟩, fun z => by omega, fun _ => ?_⟩
    refine c_M_findDerived_24 hn hB h _ w rfl ⟨fun p a b _ z2 => hf p a b z2, fun k k0 k1 => Or.inl (hz k k0 (by omega)), fun T hT s a b s0 s1 a0 ab b1 hv => ?_⟩
    rw [mq_VD_nz ⟨s0, s1⟩ (by omega) (by omega)] at hv
    exact absurd (hz _ (by omega) (by omega)) hv
  | succ m ih =>
    intro c w c0 c1 hm hf hz
    refine v_Mo_findDerived_2 (d := d + 3) hn ⟨⟨by omega, by omega⟩, fun z => ⟨c0, z, ?_⟩, fun z => by omega⟩
    rintro w5 rfl
    refine ih (c + 1) _ (by omega) (by omega) (by omega) (fun p a b hp => (mj_wu_n (fun z => hp z.1)).trans (hf p a b hp)) (fun k k0 k1 => ?_)
    by_cases e : k = c
    · rw [e]; unfold mj_wu; simp
    · rw [mj_wu_n (fun z => by omega)]; exact hz k k0 (by omega)
theorem c_M_findDerived (hn : 33 ≤ nn) (hB : mq_B u n w0)
    (h : ∀ w, mq_fd u n w0 w → mq_cD u n (fun s a b => mq_VD w s a b ≠ 0) → Post none w) :
    mj_J g y_Mo_findDerived (d + 4) 0 0 (0, [some (mj_R 21), none, none, none, none, none], [], mj_mem nn xs w0) (mj_P nn xs Post) :=
  v_Mo_findDerived_0 (d := d + 3) hn (c_M_findDerived_2 hn hB h _ 0 w0 (Int.le_refl _) (by decide) rfl (fun _ _ _ _ => rfl) (fun k k0 k1 => by omega))
end C82
