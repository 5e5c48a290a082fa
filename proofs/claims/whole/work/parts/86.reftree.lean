/-! ===== the reference: tree ===== -/
def mr_I (w0 w : mj_w) (st : List (Int × Int)) : Prop := (∀ (p : Nat) (a b : Int), ¬ (p = 21 ∧ (a = 14 ∨ a = 15 ∨ a = 18)) → p ≠ 31 → p ≠ 32 → w p a b = w0 p a b) ∧ w 21 18 0 = (st.length : Int) ∧ mt_rep (fun m => w 31 m 0) (fun m => w 32 m 0) st
theorem mr_I.OK {u : mj_w} {n : Int} {w0 w : mj_w} {st : List (Int × Int)} (h : mr_I w0 w st) (hO : mq_OK u n w0) : mq_OK u n w := hO.same (fun p a b hp => h.1 p a b (fun z => by omega) (by omega) (by omega))
theorem mr_I.V {w0 w : mj_w} {st : List (Int × Int)} (h : mr_I w0 w st) : mq_V w = mq_V w0 := by
  funext s a b
  unfold mq_V
  rw [h.1 27 _ _ (fun z => by omega) (by decide) (by decide), h.1 28 _ _ (fun z => by omega) (by decide) (by decide), h.1 29 _ _ (fun z => by omega) (by decide) (by decide)]
theorem mr_I.cf {w0 w w' : mj_w} {st : List (Int × Int)} (h : mr_I w0 w st) (hf : mq_cf w w') : mr_I w0 w' st :=
  ⟨fun p a b z1 z2 z3 => (hf p a b (fun z => z1 (by omega))).trans (h.1 p a b z1 z2 z3), (hf 21 18 0 (fun z => by omega)).trans h.2.1, mt_rep_congr st (fun m _ _ => ⟨hf.p (by decide) m 0, hf.p (by decide) m 0⟩) h.2.2⟩
theorem mt_ps_skip {u : mj_w} {V : Int → Int → Int → Int} {i j : Int} {q : Int × Int × Int} {p : Nat} : ∀ (m : Nat) (k : Int) (st : List (Int × Int)), (∀ p' : Nat, p ≤ p' → p' < p + m → u 3 ((q.1 + 1) * 4 + (p' : Int)) 0 = -1) → mt_ps u V i j q (p + m) k st = mt_ps u V i j q p k st
  | 0, _, _, _ => rfl
  | m + 1, k, st, h => by
    show (if 0 ≤ u 3 ((q.1 + 1) * 4 + ((p + m : Nat) : Int)) 0 ∧ u 3 ((q.1 + 1) * 4 + ((p + m : Nat) : Int)) 0 < 5 then _ else mt_ps u V i j q (p + m) k st) = _
    have := h (p + m) (by omega) (by omega)
    rw [if_neg (by omega)]
    exact mt_ps_skip m k st (fun p' a b => h p' a (by omega))
section C86
variable {g : mj_G} {nn d : Nat} {xs : mj_M} {Post : Option mj_V → mj_w → Prop} {u w0 w : mj_w} {n : Int}
theorem c_M_come (hn : 33 ≤ nn) {st : List (Int × Int)} (hI : mr_I w0 w st) (hl : st.length < 900) {c k : Int}
    (h : ∀ w', mr_I w0 w' ((c, k) :: st) → (∀ (p : Nat) (a b : Int), p ≠ 31 → p ≠ 32 → ¬ (p = 21 ∧ a = 18 ∧ b = 0) → w' p a b = w p a b) → Post none w') :
    mj_J g y_Mo_come d 0 0 (0, [some (mj_R 21), some (.inl c), some (.inr (.inl k)), none], [], mj_mem nn xs w) (mj_P nn xs Post) := by
  obtain ⟨i1, i2, i3⟩ := hI
  refine v_Mo_come_0 hn ⟨by omega, by omega, ?_⟩
  rintro w5 rfl
  have e5 : mj_wu w 31 (w 21 18 0) 0 c 21 18 0 = w 21 18 0 := mj_wu_n (fun z => by cases z.1)
  rw [e5]
  refine ⟨by omega, by omega, ?_⟩
  rintro w9 rfl w11 rfl
  have e9 : mj_wu (mj_wu w 31 (w 21 18 0) 0 c) 32 (w 21 18 0) 0 k 21 18 0 = w 21 18 0 := (mj_wu_n (fun z => by cases z.1)).trans e5
  rw [e9, i2]
  generalize hw' : mj_wu (mj_wu (mj_wu w 31 (st.length : Int) 0 c) 32 (st.length : Int) 0 k) 21 18 0 ((st.length : Int) + 1) = w'
  have f : ∀ (p : Nat) (a b : Int), ¬ (p = 31 ∧ a = (st.length : Int) ∧ b = 0) → ¬ (p = 32 ∧ a = (st.length : Int) ∧ b = 0) → ¬ (p = 21 ∧ a = 18 ∧ b = 0) → w' p a b = w p a b := fun p a b z1 z2 z3 => by
    rw [← hw']; exact (mj_wu_n z3).trans ((mj_wu_n z2).trans (mj_wu_n z1))
  have e6 : w' 21 18 0 = (st.length : Int) + 1 := by rw [← hw']; unfold mj_wu; simp
  have e12 : w' 31 (st.length : Int) 0 = c := by rw [← hw']; refine (mj_wu_n (fun z => by cases z.1)).trans ((mj_wu_n (fun z => by cases z.1)).trans ?_); unfold mj_wu; simp
  have e14 : w' 32 (st.length : Int) 0 = k := by rw [← hw']; refine (mj_wu_n (fun z => by cases z.1)).trans ?_; unfold mj_wu; simp
  refine h w' ⟨fun p a b z1 z2 z3 => (f p a b (fun z => z2 z.1) (fun z => z3 z.1) (fun z => z1 (by omega))).trans (i1 p a b z1 z2 z3), by rw [e6, List.length_cons]; omega, e12, e14, mt_rep_congr st (fun m m0 m1 => ⟨f 31 m 0 (fun z => by omega) (fun z => by cases z.1) (fun z => by cases z.1), f 32 m 0 (fun z => by cases z.1) (fun z => by omega) (fun z => by cases z.1)⟩) i3⟩ (fun p a b z1 z2 z3 => f p a b (fun z => z1 z.1) (fun z => z2 z.1) z3)
theorem c_M_comeAll_14 (hn : 33 ≤ nn) (hO : mq_OK u n w0) {r i j x : Int} {t : Int × Int × Int} (hr : 0 ≤ r ∧ r < u 1 0 0) (hi : 0 ≤ i) (hj : j ≤ n) (etr : t.1 = r) (hcut : mf_cut u i j t)
    (hP : ∀ p : Nat, p < 3 → 0 ≤ u 3 ((t.1 + 1) * 4 + (p : Int)) 0 → u 3 ((t.1 + 1) * 4 + (p : Int)) 0 < 5 → 0 < mq_V w0 (u 3 ((t.1 + 1) * 4 + (p : Int)) 0) (mf_cu i j t (p : Int)) (mf_cu i j t ((p : Int) + 1)) ∧ mq_V w0 (u 3 ((t.1 + 1) * 4 + (p : Int)) 0) (mf_cu i j t (p : Int)) (mf_cu i j t ((p : Int) + 1)) < 1000000000000)
    {F : List (Int × Int)} (h : ∀ w', mr_I w0 w' F → Post none w') :
    ∀ (p : Nat) (k l8 : Int) (st : List (Int × Int)) (w : mj_w), l8 = (p : Int) - 1 → (p : Int) ≤ w0 23 r 0 → 0 ≤ k → k < 1000000000000 → st.length + p ≤ 134 → mr_I w0 w st → t = mq_t (w 23 r 0) r j (w 21 14 0) (w 21 15 0) → mt_ps u (mq_V w0) i j t p k st = F →
    mj_J g y_Mo_comeAll (d + 1) 0 0 (14, [some (mj_R 21), some (.inl r), some (.inl i), some (.inl j), some (.inr (.inl x)), none, some (.inr (.inl k)), none, some (.inl l8), none, none], [], mj_mem nn xs w) (mj_P nn xs Post) := by
  intro p
  have hn12 := hO.1.2.1
  have hcnt := hO.1.1.1
  induction p with
  | zero =>
    intro k l8 st w el hp k0 k1 hst hI et hF
    exact v_Mo_comeAll_14 hn ⟨⟨by omega, by omega⟩, fun _ => h w (by rw [← hF]; exact hI), fun z => by omega⟩
  | succ p ih =>
    intro k l8 st w el hp k0 k1 hst hI et hF
    have el' : l8 = (p : Int) := by omega
    subst el'
    have hOw := hI.OK hO
    have e23 : w 23 r 0 = w0 23 r 0 := hI.1 23 r 0 (fun z => by omega) (by decide) (by decide)
    obtain ⟨hl, hbody⟩ := (hOw.1.2.2.2.2.2.1 r hr.1 hr.2).2
    obtain ⟨hs1, hs2⟩ := (hbody (p : Int) (by omega) (by omega)).1 (by omega)
    have hsy := hO.1.1.2.2 ((r + 1) * 4 + (p : Int)) (by omega) (by omega)
    have hcu := mf_cu_le (k := (p : Int)) hcut.2 (by omega) (by omega)
    simp only [mt_ps] at hF
    rw [etr] at hF
    refine v_Mo_comeAll_14 hn ⟨⟨by omega, by omega⟩, fun z => by omega, fun _ => ⟨by omega, by omega, ?_⟩⟩
    rw [← hs1]
    refine ⟨⟨by omega, by omega⟩, fun q => ?_, fun q => ?_⟩
    · have hv := hP p (by omega) (by rw [etr]; omega) (by rw [etr]; omega)
      rw [etr] at hv
      rw [if_pos (by omega)] at hF
      have h5 := hOw.2.2.2.2 (u 3 ((r + 1) * 4 + (p : Int)) 0) (mf_cu i j t (p : Int)) (mf_cu i j t ((p : Int) + 1)) (by omega) (by omega) (by omega) hcu.2.1 (by omega)
      rw [hI.V] at h5
      have h28 : w 28 (169 * u 3 ((r + 1) * 4 + (p : Int)) 0 + 13 * mf_cu i j t (p : Int) + mf_cu i j t ((p : Int) + 1)) 0 ≠ 0 := fun z => by have := h5.1 z; omega
      have e29 := h5.2 h28
      refine c_M_cut hn hOw.1 hr ⟨by omega, by omega⟩ ⟨_, rfl, c_M_cut hn hOw.1 hr ⟨by omega, by omega⟩ ⟨_, rfl, c_M_node hn ⟨_, rfl, ?_⟩⟩⟩
      rw [← et, ← e29]
      refine ⟨by omega, by omega, ⟨by omega, by omega⟩, ⟨by omega, by omega⟩, k0, hv.1, ?_⟩
      rw [show 169 * u 3 ((r + 1) * 4 + (p : Int)) 0 + 13 * mf_cu i j t (p : Int) + mf_cu i j t ((p : Int) + 1) = (u 3 ((r + 1) * 4 + (p : Int)) 0 * 13 + mf_cu i j t (p : Int)) * 13 + mf_cu i j t ((p : Int) + 1) by omega] at e29 ⊢
      refine c_M_come hn hI (by omega) (fun w' I' f' => ⟨rfl, ?_⟩)
      rw [f' 29 _ _ (by decide) (by decide) (fun z => by cases z.1), ← e29]
      have hdiv : k / mq_V w0 (u 3 ((r + 1) * 4 + (p : Int)) 0) (mf_cu i j t (p : Int)) (mf_cu i j t ((p : Int) + 1)) ≤ k := Int.ediv_le_self _ k0
      refine ⟨⟨by omega, by omega⟩, hv.1, ih _ _ _ w' (by omega) (by omega) (Int.ediv_nonneg k0 (by omega)) (by omega) (by simp only [List.length_cons]; omega) I' ?_ hF⟩
      rw [f' 23 _ _ (by decide) (by decide) (fun z => by cases z.1), f' 21 14 0 (by decide) (by decide) (fun z => by have := z.2.1; omega), f' 21 15 0 (by decide) (by decide) (fun z => by have := z.2.1; omega)]
      exact et
    · rw [if_neg (by omega)] at hF
      exact ih k _ st w (by omega) (by omega) k0 k1 (by omega) hI et hF
theorem c_M_takeRoot_63 (hn : 33 ≤ nn) (hO : mq_OK u n w0) {e : Int × Int} {st : List (Int × Int)} (hv : mf_vc n e.1) (hst : st.length ≤ 130) {r : Int} (hr : 0 ≤ r ∧ r < u 1 0 0) (hlr : u 2 r 0 = e.1 / 169) {R : List (Int × Int × Int)} {q : Int × Int × Int} {k' x0 : Int}
    (hval : ∀ q, q ∈ mf_ways u (mq_V w0) (e.1 / 169) (e.1 / 13 % 13) (e.1 % 13) → 0 < mf_val u (mq_V w0) (e.1 / 13 % 13) (e.1 % 13) q ∧ mf_val u (mq_V w0) (e.1 / 13 % 13) (e.1 % 13) q < 1000000000000)
    (hP : ∀ q, q ∈ mf_ways u (mq_V w0) (e.1 / 169) (e.1 / 13 % 13) (e.1 % 13) → ∀ p : Nat, p < 3 → 0 ≤ u 3 ((q.1 + 1) * 4 + (p : Int)) 0 → u 3 ((q.1 + 1) * 4 + (p : Int)) 0 < 5 → 0 < mq_V w0 (u 3 ((q.1 + 1) * 4 + (p : Int)) 0) (mf_cu (e.1 / 13 % 13) (e.1 % 13) q (p : Int)) (mf_cu (e.1 / 13 % 13) (e.1 % 13) q ((p : Int) + 1)) ∧ mq_V w0 (u 3 ((q.1 + 1) * 4 + (p : Int)) 0) (mf_cu (e.1 / 13 % 13) (e.1 % 13) q (p : Int)) (mf_cu (e.1 / 13 % 13) (e.1 % 13) q ((p : Int) + 1)) < 1000000000000)
    (h : ∀ w', mr_I w0 w' (mt_ps u (mq_V w0) (e.1 / 13 % 13) (e.1 % 13) q 3 k' st) → Post (some (.inl q.1)) w')
    (hnext : ∀ (w' : mj_w) (x : Int), mr_I w0 w' st → 0 ≤ x → x < 1000000000000 → mt_pick (mf_val u (mq_V w0) (e.1 / 13 % 13) (e.1 % 13)) R x = some (q, k') → mj_J g y_Mo_takeRoot (d + 3) 0 0 (29, [some (mj_R 21), some (.inl e.1), some (.inr (.inl x0)), none, some (.inl (e.1 / 169)), some (.inl (e.1 / 13 % 13)), some (.inl (e.1 % 13)), some (.inr (.inl x)), none, some (.inl (r + 1)), none, none, none], [], mj_mem nn xs w') (mj_P nn xs Post)) :
    ∀ (m : Nat) (w : mj_w) (x : Int), mr_I w0 w st → mq_at (e.1 / 13 % 13) (e.1 % 13) w → ((e.1 % 13 - w 21 14 0) * 20 + (e.1 % 13 - w 21 15 0)).toNat = m → 0 ≤ x → x < 1000000000000 → mt_pick (mf_val u (mq_V w0) (e.1 / 13 % 13) (e.1 % 13)) (mq_rem u (mq_V w0) (e.1 / 13 % 13) (e.1 % 13) (w 23 r 0) r (w 21 14 0) (w 21 15 0) ++ R) x = some (q, k') →
    mj_J g y_Mo_takeRoot (d + 3) 0 0 (63, [some (mj_R 21), some (.inl e.1), some (.inr (.inl x0)), none, some (.inl (e.1 / 169)), some (.inl (e.1 / 13 % 13)), some (.inl (e.1 % 13)), some (.inr (.inl x)), none, some (.inl r), some (.inl 1), none, none], [], mj_mem nn xs w) (mj_P nn xs Post) := by
  intro m
  have hv' := hv
  unfold mf_vc at hv'
  have hrv := hO.2.2.1.rv
  have hG0 := hO.1.1
  have hcnt := hG0.1
  induction m using Nat.strongRecOn with
  | ind m ih =>
    intro w x hI hat hm x0' x1' hpk
    have hOw := hI.OK hO
    have eV := hI.V
    have rest : ∀ (y : Int), 0 ≤ y → y < 1000000000000 → (∀ l, mt_pick (mf_val u (mq_V w0) (e.1 / 13 % 13) (e.1 % 13)) (mq_hd u (mq_V w0) (e.1 / 13 % 13) (e.1 % 13) (mq_t (w 23 r 0) r (e.1 % 13) (w 21 14 0) (w 21 15 0)) ++ l) x = mt_pick (mf_val u (mq_V w0) (e.1 / 13 % 13) (e.1 % 13)) l y) → mj_J g y_Mo_nextCuts (d + 2) 0 0 (0, [some (mj_R 21), some (.inl r), some (.inl (e.1 % 13))], [], mj_mem nn xs w) (mj_P nn xs (fun v w7 => ∃ x8 : Int, v = some (.inl x8) ∧ (mj_J g y_Mo_takeRoot (d + 3) 0 0 (63, [some (mj_R 21), some (.inl e.1), some (.inr (.inl x0)), none, some (.inl (e.1 / 169)), some (.inl (e.1 / 13 % 13)), some (.inl (e.1 % 13)), some (.inr (.inl y)), none, some (.inl r), some (.inl x8), none, none], [], mj_mem nn xs w7) (mj_P nn xs Post)))) := fun y y0 y1 hy => by
      refine c_M_nextCuts hn hOw.1 hr (by omega) (by omega) (by omega) hat (fun w' f' at' hlt hrem => ⟨_, rfl, ?_⟩) (fun hrem => ⟨_, rfl, ?_⟩)
      · have e23 : w' 23 r 0 = w 23 r 0 := f'.p (by decide) r 0
        refine ih _ (by omega) w' y (hI.cf f') at' rfl y0 y1 ?_
        rw [e23]
        rw [hrem _ hrv, List.append_assoc, hy] at hpk
        exact hpk
      · rw [hrem _ hrv, hy] at hpk
        exact v_Mo_takeRoot_63 (d := d + 2) hn ⟨⟨by decide, by decide⟩, fun _ => hnext w y hI y0 y1 hpk, fun z => absurd rfl z⟩
    refine v_Mo_takeRoot_63 (d := d + 2) hn ⟨⟨by decide, by decide⟩, fun z => absurd z (by decide), fun _ => ?_⟩
    refine c_M_isWay (d := d) hn hOw.1 hOw.2.1 hr (by omega) (by omega) hat (fun z => ⟨_, rfl, ⟨by decide, by decide⟩, fun y => absurd y (by decide), fun _ => ?_⟩) (fun z => ⟨_, rfl, ⟨by decide, by decide⟩, fun _ => rest x x0' x1' (fun l => ?_), fun y => absurd rfl y⟩)
    · have hv0 : mf_val u (mq_V w0) (e.1 / 13 % 13) (e.1 % 13) (mq_t (w 23 r 0) r (e.1 % 13) (w 21 14 0) (w 21 15 0)) ≠ 0 := by
        rw [← eV]
        exact (mf_val_nz hOw.2.2.1.rv).mpr (by rw [hOw.2.2.1.nz]; exact z)
      have hcut := mq_t_cut (l := w 23 r 0) hr hat
      have hin : mq_t (w 23 r 0) r (e.1 % 13) (w 21 14 0) (w 21 15 0) ∈ mf_ways u (mq_V w0) (e.1 / 169) (e.1 / 13 % 13) (e.1 % 13) := (mf_mem hG0.1.1 (by omega)).mpr ⟨hcut.1, by rw [mq_t_r]; exact hlr, hcut.2.1, hcut.2.2.1, hcut.2.2.2, hv0⟩
      have hvv := hval _ hin
      have hh := (mq_hd_len (u := u) (V := mq_V w0) (i := e.1 / 13 % 13) (j := e.1 % 13) (t := mq_t (w 23 r 0) r (e.1 % 13) (w 21 14 0) (w 21 15 0))).1 hv0
      refine c_M_byWay (d := d + 1) hn hOw.1 hOw.2.2.1 hr (by omega) (by omega) hat z ⟨_, rfl, ?_⟩
      rw [eV]
      refine ⟨⟨by omega, by omega⟩, ⟨by omega, by omega⟩, fun q1 => ?_, fun q1 => ?_⟩
      · have hrem : mq_rem u (mq_V w0) (e.1 / 13 % 13) (e.1 % 13) (w 23 r 0) r (w 21 14 0) (w 21 15 0) = mq_hd u (mq_V w0) (e.1 / 13 % 13) (e.1 % 13) (mq_t (w 23 r 0) r (e.1 % 13) (w 21 14 0) (w 21 15 0)) ++ (mq_rem u (mq_V w0) (e.1 / 13 % 13) (e.1 % 13) (w 23 r 0) r (w 21 14 0) (w 21 15 0)).tail := by
          have hl := (hOw.1.2.2.2.2.2.1 r hr.1 hr.2).2
          have hat' := hat
          unfold mq_at at hat'
          rw [hh]
          have h1 : ∃ l, mq_rem u (mq_V w0) (e.1 / 13 % 13) (e.1 % 13) (w 23 r 0) r (w 21 14 0) (w 21 15 0) = mq_hd u (mq_V w0) (e.1 / 13 % 13) (e.1 % 13) (mq_t (w 23 r 0) r (e.1 % 13) (w 21 14 0) (w 21 15 0)) ++ l := by
            by_cases c3 : w 23 r 0 = 3
            · rw [c3]
              by_cases c2 : w 21 15 0 < e.1 % 13
              · exact ⟨_, mq_rem_3a c2⟩
              · have e15 : w 21 15 0 = e.1 % 13 := by omega
                rw [e15]
                by_cases c1 : w 21 14 0 < e.1 % 13
                · exact ⟨_, mq_rem_3b c1⟩
                · have e14 : w 21 14 0 = e.1 % 13 := by omega
                  rw [e14]
                  exact ⟨[], by rw [List.append_nil]; exact mq_rem_3c⟩
            · by_cases c2 : w 23 r 0 = 2
              · rw [c2]
                by_cases c1 : w 21 14 0 < e.1 % 13
                · exact ⟨_, mq_rem_2a hrv ((hl.2 2 (by decide) (by decide)).2 (by omega)) c1⟩
                · have e14 : w 21 14 0 = e.1 % 13 := by omega
                  rw [e14]
                  exact ⟨[], by rw [List.append_nil]; exact mq_rem_2c⟩
              · have hlt : w 23 r 0 < 2 := by have := hl.1; omega
                exact ⟨[], by rw [List.append_nil]; exact mq_rem_1 hrv (by omega) hlt ((hl.2 1 (by decide) (by decide)).2 (by omega)) ((hl.2 2 (by decide) (by decide)).2 (by omega))⟩
          obtain ⟨l, hl2⟩ := h1
          rw [hl2, hh]
          rfl
        rw [hrem, hh] at hpk
        have hpk2 : mt_pick (mf_val u (mq_V w0) (e.1 / 13 % 13) (e.1 % 13)) (mq_t (w 23 r 0) r (e.1 % 13) (w 21 14 0) (w 21 15 0) :: ((mq_rem u (mq_V w0) (e.1 / 13 % 13) (e.1 % 13) (w 23 r 0) r (w 21 14 0) (w 21 15 0)).tail ++ R)) x = some (q, k') := hpk
        simp only [mt_pick] at hpk2
        rw [if_pos q1] at hpk2
        have e0 := Option.some.inj hpk2
        have eq1 : mq_t (w 23 r 0) r (e.1 % 13) (w 21 14 0) (w 21 15 0) = q := congrArg Prod.fst e0
        have eq2 : x = k' := congrArg Prod.snd e0
        have er : q.1 = r := by rw [← eq1]; exact mq_t_r
        have hl := (hOw.1.2.2.2.2.2.1 r hr.1 hr.2).2
        have e23 : w 23 r 0 = w0 23 r 0 := hI.1 23 r 0 (fun z => by omega) (by decide) (by decide)
        refine v_Mo_comeAll_0 (d := d + 1) hn ⟨hr.1, by omega, ?_⟩
        refine c_M_comeAll_14 (d := d + 1) hn hO hr (by omega) (by omega) er (by rw [← eq1]; exact hcut) (by rw [← eq1]; exact hP _ hin) (F := mt_ps u (mq_V w0) (e.1 / 13 % 13) (e.1 % 13) q 3 k' st) (fun w' I' => ⟨rfl, by rw [← er]; exact h w' I'⟩) (w 23 r 0).toNat x _ st w (by omega) (by omega) x0' x1' (by omega) hI eq1.symm ?_
        rw [eq2]
        have := mt_ps_skip (u := u) (V := mq_V w0) (i := e.1 / 13 % 13) (j := e.1 % 13) (q := q) (p := (w 23 r 0).toNat) (3 - (w 23 r 0).toNat) k' st (fun p' a b => by rw [er]; exact (hl.2 (p' : Int) (by omega) (by omega)).2 (by omega))
        rw [show (w 23 r 0).toNat + (3 - (w 23 r 0).toNat) = 3 by have := hl.1; omega] at this
        exact this.symm
      · refine rest (x - mf_val u (mq_V w0) (e.1 / 13 % 13) (e.1 % 13) (mq_t (w 23 r 0) r (e.1 % 13) (w 21 14 0) (w 21 15 0))) (by omega) (by omega) (fun l => ?_)
        rw [hh]
        show mt_pick _ (_ :: l) x = _
        simp only [mt_pick]
        rw [if_neg q1]
    · have hv0 : ¬ mf_val u (mq_V w0) (e.1 / 13 % 13) (e.1 % 13) (mq_t (w 23 r 0) r (e.1 % 13) (w 21 14 0) (w 21 15 0)) ≠ 0 := fun y => z (by
        rw [← eV] at y
        have := (mf_val_nz hOw.2.2.1.rv).mp y
        rw [hOw.2.2.1.nz] at this
        exact this)
      rw [mq_hd_len.2 hv0]
      rfl
theorem c_M_takeRoot_29 (hn : 33 ≤ nn) (hO : mq_OK u n w0) {e : Int × Int} {st : List (Int × Int)} (hv : mf_vc n e.1) (hst : st.length ≤ 130) {q : Int × Int × Int} {k' x0 : Int}
    (hval : ∀ q, q ∈ mf_ways u (mq_V w0) (e.1 / 169) (e.1 / 13 % 13) (e.1 % 13) → 0 < mf_val u (mq_V w0) (e.1 / 13 % 13) (e.1 % 13) q ∧ mf_val u (mq_V w0) (e.1 / 13 % 13) (e.1 % 13) q < 1000000000000)
    (hP : ∀ q, q ∈ mf_ways u (mq_V w0) (e.1 / 169) (e.1 / 13 % 13) (e.1 % 13) → ∀ p : Nat, p < 3 → 0 ≤ u 3 ((q.1 + 1) * 4 + (p : Int)) 0 → u 3 ((q.1 + 1) * 4 + (p : Int)) 0 < 5 → 0 < mq_V w0 (u 3 ((q.1 + 1) * 4 + (p : Int)) 0) (mf_cu (e.1 / 13 % 13) (e.1 % 13) q (p : Int)) (mf_cu (e.1 / 13 % 13) (e.1 % 13) q ((p : Int) + 1)) ∧ mq_V w0 (u 3 ((q.1 + 1) * 4 + (p : Int)) 0) (mf_cu (e.1 / 13 % 13) (e.1 % 13) q (p : Int)) (mf_cu (e.1 / 13 % 13) (e.1 % 13) q ((p : Int) + 1)) < 1000000000000)
    (h : ∀ w', mr_I w0 w' (mt_ps u (mq_V w0) (e.1 / 13 % 13) (e.1 % 13) q 3 k' st) → Post (some (.inl q.1)) w') :
    ∀ (m : Nat) (w : mj_w) (x : Int), (m : Int) ≤ u 1 0 0 → mr_I w0 w st → 0 ≤ x → x < 1000000000000 → mt_pick (mf_val u (mq_V w0) (e.1 / 13 % 13) (e.1 % 13)) (mf_rl u (mq_V w0) (e.1 / 169) (e.1 / 13 % 13) (e.1 % 13) m) x = some (q, k') →
    mj_J g y_Mo_takeRoot (d + 3) 0 0 (29, [some (mj_R 21), some (.inl e.1), some (.inr (.inl x0)), none, some (.inl (e.1 / 169)), some (.inl (e.1 / 13 % 13)), some (.inl (e.1 % 13)), some (.inr (.inl x)), none, some (.inl (u 1 0 0 - (m : Int))), none, none, none], [], mj_mem nn xs w) (mj_P nn xs Post) := by
  intro m
  have hcnt := hO.1.1.1
  have hn12 := hO.1.2.1
  have hv' := hv
  unfold mf_vc at hv'
  induction m with
  | zero =>
    intro w x hm hI x0' x1' hpk
    simp [mf_rl, mt_pick] at hpk
  | succ m ih =>
    intro w x hm hI x0' x1' hpk
    have hBw := (hI.OK hO).1
    have e2 : w 21 2 0 = u 1 0 0 := hBw.2.2.2.1
    have er : u 1 0 0 - ((m + 1 : Nat) : Int) = u 1 0 0 - ((m : Int) + 1) := by omega
    rw [er]
    have hrr : 0 ≤ u 1 0 0 - ((m : Int) + 1) ∧ u 1 0 0 - ((m : Int) + 1) < u 1 0 0 := by omega
    have e22 : w 22 (u 1 0 0 - ((m : Int) + 1)) 0 = u 2 (u 1 0 0 - ((m : Int) + 1)) 0 := (hBw.2.2.2.2.2.1 _ hrr.1 hrr.2).1
    have hl := hO.1.1.2.1 _ hrr.1 hrr.2
    have enx : u 1 0 0 - ((m : Int) + 1) + 1 = u 1 0 0 - (m : Int) := by omega
    have hlist : mf_rl u (mq_V w0) (e.1 / 169) (e.1 / 13 % 13) (e.1 % 13) (m + 1) = (if u 2 (u 1 0 0 - ((m : Int) + 1)) 0 = e.1 / 169 then mf_out u (mq_V w0) (u 1 0 0 - ((m : Int) + 1)) (e.1 / 13 % 13) (e.1 % 13) (e.1 % 13 - e.1 / 13 % 13 + 1).toNat else []) ++ mf_rl u (mq_V w0) (e.1 / 169) (e.1 / 13 % 13) (e.1 % 13) m := rfl
    rw [hlist] at hpk
    refine v_Mo_takeRoot_29 (d := d + 2) hn ⟨⟨by omega, by omega⟩, ⟨by omega, by omega⟩, fun q => ⟨by omega, by omega, by rw [e22]; exact ⟨by omega, by omega⟩, ⟨by omega, by omega⟩, fun q1 => ?_, fun q1 => ?_⟩, fun q => by omega⟩
    · rw [e22] at q1
      rw [if_pos q1] at hpk
      refine c_M_firstCuts hn (fun w1 f1 e14 e15 => ⟨rfl, ?_⟩)
      refine c_M_takeRoot_63 (d := d) hn hO hv hst hrr q1 (R := mf_rl u (mq_V w0) (e.1 / 169) (e.1 / 13 % 13) (e.1 % 13) m) hval hP h (fun w' x' I' a b hp' => by rw [enx]; exact ih w' x' (by omega) I' a b hp') _ w1 x (hI.cf f1) (by unfold mq_at; omega) rfl x0' x1' ?_
      rw [e14, e15, mq_rem_first (by omega)]
      exact hpk
    · rw [e22] at q1
      rw [if_neg q1, List.nil_append] at hpk
      refine c_M_firstCuts hn (fun w1 f1 e14 e15 => ⟨rfl, ?_⟩)
      refine v_Mo_takeRoot_63 (d := d + 2) hn ⟨⟨by decide, by decide⟩, fun _ => ?_, fun z => absurd rfl z⟩
      rw [enx]
      exact ih w1 x (by omega) (hI.cf f1) x0' x1' hpk
theorem c_M_takeRoot (hn : 33 ≤ nn) (hO : mq_OK u n w0) {e : Int × Int} {st : List (Int × Int)} (hv : mf_vc n e.1) (hst : st.length ≤ 130) {q : Int × Int × Int} {k' : Int}
    (hval : ∀ q, q ∈ mf_ways u (mq_V w0) (e.1 / 169) (e.1 / 13 % 13) (e.1 % 13) → 0 < mf_val u (mq_V w0) (e.1 / 13 % 13) (e.1 % 13) q ∧ mf_val u (mq_V w0) (e.1 / 13 % 13) (e.1 % 13) q < 1000000000000)
    (hP : ∀ q, q ∈ mf_ways u (mq_V w0) (e.1 / 169) (e.1 / 13 % 13) (e.1 % 13) → ∀ p : Nat, p < 3 → 0 ≤ u 3 ((q.1 + 1) * 4 + (p : Int)) 0 → u 3 ((q.1 + 1) * 4 + (p : Int)) 0 < 5 → 0 < mq_V w0 (u 3 ((q.1 + 1) * 4 + (p : Int)) 0) (mf_cu (e.1 / 13 % 13) (e.1 % 13) q (p : Int)) (mf_cu (e.1 / 13 % 13) (e.1 % 13) q ((p : Int) + 1)) ∧ mq_V w0 (u 3 ((q.1 + 1) * 4 + (p : Int)) 0) (mf_cu (e.1 / 13 % 13) (e.1 % 13) q (p : Int)) (mf_cu (e.1 / 13 % 13) (e.1 % 13) q ((p : Int) + 1)) < 1000000000000)
    (hI : mr_I w0 w st) (k0 : 0 ≤ e.2) (k1 : e.2 < 1000000000000) (hpk : mt_pick (mf_val u (mq_V w0) (e.1 / 13 % 13) (e.1 % 13)) (mf_ways u (mq_V w0) (e.1 / 169) (e.1 / 13 % 13) (e.1 % 13)) e.2 = some (q, k'))
    (h : ∀ w', mr_I w0 w' (mt_ps u (mq_V w0) (e.1 / 13 % 13) (e.1 % 13) q 3 k' st) → Post (some (.inl q.1)) w') :
    mj_J g y_Mo_takeRoot (d + 3) 0 0 (0, [some (mj_R 21), some (.inl e.1), some (.inr (.inl e.2)), none, none, none, none, none, none, none, none, none, none], [], mj_mem nn xs w) (mj_P nn xs Post) := by
  have hcnt := hO.1.1.1
  have hv' := hv
  unfold mf_vc at hv'
  have := c_M_takeRoot_29 (d := d) (g := g) (xs := xs) (Post := Post) (x0 := e.2) hn hO hv hst hval hP h (u 1 0 0).toNat w e.2 (by omega) hI k0 k1 hpk
  rw [show u 1 0 0 - (((u 1 0 0).toNat : Nat) : Int) = 0 by omega] at this
  refine v_Mo_takeRoot_0 (d := d + 2) hn ⟨⟨by omega, by omega⟩, by omega, ⟨by omega, by omega⟩, by omega, ?_⟩
  rw [show e.1 % 169 / 13 = e.1 / 13 % 13 by omega]
  exact this
theorem c_M_tree_82 (hn : 33 ≤ nn) (hO : mq_OK u n w0) (h10 : w0 21 1 0 = 0) {p k x X : Int} (hp : mj_i p)
    (h0 : ∀ w' st, mr_I w0 w' st → X ≠ -1 → Post (some (.inl X)) w') (h1 : ∀ w1 w' st, mr_I w0 w1 st → mm_rf 1 w1 w' → X = -1 → Post (some (.inl 0)) w') :
    ∀ (φ F : Nat) (l6 : Int) (st : List (Int × Int)) (w : mj_w), 0 ≤ l6 → l6 ≤ p → mt_SV u (mq_V w0) n st φ → φ < F → mr_I w0 w st → mt_go u (mq_V w0) F st (p - l6) = X →
    mj_J g y_Mo_tree (d + 6) 0 0 (82, [some (mj_R 21), some (.inr (.inl k)), none, some (.inl p), some (.inr (.inl x)), none, some (.inl l6), none], [], mj_mem nn xs w) (mj_P nn xs Post) := by
  intro φ
  have hrv := hO.2.2.1.rv
  have hG0 := hO.1.1
  have hn12 := hO.1.2.1
  have hT := hO.2.2.2.1
  induction φ using Nat.strongRecOn with
  | ind φ ih =>
    intro F l6 st w l0 l1 hs hF hI hX
    have hls := mt_SV_len hs
    have hmi : mj_i (w 21 18 0) := by rw [hI.2.1]; exact ⟨by omega, by omega⟩
    cases F with
    | zero => omega
    | succ F =>
    refine v_Mo_tree_82 (d := d + 5) hn ⟨hmi, fun z => ?_, fun z => ?_⟩
    · cases st with
      | nil => rw [hI.2.1] at z; exact absurd z (by simp)
      | cons e st =>
        obtain ⟨a1', a2, a3, a4, a5, a6⟩ := mt_SV_step hG0 hrv hn12 hT hs
        obtain ⟨q, k', b1, b2, b3, b4⟩ := mt_pick_some _ _ _ a1'.2.1 a5
        rintro w3 rfl
        have e6 : w 21 18 0 - 1 = (st.length : Int) := by rw [hI.2.1, List.length_cons]; omega
        have en : ∀ (p : Nat) (a b : Int), ¬ (p = 21 ∧ a = 18 ∧ b = 0) → mj_wu w 21 18 0 (w 21 18 0 - 1) p a b = w p a b := fun p a b hz => mj_wu_n hz
        have e65 : mj_wu w 21 18 0 (w 21 18 0 - 1) 21 18 0 = (st.length : Int) := by rw [← e6]; unfold mj_wu; simp
        have e31 : mj_wu w 21 18 0 (w 21 18 0 - 1) 31 (st.length : Int) 0 = e.1 := (en 31 _ _ (fun z => by cases z.1)).trans hI.2.2.1
        have e32 : mj_wu w 21 18 0 (w 21 18 0 - 1) 32 (st.length : Int) 0 = e.2 := (en 32 _ _ (fun z => by cases z.1)).trans hI.2.2.2.1
        rw [e65]
        have I3 : mr_I w0 (mj_wu w 21 18 0 (w 21 18 0 - 1)) st := ⟨fun p a b z1 z2 z3 => (en p a b (fun z => z1 (by omega))).trans (hI.1 p a b z1 z2 z3), e65, mt_rep_congr st (fun m _ _ => ⟨en 31 m 0 (fun z => by cases z.1), en 32 m 0 (fun z => by cases z.1)⟩) hI.2.2.2.2⟩
        refine ⟨by omega, by omega, ?_⟩
        rw [e31, e32]
        simp only [mt_go] at hX
        rw [b1] at hX
        have hX' : (if p - l6 = 0 then q.1 else mt_go u (mq_V w0) F (mt_ps u (mq_V w0) (e.1 / 13 % 13) (e.1 % 13) q 3 k' st) (p - l6 - 1)) = X := hX
        have hvc := a1'.1
        unfold mf_vc at hvc
        have hqr := ((mf_mem hG0.1.1 (by omega)).mp b2).1
        refine c_M_takeRoot (d := d + 2) hn hO a1'.1 a2 a4 (fun q hq => (a6 q hq).1) I3 a1'.2.1 (by have := a1'.2.2; omega) b1 (fun w7 I7 => ⟨_, rfl, ⟨by have := hp.2; omega, by have := hp.2; omega⟩, hp, fun q1 => ?_, fun q1 => ?_⟩)
        · rw [if_pos (by omega)] at hX'
          rw [hX']
          exact h0 w7 _ I7 (by omega)
        · rw [if_neg (by omega)] at hX'
          exact ih (φ - 1) (by omega) F (l6 + 1) _ w7 (by omega) (by omega) ((a6 q b2).2 k' b3) (by omega) I7 (by rw [← hX', show p - (l6 + 1) = p - l6 - 1 by omega])
    · cases st with
      | nil =>
        have hX1 : (-1 : Int) = X := hX
        have rf : mm_rf (w 21 1 0) w w := ⟨fun _ _ _ _ => rfl, rfl⟩
        exact c_M_refuse hn rf (fun w' rf' => ⟨_, rfl, h1 w w' [] hI rf' hX1.symm⟩)
      | cons e st => rw [hI.2.1, List.length_cons] at z; omega
theorem c_M_tree (hn : 33 ≤ nn) (hK : mq_KI u n w) {k p : Int} (hk : mj_l k) (hp : mj_i p)
    (h : ∀ w', mq_k w w' → w' 21 9 0 = 1 → mq_OK u n w' → (mt_ans u (mq_V w') n k p = -1 → w' 21 1 0 = 1 → Post (some (.inl 0)) w') ∧ (mt_ans u (mq_V w') n k p ≠ -1 → w' 21 1 0 = 0 → Post (some (.inl (mt_ans u (mq_V w') n k p))) w')) :
    mj_J g y_Mo_tree (d + 6) 0 0 (0, [some (mj_R 21), some (.inr (.inl k)), none, some (.inl p), none, none, none, none], [], mj_mem nn xs w) (mj_P nn xs Post) := by
  refine v_Mo_tree_0 (d := d + 5) hn ?_
  rintro w1 rfl
  have rf := mm_rf_wu w 0
  generalize mj_wu w 21 1 0 0 = w1 at *
  have K1 : mq_KI u n w1 := hK.same (fun p a b hp => rf.1 p a b (fun z => by omega))
  have hn12 := K1.1.2.1
  refine c_M_work (d := d) hn K1 (fun w3 f3 e9 O3 => ⟨rfl, ?_⟩)
  have e6 : w3 21 6 0 = n := O3.1.2.2.2.2.1
  rw [e6]
  have k3 : mq_k w w3 := fun p a b z1 z2 => (f3 p a b (fun z => z1 (by omega)) (fun z => z2 (by omega))).trans (rf.1 p a b (fun z => z1 (by omega)))
  have e1 : w3 21 1 0 = 0 := (f3 21 1 0 (fun z => by omega) (by decide)).trans rf.2
  have hrv := O3.2.2.1.rv 0 0 n
  have bad : ¬ ((0 ≤ k ∧ k < mq_V w3 0 0 n) ∧ mq_V w3 0 0 n < 1000000000000 ∧ 0 ≤ p) → mj_J g y_Mo_refuse (d + 5) 0 0 (0, [some (mj_R 21), some (.inl 1)], [], mj_mem nn xs w3) (mj_P nn xs (fun v w9 => ∃ x10 : Int, v = some (.inl x10) ∧ (Post (some (.inl x10)) w9))) := fun z => by
    have rf3 : mm_rf (w3 21 1 0) w3 w3 := ⟨fun _ _ _ _ => rfl, rfl⟩
    refine c_M_refuse hn rf3 (fun w' rf' => ⟨_, rfl, ?_⟩)
    have O' : mq_OK u n w' := O3.same (fun p a b hp => rf'.1 p a b (fun z => by omega))
    have eV : mq_V w' = mq_V w3 := by
      funext s a b
      unfold mq_V
      rw [rf'.1 27 _ _ (fun z => by cases z.1), rf'.1 28 _ _ (fun z => by cases z.1), rf'.1 29 _ _ (fun z => by cases z.1)]
    refine (h w' (k3.trans (fun p a b z1 z2 => rf'.1 p a b (fun z => z1 (by omega)))) ((rf'.1 21 9 0 (fun z => by omega)).trans e9) O').1 ?_ rf'.2
    unfold mt_ans
    rw [eV, if_neg z]
  refine c_M_treesOf (d := d + 4) hn O3 (by decide) (by decide) hn12.1 (Int.le_refl _) ⟨_, rfl, by rcases hrv with z | z <;> exact ⟨by omega, by omega⟩, fun q0 => bad (by omega), fun q0 => ⟨fun q1 => ⟨hk, fun q2 => bad (by omega), fun q2 => ⟨fun q3 => ⟨hp, fun q4 => bad (by omega), fun q4 => ?_⟩, fun q3 => bad (by omega)⟩⟩, fun q1 => bad (by omega)⟩⟩
  rintro w21 rfl
  have en : ∀ (p : Nat) (a b : Int), ¬ (p = 21 ∧ a = 18 ∧ b = 0) → mj_wu w3 21 18 0 0 p a b = w3 p a b := fun p a b hz => mj_wu_n hz
  have e18 : mj_wu w3 21 18 0 0 21 18 0 = 0 := by unfold mj_wu; simp
  generalize mj_wu w3 21 18 0 0 = w21 at *
  have O21 : mq_OK u n w21 := O3.same (fun p a b hp => en p a b (fun z => by omega))
  have eV21 : mq_V w21 = mq_V w3 := by
    funext s a b
    unfold mq_V
    rw [en 27 _ _ (fun z => by cases z.1), en 28 _ _ (fun z => by cases z.1), en 29 _ _ (fun z => by cases z.1)]
  have k21 : mq_k w w21 := k3.trans (fun p a b z1 z2 => en p a b (fun z => z1 (by omega)))
  have e1' : w21 21 1 0 = 0 := (en 21 1 0 (fun z => by omega)).trans e1
  have e9' : w21 21 9 0 = 1 := (en 21 9 0 (fun z => by omega)).trans e9
  rw [show w21 21 6 0 = n from O21.1.2.2.2.2.1]
  refine c_M_node hn ⟨_, rfl, ?_⟩
  rw [show 169 * (0 : Int) + 13 * 0 + n = n by omega]
  have I21 : mr_I w21 w21 [] := ⟨fun _ _ _ _ _ _ => rfl, e18, trivial⟩
  refine c_M_come hn I21 (by decide) (fun w25 I25 _ => ⟨rfl, ?_⟩)
  have hT21 := O21.2.2.2.1 0 n (by decide) hn12.1 (Int.le_refl _)
  have ea : ∀ w', mq_V w' = mq_V w21 → mt_ans u (mq_V w') n k p = mt_go u (mq_V w21) 1000000 [(n, k)] p := fun w' eV => by
    unfold mt_ans
    rw [eV, eV21, if_pos ⟨⟨by omega, q3⟩, q1, by omega⟩]
  refine c_M_tree_82 (X := mt_go u (mq_V w21) 1000000 [(n, k)] p) hn O21 e1' hp (fun w' st I' hX => ?_) (fun w2 w' st I2 rf' hX => ?_) 999999 1000000 0 [(n, k)] w25 (by decide) (by omega) (mt_SV_root O21.1.1 hn12 hT21 (by omega) (by rw [eV21]; exact q3) (by rw [eV21]; exact q1)) (by decide) I25 (by rw [Int.sub_zero])
  · have O' := I'.OK O21
    have hh := h w' (k21.trans (fun p a b z1 z2 => I'.1 p a b (fun z => z1 (by omega)) (fun z => z2 (by omega)) (fun z => z2 (by omega)))) ((I'.1 21 9 0 (fun z => by omega) (by decide) (by decide)).trans e9') O'
    rw [ea w' I'.V] at hh
    exact hh.2 hX ((I'.1 21 1 0 (fun z => by omega) (by decide) (by decide)).trans e1')
  · have O2 := I2.OK O21
    have O' : mq_OK u n w' := O2.same (fun p a b hp => rf'.1 p a b (fun z => by omega))
    have eV : mq_V w' = mq_V w21 := by
      rw [← I2.V]
      funext s a b
      unfold mq_V
      rw [rf'.1 27 _ _ (fun z => by cases z.1), rf'.1 28 _ _ (fun z => by cases z.1), rf'.1 29 _ _ (fun z => by cases z.1)]
    have hh := h w' ((k21.trans (fun p a b z1 z2 => I2.1 p a b (fun z => z1 (by omega)) (fun z => z2 (by omega)) (fun z => z2 (by omega)))).trans (fun p a b z1 z2 => rf'.1 p a b (fun z => z1 (by omega)))) ((rf'.1 21 9 0 (fun z => by omega)).trans ((I2.1 21 9 0 (fun z => by omega) (by decide) (by decide)).trans e9')) O'
    rw [ea w' eV] at hh
    exact hh.1 hX rf'.2
end C86
