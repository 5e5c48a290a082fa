/-! ===== the class: tree ===== -/
theorem mt_pick_mem {f : Int × Int × Int → Int} : ∀ {L : List (Int × Int × Int)} {k : Int} {q : Int × Int × Int} {k' : Int}, mt_pick f L k = some (q, k') → q ∈ L
  | [], _, _, _, h => by simp [mt_pick] at h
  | x :: R, k, q, k', h => by
    simp only [mt_pick] at h
    split at h
    · have e := congrArg Prod.fst (Option.some.inj h)
      have e2 : x = q := e
      rw [← e2]; exact List.mem_cons_self ..
    · exact List.mem_cons_of_mem _ (mt_pick_mem h)
theorem mt_pick_congr {f f' : Int × Int × Int → Int} : ∀ (L : List (Int × Int × Int)) (k : Int), (∀ q ∈ L, f q = f' q) → mt_pick f L k = mt_pick f' L k
  | [], _, _ => rfl
  | x :: R, k, h => by
    simp only [mt_pick]
    rw [h x (List.mem_cons_self ..), mt_pick_congr R _ (fun q hq => h q (List.mem_cons_of_mem _ hq))]
theorem mt_ps_congr {u u' : mj_w} {V V' : Int → Int → Int → Int} {n i j : Int} {q : Int × Int × Int} (hn : n ≤ 12) (hi : 0 ≤ i) (hj : j ≤ n) (hq : i ≤ q.2.1 ∧ q.2.1 ≤ q.2.2 ∧ q.2.2 ≤ j) (e3 : ∀ k : Int, 0 ≤ k → k < 3 → u' 3 ((q.1 + 1) * 4 + k) 0 = u 3 ((q.1 + 1) * 4 + k) 0) (hV : ∀ s a b : Int, 0 ≤ s → s < 5 → 0 ≤ a → a ≤ b → b ≤ n → V' s a b = V s a b) : ∀ (p : Nat) (k : Int) (st : List (Int × Int)), p ≤ 3 → (∀ e ∈ st, mf_vc n e.1) → mt_ps u V i j q p k st = mt_ps u' V' i j q p k st ∧ ∀ e ∈ mt_ps u V i j q p k st, mf_vc n e.1
  | 0, _, _, _, hs => ⟨rfl, hs⟩
  | p + 1, k, st, hp, hs => by
    have hcu := mf_cu_le (k := (p : Int)) hq (by omega) (by omega)
    simp only [mt_ps]
    rw [e3 (p : Int) (by omega) (by omega)]
    by_cases qn : 0 ≤ u 3 ((q.1 + 1) * 4 + (p : Int)) 0 ∧ u 3 ((q.1 + 1) * 4 + (p : Int)) 0 < 5
    · rw [if_pos qn, if_pos qn, hV _ _ _ qn.1 qn.2 (by omega) hcu.2.1 (by omega)]
      refine mt_ps_congr hn hi hj hq e3 hV p _ _ (by omega) (fun e he => ?_)
      rcases List.mem_cons.mp he with z | z
      · rw [z]; exact (mf_vc_of hn qn (by omega) hcu.2.1 (by omega)).1
      · exact hs e z
    · rw [if_neg qn, if_neg qn]
      exact mt_ps_congr hn hi hj hq e3 hV p _ _ (by omega) hs
theorem mt_go_congr {u u' : mj_w} {V V' : Int → Int → Int → Int} {n : Int} (hG : mj_GI u) (hn : 0 ≤ n ∧ n ≤ 12) (hsg : mf_sg u u' 0 n) (hV : ∀ s a b : Int, 0 ≤ s → s < 5 → 0 ≤ a → a ≤ b → b ≤ n → V' s a b = V s a b) : ∀ (F : Nat) (st : List (Int × Int)) (p : Int), (∀ e ∈ st, mf_vc n e.1) → mt_go u V F st p = mt_go u' V' F st p
  | 0, _, _, _ => rfl
  | F + 1, [], _, _ => rfl
  | F + 1, e :: st, p, hs => by
    have hv := hs e (List.mem_cons_self ..)
    unfold mf_vc at hv
    have hsg2 : mf_sg u u' (e.1 / 13 % 13) (e.1 % 13) := ⟨hsg.1, hsg.2.1, fun a a0 a1 => hsg.2.2 a (by omega) (by omega)⟩
    have ev : ∀ q, mf_cut u (e.1 / 13 % 13) (e.1 % 13) q → mf_val u V (e.1 / 13 % 13) (e.1 % 13) q = mf_val u' V' (e.1 / 13 % 13) (e.1 % 13) q := fun q hc => mf_val_agree hG hsg2 hc (fun s a b s0 s1 a0 ab b1 => (hV s a b s0 s1 (by omega) ab (by omega)).symm)
    have ew : mf_ways u V (e.1 / 169) (e.1 / 13 % 13) (e.1 % 13) = mf_ways u' V' (e.1 / 169) (e.1 / 13 % 13) (e.1 % 13) := mf_ways_congr hG.1.1 (by omega) hsg2 (fun q hc _ => by rw [ev q hc])
    have hcut : ∀ q ∈ mf_ways u V (e.1 / 169) (e.1 / 13 % 13) (e.1 % 13), mf_cut u (e.1 / 13 % 13) (e.1 % 13) q := fun q hq => by
      obtain ⟨m1, m2, m3, m4, m5, m6⟩ := (mf_mem hG.1.1 (by omega)).mp hq
      exact ⟨m1, m3, m4, m5⟩
    have ep := mt_pick_congr (f := mf_val u V (e.1 / 13 % 13) (e.1 % 13)) (f' := mf_val u' V' (e.1 / 13 % 13) (e.1 % 13)) (mf_ways u V (e.1 / 169) (e.1 / 13 % 13) (e.1 % 13)) e.2 (fun q hq => ev q (hcut q hq))
    simp only [mt_go]
    rw [← ew, ← ep]
    cases hp : mt_pick (mf_val u V (e.1 / 13 % 13) (e.1 % 13)) (mf_ways u V (e.1 / 169) (e.1 / 13 % 13) (e.1 % 13)) e.2 with
    | none => rfl
    | some qk =>
      show (if p = 0 then qk.1.1 else _) = (if p = 0 then qk.1.1 else _)
      by_cases e0 : p = 0
      · rw [if_pos e0, if_pos e0]
      · rw [if_neg e0, if_neg e0]
        have hc := hcut qk.1 (mt_pick_mem (k' := qk.2) hp)
        have h3 := mt_ps_congr hn.2 (show 0 ≤ e.1 / 13 % 13 by omega) (show e.1 % 13 ≤ n by omega) hc.2 (fun k k0 k1 => (hsg.2.1 qk.1.1 hc.1.1 hc.1.2).2 k k0 k1) hV 3 qk.2 st (Nat.le_refl _) (fun x hx => hs x (List.mem_cons_of_mem _ hx))
        rw [← h3.1]
        exact mt_go_congr hG hn hsg hV F _ _ h3.2
theorem mt_go_rng {u : mj_w} {V : Int → Int → Int → Int} {n : Int} (hG : mj_GI u) (hn : 0 ≤ n ∧ n ≤ 12) : ∀ (F : Nat) (st : List (Int × Int)) (p : Int), (∀ e ∈ st, mf_vc n e.1) → mt_go u V F st p = -1 ∨ (0 ≤ mt_go u V F st p ∧ mt_go u V F st p < 10)
  | 0, _, _, _ => Or.inl rfl
  | F + 1, [], _, _ => Or.inl rfl
  | F + 1, e :: st, p, hs => by
    have hv := hs e (List.mem_cons_self ..)
    unfold mf_vc at hv
    simp only [mt_go]
    cases hp : mt_pick (mf_val u V (e.1 / 13 % 13) (e.1 % 13)) (mf_ways u V (e.1 / 169) (e.1 / 13 % 13) (e.1 % 13)) e.2 with
    | none => exact Or.inl rfl
    | some qk =>
      obtain ⟨m1, m2, m3, m4, m5, m6⟩ := (mf_mem hG.1.1 (by omega)).mp (mt_pick_mem (k' := qk.2) hp)
      have hcnt := hG.1
      show (if p = 0 then qk.1.1 else _) = -1 ∨ _
      by_cases e0 : p = 0
      · rw [if_pos e0]
        exact Or.inr (by show 0 ≤ (if p = 0 then qk.1.1 else _) ∧ (if p = 0 then qk.1.1 else _) < 10; rw [if_pos e0]; omega)
      · have h3 := mt_ps_congr (u := u) (u' := u) (V := V) (V' := V) hn.2 (show 0 ≤ e.1 / 13 % 13 by omega) (show e.1 % 13 ≤ n by omega) ⟨m3, m4, m5⟩ (fun _ _ _ => rfl) (fun _ _ _ _ _ _ _ _ => rfl) 3 qk.2 st (Nat.le_refl _) (fun x hx => hs x (List.mem_cons_of_mem _ hx))
        have := mt_go_rng (V := V) hG hn F _ (p - 1) h3.2
        show (if p = 0 then qk.1.1 else _) = -1 ∨ (0 ≤ (if p = 0 then qk.1.1 else _) ∧ (if p = 0 then qk.1.1 else _) < 10)
        rw [if_neg e0]
        exact this
/-- the answer: the rule, or -1 -/
def mt_ans (u : mj_w) (V : Int → Int → Int → Int) (n k p : Int) : Int := if (0 ≤ k ∧ k < V 0 0 n) ∧ V 0 0 n < 1000000000000 ∧ 0 ≤ p then mt_go u V 1000000 [(n, k)] p else -1
theorem mt_root_vc {n k : Int} (hn : 0 ≤ n ∧ n ≤ 12) : ∀ e ∈ [(n, k)], mf_vc n e.1 := fun e he => by
  rw [List.mem_singleton] at he
  rw [he]
  show mf_vc n n
  unfold mf_vc
  omega
theorem mt_ans_congr {u u' : mj_w} {V V' : Int → Int → Int → Int} {n k p : Int} (hG : mj_GI u) (hn : 0 ≤ n ∧ n ≤ 12) (hsg : mf_sg u u' 0 n) (hV : ∀ s a b : Int, 0 ≤ s → s < 5 → 0 ≤ a → a ≤ b → b ≤ n → V' s a b = V s a b) : mt_ans u V n k p = mt_ans u' V' n k p := by
  unfold mt_ans
  rw [hV 0 0 n (by decide) (by decide) (by decide) hn.1 (Int.le_refl _), mt_go_congr hG hn hsg hV _ _ _ (mt_root_vc hn)]
/-- the stack as it is kept -/
def mt_rep (A B : Int → Int) : List (Int × Int) → Prop
  | [] => True
  | e :: st => A (st.length : Int) = e.1 ∧ B (st.length : Int) = e.2 ∧ mt_rep A B st
theorem mt_rep_congr {A B A' B' : Int → Int} : ∀ st : List (Int × Int), (∀ m : Int, 0 ≤ m → m < (st.length : Int) → A' m = A m ∧ B' m = B m) → mt_rep A B st → mt_rep A' B' st
  | [], _, _ => trivial
  | e :: st, h, hr => by
    have h0 := h (st.length : Int) (by omega) (by simp only [List.length_cons]; omega)
    exact ⟨h0.1.trans hr.1, h0.2.trans hr.2.1, mt_rep_congr st (fun m m0 m1 => h m m0 (by simp only [List.length_cons]; omega)) hr.2.2⟩
def mt_I (u w : mj_w) (st : List (Int × Int)) : Prop := (∀ (p : Nat) (a b : Int), (p ≤ 10 ∨ p = 13 ∨ p = 15 ∨ p = 16 ∨ 21 ≤ p ∨ (p = 11 ∧ a ≠ 6)) → w p a b = u p a b) ∧ w 11 6 0 = (st.length : Int) ∧ mt_rep (fun m => w 12 m 0) (fun m => w 14 m 0) st
theorem mt_I.fr {u w w' : mj_w} {st : List (Int × Int)} (h : mt_I u w st) (f : ∀ (p : Nat) (a b : Int), p ≠ 17 → p ≠ 18 → p ≠ 19 → p ≠ 20 → w' p a b = w p a b) : mt_I u w' st :=
  ⟨fun p a b hp => (f p a b (by omega) (by omega) (by omega) (by omega)).trans (h.1 p a b hp), (f 11 6 0 (by decide) (by decide) (by decide) (by decide)).trans h.2.1, mt_rep_congr st (fun m _ _ => ⟨f 12 m 0 (by decide) (by decide) (by decide) (by decide), f 14 m 0 (by decide) (by decide) (by decide) (by decide)⟩) h.2.2⟩
theorem mt_I.H {u w : mj_w} {st : List (Int × Int)} (h : mt_I u w st) (hH : mf_H u) : mf_H w := hH.same (fun p a b hp => h.1 p a b (by omega))
section C80
variable {g : mj_G} {nn d : Nat} {xs : mj_M} {u w : mj_w}
section
variable {Post : Option mj_V → mj_w → Prop}
theorem c_push (hn : 21 ≤ nn) {st : List (Int × Int)} (hI : mt_I u w st) (hl : st.length < 845) {c k : Int}
    (h : ∀ w', mt_I u w' ((c, k) :: st) → (∀ (p : Nat) (a b : Int), p ≠ 12 → p ≠ 14 → ¬ (p = 11 ∧ a = 6 ∧ b = 0) → w' p a b = w p a b) → Post none w') :
    mj_J g y_Fo_push d 0 0 (0, [some (mj_R 11), some (.inl c), some (.inr (.inl k)), none], [], mj_mem nn xs w) (mj_P nn xs Post) := by
  obtain ⟨i1, i2, i3⟩ := hI
  refine v_Fo_push_0 hn ⟨⟨by omega, by omega⟩, fun _ => ⟨by omega, by omega, ?_⟩, fun z => by omega⟩
  rintro w5 rfl
  have e5 : mj_wu w 12 (w 11 6 0) 0 c 11 6 0 = w 11 6 0 := mj_wu_n (fun z => by cases z.1)
  rw [e5]
  refine ⟨by omega, by omega, ?_⟩
  rintro w9 rfl w11 rfl
  have e9 : mj_wu (mj_wu w 12 (w 11 6 0) 0 c) 14 (w 11 6 0) 0 k 11 6 0 = w 11 6 0 := (mj_wu_n (fun z => by cases z.1)).trans e5
  rw [e9, i2]
  generalize hw' : mj_wu (mj_wu (mj_wu w 12 (st.length : Int) 0 c) 14 (st.length : Int) 0 k) 11 6 0 ((st.length : Int) + 1) = w'
  have f : ∀ (p : Nat) (a b : Int), ¬ (p = 12 ∧ a = (st.length : Int) ∧ b = 0) → ¬ (p = 14 ∧ a = (st.length : Int) ∧ b = 0) → ¬ (p = 11 ∧ a = 6 ∧ b = 0) → w' p a b = w p a b := fun p a b z1 z2 z3 => by
    rw [← hw']; exact (mj_wu_n z3).trans ((mj_wu_n z2).trans (mj_wu_n z1))
  have e6 : w' 11 6 0 = (st.length : Int) + 1 := by rw [← hw']; unfold mj_wu; simp
  have e12 : w' 12 (st.length : Int) 0 = c := by rw [← hw']; refine (mj_wu_n (fun z => by cases z.1)).trans ((mj_wu_n (fun z => by cases z.1)).trans ?_); unfold mj_wu; simp
  have e14 : w' 14 (st.length : Int) 0 = k := by rw [← hw']; refine (mj_wu_n (fun z => by cases z.1)).trans ?_; unfold mj_wu; simp
  refine h w' ⟨fun p a b hp => (f p a b (fun z => by omega) (fun z => by omega) (fun z => by omega)).trans (i1 p a b hp), by rw [e6, List.length_cons]; omega, e12, e14, mt_rep_congr st (fun m m0 m1 => ⟨f 12 m 0 (fun z => by omega) (fun z => by cases z.1) (fun z => by cases z.1), f 14 m 0 (fun z => by cases z.1) (fun z => by omega) (fun z => by cases z.1)⟩) i3⟩ (fun p a b z1 z2 z3 => f p a b (fun z => z1 z.1) (fun z => z2 z.1) z3)
theorem c_treesOfPart (hn : 21 ≤ nn) (hH : mf_H w) {L : List (Int × Int × Int)} {f : Int × Int × Int → Int} (ha : mf_arr w L f) {m : Nat} {q : Int × Int × Int} (hm : m < 910) (hq : L[m]? = some q) {i j : Int} (hc : mf_cut w i j q) (hi : 0 ≤ i) (hj : j ≤ w 4 0 0) {k : Int} (hk : 0 ≤ k ∧ k < 3) (ei : w 17 2 0 = i) (ej : w 17 3 0 = j) (h : Post (some (.inr (.inl (mf_ov w (mf_V w) (w 3 ((q.1 + 1) * 4 + k) 0) (mf_cu i j q k) (mf_cu i j q (k + 1)))))) w) :
    mj_J g y_Wa_treesOfPart (d + 2) 0 0 (0, [some (mj_R 17), some (.inl (m : Int)), some (.inl k)], [], mj_mem nn xs w) (mj_P nn xs Post) := by
  have hcnt := hH.1.1
  have hlen := hH.2.2.1
  obtain ⟨c1, c2, c3, c4⟩ := hc
  have hcu := mf_cu_le (k := k) (q := q) (i := i) (j := j) ⟨c2, c3, c4⟩ hk.1 hk.2
  have g4 := hH.1.2.2 ((q.1 + 1) * 4 + k) (by omega) (by omega)
  exact v_Wa_treesOfPart_0 (d := d + 1) hn (c_symbolOf hn ha hm hq (by omega) hk ⟨_, rfl, c_cutOf hn ha hm hq (by omega) ⟨hk.1, by omega⟩ ei ej ⟨_, rfl, c_cutOf hn ha hm hq (by omega) ⟨by omega, by omega⟩ ei ej ⟨_, rfl, c_over (d := d) hn hH ⟨g4.1, g4.2.1, g4.2.2.1⟩ (by omega) hcu.2.1 (by omega) ⟨_, rfl, h⟩⟩⟩⟩)
theorem c_pushParts_6 (hn : 21 ≤ nn) (hH : mf_H u) {L : List (Int × Int × Int)} {f : Int × Int × Int → Int} {m : Nat} {q : Int × Int × Int} (hm : m < 910) (hq : L[m]? = some q) {i j x : Int} (hc : mf_cut u i j q) (hi : 0 ≤ i) (hj : j ≤ u 4 0 0)
    (hP : ∀ p : Nat, p < 3 → 0 ≤ u 3 ((q.1 + 1) * 4 + (p : Int)) 0 → u 3 ((q.1 + 1) * 4 + (p : Int)) 0 < 5 → 0 < mf_V u (u 3 ((q.1 + 1) * 4 + (p : Int)) 0) (mf_cu i j q (p : Int)) (mf_cu i j q ((p : Int) + 1)) ∧ mf_V u (u 3 ((q.1 + 1) * 4 + (p : Int)) 0) (mf_cu i j q (p : Int)) (mf_cu i j q ((p : Int) + 1)) < 1000000000000)
    {F : List (Int × Int)} (h : ∀ w', mt_I u w' F → Post none w') :
    ∀ (p : Nat) (k l6 : Int) (st : List (Int × Int)) (w : mj_w), l6 = (p : Int) - 1 → p ≤ 3 → 0 ≤ k → k < 1000000000000 → st.length + p ≤ 134 → mt_I u w st → mf_arr w L f → w 17 2 0 = i → w 17 3 0 = j → mt_ps u (mf_V u) i j q p k st = F →
    mj_J g y_Fo_pushParts (d + 3) 0 0 (6, [some (mj_R 11), some (.inl (m : Int)), some (.inr (.inl x)), none, some (.inr (.inl k)), none, some (.inl l6), none, none], [], mj_mem nn xs w) (mj_P nn xs Post) := by
  intro p
  have hcnt := hH.1.1
  have hlen := hH.2.2.1
  induction p with
  | zero =>
    intro k l6 st w el hp k0 k1 hst hI ha ei ej hF
    exact v_Fo_pushParts_6 (d := d + 2) hn ⟨⟨by omega, by omega⟩, fun _ => h w (by rw [← hF]; exact hI), fun z => by omega⟩
  | succ p ih =>
    intro k l6 st w el hp k0 k1 hst hI ha ei ej hF
    have el' : l6 = (p : Int) := by omega
    subst el'
    have hHw := hI.H hH
    have e3 : ∀ y, w 3 y 0 = u 3 y 0 := fun y => hI.1 3 y 0 (by omega)
    have e4 : w 4 0 0 = u 4 0 0 := hI.1 4 0 0 (by omega)
    have eV : mf_V w = mf_V u := mf_V_same (fun a b => hI.1 16 a b (by omega))
    have eov : mf_ov w (mf_V w) (w 3 ((q.1 + 1) * 4 + (p : Int)) 0) (mf_cu i j q (p : Int)) (mf_cu i j q ((p : Int) + 1)) = mf_ov u (mf_V u) (u 3 ((q.1 + 1) * 4 + (p : Int)) 0) (mf_cu i j q (p : Int)) (mf_cu i j q ((p : Int) + 1)) := by
      rw [eV, e3]
      unfold mf_ov
      rw [hI.1 5 _ _ (by omega)]
    have g4 := hH.1.2.2 ((q.1 + 1) * 4 + (p : Int)) (by have := hc.1; omega) (by have := hc.1; omega)
    have hcw : mf_cut w i j q := ⟨by rw [hI.1 1 0 0 (by omega)]; exact hc.1, hc.2⟩
    have hqr : 0 ≤ q.1 ∧ q.1 < 10 := by have := hc.1; omega
    have hq3 : (0 ≤ q.2.1 ∧ q.2.1 < 13) ∧ 0 ≤ q.2.2 ∧ q.2.2 < 13 := by have := hc.2; omega
    simp only [mt_ps] at hF
    refine v_Fo_pushParts_6 (d := d + 2) hn ⟨⟨by omega, by omega⟩, fun z => by omega, fun _ => ?_⟩
    refine c_treesOfPart (d := d) hn hHw ha hm hq hcw hi (by omega) ⟨by omega, by omega⟩ ei ej ⟨_, rfl, ?_⟩
    refine c_symbolOf (d := d + 1) hn ha hm hq hqr ⟨by omega, by omega⟩ ⟨_, rfl, c_isNonterminal hn (by rw [e3]; exact ⟨by omega, by omega⟩) ⟨_, rfl, ?_⟩⟩
    rw [eov, e3]
    unfold mj_isN
    by_cases qn : 0 ≤ u 3 ((q.1 + 1) * 4 + (p : Int)) 0 ∧ u 3 ((q.1 + 1) * 4 + (p : Int)) 0 < 5
    · rw [if_pos qn] at hF ⊢
      have hv := hP p (by omega) qn.1 qn.2
      rw [mf_ov_V qn]
      refine ⟨⟨by decide, by decide⟩, fun z => absurd z (by decide), fun _ => ⟨⟨by omega, by omega⟩, fun _ => ?_, fun z => absurd hv.1 z⟩⟩
      refine c_partCell (d := d) hn ha hm hq hqr hq3 ⟨by omega, by omega⟩ ei ej ⟨_, rfl, ⟨by omega, by omega⟩, k0, hv.1, ?_⟩
      rw [e3]
      refine c_push hn hI (by omega) (fun w' I' f' => ⟨rfl, ?_⟩)
      have hdiv : k / mf_V u (u 3 ((q.1 + 1) * 4 + (p : Int)) 0) (mf_cu i j q (p : Int)) (mf_cu i j q ((p : Int) + 1)) ≤ k := Int.ediv_le_self _ k0
      refine ih _ _ _ w' (by omega) (by omega) (Int.ediv_nonneg k0 (by omega)) (by omega) (by simp only [List.length_cons]; omega) I' ?_ ?_ ?_ hF
      · have e : ∀ (p : Nat) (a b : Int), 17 ≤ p → w' p a b = w p a b := fun p a b hp => f' p a b (by omega) (by omega) (fun z => by omega)
        refine ⟨by rw [e 17 4 0 (by omega)]; exact ha.1, fun k q hq => ?_⟩
        rw [e 18 _ _ (by omega), e 19 _ _ (by omega), e 20 _ _ (by omega)]
        exact ha.2 k q hq
      · rw [f' 17 2 0 (by decide) (by decide) (fun z => by cases z.1)]; exact ei
      · rw [f' 17 3 0 (by decide) (by decide) (fun z => by cases z.1)]; exact ej
    · rw [if_neg qn] at hF ⊢
      exact ⟨⟨by decide, by decide⟩, fun _ => ih k _ st w (by omega) (by omega) k0 k1 (by omega) hI ha ei ej hF, fun z => absurd rfl z⟩
theorem c_ruleAt_76 (hn : 21 ≤ nn) (hH : mf_H u) {c : Int} (hv : mf_vc (u 4 0 0) c) {st : List (Int × Int)} (hst : st.length ≤ 130) {L : List (Int × Int × Int)} (hL : L = mf_ways u (mf_V u) (c / 169) (c / 13 % 13) (c % 13)) (hLl : L.length ≤ 910) {p l4 : Int} (hp : mj_i p) (hl4 : mj_i l4) {x k1 : Int}
    (hval : ∀ q ∈ L, 0 < mf_val u (mf_V u) (c / 13 % 13) (c % 13) q ∧ mf_val u (mf_V u) (c / 13 % 13) (c % 13) q < 1000000000000)
    (hP : ∀ q ∈ L, ∀ p : Nat, p < 3 → 0 ≤ u 3 ((q.1 + 1) * 4 + (p : Int)) 0 → u 3 ((q.1 + 1) * 4 + (p : Int)) 0 < 5 → 0 < mf_V u (u 3 ((q.1 + 1) * 4 + (p : Int)) 0) (mf_cu (c / 13 % 13) (c % 13) q (p : Int)) (mf_cu (c / 13 % 13) (c % 13) q ((p : Int) + 1)) ∧ mf_V u (u 3 ((q.1 + 1) * 4 + (p : Int)) 0) (mf_cu (c / 13 % 13) (c % 13) q (p : Int)) (mf_cu (c / 13 % 13) (c % 13) q ((p : Int) + 1)) < 1000000000000)
    {q : Int × Int × Int} {k' : Int} (hq : q ∈ L) (hk' : 0 ≤ k' ∧ k' < 1000000000000) (hI : mt_I u w st) (ha : mf_arr w L (mf_val u (mf_V u) (c / 13 % 13) (c % 13))) (ei : w 17 2 0 = c / 13 % 13) (ej : w 17 3 0 = c % 13)
    (h0 : l4 = p → Post (some (.inl q.1)) w) (h1 : l4 ≠ p → ∀ w', mt_I u w' (mt_ps u (mf_V u) (c / 13 % 13) (c % 13) q 3 k' st) → mj_J g y_Fo_ruleAt (d + 5) 0 0 (25, [some (mj_R 11), some (.inr (.inl k1)), none, some (.inl p), some (.inl (l4 + 1)), none, none, none], [], mj_mem nn xs w') (mj_P nn xs Post)) :
    ∀ (R P : List (Int × Int × Int)) (x : Int), P ++ R = L → 0 ≤ x → x < 1000000000000 → x < mt_sum (R.map (mf_val u (mf_V u) (c / 13 % 13) (c % 13))) → mt_pick (mf_val u (mf_V u) (c / 13 % 13) (c % 13)) R x = some (q, k') →
    mj_J g y_Fo_ruleAt (d + 5) 0 0 (76, [some (mj_R 11), some (.inr (.inl k1)), none, some (.inl p), some (.inl l4), some (.inr (.inl x)), none, some (.inl (P.length : Int))], [], mj_mem nn xs w) (mj_P nn xs Post) := by
  intro R
  have hvc := hv
  unfold mf_vc at hvc
  have e4 := ha.1
  have hlen := hH.2.2.1
  have cutq : mf_cut u (c / 13 % 13) (c % 13) q := by
    rw [hL] at hq
    obtain ⟨m1, m2, m3, m4, m5, m6⟩ := (mf_mem hH.1.1.1 (by omega)).mp hq
    exact ⟨m1, m3, m4, m5⟩
  have found : ∀ P R0 : List (Int × Int × Int), P ++ q :: R0 = L → mj_i l4 ∧ mj_i p ∧ (l4 = p → (Post (some (.inl (w 18 (P.length : Int) 0))) w)) ∧ (¬ l4 = p → (mj_J g y_Fo_pushParts (d + 4) 0 0 (0, [some (mj_R 11), some (.inl (P.length : Int)), some (.inr (.inl k')), none, none, none, none, none, none], [], mj_mem nn xs w) (mj_P nn xs (fun v w12 => v = none ∧ (mj_J g y_Fo_ruleAt (d + 5) 0 0 (25, [some (mj_R 11), some (.inr (.inl k1)), none, some (.inl p), some (.inl (l4 + 1)), none, none, none], [], mj_mem nn xs w12) (mj_P nn xs Post)))))) := fun P R0 hl => by
    have hk : L[P.length]? = some q := by rw [← hl, List.getElem?_append_right (Nat.le_refl _), Nat.sub_self]; rfl
    have hlen2 : P.length + (R0.length + 1) = L.length := by rw [← hl, List.length_append, List.length_cons]
    refine ⟨hl4, hp, fun z => ?_, fun z => ?_⟩
    · rw [(ha.2 _ _ hk).1]; exact h0 z
    · exact v_Fo_pushParts_0 (d := d + 3) hn (c_pushParts_6 (d := d + 1) hn hH (by omega) hk cutq (by omega) (by omega) (hP q hq) (fun w' I' => ⟨rfl, h1 z w' I'⟩) 3 k' 2 st w rfl (Nat.le_refl _) hk'.1 hk'.2 (by omega) hI ha ei ej rfl)
  induction R with
  | nil =>
    intro P x hl x0 x1 x2 hp
    simp [mt_pick] at hp
  | cons q0 R ih =>
    intro P x hl x0 x1 x2 hpk
    have hk : L[P.length]? = some q0 := by rw [← hl, List.getElem?_append_right (Nat.le_refl _), Nat.sub_self]; rfl
    have hlen2 : P.length + (R.length + 1) = L.length := by rw [← hl, List.length_append, List.length_cons]
    have hq0 : q0 ∈ L := List.mem_of_getElem? hk
    have hv0 := hval q0 hq0
    have t3 := (ha.2 _ _ hk).2.2
    simp only [List.map_cons, mt_sum] at x2
    simp only [mt_pick] at hpk
    refine v_Fo_ruleAt_76 (d := d + 4) hn ⟨⟨by omega, by omega⟩, ⟨by omega, by omega⟩, fun z => ⟨by omega, by omega, ⟨by omega, by omega⟩, by rw [t3]; exact ⟨by omega, by omega⟩, fun z1 => ?_, fun z1 => ?_⟩, fun z => ?_⟩
    · rw [t3] at z1
      rw [if_pos z1] at hpk
      have e := Option.some.inj hpk
      have eq1 : q0 = q := congrArg Prod.fst e
      have eq2 : x = k' := congrArg Prod.snd e
      rw [eq2]
      rw [eq1] at hl
      exact found P R hl
    · rw [t3] at z1 ⊢
      rw [if_neg z1] at hpk
      have := ih (P ++ [q0]) (x - mf_val u (mf_V u) (c / 13 % 13) (c % 13) q0) (by rw [List.append_assoc]; exact hl) (by omega) (by omega) (by omega) hpk
      rw [List.length_append, List.length_singleton, show ((P.length + 1 : Nat) : Int) = (P.length : Int) + 1 by omega] at this
      exact this
    · have hR : R = [] := by
        cases R with
        | nil => rfl
        | cons a b => simp only [List.length_cons] at hlen2; omega
      subst hR
      simp only [List.map_nil, mt_sum] at x2
      rw [if_pos (by omega)] at hpk
      have e := Option.some.inj hpk
      have eq1 : q0 = q := congrArg Prod.fst e
      have eq2 : x = k' := congrArg Prod.snd e
      rw [eq2]
      rw [eq1] at hl
      obtain ⟨f1, f2, f3, f4⟩ := found P [] hl
      exact ⟨f1, f2, fun z => ⟨by omega, by omega, f3 z⟩, f4⟩
theorem c_ruleAt_25 (hn : 21 ≤ nn) (hF : mf_FI u) (hr : u 11 3 0 = u 4 0 0 + 1) {p k1 X : Int} (hp : mj_i p) (p0 : 0 ≤ p)
    (h : ∀ w' st, mt_I u w' st → Post (some (.inl X)) w') :
    ∀ (m : Nat) (l4 : Int) (st : List (Int × Int)) (φ : Nat) (w : mj_w), 0 ≤ l4 → l4 ≤ p → l4 + (m : Int) = 1000000 → mt_SV u (mf_V u) (u 4 0 0) st φ → mt_I u w st → mt_go u (mf_V u) m st (p - l4) = X →
    mj_J g y_Fo_ruleAt (d + 5) 0 0 (25, [some (mj_R 11), some (.inr (.inl k1)), none, some (.inl p), some (.inl l4), none, none, none], [], mj_mem nn xs w) (mj_P nn xs Post) := by
  intro m
  have hH := hF.1
  have hlen := hH.2.2.1
  have hT : ∀ a b : Int, 0 ≤ a → a ≤ b → b ≤ u 4 0 0 → mf_TB u (mf_V u) a b := fun a b a0 ab b1 => hF.2.2 a b a0 ab (by omega)
  induction m with
  | zero =>
    intro l4 st φ w a0 a1 hm hs hI hX
    refine v_Fo_ruleAt_25 (d := d + 4) hn ⟨⟨by omega, by omega⟩, fun z => by omega, fun _ => ?_⟩
    have : (-1 : Int) = X := hX
    rw [this]
    exact h w st hI
  | succ m ih =>
    intro l4 st φ w a0 a1 hm hs hI hX
    have hls := mt_SV_len hs
    refine v_Fo_ruleAt_25 (d := d + 4) hn ⟨⟨by omega, by omega⟩, fun _ => ⟨by rw [hI.2.1]; exact ⟨by omega, by omega⟩, fun z => ?_, fun z => ?_⟩, fun z => by omega⟩
    · cases st with
      | nil => rw [hI.2.1] at z; exact absurd z (by simp)
      | cons e st =>
        obtain ⟨a1', a2, a3, a4, a5, a6⟩ := mt_SV_step hH.1 hH.rv hlen hT hs
        obtain ⟨q, k', b1, b2, b3, b4⟩ := mt_pick_some _ _ _ a1'.2.1 a5
        rintro w5 rfl
        have e6 : w 11 6 0 - 1 = (st.length : Int) := by rw [hI.2.1, List.length_cons]; omega
        have e65 : mj_wu w 11 6 0 (w 11 6 0 - 1) 11 6 0 = (st.length : Int) := by rw [← e6]; unfold mj_wu; simp
        have en : ∀ (p : Nat) (a b : Int), ¬ (p = 11 ∧ a = 6 ∧ b = 0) → mj_wu w 11 6 0 (w 11 6 0 - 1) p a b = w p a b := fun p a b hz => mj_wu_n hz
        have e12 : mj_wu w 11 6 0 (w 11 6 0 - 1) 12 (st.length : Int) 0 = e.1 := (en 12 _ _ (fun z => by cases z.1)).trans hI.2.2.1
        have e14 : mj_wu w 11 6 0 (w 11 6 0 - 1) 14 (st.length : Int) 0 = e.2 := (en 14 _ _ (fun z => by cases z.1)).trans hI.2.2.2.1
        rw [e65]
        have I5 : mt_I u (mj_wu w 11 6 0 (w 11 6 0 - 1)) st := ⟨fun p a b hp => (en p a b (fun z => by omega)).trans (hI.1 p a b hp), e65, mt_rep_congr st (fun m _ _ => ⟨en 12 m 0 (fun z => by cases z.1), en 14 m 0 (fun z => by cases z.1)⟩) hI.2.2.2.2⟩
        have e45 : mj_wu w 11 6 0 (w 11 6 0 - 1) 4 0 0 = u 4 0 0 := I5.1 4 0 0 (by omega)
        have H5 := I5.H hH
        refine ⟨by omega, by omega, ?_⟩
        rw [e12, e14]
        refine c_gatherCell (d := d) hn H5 (by rw [e45]; exact a1'.1) (fun w9 f9 g2 g3 a9 => ⟨rfl, ?_⟩)
        have hv' := a1'.1
        unfold mf_vc at hv'
        have esame : ∀ (p : Nat) (a b : Int), (p ≤ 5 ∨ p = 16) → mj_wu w 11 6 0 (w 11 6 0 - 1) p a b = u p a b := fun p a b hp => I5.1 p a b (by omega)
        have ew := mf_ways_same hH.1 (s := e.1 / 169) (i := e.1 / 13 % 13) (j := e.1 % 13) (by omega) esame
        rw [← ew] at a9
        have a9' : mf_arr w9 (mf_ways u (mf_V u) (e.1 / 169) (e.1 / 13 % 13) (e.1 % 13)) (mf_val u (mf_V u) (e.1 / 13 % 13) (e.1 % 13)) := ⟨a9.1, fun k q hq => by
          have hmem := List.mem_of_getElem? hq
          obtain ⟨m1, m2, m3, m4, m5, m6⟩ := (mf_mem hH.1.1.1 (by omega)).mp hmem
          rw [mf_val_same hH.1 esame ⟨m1, m3, m4, m5⟩]
          exact a9.2 k q hq⟩
        have hll := mf_len (u := u) (V := mf_V u) (s := e.1 / 169) (i := e.1 / 13 % 13) (j := e.1 % 13) hH.1.1.1 hH.1.1.2 (by omega)
        simp only [mt_go] at hX
        rw [b1] at hX
        have hX' : (if p - l4 = 0 then q.1 else mt_go u (mf_V u) m (mt_ps u (mf_V u) (e.1 / 13 % 13) (e.1 % 13) q 3 k' st) (p - l4 - 1)) = X := hX
        have hk2 := (a4 q b2).2
        have := c_ruleAt_76 (d := d) (g := g) (xs := xs) (Post := Post) (x := e.2) (k1 := k1) (l4 := l4) hn hH a1'.1 a2 rfl hll hp ⟨by omega, by omega⟩ a4 (fun q hq => (a6 q hq).1) b2 ⟨b3, by omega⟩ (I5.fr f9) a9' g2 g3 (fun z => by
            rw [if_pos (by omega)] at hX'
            rw [hX']
            exact h w9 st (I5.fr f9)) (fun z w' I' => by
            rw [if_neg (by omega)] at hX'
            exact ih (l4 + 1) _ (φ - 1) w' (by omega) (by omega) (by omega) ((a6 q b2).2 k' b3) I' (by rw [← hX', show p - (l4 + 1) = p - l4 - 1 by omega])) (mf_ways u (mf_V u) (e.1 / 169) (e.1 / 13 % 13) (e.1 % 13)) [] e.2 rfl a1'.2.1 (by have := a1'.2.2; omega) a5 b1
        exact this
    · cases st with
      | nil =>
        have : (-1 : Int) = X := hX
        rw [this]
        exact h w [] hI
      | cons e st => rw [hI.2.1, List.length_cons] at z; omega
theorem c_ruleAt (hn : 21 ≤ nn) (hF : mf_FI w) (hr : w 11 3 0 = w 4 0 0 + 1) {p k : Int} (hp : mj_i p) (p0 : 0 ≤ p) (k0 : 0 ≤ k) (k1 : k < mf_V w 0 0 (w 4 0 0)) (k2 : mf_V w 0 0 (w 4 0 0) < 1000000000000)
    (h : ∀ w' st, mt_I w w' st → Post (some (.inl (mt_go w (mf_V w) 1000000 [(w 4 0 0, k)] p))) w') :
    mj_J g y_Fo_ruleAt (d + 5) 0 0 (0, [some (mj_R 11), some (.inr (.inl k)), none, some (.inl p), none, none, none, none], [], mj_mem nn xs w) (mj_P nn xs Post) := by
  have hlen := hF.1.2.2.1
  refine v_Fo_ruleAt_0 (d := d + 4) hn ?_
  rintro w1 rfl
  have en : ∀ (p : Nat) (a b : Int), ¬ (p = 11 ∧ a = 6 ∧ b = 0) → mj_wu w 11 6 0 0 p a b = w p a b := fun p a b hz => mj_wu_n hz
  have e4 : mj_wu w 11 6 0 0 4 0 0 = w 4 0 0 := en 4 0 0 (fun z => by cases z.1)
  have I1 : mt_I w (mj_wu w 11 6 0 0) [] := ⟨fun p a b hp => en p a b (fun z => by omega), by unfold mj_wu; simp, trivial⟩
  rw [e4]
  refine c_cellOf hn ⟨_, rfl, ?_⟩
  rw [show ((0 : Int) * 13 + 0) * 13 + w 4 0 0 = w 4 0 0 by omega]
  refine c_push hn I1 (by decide) (fun w5 I5 _ => ⟨rfl, ?_⟩)
  refine c_ruleAt_25 (d := d) hn hF hr hp p0 h 1000000 0 [(w 4 0 0, k)] 999999 w5 (by decide) p0 rfl (mt_SV_root hF.1.1 hlen (hF.2.2 0 (w 4 0 0) (by decide) hlen.1 (by omega)) k0 k1 k2) I5 (by rw [Int.sub_zero])
end
variable {Post : Option mj_V ⊕ Nat → mj_w → Prop}
theorem c_CF_tree (hn : 21 ≤ nn) {k p : Int} (hk : mj_l k) (hp : mj_i p) (hF : mf_FI w)
    (h : ∀ w', mf_k w w' → mf_FI w' → w' 11 3 0 = w' 4 0 0 + 1 → (mt_ans w' (mf_V w') (w' 4 0 0) k p = -1 → Post (.inr 11) w') ∧ (mt_ans w' (mf_V w') (w' 4 0 0) k p ≠ -1 → Post (.inl (some (.inl (mt_ans w' (mf_V w') (w' 4 0 0) k p)))) w')) :
    mj_J g y_CF_tree (d + 6) 1 6 (0, [some (mj_R 0), some (.inr (.inl k)), none, some (.inl p), none, none, none], [], mj_mem nn xs w) (mj_PT nn xs Post) := by
  refine v_CF_tree_0 hn (c_ready hn hF (fun w1 k1 F1 e1 => ⟨rfl, ?_⟩))
  have hlen := F1.1.2.2.1
  have h1 := h w1 k1 F1 e1
  have hrv := F1.1.rv 0 0 (w1 4 0 0)
  have bad : ¬ ((0 ≤ k ∧ k < mf_V w1 0 0 (w1 4 0 0)) ∧ mf_V w1 0 0 (w1 4 0 0) < 1000000000000 ∧ 0 ≤ p) → Post (.inr 11) w1 := fun z => h1.1 (by unfold mt_ans; rw [if_neg z])
  refine c_treesOver (d := d + 3) hn F1.1 (by decide) (by decide) hlen.1 (Int.le_refl _) ⟨_, rfl, by rcases hrv with z | z <;> exact ⟨by omega, by omega⟩, fun q1 => ⟨hk, fun q2 => bad (by omega), fun q2 => ⟨fun q3 => ⟨hp, fun q4 => bad (by omega), fun q4 => ?_⟩, fun q3 => bad (by omega)⟩⟩, fun q1 => bad (by omega)⟩
  refine c_ruleAt hn F1 e1 hp (by omega) (by omega) q3 q1 (fun w2 st I2 => ⟨_, rfl, ?_⟩)
  have hs : ∀ (p : Nat) (a b : Int), (p ≤ 5 ∨ p = 16) → w2 p a b = w1 p a b := fun p a b hp => I2.1 p a b (by omega)
  have F2 := F1.same hs (I2.1 11 3 0 (by omega))
  have e4 : w2 4 0 0 = w1 4 0 0 := I2.1 4 0 0 (by omega)
  have hV := mf_V_same (w := w1) (w' := w2) (fun a b => hs 16 a b (by omega))
  have hsg : mf_sg w1 w2 0 (w1 4 0 0) := mf_sg.of 0 (w1 4 0 0) (fun p a b hp => hs p a b (by omega))
  have h2 := h w2 (k1.trans (fun p a b hp => I2.1 p a b (by omega))) F2 (by rw [I2.1 11 3 0 (by omega), e4]; exact e1)
  rw [e4, ← mt_ans_congr F1.1.1 hlen hsg (fun s a b _ _ _ _ _ => by rw [hV])] at h2
  have ea : mt_ans w1 (mf_V w1) (w1 4 0 0) k p = mt_go w1 (mf_V w1) 1000000 [(w1 4 0 0, k)] p := by
    unfold mt_ans
    rw [if_pos ⟨⟨by omega, q3⟩, q1, by omega⟩]
  rw [ea] at h2
  have hrng := mt_go_rng (V := mf_V w1) F1.1.1 hlen 1000000 [(w1 4 0 0, k)] p (mt_root_vc hlen)
  exact ⟨by rcases hrng with z | z <;> exact ⟨by omega, by omega⟩, h2.1, h2.2⟩
end C80
