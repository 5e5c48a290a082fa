/-! ===== the class: over, product, keep, gather ===== -/
def mf_V (w : mj_w) (s a b : Int) : Int := if (0 ≤ s ∧ s < 5) ∧ (0 ≤ a ∧ a < 13) ∧ 0 ≤ b ∧ b < 13 then w 16 ((s * 13 + a) * 13 + b) 0 else 0
/-- what the forest's methods rest on -/
def mf_H (w : mj_w) : Prop := mj_GI w ∧ (∀ r : Int, 0 ≤ r → r < w 1 0 0 → (w 3 ((r + 1) * 4) 0 = -1 → w 3 ((r + 1) * 4 + 1) 0 = -1) ∧ (w 3 ((r + 1) * 4 + 1) 0 = -1 → w 3 ((r + 1) * 4 + 2) 0 = -1)) ∧ (0 ≤ w 4 0 0 ∧ w 4 0 0 ≤ 12) ∧ (∀ a : Int, 0 ≤ a → a < w 4 0 0 → 8 ≤ w 5 a 0 ∧ w 5 a 0 < 12) ∧ ∀ c : Int, 0 ≤ c → c < 845 → mf_rv (w 16 c 0)
theorem mf_H.rv {w : mj_w} (h : mf_H w) : mf_RV (mf_V w) := by
  intro s a b
  unfold mf_V
  split
  · exact h.2.2.2.2 _ (by omega) (by omega)
  · exact Or.inr (by decide)
/-- nothing but the list of ways has changed -/
def mf_fr (w w' : mj_w) : Prop := ∀ (p : Nat) (a b : Int), p ≠ 18 → p ≠ 19 → p ≠ 20 → ¬ (p = 17 ∧ a = 4 ∧ b = 0) → w' p a b = w p a b
theorem mf_fr.refl (w : mj_w) : mf_fr w w := fun _ _ _ _ _ _ _ => rfl
theorem mf_fr.trans {w w1 w2 : mj_w} (h : mf_fr w w1) (h' : mf_fr w1 w2) : mf_fr w w2 := fun p a b c1 c2 c3 c4 => (h' p a b c1 c2 c3 c4).trans (h p a b c1 c2 c3 c4)
theorem mf_fr.le {w w' : mj_w} (h : mf_fr w w') {p : Nat} (hp : p ≤ 16) (a b : Int) : w' p a b = w p a b := h p a b (by omega) (by omega) (by omega) (fun z => by omega)
theorem mf_fr.V {w w' : mj_w} (h : mf_fr w w') : mf_V w' = mf_V w := by
  funext s a b
  unfold mf_V
  rw [h.le (by decide)]
theorem mf_fr.ov {w w' : mj_w} (h : mf_fr w w') (s a b : Int) : mf_ov w' (mf_V w') s a b = mf_ov w (mf_V w) s a b := by
  rw [h.V]
  unfold mf_ov
  rw [h.le (p := 5) (by decide)]
theorem mf_fr.H {w w' : mj_w} (h : mf_fr w w') (hH : mf_H w) : mf_H w' := by
  have e1 := fun a b => h.le (p := 1) (by decide) a b
  have e2 := fun a b => h.le (p := 2) (by decide) a b
  have e3 := fun a b => h.le (p := 3) (by decide) a b
  have e4 := fun a b => h.le (p := 4) (by decide) a b
  have e5 := fun a b => h.le (p := 5) (by decide) a b
  have e16 := fun a b => h.le (p := 16) (by decide) a b
  unfold mf_H mj_GI
  simp only [e1, e2, e3, e4, e5, e16]
  exact hH
/-- the list as the class keeps it -/
def mf_arr (w : mj_w) (P : List (Int × Int × Int)) (f : Int × Int × Int → Int) : Prop := w 17 4 0 = (P.length : Int) ∧ ∀ (k : Nat) (q : Int × Int × Int), P[k]? = some q → w 18 (k : Int) 0 = q.1 ∧ w 19 (k : Int) 0 = q.2.1 * 13 + q.2.2 ∧ w 20 (k : Int) 0 = f q
section C71
variable {g : mj_G} {nn d : Nat} {xs : mj_M} {Post : Option mj_V → mj_w → Prop} {w : mj_w}
theorem c_over (hn : 21 ≤ nn) (hH : mf_H w) {s a b : Int} (hs : -1 ≤ s ∧ s < 12 ∧ (s < 5 ∨ 8 ≤ s)) (ha : 0 ≤ a) (hab : a ≤ b) (hb : b ≤ w 4 0 0) (h : Post (some (.inr (.inl (mf_ov w (mf_V w) s a b)))) w) :
    mj_J g y_Co_over (d + 1) 0 0 (0, [some (mj_R 15), some (.inl s), some (.inl a), some (.inl b)], [], mj_mem nn xs w) (mj_P nn xs Post) := by
  have hlen := hH.2.2.1
  unfold mf_ov at h
  refine v_Co_over_0 hn ⟨⟨by omega, by omega⟩, fun q => ⟨⟨by omega, by omega⟩, ⟨by omega, by omega⟩, fun q1 => ?_, fun q1 => ?_⟩, fun q => ⟨fun q1 => c_cellOf hn ⟨_, rfl, by omega, by omega, ?_⟩, fun q1 => ?_⟩⟩
  · rwa [if_pos q, if_pos q1] at h
  · rwa [if_pos q, if_neg q1] at h
  · rw [if_neg q, if_neg (by omega), mf_V, if_pos ⟨by omega, by omega, by omega, by omega⟩] at h
    exact h
  · rw [if_neg q, if_pos (by omega)] at h
    refine v_Ta_isJust_0 hn ⟨⟨by omega, by omega⟩, ⟨by omega, by omega⟩, fun q2 => ⟨⟨by omega, by omega⟩, fun q3 => by omega, fun q3 => ⟨⟨by omega, by omega⟩, fun q4 => ⟨ha, by omega, ?_, ⟨by omega, by omega⟩, fun q5 => ⟨_, rfl, ⟨by decide, by decide⟩, fun z => absurd z (by decide), fun _ => ?_⟩, fun q5 => ⟨_, rfl, ⟨by decide, by decide⟩, fun _ => ?_, fun z => absurd rfl z⟩⟩, fun q4 => by omega⟩⟩, fun q2 => ⟨_, rfl, ⟨by decide, by decide⟩, fun _ => ?_, fun z => absurd rfl z⟩⟩
    · have := hH.2.2.2.1 a ha q4
      exact ⟨by omega, by omega⟩
    · rwa [if_pos ⟨q2, q5⟩] at h
    · rwa [if_neg (fun z => q5 z.2)] at h
    · rwa [if_neg (fun z => q2 z.1)] at h
theorem c_product (hn : 21 ≤ nn) {x y : Int} (hx : mf_rv x) (hy : mf_rv y) (h : Post (some (.inr (.inl (mf_pr x y)))) w) :
    mj_J g y_CF_product d 0 0 (0, [some (.inr (.inl x)), none, some (.inr (.inl y)), none], [], mj_mem nn xs w) (mj_P nn xs Post) := by
  have lx : mj_l x := by rcases hx with h | h <;> exact ⟨by omega, by omega⟩
  have ly : mj_l y := by rcases hy with h | h <;> exact ⟨by omega, by omega⟩
  unfold mf_pr at h
  refine v_CF_product_0 hn ⟨lx, fun q => ?_, fun q => ⟨ly, fun q1 => ?_, fun q1 => ⟨fun q2 => ?_, fun q2 => ⟨fun q3 => ?_, fun q3 => ⟨?_, ?_, fun q4 => ?_, fun q4 => ?_⟩⟩⟩⟩⟩
  · rwa [if_pos (Or.inl q)] at h
  · rwa [if_pos (Or.inr q1)] at h
  · rwa [if_neg (by omega), if_pos (Or.inl q2)] at h
  · rwa [if_neg (by omega), if_pos (Or.inr q3)] at h
  · rcases hy with h | h <;> omega
  · have hy' : 0 < y := by rcases hy with h | h <;> omega
    have h1 := Int.ediv_nonneg (show (0 : Int) ≤ 1000000000000 by decide) (Int.le_of_lt hy')
    have h2 := Int.ediv_le_self (a := 1000000000000) y (by decide)
    exact ⟨by omega, by omega⟩
  · rwa [if_neg (by omega), if_neg (by omega), if_pos q4] at h
  · rwa [if_neg (by omega), if_neg (by omega), if_neg q4] at h
theorem c_keep (hn : 21 ≤ nn) {r a b x : Int} (hx : mf_rv x) {P : List (Int × Int × Int)} {f : Int × Int × Int → Int} (hf : f (r, a, b) = x) (hP : mf_arr w P f) (hl : x ≠ 0 → P.length < 910) (h910 : P.length ≤ 910)
    (h : ∀ w', mf_fr w w' → mf_arr w' (P ++ (if x ≠ 0 then [(r, a, b)] else [])) f → Post none w') :
    mj_J g y_Wa_keep d 0 0 (0, [some (mj_R 17), some (.inl r), some (.inl a), some (.inl b), some (.inr (.inl x)), none], [], mj_mem nn xs w) (mj_P nn xs Post) := by
  have lx : mj_l x := by rcases hx with h | h <;> exact ⟨by omega, by omega⟩
  have e4 := hP.1
  refine v_Wa_keep_0 hn ⟨lx, fun q => ?_, fun q => ⟨⟨by omega, by omega⟩, fun q1 => ⟨by omega, q1, ?_⟩, fun q1 => absurd (hl q) (by omega)⟩⟩
  · refine h w (mf_fr.refl w) ?_
    rw [if_neg (fun z => z q), List.append_nil]
    exact hP
  · rintro w7 rfl
    have t1 : mj_wu w 18 (w 17 4 0) 0 r 17 4 0 = w 17 4 0 := mj_wu_n (fun z => by cases z.1)
    rw [t1]
    refine ⟨by omega, q1, ?_⟩
    rintro w11 rfl
    have t2 : mj_wu (mj_wu w 18 (w 17 4 0) 0 r) 19 (w 17 4 0) 0 (a * 13 + b) 17 4 0 = w 17 4 0 := (mj_wu_n (fun z => by cases z.1)).trans t1
    rw [t2]
    refine ⟨by omega, q1, ?_⟩
    rintro w15 rfl w17 rfl
    have t3 : mj_wu (mj_wu (mj_wu w 18 (w 17 4 0) 0 r) 19 (w 17 4 0) 0 (a * 13 + b)) 20 (w 17 4 0) 0 x 17 4 0 = w 17 4 0 := (mj_wu_n (fun z => by cases z.1)).trans t2
    rw [t3]
    refine h _ (fun p c e c1 c2 c3 c4 => (mj_wu_n c4).trans ((mj_wu_n (fun z => c3 z.1)).trans ((mj_wu_n (fun z => c2 z.1)).trans (mj_wu_n (fun z => c1 z.1))))) ⟨?_, fun k q' hq => ?_⟩
    · rw [if_pos q, List.length_append, List.length_singleton]
      have : ∀ y, mj_wu y 17 4 0 (w 17 4 0 + 1) 17 4 0 = w 17 4 0 + 1 := fun y => by unfold mj_wu; simp
      rw [this]
      omega
    · rw [if_pos q] at hq
      have hk := List.getElem?_eq_some_iff.mp hq
      obtain ⟨hk1, hk2⟩ := hk
      rw [List.length_append, List.length_singleton] at hk1
      by_cases e : k = P.length
      · subst e
        rw [List.getElem?_append_right (Nat.le_refl _), Nat.sub_self] at hq
        have : q' = (r, a, b) := by simpa using hq.symm
        subst this
        rw [← e4]
        refine ⟨?_, ?_, ?_⟩
        · refine (mj_wu_n (fun z => by cases z.1)).trans ((mj_wu_n (fun z => by cases z.1)).trans ((mj_wu_n (fun z => by cases z.1)).trans ?_))
          unfold mj_wu; simp
        · refine (mj_wu_n (fun z => by cases z.1)).trans ((mj_wu_n (fun z => by cases z.1)).trans ?_)
          unfold mj_wu; simp
        · refine (mj_wu_n (fun z => by cases z.1)).trans ?_
          rw [hf]
          unfold mj_wu; simp
      · rw [List.getElem?_append_left (by omega)] at hq
        obtain ⟨g1, g2, g3⟩ := hP.2 k q' hq
        have hne : (k : Int) ≠ w 17 4 0 := by omega
        refine ⟨?_, ?_, ?_⟩
        · exact (mj_wu_n (fun z => by cases z.1)).trans ((mj_wu_n (fun z => by cases z.1)).trans ((mj_wu_n (fun z => by cases z.1)).trans ((mj_wu_n (fun z => hne z.2.1)).trans g1)))
        · exact (mj_wu_n (fun z => by cases z.1)).trans ((mj_wu_n (fun z => by cases z.1)).trans ((mj_wu_n (fun z => hne z.2.1)).trans ((mj_wu_n (fun z => by cases z.1)).trans g2)))
        · exact (mj_wu_n (fun z => by cases z.1)).trans ((mj_wu_n (fun z => hne z.2.1)).trans ((mj_wu_n (fun z => by cases z.1)).trans ((mj_wu_n (fun z => by cases z.1)).trans g3)))
theorem c_gatherRule_113 (hn : 21 ≤ nn) {u : mj_w} (hH : mf_H u) {r i j a x : Int} (hr : 0 ≤ r ∧ r < u 1 0 0) (hi0 : 0 ≤ i) (hia : i ≤ a) (hj : j ≤ u 4 0 0) (ej : u 17 3 0 = j) (ex : mf_ov u (mf_V u) (u 3 ((r + 1) * 4) 0) i a = x)
    {R : Nat} {L : List (Int × Int × Int)}
    (h : ∀ w, mf_fr u w → mf_arr w L (mf_val u (mf_V u) i j) → mj_J g y_Wa_gatherRule (d + 2) 0 0 (61, [some (mj_R 17), some (.inl r), some (.inl ((r + 1) * 4 + 0)), some (.inl (u 3 ((r + 1) * 4) 0)), some (.inl (u 3 ((r + 1) * 4 + 1) 0)), some (.inl (u 3 ((r + 1) * 4 + 2) 0)), some (.inl (a + 1)), none, none, none, none, none], [], mj_mem nn xs w) (mj_P nn xs Post)) (hL : L.length ≤ 910) :
    ∀ (m : Nat) (w : mj_w) (P : List (Int × Int × Int)), a ≤ j + 1 - (m : Int) → mf_fr u w → mf_arr w P (mf_val u (mf_V u) i j) → P ++ mf_in u (mf_V u) r i j a m = L →
    mj_J g y_Wa_gatherRule (d + 2) 0 0 (113, [some (mj_R 17), some (.inl r), some (.inl ((r + 1) * 4 + 0)), some (.inl (u 3 ((r + 1) * 4) 0)), some (.inl (u 3 ((r + 1) * 4 + 1) 0)), some (.inl (u 3 ((r + 1) * 4 + 2) 0)), some (.inl a), some (.inr (.inl x)), none, some (.inl (j + 1 - (m : Int))), none, none], [], mj_mem nn xs w) (mj_P nn xs Post) := by
  intro m
  have hV := hH.rv
  have hc := hH.1.1
  have g0 := hH.1.2.2 ((r + 1) * 4) (by omega) (by omega)
  have g1 := hH.1.2.2 ((r + 1) * 4 + 1) (by omega) (by omega)
  have g2 := hH.1.2.2 ((r + 1) * 4 + 2) (by omega) (by omega)
  have hlen := hH.2.2.1
  have hx : mf_rv x := by rw [← ex]; exact mf_ov_rv (hV _ _ _)
  induction m with
  | zero =>
    intro w P ha hf hP hl
    have e3 : w 17 3 0 = j := (hf 17 3 0 (by decide) (by decide) (by decide) (fun z => by have := z.2.1; omega)).trans ej
    refine v_Wa_gatherRule_113 (d := d + 1) hn ⟨⟨by omega, by omega⟩, ⟨by omega, by omega⟩, fun q => ?_, fun q => by omega⟩
    rw [show mf_in u (mf_V u) r i j a 0 = [] from rfl, List.append_nil] at hl
    subst hl
    exact h w hf hP
  | succ m ih =>
    intro w P ha hf hP hl
    have e3 : ∀ {w' : mj_w}, mf_fr u w' → w' 17 3 0 = j := fun hf' => (hf' 17 3 0 (by decide) (by decide) (by decide) (fun z => by have := z.2.1; omega)).trans ej
    have e4 : ∀ {w' : mj_w}, mf_fr u w' → w' 4 0 0 = u 4 0 0 := fun hf' => hf'.le (by decide) 0 0
    have eb : j + 1 - ((m + 1 : Nat) : Int) = j - (m : Int) := by omega
    rw [eb]
    have enx : j - (m : Int) + 1 = j + 1 - (m : Int) := by omega
    have hval : mf_val u (mf_V u) i j (r, a, j - (m : Int)) = mf_pr (mf_pr x (mf_ov u (mf_V u) (u 3 ((r + 1) * 4 + 1) 0) a (j - (m : Int)))) (mf_ov u (mf_V u) (u 3 ((r + 1) * 4 + 2) 0) (j - (m : Int)) j) := by rw [← ex]; rfl
    have hlist : mf_in u (mf_V u) r i j a (m + 1) = (if mf_val u (mf_V u) i j (r, a, j - (m : Int)) ≠ 0 then [(r, a, j - (m : Int))] else []) ++ mf_in u (mf_V u) r i j a m := rfl
    refine v_Wa_gatherRule_113 (d := d + 1) hn ⟨⟨by omega, by omega⟩, by rw [e3 hf]; exact ⟨by omega, by omega⟩, fun q => by rw [e3 hf] at q; omega, fun q => ?_⟩
    refine c_over (d := d) hn (hf.H hH) ⟨by omega, by omega, by omega⟩ (by omega) (by omega) (by rw [e4 hf]; omega) ⟨_, rfl, ?_⟩
    rw [hf.ov]
    have hy := mf_ov_rv (u := u) (hV (u 3 ((r + 1) * 4 + 1) 0) a (j - (m : Int)))
    refine c_product hn hx hy ⟨_, rfl, ?_⟩
    have hxy := mf_pr_rv hx hy
    refine ⟨by rcases hxy with z | z <;> exact ⟨by omega, by omega⟩, fun q1 => ?_, fun q1 => ?_⟩
    · rw [enx]
      refine ih w P (by omega) hf hP ?_
      have hz : mf_val u (mf_V u) i j (r, a, j - (m : Int)) = 0 := by
        rw [hval, q1]
        unfold mf_pr
        rw [if_pos (Or.inl rfl)]
      rw [hlist, if_neg (fun z => z hz)] at hl
      exact hl
    · rw [e3 hf]
      refine c_over (d := d) hn (hf.H hH) ⟨by omega, by omega, by omega⟩ (by omega) (by omega) (by rw [e4 hf]; omega) ⟨_, rfl, ?_⟩
      rw [hf.ov]
      have hz := mf_ov_rv (u := u) (hV (u 3 ((r + 1) * 4 + 2) 0) (j - (m : Int)) j)
      refine c_product hn hxy hz ⟨_, rfl, ?_⟩
      have hlen2 : P.length + (if mf_val u (mf_V u) i j (r, a, j - (m : Int)) ≠ 0 then 1 else 0) ≤ 910 := by
        rw [← hl, hlist, List.length_append, List.length_append] at hL
        split
        · rename_i q2
          rw [if_pos q2, List.length_singleton] at hL
          omega
        · omega
      rw [← hval]
      refine c_keep hn (by rw [hval]; exact mf_pr_rv hxy hz) rfl hP (fun q2 => by rw [if_pos q2] at hlen2; omega) (by omega) (fun w2 f2 a2 => ⟨rfl, ?_⟩)
      rw [enx]
      refine ih w2 _ (by omega) (hf.trans f2) a2 ?_
      rw [List.append_assoc, ← hlist]
      exact hl
theorem c_gatherRule_61 (hn : 21 ≤ nn) {u : mj_w} (hH : mf_H u) {r i j : Int} (hr : 0 ≤ r ∧ r < u 1 0 0) (hi0 : 0 ≤ i) (hj : j ≤ u 4 0 0) (ei : u 17 2 0 = i) (ej : u 17 3 0 = j) {L : List (Int × Int × Int)} (hL : L.length ≤ 910)
    (h : ∀ w, mf_fr u w → mf_arr w L (mf_val u (mf_V u) i j) → Post none w) :
    ∀ (m : Nat) (w : mj_w) (P : List (Int × Int × Int)), i ≤ j + 1 - (m : Int) → mf_fr u w → mf_arr w P (mf_val u (mf_V u) i j) → P ++ mf_out u (mf_V u) r i j m = L →
    mj_J g y_Wa_gatherRule (d + 2) 0 0 (61, [some (mj_R 17), some (.inl r), some (.inl ((r + 1) * 4 + 0)), some (.inl (u 3 ((r + 1) * 4) 0)), some (.inl (u 3 ((r + 1) * 4 + 1) 0)), some (.inl (u 3 ((r + 1) * 4 + 2) 0)), some (.inl (j + 1 - (m : Int))), none, none, none, none, none], [], mj_mem nn xs w) (mj_P nn xs Post) := by
  intro m
  have hV := hH.rv
  have hc := hH.1.1
  have g0 := hH.1.2.2 ((r + 1) * 4) (by omega) (by omega)
  have g2 := hH.1.2.2 ((r + 1) * 4 + 2) (by omega) (by omega)
  have hlen := hH.2.2.1
  induction m with
  | zero =>
    intro w P ha hf hP hl
    have e3 : w 17 3 0 = j := (hf 17 3 0 (by decide) (by decide) (by decide) (fun z => by have := z.2.1; omega)).trans ej
    refine v_Wa_gatherRule_61 (d := d + 1) hn ⟨⟨by omega, by omega⟩, ⟨by omega, by omega⟩, fun q => ?_, fun q => by omega⟩
    rw [show mf_out u (mf_V u) r i j 0 = [] from rfl, List.append_nil] at hl
    subst hl
    exact h w hf hP
  | succ m ih =>
    intro w P ha hf hP hl
    have e3 : w 17 3 0 = j := (hf 17 3 0 (by decide) (by decide) (by decide) (fun z => by have := z.2.1; omega)).trans ej
    have e2 : w 17 2 0 = i := (hf 17 2 0 (by decide) (by decide) (by decide) (fun z => by have := z.2.1; omega)).trans ei
    have e4 : w 4 0 0 = u 4 0 0 := hf.le (by decide) 0 0
    have eb : j + 1 - ((m + 1 : Nat) : Int) = j - (m : Int) := by omega
    rw [eb]
    have enx : j - (m : Int) + 1 = j + 1 - (m : Int) := by omega
    have hlist : mf_out u (mf_V u) r i j (m + 1) = mf_in u (mf_V u) r i j (j - (m : Int)) (m + 1) ++ mf_out u (mf_V u) r i j m := rfl
    rw [hlist, ← List.append_assoc] at hl
    refine v_Wa_gatherRule_61 (d := d + 1) hn ⟨⟨by omega, by omega⟩, by rw [e3]; exact ⟨by omega, by omega⟩, fun q => by rw [e3] at q; omega, fun q => ?_⟩
    rw [e2]
    refine c_over (d := d) hn (hf.H hH) ⟨by omega, by omega, by omega⟩ (by omega) (by omega) (by rw [e4]; omega) ⟨_, rfl, ?_⟩
    rw [hf.ov, e3]
    have hy := mf_ov_rv (u := u) (hV (u 3 ((r + 1) * 4) 0) i (j - (m : Int)))
    refine ⟨by rcases hy with z | z <;> exact ⟨by omega, by omega⟩, fun q1 => ?_, fun q1 => ⟨⟨by omega, by omega⟩, fun q2 => ?_, fun q2 => ?_⟩⟩
    · rw [enx]
      refine ih w P (by omega) hf hP ?_
      rw [mf_in_nil (m + 1) (fun b _ _ => mf_val_a q1), List.append_nil] at hl
      exact hl
    · have h1 : (P ++ mf_in u (mf_V u) r i j (j - (m : Int)) (m + 1)).length ≤ 910 := by
        rw [← hl, List.length_append] at hL
        omega
      have := c_gatherRule_113 (d := d) (g := g) (xs := xs) (Post := Post) hn hH (a := j - (m : Int)) hr hi0 (by omega) hj ej rfl (R := 0) (L := P ++ mf_in u (mf_V u) r i j (j - (m : Int)) (m + 1)) (fun w2 f2 a2 => by rw [enx]; exact ih w2 _ (by omega) f2 a2 hl) h1 1 w P (by omega) hf hP (by rw [mf_in_one hV q2 m])
      rw [show j + 1 - ((1 : Nat) : Int) = j by omega] at this
      exact this
    · have h1 : (P ++ mf_in u (mf_V u) r i j (j - (m : Int)) (m + 1)).length ≤ 910 := by
        rw [← hl, List.length_append] at hL
        omega
      have := c_gatherRule_113 (d := d) (g := g) (xs := xs) (Post := Post) hn hH (a := j - (m : Int)) hr hi0 (by omega) hj ej rfl (R := 0) (L := P ++ mf_in u (mf_V u) r i j (j - (m : Int)) (m + 1)) (fun w2 f2 a2 => by rw [enx]; exact ih w2 _ (by omega) f2 a2 hl) h1 (m + 1) w P (by omega) hf hP rfl
      rw [eb] at this
      exact this
theorem c_gatherRule (hn : 21 ≤ nn) {u : mj_w} (hH : mf_H u) {r i j : Int} (hr : 0 ≤ r ∧ r < u 1 0 0) (hi0 : 0 ≤ i) (hij : i ≤ j) (hj : j ≤ u 4 0 0) (ei : u 17 2 0 = i) (ej : u 17 3 0 = j) {w : mj_w} {P : List (Int × Int × Int)} (hf : mf_fr u w) (hP : mf_arr w P (mf_val u (mf_V u) i j)) (hL : (P ++ mf_out u (mf_V u) r i j (j - i + 1).toNat).length ≤ 910)
    (h : ∀ w', mf_fr u w' → mf_arr w' (P ++ mf_out u (mf_V u) r i j (j - i + 1).toNat) (mf_val u (mf_V u) i j) → Post none w') :
    mj_J g y_Wa_gatherRule (d + 2) 0 0 (0, [some (mj_R 17), some (.inl r), none, none, none, none, none, none, none, none, none, none], [], mj_mem nn xs w) (mj_P nn xs Post) := by
  have hV := hH.rv
  have hc := hH.1.1
  have hlen := hH.2.2.1
  have g1 := hH.1.2.2 ((r + 1) * 4 + 1) (by omega) (by omega)
  have t3 : ∀ s, w 3 s 0 = u 3 s 0 := fun s => hf.le (by decide) s 0
  have e3 : w 17 3 0 = j := (hf 17 3 0 (by decide) (by decide) (by decide) (fun z => by have := z.2.1; omega)).trans ej
  have e2 : w 17 2 0 = i := (hf 17 2 0 (by decide) (by decide) (by decide) (fun z => by have := z.2.1; omega)).trans ei
  have s0 : (r + 1) * 4 + 0 = (r + 1) * 4 := by omega
  refine v_Wa_gatherRule_0 (d := d + 1) hn (c_slotOf hn ⟨_, rfl, by omega, by omega, by omega, by omega, by omega, by omega, ?_, fun q => ?_, fun q => ?_⟩)
  · rw [t3, s0]; exact ⟨by omega, by omega⟩
  · rw [t3, s0] at q
    have q2 := (hH.2.1 r hr.1 hr.2).2 q
    have := c_gatherRule_61 (d := d) (g := g) (xs := xs) (Post := Post) hn hH hr hi0 hj ei ej hL h 1 w P (by omega) hf hP (by rw [show (j - i + 1).toNat = (j - i).toNat + 1 by omega, mf_out_one hV q q2 (j - i).toNat])
    rw [show j + 1 - ((1 : Nat) : Int) = j by omega] at this
    rw [t3, t3, t3, e3, show (r + 1) * 4 + 0 + 1 = (r + 1) * 4 + 1 by omega, show (r + 1) * 4 + 0 + 2 = (r + 1) * 4 + 2 by omega]
    rw [show u 3 ((r + 1) * 4 + 0) 0 = u 3 ((r + 1) * 4) 0 by rw [s0]]
    exact this
  · have := c_gatherRule_61 (d := d) (g := g) (xs := xs) (Post := Post) hn hH hr hi0 hj ei ej hL h (j - i + 1).toNat w P (by omega) hf hP rfl
    rw [show j + 1 - (((j - i + 1).toNat : Nat) : Int) = i by omega] at this
    rw [t3, t3, t3, e2, show (r + 1) * 4 + 0 + 1 = (r + 1) * 4 + 1 by omega, show (r + 1) * 4 + 0 + 2 = (r + 1) * 4 + 2 by omega]
    rw [show u 3 ((r + 1) * 4 + 0) 0 = u 3 ((r + 1) * 4) 0 by rw [s0]]
    exact this
theorem c_gather_18 (hn : 21 ≤ nn) {u : mj_w} (hH : mf_H u) {s i j : Int} (hs : 0 ≤ s ∧ s < 5) (hi0 : 0 ≤ i) (hij : i ≤ j) (hj : j ≤ u 4 0 0) (ei : u 17 2 0 = i) (ej : u 17 3 0 = j) {L : List (Int × Int × Int)} (hL : L.length ≤ 910)
    (h : ∀ w, mf_fr u w → mf_arr w L (mf_val u (mf_V u) i j) → Post none w) :
    ∀ (m : Nat) (w : mj_w) (P : List (Int × Int × Int)), 0 ≤ u 1 0 0 - (m : Int) → mf_fr u w → mf_arr w P (mf_val u (mf_V u) i j) → P ++ mf_rl u (mf_V u) s i j m = L →
    mj_J g y_Wa_gather (d + 3) 0 0 (18, [some (mj_R 17), some (.inl s), some (.inl i), some (.inl j), some (.inl (u 1 0 0 - (m : Int)))], [], mj_mem nn xs w) (mj_P nn xs Post) := by
  intro m
  have hc := hH.1.1
  induction m with
  | zero =>
    intro w P ha hf hP hl
    have e1 : w 1 0 0 = u 1 0 0 := hf.le (by decide) 0 0
    refine v_Wa_gather_18 (d := d + 2) hn ⟨⟨by omega, by omega⟩, ⟨by omega, by omega⟩, fun q => by omega, fun q => ?_⟩
    rw [show mf_rl u (mf_V u) s i j 0 = [] from rfl, List.append_nil] at hl
    subst hl
    exact h w hf hP
  | succ m ih =>
    intro w P ha hf hP hl
    have e1 : w 1 0 0 = u 1 0 0 := hf.le (by decide) 0 0
    have e2 : ∀ r, w 2 r 0 = u 2 r 0 := fun r => hf.le (by decide) r 0
    have er : u 1 0 0 - ((m + 1 : Nat) : Int) = u 1 0 0 - ((m : Int) + 1) := by omega
    rw [er] at ha ⊢
    have enx : u 1 0 0 - ((m : Int) + 1) + 1 = u 1 0 0 - (m : Int) := by omega
    have hlist : mf_rl u (mf_V u) s i j (m + 1) = (if u 2 (u 1 0 0 - ((m : Int) + 1)) 0 = s then mf_out u (mf_V u) (u 1 0 0 - ((m : Int) + 1)) i j (j - i + 1).toNat else []) ++ mf_rl u (mf_V u) s i j m := rfl
    rw [hlist, ← List.append_assoc] at hl
    have hl2 := hH.1.2.1 (u 1 0 0 - ((m : Int) + 1)) ha (by omega)
    refine v_Wa_gather_18 (d := d + 2) hn ⟨⟨by omega, by omega⟩, ⟨by omega, by omega⟩, fun q => c_leftOf hn ⟨by omega, by omega⟩ (by omega) (by omega) ⟨_, rfl, ?_⟩, fun q => by omega⟩
    have elo : mj_lo w (u 1 0 0 - ((m : Int) + 1)) = u 2 (u 1 0 0 - ((m : Int) + 1)) 0 := by unfold mj_lo; rw [if_pos ⟨ha, by omega⟩, e2]
    rw [elo]
    refine ⟨⟨by omega, by omega⟩, ⟨by omega, by omega⟩, fun q1 => ?_, fun q1 => ?_⟩
    · rw [if_pos q1] at hl
      have h1 : (P ++ mf_out u (mf_V u) (u 1 0 0 - ((m : Int) + 1)) i j (j - i + 1).toNat).length ≤ 910 := by
        rw [← hl, List.length_append] at hL
        omega
      refine c_gatherRule (d := d) hn hH ⟨ha, by omega⟩ hi0 hij hj ei ej hf hP h1 (fun w2 f2 a2 => ⟨rfl, ?_⟩)
      rw [enx]
      exact ih w2 _ (by omega) f2 a2 hl
    · rw [if_neg q1, List.append_nil] at hl
      rw [enx]
      exact ih w P (by omega) hf hP hl
/-- gather: the ways, in order -/
theorem c_gather (hn : 21 ≤ nn) (hH : mf_H w) {s i j : Int} (hs : 0 ≤ s ∧ s < 5) (hi0 : 0 ≤ i) (hij : i ≤ j) (hj : j ≤ w 4 0 0)
    (h : ∀ w', (∀ (p : Nat) (a b : Int), p ≠ 17 → p ≠ 18 → p ≠ 19 → p ≠ 20 → w' p a b = w p a b) → w' 17 2 0 = i → w' 17 3 0 = j → mf_arr w' (mf_ways w (mf_V w) s i j) (mf_val w (mf_V w) i j) → Post none w') :
    mj_J g y_Wa_gather (d + 3) 0 0 (0, [some (mj_R 17), some (.inl s), some (.inl i), some (.inl j), none], [], mj_mem nn xs w) (mj_P nn xs Post) := by
  have hc := hH.1.1
  have hlen := hH.2.2.1
  refine v_Wa_gather_0 (d := d + 2) hn ?_
  rintro w1 rfl w3 rfl w5 rfl
  generalize hu : mj_wu (mj_wu (mj_wu w 17 2 0 i) 17 3 0 j) 17 4 0 0 = u
  have en : ∀ (p : Nat) (a b : Int), p ≠ 17 → u p a b = w p a b := fun p a b hp => by
    rw [← hu]
    exact (mj_wu_n (fun z => hp z.1)).trans ((mj_wu_n (fun z => hp z.1)).trans (mj_wu_n (fun z => hp z.1)))
  have e172 : u 17 2 0 = i := by rw [← hu]; unfold mj_wu; simp
  have e173 : u 17 3 0 = j := by rw [← hu]; unfold mj_wu; simp
  have e174 : u 17 4 0 = 0 := by rw [← hu]; unfold mj_wu; simp
  have eV : mf_V u = mf_V w := by
    funext s a b
    unfold mf_V
    rw [en 16 _ _ (by decide)]
  have eov : ∀ V s a b, mf_ov u V s a b = mf_ov w V s a b := fun V s a b => by unfold mf_ov; rw [en 5 _ _ (by decide)]
  have eval : ∀ q, mf_val u (mf_V u) i j q = mf_val w (mf_V w) i j q := fun q => by
    unfold mf_val
    rw [eV, eov, eov, eov, en 3 _ _ (by decide), en 3 _ _ (by decide), en 3 _ _ (by decide)]
  have ein : ∀ r a m, mf_in u (mf_V u) r i j a m = mf_in w (mf_V w) r i j a m := fun r a m => by
    induction m with
    | zero => rfl
    | succ m ih => simp only [mf_in, ih, eval]
  have eout : ∀ r m, mf_out u (mf_V u) r i j m = mf_out w (mf_V w) r i j m := fun r m => by
    induction m with
    | zero => rfl
    | succ m ih => simp only [mf_out, ih, ein]
  have erl : ∀ m, mf_rl u (mf_V u) s i j m = mf_rl w (mf_V w) s i j m := fun m => by
    induction m with
    | zero => rfl
    | succ m ih => simp only [mf_rl, ih, eout, en 1 _ _ (show (1 : Nat) ≠ 17 by decide), en 2 _ _ (show (2 : Nat) ≠ 17 by decide)]
  have hHu : mf_H u := by
    have f : ∀ {p : Nat}, p ≠ 17 → ∀ a b, u p a b = w p a b := fun hp a b => en _ a b hp
    unfold mf_H mj_GI
    simp only [f (show (1 : Nat) ≠ 17 by decide), f (show (2 : Nat) ≠ 17 by decide), f (show (3 : Nat) ≠ 17 by decide), f (show (4 : Nat) ≠ 17 by decide), f (show (5 : Nat) ≠ 17 by decide), f (show (16 : Nat) ≠ 17 by decide)]
    exact hH
  have e1 : u 1 0 0 = w 1 0 0 := en 1 0 0 (by decide)
  have hL : (mf_ways w (mf_V w) s i j).length ≤ 910 := mf_len hc.1 hc.2 (by omega)
  have := c_gather_18 (d := d) (g := g) (xs := xs) (Post := Post) hn hHu hs hi0 hij (by rw [en 4 0 0 (by decide)]; exact hj) e172 e173 hL (fun w' f' a' => h w' (fun p a b p17 p18 p19 p20 => (f' p a b p18 p19 p20 (fun z => p17 z.1)).trans (en p a b p17)) ((f' 17 2 0 (by decide) (by decide) (by decide) (fun z => by have := z.2.1; omega)).trans e172) ((f' 17 3 0 (by decide) (by decide) (by decide) (fun z => by have := z.2.1; omega)).trans e173) ⟨a'.1, fun k q hq => by
    obtain ⟨t1, t2, t3⟩ := a'.2 k q hq
    exact ⟨t1, t2, t3.trans (eval q)⟩⟩) (u 1 0 0).toNat u [] (by omega) (mf_fr.refl u) ⟨by rw [e174]; rfl, fun k q hq => by simp at hq⟩ (by rw [List.nil_append, erl, e1]; rfl)
  rw [show u 1 0 0 - (((u 1 0 0).toNat : Nat) : Int) = 0 by omega] at this
  exact this
end C71
