/-! ===== the reference: ways, cut by cut ===== -/
theorem mf_way_k {u : mj_w} {N : Int → Int → Int → Prop} {i j : Int} {q : Int × Int × Int} : mf_way u N i j q ↔ ∀ k : Int, 0 ≤ k → k < 3 → mf_nz u N (u 3 ((q.1 + 1) * 4 + k) 0) (mf_cu i j q k) (mf_cu i j q (k + 1)) := by
  constructor
  · rintro ⟨h0, h1, h2⟩ k k0 k1
    have : k = 0 ∨ k = 1 ∨ k = 2 := by omega
    rcases this with rfl | rfl | rfl
    · rw [Int.add_zero]; exact h0
    · exact h1
    · exact h2
  · intro h
    refine ⟨?_, h 1 (by decide) (by decide), h 2 (by decide) (by decide)⟩
    have := h 0 (by decide) (by decide)
    rw [Int.add_zero] at this
    exact this
/-- the reference's rules and terminals, told as the class's are -/
def mq_B (u : mj_w) (n : Int) (w : mj_w) : Prop := mj_GI u ∧ (0 ≤ n ∧ n ≤ 12) ∧ (∀ a : Int, 0 ≤ a → a < n → 8 ≤ u 5 a 0 ∧ u 5 a 0 < 12) ∧ w 21 2 0 = u 1 0 0 ∧ w 21 6 0 = n ∧ (∀ r : Int, 0 ≤ r → r < u 1 0 0 → w 22 r 0 = u 2 r 0 ∧ (0 ≤ w 23 r 0 ∧ w 23 r 0 ≤ 3) ∧ ∀ k : Int, 0 ≤ k → k < 3 → (k < w 23 r 0 → u 3 ((r + 1) * 4 + k) 0 = w 24 (3 * r + k) 0 ∧ 0 ≤ w 24 (3 * r + k) 0) ∧ (¬ k < w 23 r 0 → u 3 ((r + 1) * 4 + k) 0 = -1)) ∧ ∀ a : Int, 0 ≤ a → a < n → w 25 a 0 = u 5 a 0
theorem mq_B.same {u : mj_w} {n : Int} {w w' : mj_w} (h : mq_B u n w) (e : ∀ (p : Nat) (a b : Int), (p = 21 ∧ (a = 2 ∨ a = 6)) ∨ (22 ≤ p ∧ p ≤ 25) → w' p a b = w p a b) : mq_B u n w' := by
  obtain ⟨h1, h2, h3, h4, h5, h6, h7⟩ := h
  have e22 := fun a => e 22 a 0 (by omega)
  have e23 := fun a => e 23 a 0 (by omega)
  have e24 := fun a => e 24 a 0 (by omega)
  have e25 := fun a => e 25 a 0 (by omega)
  unfold mq_B
  simp only [e22, e23, e24, e25, e 21 2 0 (by omega), e 21 6 0 (by omega)]
  exact ⟨h1, h2, h3, h4, h5, h6, h7⟩
/-- what is derived, as a table: -1 for yes -/
def mq_VD (w : mj_w) (s a b : Int) : Int := if ((0 ≤ s ∧ s < 5) ∧ (0 ≤ a ∧ a < 13) ∧ 0 ≤ b ∧ b < 13) ∧ w 27 (169 * s + 13 * a + b) 0 ≠ 0 then -1 else 0
theorem mq_VD_rv (w : mj_w) : mf_RV (mq_VD w) := fun s a b => by
  unfold mq_VD
  split
  · exact Or.inl rfl
  · exact Or.inr (by decide)
theorem mq_VD_nz {w : mj_w} {s a b : Int} (hs : 0 ≤ s ∧ s < 5) (ha : 0 ≤ a ∧ a < 13) (hb : 0 ≤ b ∧ b < 13) : mq_VD w s a b ≠ 0 ↔ w 27 (169 * s + 13 * a + b) 0 ≠ 0 := by
  unfold mq_VD
  by_cases q : w 27 (169 * s + 13 * a + b) 0 ≠ 0
  · rw [if_pos ⟨⟨hs, ha, hb.1, hb.2⟩, q⟩]
    exact ⟨fun _ => q, fun _ => by decide⟩
  · rw [if_neg (fun z => q z.2)]
    exact ⟨fun z => absurd rfl z, fun z => absurd z q⟩
theorem mq_VD_same {w w' : mj_w} (h : ∀ a b : Int, w' 27 a b = w 27 a b) : mq_VD w' = mq_VD w := by
  funext s a b
  unfold mq_VD
  rw [h]
/-- the way that the cuts stand for -/
def mq_t (l r j c1 c2 : Int) : Int × Int × Int := if l = 3 then (r, c1, c2) else if l = 2 then (r, c1, j) else (r, j, j)
theorem mq_t_3 {r j c1 c2 : Int} : mq_t 3 r j c1 c2 = (r, c1, c2) := rfl
theorem mq_t_2 {r j c1 c2 : Int} : mq_t 2 r j c1 c2 = (r, c1, j) := rfl
theorem mq_t_1 {l r j c1 c2 : Int} (h : l < 2) : mq_t l r j c1 c2 = (r, j, j) := by
  unfold mq_t
  rw [if_neg (by omega), if_neg (by omega)]
theorem mq_t_r {l r j c1 c2 : Int} : (mq_t l r j c1 c2).1 = r := by
  unfold mq_t
  split
  · rfl
  · split <;> rfl
theorem mq_t_cut {u : mj_w} {l r i j c1 c2 : Int} (hr : 0 ≤ r ∧ r < u 1 0 0) (hp : i ≤ c1 ∧ c1 ≤ c2 ∧ c2 ≤ j) : mf_cut u i j (mq_t l r j c1 c2) := by
  unfold mq_t mf_cut
  split
  · exact ⟨hr, hp⟩
  · split
    · exact ⟨hr, by show i ≤ c1; omega, by show c1 ≤ j; omega, Int.le_refl _⟩
    · exact ⟨hr, by show i ≤ j; omega, Int.le_refl _, Int.le_refl _⟩
/-- what the reference takes for cut k -/
theorem mq_t_cu {l r i j c1 c2 k : Int} (hl : 0 ≤ l ∧ l ≤ 3) (k0 : 0 ≤ k) (k1 : k ≤ l) : mf_cu i j (mq_t l r j c1 c2) k = if k = 0 then i else if k = l then j else if k = 1 then c1 else c2 := by
  unfold mf_cu mq_t
  have : l = 0 ∨ l = 1 ∨ l = 2 ∨ l = 3 := by omega
  have : k = 0 ∨ k = 1 ∨ k = 2 ∨ k = 3 := by omega
  rcases this with rfl | rfl | rfl | rfl
  · simp
  · rcases ‹l = 0 ∨ l = 1 ∨ l = 2 ∨ l = 3› with rfl | rfl | rfl | rfl
    · omega
    · simp
    · simp
    · simp
  · rcases ‹l = 0 ∨ l = 1 ∨ l = 2 ∨ l = 3› with rfl | rfl | rfl | rfl
    · omega
    · omega
    · simp
    · simp
  · rcases ‹l = 0 ∨ l = 1 ∨ l = 2 ∨ l = 3› with rfl | rfl | rfl | rfl
    · omega
    · omega
    · omega
    · simp
/-- behind the body nothing is cut off -/
theorem mq_t_end {l r i j c1 c2 k : Int} (hl : 0 ≤ l ∧ l ≤ 3) (k0 : l ≤ k) (k1 : k < 3) (hz : l = 0 → i = j) : mf_cu i j (mq_t l r j c1 c2) k = mf_cu i j (mq_t l r j c1 c2) (k + 1) := by
  have hk : k = 0 ∨ k = 1 ∨ k = 2 := by omega
  have hl4 : l = 0 ∨ l = 1 ∨ l = 2 := by omega
  rcases hl4 with rfl | rfl | rfl
  · have := hz rfl
    subst this
    rcases hk with rfl | rfl | rfl <;> rfl
  · rcases hk with rfl | rfl | rfl
    · omega
    · rfl
    · rfl
  · rcases hk with rfl | rfl | rfl
    · omega
    · omega
    · rfl
/-- the ways from these cuts on -/
def mq_rem (u : mj_w) (V : Int → Int → Int → Int) (i j l r c1 c2 : Int) : List (Int × Int × Int) :=
  if l = 3 then mf_in u V r i j c1 (j - c2 + 1).toNat ++ mf_out u V r i j (j - c1).toNat else if l = 2 then mf_out u V r i j (j - c1 + 1).toNat else mf_out u V r i j (j - i + 1).toNat
theorem mq_rem_first {u : mj_w} {V : Int → Int → Int → Int} {i j l r : Int} (hij : i ≤ j) : mq_rem u V i j l r i i = mf_out u V r i j (j - i + 1).toNat := by
  unfold mq_rem
  split
  · rw [show (j - i + 1).toNat = (j - i).toNat + 1 by omega]
    show _ = mf_in u V r i j (j - ((j - i).toNat : Int)) ((j - i).toNat + 1) ++ mf_out u V r i j (j - i).toNat
    rw [show j - ((j - i).toNat : Int) = i by omega]
  · split <;> rfl
/-- the way at these cuts, if it is one -/
def mq_hd (u : mj_w) (V : Int → Int → Int → Int) (i j : Int) (t : Int × Int × Int) : List (Int × Int × Int) := if mf_val u V i j t ≠ 0 then [t] else []
theorem mf_in_cons {u : mj_w} {V : Int → Int → Int → Int} {r i j a b : Int} (hb : b ≤ j) : mf_in u V r i j a (j - b + 1).toNat = mq_hd u V i j (r, a, b) ++ mf_in u V r i j a (j - b).toNat := by
  rw [show (j - b + 1).toNat = (j - b).toNat + 1 by omega]
  show (if mf_val u V i j (r, a, j - ((j - b).toNat : Int)) ≠ 0 then [(r, a, j - ((j - b).toNat : Int))] else []) ++ _ = _
  rw [show j - ((j - b).toNat : Int) = b by omega]
  rfl
theorem mf_out_cons {u : mj_w} {V : Int → Int → Int → Int} {r i j a : Int} (ha : a ≤ j) : mf_out u V r i j (j - a + 1).toNat = mf_in u V r i j a (j - a + 1).toNat ++ mf_out u V r i j (j - a).toNat := by
  rw [show (j - a + 1).toNat = (j - a).toNat + 1 by omega]
  show mf_in u V r i j (j - ((j - a).toNat : Int)) ((j - a).toNat + 1) ++ _ = _
  rw [show j - ((j - a).toNat : Int) = a by omega]
theorem mq_rem_3a {u : mj_w} {V : Int → Int → Int → Int} {i j r c1 c2 : Int} (hp : c2 < j) : mq_rem u V i j 3 r c1 c2 = mq_hd u V i j (mq_t 3 r j c1 c2) ++ mq_rem u V i j 3 r c1 (c2 + 1) := by
  unfold mq_rem
  rw [if_pos rfl, if_pos rfl, mf_in_cons (by omega), mq_t_3, show (j - (c2 + 1) + 1).toNat = (j - c2).toNat by omega, List.append_assoc]
theorem mq_rem_3b {u : mj_w} {V : Int → Int → Int → Int} {i j r c1 : Int} (hp : c1 < j) : mq_rem u V i j 3 r c1 j = mq_hd u V i j (mq_t 3 r j c1 j) ++ mq_rem u V i j 3 r (c1 + 1) (c1 + 1) := by
  unfold mq_rem
  rw [if_pos rfl, if_pos rfl, mf_in_cons (Int.le_refl _), mq_t_3, show (j - j).toNat = 0 by omega, show mf_in u V r i j c1 0 = [] from rfl, List.append_nil]
  rw [show (j - c1).toNat = (j - (c1 + 1) + 1).toNat by omega, mf_out_cons (by omega)]
theorem mq_rem_3c {u : mj_w} {V : Int → Int → Int → Int} {i j r : Int} : mq_rem u V i j 3 r j j = mq_hd u V i j (mq_t 3 r j j j) := by
  unfold mq_rem
  rw [if_pos rfl, mf_in_cons (Int.le_refl _), mq_t_3, show (j - j).toNat = 0 by omega, show mf_in u V r i j j 0 = [] from rfl, show mf_out u V r i j 0 = [] from rfl, List.append_nil, List.append_nil]
theorem mq_rem_2a {u : mj_w} {V : Int → Int → Int → Int} (hV : mf_RV V) {i j r c1 c2 : Int} (h2 : u 3 ((r + 1) * 4 + 2) 0 = -1) (hp : c1 < j) : mq_rem u V i j 2 r c1 c2 = mq_hd u V i j (mq_t 2 r j c1 c2) ++ mq_rem u V i j 2 r (c1 + 1) (c1 + 1) := by
  unfold mq_rem
  rw [if_neg (show ¬ (2 : Int) = 3 by decide), if_pos (show (2 : Int) = 2 from rfl), if_neg (show ¬ (2 : Int) = 3 by decide), if_pos (show (2 : Int) = 2 from rfl), mf_out_cons (by omega), show (j - c1 + 1).toNat = (j - c1).toNat + 1 by omega, mf_in_one hV h2 (j - c1).toNat]
  have := mf_in_cons (u := u) (V := V) (r := r) (i := i) (j := j) (a := c1) (b := j) (Int.le_refl _)
  rw [show (j - j + 1).toNat = 1 by omega, show (j - j).toNat = 0 by omega, show mf_in u V r i j c1 0 = [] from rfl, List.append_nil] at this
  rw [this, mq_t_2, show (j - (c1 + 1) + 1).toNat = (j - c1).toNat by omega]
theorem mq_rem_2c {u : mj_w} {V : Int → Int → Int → Int} {i j r c2 : Int} : mq_rem u V i j 2 r j c2 = mq_hd u V i j (mq_t 2 r j j c2) := by
  unfold mq_rem
  rw [if_neg (by decide), if_pos rfl, mf_out_cons (Int.le_refl _), mf_in_cons (Int.le_refl _), show (j - j).toNat = 0 by omega, show mf_in u V r i j j 0 = [] from rfl, show mf_out u V r i j 0 = [] from rfl, List.append_nil, List.append_nil, mq_t_2]
theorem mq_rem_1 {u : mj_w} {V : Int → Int → Int → Int} (hV : mf_RV V) {i j l r c1 c2 : Int} (hij : i ≤ j) (hl : l < 2) (h1 : u 3 ((r + 1) * 4 + 1) 0 = -1) (h2 : u 3 ((r + 1) * 4 + 2) 0 = -1) : mq_rem u V i j l r c1 c2 = mq_hd u V i j (mq_t l r j c1 c2) := by
  unfold mq_rem
  rw [if_neg (by omega), if_neg (by omega), show (j - i + 1).toNat = (j - i).toNat + 1 by omega, mf_out_one hV h1 h2 (j - i).toNat]
  have := mf_out_cons (u := u) (V := V) (r := r) (i := i) (j := j) (a := j) (Int.le_refl _)
  rw [mf_in_cons (Int.le_refl _), show (j - j + 1).toNat = 1 by omega, show (j - j).toNat = 0 by omega, show mf_in u V r i j j 0 = [] from rfl, show mf_out u V r i j 0 = [] from rfl, List.append_nil, List.append_nil] at this
  rw [this, mq_t_1 hl]
/-- nothing but the cuts -/
def mq_cf (w w' : mj_w) : Prop := ∀ (p : Nat) (a b : Int), ¬ (p = 21 ∧ (a = 14 ∨ a = 15)) → w' p a b = w p a b
theorem mq_cf.refl (w : mj_w) : mq_cf w w := fun _ _ _ _ => rfl
theorem mq_cf.trans {w w1 w2 : mj_w} (h : mq_cf w w1) (h' : mq_cf w1 w2) : mq_cf w w2 := fun p a b c => (h' p a b c).trans (h p a b c)
theorem mq_cf.B {u : mj_w} {n : Int} {w w' : mj_w} (h : mq_cf w w') (hB : mq_B u n w) : mq_B u n w' := hB.same (fun p a b hp => h p a b (by omega))
theorem mq_cf.p {w w' : mj_w} (h : mq_cf w w') {p : Nat} (hp : p ≠ 21) (a b : Int) : w' p a b = w p a b := h p a b (fun z => hp z.1)
theorem mq_cf.VD {w w' : mj_w} (h : mq_cf w w') : mq_VD w' = mq_VD w := mq_VD_same (fun a b => h.p (by decide) a b)
/-- where the cuts stand -/
def mq_at (i j : Int) (w : mj_w) : Prop := i ≤ w 21 14 0 ∧ w 21 14 0 ≤ w 21 15 0 ∧ w 21 15 0 ≤ j
section C81
variable {g : mj_G} {nn d : Nat} {xs : mj_M} {Post : Option mj_V → mj_w → Prop} {u w : mj_w} {n : Int}
theorem c_M_node (hn : 33 ≤ nn) {a b c : Int} (h : Post (some (.inl (169 * a + 13 * b + c))) w) : mj_J g y_Mo_node d 0 0 (0, [some (.inl a), some (.inl b), some (.inl c)], [], mj_mem nn xs w) (mj_P nn xs Post) := v_Mo_node_0 hn h
theorem c_M_firstCuts (hn : 33 ≤ nn) {i : Int} (h : ∀ w', mq_cf w w' → w' 21 14 0 = i → w' 21 15 0 = i → Post none w') : mj_J g y_Mo_firstCuts d 0 0 (0, [some (mj_R 21), some (.inl i)], [], mj_mem nn xs w) (mj_P nn xs Post) := by
  refine v_Mo_firstCuts_0 hn ?_
  rintro w1 rfl w3 rfl
  refine h _ (fun p a b hp => (mj_wu_n (fun z => hp ⟨z.1, Or.inr z.2.1⟩)).trans (mj_wu_n (fun z => hp ⟨z.1, Or.inl z.2.1⟩))) ?_ ?_
  · refine (mj_wu_n (fun z => by have := z.2.1; omega)).trans ?_
    unfold mj_wu; simp
  · unfold mj_wu; simp
theorem c_M_cut (hn : 33 ≤ nn) (hB : mq_B u n w) {r i j k : Int} (hr : 0 ≤ r ∧ r < u 1 0 0) (hk : 0 ≤ k ∧ k ≤ w 23 r 0) (h : Post (some (.inl (mf_cu i j (mq_t (w 23 r 0) r j (w 21 14 0) (w 21 15 0)) k))) w) :
    mj_J g y_Mo_cut d 0 0 (0, [some (mj_R 21), some (.inl r), some (.inl k), some (.inl i), some (.inl j)], [], mj_mem nn xs w) (mj_P nn xs Post) := by
  have hl := (hB.2.2.2.2.2.1 r hr.1 hr.2).2.1
  have hcnt := hB.1.1
  rw [mq_t_cu hl hk.1 hk.2] at h
  refine v_Mo_cut_0 hn ⟨⟨by omega, by omega⟩, fun q => ?_, fun q => ⟨hr.1, by omega, ⟨by omega, by omega⟩, fun q1 => ?_, fun q1 => ⟨fun q2 => ?_, fun q2 => ?_⟩⟩⟩
  · rwa [if_pos q] at h
  · rwa [if_neg q, if_pos q1] at h
  · rwa [if_neg q, if_neg q1, if_pos q2] at h
  · rwa [if_neg q, if_neg q1, if_neg q2] at h
theorem c_M_isDerived (hn : 33 ≤ nn) (hB : mq_B u n w) (h27 : ∀ c : Int, 0 ≤ c → c < 845 → w 27 c 0 = 0 ∨ w 27 c 0 = 1) {s a b : Int} (hs : 0 ≤ s ∧ s < 12 ∧ (s < 5 ∨ 8 ≤ s)) (ha : 0 ≤ a) (hab : a ≤ b) (hb : b ≤ n)
    (h1 : mf_nz u (fun s a b => mq_VD w s a b ≠ 0) s a b → Post (some (.inl 1)) w) (h0 : ¬ mf_nz u (fun s a b => mq_VD w s a b ≠ 0) s a b → Post (some (.inl 0)) w) :
    mj_J g y_Mo_isDerived (d + 1) 0 0 (0, [some (mj_R 21), some (.inl s), some (.inl a), some (.inl b)], [], mj_mem nn xs w) (mj_P nn xs Post) := by
  obtain ⟨b1, b2, b3, b4, b5, b6, b7⟩ := hB
  refine v_Mo_isDerived_0 hn ⟨⟨by omega, by omega⟩, fun q => c_M_node hn ⟨_, rfl, by omega, by omega, h27 _ (by omega) (by omega), ?_⟩, fun q => ⟨⟨by omega, by omega⟩, ⟨by omega, by omega⟩, fun q1 => ⟨ha, by omega, ?_, fun q2 => ?_, fun q2 => ?_⟩, fun q1 => ?_⟩⟩
  · have hnz := mq_VD_nz (w := w) (s := s) (a := a) (b := b) (by omega) (by omega) (by omega)
    rcases h27 (169 * s + 13 * a + b) (by omega) (by omega) with z | z
    · rw [z]
      exact h0 (fun y => absurd z (hnz.mp (y.2.2 (by omega) (by omega))))
    · rw [z]
      exact h1 ⟨fun y => by omega, fun y => by omega, fun _ _ => hnz.mpr (by rw [z]; decide)⟩
  · rw [b7 a ha (by omega)]
    have := b3 a ha (by omega)
    exact ⟨by omega, by omega⟩
  · rw [b7 a ha (by omega)] at q2
    exact h1 ⟨fun y => by omega, fun _ => ⟨q1, q2⟩, fun _ y => by omega⟩
  · rw [b7 a ha (by omega)] at q2
    exact h0 (fun y => q2 (y.2.1 (by omega)).2)
  · exact h0 (fun y => q1 (y.2.1 (by omega)).1)
theorem c_M_isWay_26 (hn : 33 ≤ nn) (hB : mq_B u n w) (h27 : ∀ c : Int, 0 ≤ c → c < 845 → w 27 c 0 = 0 ∨ w 27 c 0 = 1) {r i j : Int} (hr : 0 ≤ r ∧ r < u 1 0 0) (hi : 0 ≤ i) (hj : j ≤ n) (hat : mq_at i j w) (hl0 : w 23 r 0 ≠ 0)
    (h1 : mf_way u (fun s a b => mq_VD w s a b ≠ 0) i j (mq_t (w 23 r 0) r j (w 21 14 0) (w 21 15 0)) → Post (some (.inl 1)) w) (h0 : ¬ mf_way u (fun s a b => mq_VD w s a b ≠ 0) i j (mq_t (w 23 r 0) r j (w 21 14 0) (w 21 15 0)) → Post (some (.inl 0)) w) :
    ∀ (m : Nat) (k l4 : Int), 0 ≤ k → k ≤ w 23 r 0 → (w 23 r 0 - k).toNat = m → (l4 = 0 ∨ l4 = 1) → (l4 = 1 ↔ ∀ k' : Int, 0 ≤ k' → k' < k → mf_nz u (fun s a b => mq_VD w s a b ≠ 0) (u 3 ((r + 1) * 4 + k') 0) (mf_cu i j (mq_t (w 23 r 0) r j (w 21 14 0) (w 21 15 0)) k') (mf_cu i j (mq_t (w 23 r 0) r j (w 21 14 0) (w 21 15 0)) (k' + 1))) →
    mj_J g y_Mo_isWay (d + 2) 0 0 (26, [some (mj_R 21), some (.inl r), some (.inl i), some (.inl j), some (.inl l4), some (.inl k), none, none], [], mj_mem nn xs w) (mj_P nn xs Post) := by
  intro m
  obtain ⟨hl, hbody⟩ := (hB.2.2.2.2.2.1 r hr.1 hr.2).2
  have hcnt := hB.1.1
  have hcut := mq_t_cut (l := w 23 r 0) hr hat
  induction m with
  | zero =>
    intro k l4 k0 k1 hm h4 hx
    refine v_Mo_isWay_26 (d := d + 1) hn ⟨hr.1, by omega, ⟨by omega, by omega⟩, ⟨by omega, by omega⟩, fun q => by omega, fun q => ⟨h4, ?_⟩⟩
    have hw : l4 = 1 ↔ mf_way u (fun s a b => mq_VD w s a b ≠ 0) i j (mq_t (w 23 r 0) r j (w 21 14 0) (w 21 15 0)) := by
      rw [hx, mf_way_k, mq_t_r]
      constructor
      · intro z k' k0' k1'
        by_cases e : k' < w 23 r 0
        · exact z k' k0' (by omega)
        · rw [(hbody k' k0' k1').2 e]
          exact ⟨fun _ => mq_t_end hl (by omega) k1' (fun y => absurd y hl0), fun y => absurd y (by decide), fun y => absurd rfl y⟩
      · intro z k' k0' k1'
        exact z k' k0' (by omega)
    rcases h4 with e | e
    · rw [e]; exact h0 (fun z => by have := hw.mpr z; omega)
    · rw [e]; exact h1 (hw.mp e)
  | succ m ih =>
    intro k l4 k0 k1 hm h4 hx
    have hk : k < w 23 r 0 := by omega
    obtain ⟨hs1, hs2⟩ := (hbody k k0 (by omega)).1 hk
    have hsy := hB.1.2.2 ((r + 1) * 4 + k) (by omega) (by omega)
    have hcu := mf_cu_le (k := k) hcut.2 k0 (by omega)
    refine v_Mo_isWay_26 (d := d + 1) hn ⟨hr.1, by omega, ⟨by omega, by omega⟩, ⟨by omega, by omega⟩, fun q => ?_, fun q => by omega⟩
    refine c_M_cut hn hB hr ⟨k0, by omega⟩ ⟨_, rfl, c_M_cut hn hB hr ⟨by omega, by omega⟩ ⟨_, rfl, by rcases h4 with e | e <;> rw [e] <;> exact ⟨by decide, by decide⟩, fun q1 => ?_, fun q1 => ?_⟩⟩
    · refine ih (k + 1) 0 (by omega) (by omega) (by omega) (Or.inl rfl) ⟨fun z => absurd z (by decide), fun z => ?_⟩
      exfalso
      have := hx.mpr (fun k' a b => z k' a (by omega))
      omega
    · have h41 : l4 = 1 := by omega
      have hb := hB.2.1
      refine ⟨⟨by omega, by omega⟩, ⟨by omega, by omega⟩, fun q2 => by omega, fun q2 => ⟨by omega, by omega, ?_⟩⟩
      refine c_M_isDerived hn hB h27 (by rw [← hs1]; omega) (by omega) hcu.2.1 (by omega) (fun z => ⟨_, rfl, ⟨by decide, by decide⟩, fun y => absurd y (by decide), fun _ => ?_⟩) (fun z => ⟨_, rfl, ⟨by decide, by decide⟩, fun _ => ?_, fun y => absurd rfl y⟩)
      · refine ih (k + 1) 1 (by omega) (by omega) (by omega) (Or.inr rfl) ⟨fun _ k' k0' k1' => ?_, fun _ => rfl⟩
        by_cases e : k' = k
        · rw [e, hs1]; exact z
        · exact hx.mp h41 k' k0' (by omega)
      · refine ih (k + 1) 0 (by omega) (by omega) (by omega) (Or.inl rfl) ⟨fun y => absurd y (by decide), fun y => ?_⟩
        exfalso
        have := y k k0 (by omega)
        rw [hs1] at this
        exact z this
theorem c_M_isWay (hn : 33 ≤ nn) (hB : mq_B u n w) (h27 : ∀ c : Int, 0 ≤ c → c < 845 → w 27 c 0 = 0 ∨ w 27 c 0 = 1) {r i j : Int} (hr : 0 ≤ r ∧ r < u 1 0 0) (hi : 0 ≤ i) (hj : j ≤ n) (hat : mq_at i j w)
    (h1 : mf_way u (fun s a b => mq_VD w s a b ≠ 0) i j (mq_t (w 23 r 0) r j (w 21 14 0) (w 21 15 0)) → Post (some (.inl 1)) w) (h0 : ¬ mf_way u (fun s a b => mq_VD w s a b ≠ 0) i j (mq_t (w 23 r 0) r j (w 21 14 0) (w 21 15 0)) → Post (some (.inl 0)) w) :
    mj_J g y_Mo_isWay (d + 2) 0 0 (0, [some (mj_R 21), some (.inl r), some (.inl i), some (.inl j), none, none, none, none], [], mj_mem nn xs w) (mj_P nn xs Post) := by
  obtain ⟨hl, hbody⟩ := (hB.2.2.2.2.2.1 r hr.1 hr.2).2
  have hcnt := hB.1.1
  have hn12 := hB.2.1
  have hat' := hat
  unfold mq_at at hat'
  refine v_Mo_isWay_0 (d := d + 1) hn ⟨hr.1, by omega, ⟨by omega, by omega⟩, fun q => ⟨⟨by omega, by omega⟩, ⟨by omega, by omega⟩, fun q1 => h1 ?_, fun q1 => h0 ?_⟩, fun q => c_M_isWay_26 hn hB h27 hr hi hj hat q h1 h0 _ 0 1 (Int.le_refl _) hl.1 rfl (Or.inr rfl) ⟨fun _ k' a b => by omega, fun _ => rfl⟩⟩
  · rw [mf_way_k, mq_t_r]
    intro k' k0' k1'
    rw [(hbody k' k0' k1').2 (by omega)]
    exact ⟨fun _ => mq_t_end hl (by omega) k1' (fun _ => q1), fun y => absurd y (by decide), fun y => absurd rfl y⟩
  · intro z
    rw [mf_way_k, mq_t_r] at z
    have := z 0 (by decide) (by decide)
    rw [(hbody 0 (by decide) (by decide)).2 (by omega)] at this
    have e := this.1 rfl
    rw [mq_t_1 (by omega)] at e
    exact q1 e
theorem c_M_nextCuts (hn : 33 ≤ nn) (hB : mq_B u n w) {r i j : Int} (hr : 0 ≤ r ∧ r < u 1 0 0) (hi : 0 ≤ i) (hij : i ≤ j) (hj : j ≤ n) (hat : mq_at i j w)
    (h1 : ∀ w', mq_cf w w' → mq_at i j w' → ((j - w' 21 14 0) * 20 + (j - w' 21 15 0)).toNat < ((j - w 21 14 0) * 20 + (j - w 21 15 0)).toNat → (∀ V, mf_RV V → mq_rem u V i j (w 23 r 0) r (w 21 14 0) (w 21 15 0) = mq_hd u V i j (mq_t (w 23 r 0) r j (w 21 14 0) (w 21 15 0)) ++ mq_rem u V i j (w 23 r 0) r (w' 21 14 0) (w' 21 15 0)) → Post (some (.inl 1)) w')
    (h0 : (∀ V, mf_RV V → mq_rem u V i j (w 23 r 0) r (w 21 14 0) (w 21 15 0) = mq_hd u V i j (mq_t (w 23 r 0) r j (w 21 14 0) (w 21 15 0))) → Post (some (.inl 0)) w) :
    mj_J g y_Mo_nextCuts d 0 0 (0, [some (mj_R 21), some (.inl r), some (.inl j)], [], mj_mem nn xs w) (mj_P nn xs Post) := by
  obtain ⟨hl, hbody⟩ := (hB.2.2.2.2.2.1 r hr.1 hr.2).2
  have hcnt := hB.1.1
  have hn12 := hB.2.1
  have hat' := hat
  unfold mq_at at hat'
  have hend : ∀ e14 : w 21 14 0 = j, ¬ w 23 r 0 < 2 → (w 23 r 0 = 3 → w 21 15 0 = j) → Post (some (.inl 0)) w := fun e14 hl2 h3 => by
    refine h0 (fun V hV => ?_)
    have : w 23 r 0 = 2 ∨ w 23 r 0 = 3 := by omega
    rcases this with e | e
    · rw [e, e14]; exact mq_rem_2c
    · rw [h3 e, e, e14]; exact mq_rem_3c
  have hone : w 23 r 0 < 2 → Post (some (.inl 0)) w := fun q => h0 (fun V hV => mq_rem_1 hV hij q ((hbody 1 (by decide) (by decide)).2 (by omega)) ((hbody 2 (by decide) (by decide)).2 (by omega)))
  have hnext : w 21 14 0 ≠ j → ¬ w 23 r 0 < 2 → (w 23 r 0 = 3 → w 21 15 0 = j) → ∀ w13, w13 = mj_wu w 21 14 0 (w 21 14 0 + 1) → ∀ w15, w15 = mj_wu w13 21 15 0 (w13 21 14 0) → Post (some (.inl 1)) w15 := fun e14 hl2 h3 => by
    rintro w13 rfl w15 rfl
    have t14 : mj_wu w 21 14 0 (w 21 14 0 + 1) 21 14 0 = w 21 14 0 + 1 := by unfold mj_wu; simp
    rw [t14]
    have f14 : mj_wu (mj_wu w 21 14 0 (w 21 14 0 + 1)) 21 15 0 (w 21 14 0 + 1) 21 14 0 = w 21 14 0 + 1 := (mj_wu_n (fun z => by have := z.2.1; omega)).trans t14
    have f15 : mj_wu (mj_wu w 21 14 0 (w 21 14 0 + 1)) 21 15 0 (w 21 14 0 + 1) 21 15 0 = w 21 14 0 + 1 := by unfold mj_wu; simp
    refine h1 _ (fun p a b hp => (mj_wu_n (fun z => hp ⟨z.1, Or.inr z.2.1⟩)).trans (mj_wu_n (fun z => hp ⟨z.1, Or.inl z.2.1⟩))) (by unfold mq_at; rw [f14, f15]; omega) (by rw [f14, f15]; omega) (fun V hV => ?_)
    rw [f14, f15]
    have : w 23 r 0 = 2 ∨ w 23 r 0 = 3 := by omega
    rcases this with e | e
    · rw [e]; exact mq_rem_2a hV ((hbody 2 (by decide) (by decide)).2 (by omega)) (by omega)
    · rw [h3 e, e]; exact mq_rem_3b (by omega)
  refine v_Mo_nextCuts_0 hn ⟨hr.1, by omega, ⟨by omega, by omega⟩, fun q => ⟨⟨by omega, by omega⟩, ⟨by omega, by omega⟩, fun q1 => ?_, fun q1 => ⟨fun q2 => by omega, fun q2 => ⟨⟨by omega, by omega⟩, fun q3 => hend q3 q2 (fun _ => by omega), fun q3 => hnext q3 q2 (fun _ => by omega)⟩⟩⟩, fun q => ⟨hone, fun q2 => ⟨⟨by omega, by omega⟩, ⟨by omega, by omega⟩, fun q3 => hend q3 q2 (fun y => absurd y q), fun q3 => hnext q3 q2 (fun y => absurd y q)⟩⟩⟩
  rintro w8 rfl
  have t15 : mj_wu w 21 15 0 (w 21 15 0 + 1) 21 15 0 = w 21 15 0 + 1 := by unfold mj_wu; simp
  have t14 : mj_wu w 21 15 0 (w 21 15 0 + 1) 21 14 0 = w 21 14 0 := mj_wu_n (fun z => by have := z.2.1; omega)
  refine h1 _ (fun p a b hp => mj_wu_n (fun z => hp ⟨z.1, Or.inr z.2.1⟩)) (by unfold mq_at; rw [t14, t15]; omega) (by rw [t14, t15]; omega) (fun V hV => ?_)
  rw [t14, t15, q]
  exact mq_rem_3a q1
theorem mq_hd_len {V : Int → Int → Int → Int} {i j : Int} {t : Int × Int × Int} : (mf_val u V i j t ≠ 0 → mq_hd u V i j t = [t]) ∧ (¬ mf_val u V i j t ≠ 0 → mq_hd u V i j t = []) := by
  unfold mq_hd
  exact ⟨fun q => by rw [if_pos q], fun q => by rw [if_neg q]⟩
theorem c_M_waysBy_11 (hn : 33 ≤ nn) {w0 : mj_w} (hB : mq_B u n w0) (h27 : ∀ c : Int, 0 ≤ c → c < 845 → w0 27 c 0 = 0 ∨ w0 27 c 0 = 1) {r i j : Int} (hr : 0 ≤ r ∧ r < u 1 0 0) (hi : 0 ≤ i) (hij : i ≤ j) (hj : j ≤ n) {t : Int}
    (h : ∀ w', mq_cf w0 w' → Post (some (.inl t)) w') :
    ∀ (m : Nat) (w : mj_w) (l4 : Int), mq_cf w0 w → mq_at i j w → ((j - w 21 14 0) * 20 + (j - w 21 15 0)).toNat = m → l4 + ((mq_rem u (mq_VD w0) i j (w 23 r 0) r (w 21 14 0) (w 21 15 0)).length : Int) = t →
    mj_J g y_Mo_waysBy (d + 3) 0 0 (11, [some (mj_R 21), some (.inl r), some (.inl i), some (.inl j), some (.inl l4), some (.inl 1)], [], mj_mem nn xs w) (mj_P nn xs Post) := by
  intro m
  induction m using Nat.strongRecOn with
  | ind m ih =>
    intro w l4 hf hat hm ht
    have hBw := hf.B hB
    have h27w : ∀ c : Int, 0 ≤ c → c < 845 → w 27 c 0 = 0 ∨ w 27 c 0 = 1 := fun c c0 c1 => by rw [hf.p (by decide)]; exact h27 c c0 c1
    have eVD : mq_VD w = mq_VD w0 := hf.VD
    have rest : ∀ (y : Int) , l4 + y = l4 + ((mq_hd u (mq_VD w0) i j (mq_t (w 23 r 0) r j (w 21 14 0) (w 21 15 0))).length : Int) → mj_J g y_Mo_nextCuts (d + 2) 0 0 (0, [some (mj_R 21), some (.inl r), some (.inl j)], [], mj_mem nn xs w) (mj_P nn xs (fun v w7 => ∃ x8 : Int, v = some (.inl x8) ∧ (mj_J g y_Mo_waysBy (d + 3) 0 0 (11, [some (mj_R 21), some (.inl r), some (.inl i), some (.inl j), some (.inl (l4 + y)), some (.inl x8)], [], mj_mem nn xs w7) (mj_P nn xs Post)))) := fun y hy => by
      refine c_M_nextCuts hn hBw hr hi hij hj hat (fun w' f' at' hlt hrem => ⟨_, rfl, ?_⟩) (fun hrem => ⟨_, rfl, ?_⟩)
      · have e23 : w' 23 r 0 = w 23 r 0 := f'.p (by decide) r 0
        refine ih _ (by omega) w' (l4 + y) (hf.trans f') at' rfl ?_
        rw [e23]
        rw [hrem _ (mq_VD_rv w0), List.length_append] at ht
        omega
      · rw [hrem _ (mq_VD_rv w0)] at ht
        refine v_Mo_waysBy_11 (d := d + 2) hn ⟨⟨by decide, by decide⟩, fun _ => ?_, fun z => absurd rfl z⟩
        rw [hy, ht]
        exact h w hf
    refine v_Mo_waysBy_11 (d := d + 2) hn ⟨⟨by decide, by decide⟩, fun z => absurd z (by decide), fun _ => ?_⟩
    refine c_M_isWay (d := d) hn hBw h27w hr hi hj hat (fun z => ⟨_, rfl, ⟨by decide, by decide⟩, fun y => absurd y (by decide), fun _ => rest 1 ?_⟩) (fun z => ⟨_, rfl, ⟨by decide, by decide⟩, fun _ => rest 0 ?_, fun y => absurd rfl y⟩)
    · rw [eVD, ← mf_val_nz (mq_VD_rv w0)] at z
      rw [mq_hd_len.1 z]
      rfl
    · rw [eVD, ← mf_val_nz (mq_VD_rv w0)] at z
      rw [mq_hd_len.2 z]
      rfl
theorem c_M_waysBy (hn : 33 ≤ nn) (hB : mq_B u n w) (h27 : ∀ c : Int, 0 ≤ c → c < 845 → w 27 c 0 = 0 ∨ w 27 c 0 = 1) {r i j : Int} (hr : 0 ≤ r ∧ r < u 1 0 0) (hi : 0 ≤ i) (hij : i ≤ j) (hj : j ≤ n)
    (h : ∀ w', mq_cf w w' → Post (some (.inl ((mf_out u (mq_VD w) r i j (j - i + 1).toNat).length : Int))) w') :
    mj_J g y_Mo_waysBy (d + 3) 0 0 (0, [some (mj_R 21), some (.inl r), some (.inl i), some (.inl j), none, none], [], mj_mem nn xs w) (mj_P nn xs Post) := by
  refine v_Mo_waysBy_0 (d := d + 2) hn (c_M_firstCuts hn (fun w1 f1 e14 e15 => ⟨rfl, ?_⟩))
  refine c_M_waysBy_11 (d := d) hn hB h27 hr hi hij hj h _ w1 0 f1 (by unfold mq_at; omega) rfl ?_
  rw [e14, e15, mq_rem_first hij, Int.zero_add]
theorem mf_pr_min {x y : Int} (hx : 0 < x) (hy : 0 < y) : (1000000000000 ≤ x * y → mf_pr x y = 1000000000000) ∧ (x * y < 1000000000000 → mf_pr x y = x * y) := by
  unfold mf_pr
  rw [if_neg (by omega), if_neg (by omega)]
  have e : 1000000000000 / y < x ↔ 1000000000000 < x * y := Int.ediv_lt_iff_lt_mul hy
  constructor
  · intro z
    by_cases q : 1000000000000 / y < x
    · rw [if_pos q]
    · rw [if_neg q]
      rw [e] at q
      omega
  · intro z
    rw [if_neg (by rw [e]; omega)]
theorem c_M_times (hn : 33 ≤ nn) {x y : Int} (hx : 0 < x ∧ x ≤ 1000000000000) (hy : 0 < y ∧ y ≤ 1000000000000) (h : Post (some (.inr (.inl (mf_pr x y)))) w) :
    mj_J g y_Mo_times d 0 0 (0, [some (.inr (.inl x)), none, some (.inr (.inl y)), none], [], mj_mem nn xs w) (mj_P nn xs Post) := by
  have hm := mf_pr_min hx.1 hy.1
  have hd0 := Int.ediv_nonneg (show (0 : Int) ≤ 1000000000000 + x - 1 by omega) (Int.le_of_lt hx.1)
  have hd1 := Int.ediv_le_self (a := 1000000000000 + x - 1) x (by omega)
  have e : y < (1000000000000 + x - 1) / x ↔ x * y < 1000000000000 := by
    have e1 : y + 1 ≤ (1000000000000 + x - 1) / x ↔ (y + 1) * x ≤ 1000000000000 + x - 1 := Int.le_ediv_iff_mul_le hx.1
    have e2 : (y + 1) * x = x * y + x := by rw [Int.add_mul, Int.one_mul, Int.mul_comm]
    rw [e2] at e1
    constructor
    · intro z
      have := e1.mp (by omega)
      omega
    · intro z
      have := e1.mpr (by omega)
      omega
  refine v_Mo_times_0 hn ⟨⟨by omega, by omega⟩, fun q => by omega, fun q => ⟨⟨by omega, by omega⟩, fun q1 => by omega, fun q1 => ⟨⟨by omega, by omega⟩, by omega, hx.1, ⟨by omega, by omega⟩, fun q2 => ?_, fun q2 => ?_⟩⟩⟩
  · rw [← hm.2 (e.mp q2)]; exact h
  · rw [← hm.1 (by rw [e] at q2; omega)]; exact h
end C81
