/-! ===== the reference: follow ===== -/
/-- what item (s, o) of set i asks for lies in T -/
def mj_done (i : Int) (w : mj_w) (T : Int → Int → Prop) (s o : Int) : Prop :=
  (∀ r : Int, 0 ≤ r → r < w 1 0 0 → w 2 r 0 = w 3 s 0 → T ((r + 1) * 4) i) ∧
  (w 3 s 0 = -1 → mj_ls_ w s ≠ -1 →
    (o < i → w 9 o (mj_ls_ w s) ≠ -1 → T (w 9 o (mj_ls_ w s) / 13) (w 9 o (mj_ls_ w s) % 13)) ∧
    (o < i → w 9 o (mj_ls_ w s) = -1 → ∀ s' o' : Int, mj_rg s' o' → o' ≤ o → mj_it w o s' o' → w 3 s' 0 = mj_ls_ w s → T (s' + 1) o') ∧
    (o = i → ∀ s' o' : Int, mj_rg s' o' → o' ≤ i → T s' o' → w 3 s' 0 = mj_ls_ w s → T (s' + 1) o'))
theorem mj_closed_of {i : Int} {w : mj_w} {T : Int → Int → Prop} (h : ∀ s o : Int, mj_rg s o → o ≤ i → T s o → mj_done i w T s o) : mj_closed i w T :=
  ⟨fun s o hr ho ht => (h s o hr ho ht).1, fun s o hr ho ht => (h s o hr ho ht).2⟩
theorem mj_closed.at {i : Int} {w : mj_w} {T : Int → Int → Prop} (h : mj_closed i w T) {s o : Int} (hr : mj_rg s o) (ho : o ≤ i) (ht : T s o) : mj_done i w T s o :=
  ⟨h.1 s o hr ho ht, h.2 s o hr ho ht⟩
def mm_has (w : mj_w) (i s o : Int) : Prop := w 26 (mm_at i s o) 0 ≠ 0
/-- all that is in w' lies in every closed set over what is in w -/
def mm_sub (i : Int) (w w' : mj_w) : Prop := ∀ T : Int → Int → Prop, mj_closed i (mm_w w) T → (∀ s o : Int, mj_rg s o → mm_has w i s o → T s o) → ∀ s o : Int, mj_rg s o → mm_has w' i s o → T s o
theorem mm_sub.refl (i : Int) (w : mj_w) : mm_sub i w w := fun _ _ h => h
theorem mm_sub.trans {i : Int} {w w1 w2 : mj_w} (h : mm_sub i w w1) (e : mm_eq i w w1) (h' : mm_sub i w1 w2) : mm_sub i w w2 := fun T hT hs => h' T (e.closed hT) (h T hT hs)
def mm_ok (i : Int) (w : mj_w) : Prop := mm_GI w ∧ (0 ≤ i ∧ i < 13) ∧ (∀ f s o : Int, 0 ≤ f → f < i → mj_rg s o → mm_has w f s o → o ≤ f ∧ s < 4 * (w 21 2 0 + 1)) ∧ ∀ s o : Int, mj_rg s o → mm_has w i s o → o ≤ i ∧ s < 4 * (w 21 2 0 + 1)
theorem mm_NR {i : Int} {w : mj_w} (hG : mm_GI w) (hi : i < 13) (hO : ∀ f s o : Int, 0 ≤ f → f < i → mj_rg s o → mm_has w f s o → o ≤ f ∧ s < 4 * (w 21 2 0 + 1)) : ∀ (m : Nat) (f l : Int), f.toNat = m → 0 ≤ f → f < i → 0 ≤ l → mm_w w 9 f l = -1 ∨ (0 ≤ mm_w w 9 f l ∧ mm_w w 9 f l < 572 ∧ mm_w w 9 f l % 13 ≤ f ∧ mm_w w 9 f l / 13 < 4 * (w 21 2 0 + 1)) := by
  intro m
  induction m using Nat.strongRecOn with
  | ind m ih =>
    intro f l hm f0 f1 l0
    have h := mm_names w f0 (by omega) l
    rcases hG.2.2.2.2.1 with h6 | h6
    · exact Or.inl (h.1 h6)
    · obtain ⟨h1, h2⟩ := h.2 (show mm_w w 6 1 0 ≠ 0 from by show w 21 0 0 ≠ 0; omega)
      by_cases q : ∃ s o, mj_lone (mm_w w) f l s o ∧ mm_w w 3 (s + 1) 0 = -1
      · obtain ⟨s, o, q1, q2⟩ := q
        rw [h1 s o q1 q2]
        have hb : mm_w w 3 s 0 = l := q1.2.2.1
        obtain ⟨ho, hs⟩ := hO f s o f0 f1 q1.1 ((mm_it w f q1.1).mp q1.2.1)
        have hnx := hG.GI.nx q1.1 (by omega)
        have hm3 := (hG.bh q1.1.1 q1.1.2.1).2.2.2.1
        have hb' : mm_bh w s = l := hb
        obtain ⟨r1, r2, r3, r4⟩ := q1.1
        unfold mj_nm
        split
        · rename_i z
          have hls := (mj_lo_r hG.GI (s / 4 - 1)).resolve_left z.2.1
          have := ih o.toNat (by omega) o (mj_ls_ (mm_w w) s) rfl r3 (by omega) hls.1
          omega
        · have := hnx.2.1
          have hs3 : s % 4 ≠ 3 := fun z => by have := hm3 z; omega
          omega
      · exact Or.inl (h2 fun s o z1 z2 => q ⟨s, o, z1, z2⟩)
/-- origins are no later than the set, rules are rules: a closed set -/
theorem mm_T0 {i : Int} {w : mj_w} (hG : mm_GI w) (hi0 : 0 ≤ i) (hi : i < 13) (hO : ∀ f s o : Int, 0 ≤ f → f < i → mj_rg s o → mm_has w f s o → o ≤ f ∧ s < 4 * (w 21 2 0 + 1)) : mj_closed i (mm_w w) (fun s o => o ≤ i ∧ s < 4 * (w 21 2 0 + 1)) := by
  have adv : ∀ s' : Int, 0 ≤ s' → s' < 44 → mm_bh w s' ≠ -1 → s' < 4 * (w 21 2 0 + 1) → s' + 1 < 4 * (w 21 2 0 + 1) := fun s' a b c e => by
    have : s' % 4 ≠ 3 := fun z => c ((hG.bh a b).2.2.2.1 z)
    omega
  refine mj_closed_of fun s o hr ho ht => ⟨fun r r0 r1 r2 => ⟨Int.le_refl _, by change r < w 21 2 0 at r1; omega⟩, fun q1 q2 => ⟨fun x y => ?_, fun x y s' o' hr' ho' hit hb => ?_, fun x s' o' hr' ho' hit hb => ?_⟩⟩
  · have hls := (mj_lo_r hG.GI (s / 4 - 1)).resolve_left q2
    have := (mm_NR hG hi hO _ o (mj_ls_ (mm_w w) s) rfl hr.2.2.1 x hls.1).resolve_left y
    omega
  · have h1 := hO o s' o' hr.2.2.1 x hr' ((mm_it w o hr').mp hit)
    have hb' : mm_bh w s' ≠ -1 := by change mm_bh w s' = _ at hb; rw [hb]; exact q2
    exact ⟨by omega, adv s' hr'.1 hr'.2.1 hb' h1.2⟩
  · have hb' : mm_bh w s' ≠ -1 := by change mm_bh w s' = _ at hb; rw [hb]; exact q2
    exact ⟨hit.1, adv s' hr'.1 hr'.2.1 hb' hit.2⟩
theorem mm_ok.step {i n : Int} {w w' : mj_w} (h : mm_ok i w) (g : mm_gr i n w w') (hs : mm_sub i w w') : mm_ok i w' := by
  obtain ⟨h1, h2, h3, h4⟩ := h
  have e := g.eq.fr.1
  refine ⟨g.2.2.1, h2, fun f s o f0 f1 hr hh => ?_, fun s o hr hh => ?_⟩
  · rw [e]
    refine h3 f s o f0 f1 hr ?_
    unfold mm_has at hh ⊢
    rw [g.1 26 _ 0 (fun q => by have := q.2.1; unfold mm_at at this; obtain ⟨_, _, _, _⟩ := hr; omega)] at hh
    exact hh
  · rw [e]
    exact hs _ (mm_T0 h1 h2.1 h2.2 h3) h4 s o hr hh
theorem mm_at_inj {i s o s' o' : Int} (hr : mj_rg s o) (hr' : mj_rg s' o') (h : mm_at i s o = mm_at i s' o') : s = s' ∧ o = o' := by
  obtain ⟨_, _, _, _⟩ := hr
  obtain ⟨_, _, _, _⟩ := hr'
  unfold mm_at at h
  omega
section C62
variable {g : mj_G} {nn d : Nat} {xs : mj_M} {Post : Option mj_V → mj_w → Prop} {w : mj_w}
theorem c_M_put (hn : 33 ≤ nn) {i r t s o : Int} (hk : mm_ok i w) (hr : mj_rg s o) (es : 4 * (r + 1) + t = s)
    (hT : ∀ T : Int → Int → Prop, mj_closed i (mm_w w) T → (∀ s o : Int, mj_rg s o → mm_has w i s o → T s o) → T s o)
    (h : ∀ n w', mm_gr i n w w' → mm_sub i w w' → mm_has w' i s o → Post (some (.inl n)) w') :
    mj_J g y_Mo_add (d + 1) 0 0 (0, [some (mj_R 21), some (.inl i), some (.inl r), some (.inl t), some (.inl o), none], [], mj_mem nn xs w) (mj_P nn xs Post) := by
  refine c_M_add' hn hk.1 hk.2.1.1 hk.2.1.2 hr es (fun n w' g1 g2 g3 => h n w' g1 (fun T hc hs s' o' hr' hh => ?_) g2)
  rcases g3 _ hh with z | z
  · exact hs s' o' hr' z
  · obtain ⟨e1, e2⟩ := mm_at_inj hr' hr z
    rw [e1, e2]
    exact hT T hc hs
/-- follow's last loop: all items of set o with l behind their dots -/
theorem c_M_follow_147 (hn : 33 ≤ nn) {i r t o nx nm : Int} (hk0 : mm_ok i w) (hr0 : 0 ≤ r) (hr1 : r < 10) (ho0 : 0 ≤ o) (ho1 : o ≤ i)
    (hT : ∀ T : Int → Int → Prop, mj_closed i (mm_w w) T → (∀ s o : Int, mj_rg s o → mm_has w i s o → T s o) → (o < i → ∀ s' o' : Int, mj_rg s' o' → mm_has w o s' o' → mm_bh w s' = w 22 r 0 → T (s' + 1) o') ∧ (o = i → ∀ s' o' : Int, mj_rg s' o' → o' ≤ i → T s' o' → mm_bh w s' = w 22 r 0 → T (s' + 1) o'))
    (h : ∀ n w', mm_gr i n w w' → mm_sub i w w' → (n = 0 → ∀ s' o' : Int, mj_rg s' o' → mm_has w o s' o' → mm_bh w s' = w 22 r 0 → mm_has w i (s' + 1) o') → Post (some (.inl n)) w') :
    ∀ (m k : Nat) (n : Int) (w1 : mj_w), k + m = 572 → mm_gr i n w w1 → mm_sub i w w1 → (n = 0 → ∀ j : Nat, j < k → w 26 (572 * o + (j : Int)) 0 ≠ 0 → mm_bh w ((j : Int) / 13) = w 22 r 0 → mm_has w i ((j : Int) / 13 + 1) ((j : Int) % 13)) →
    mj_J g y_Mo_follow (d + 3) 0 0 (147, [some (mj_R 21), some (.inl i), some (.inl r), some (.inl t), some (.inl o), some (.inl nx), some (.inl n), some (.inl nm), some (.inl (k : Int))], [], mj_mem nn xs w1) (mj_P nn xs Post) := by
  intro m
  induction m with
  | zero =>
    intro k n w1 hk hg hs hd
    have ek : k = 572 := by omega
    subst ek
    refine v_Mo_follow_147 (d := d + 2) hn ⟨⟨by omega, by omega⟩, fun q => absurd q (by decide), fun _ => h n w1 hg hs (fun z s' o' hr' hh hb => ?_)⟩
    obtain ⟨r1, r2, r3, r4⟩ := hr'
    have e1 : (((s' * 13 + o').toNat : Nat) : Int) / 13 = s' := by omega
    have e2 : (((s' * 13 + o').toNat : Nat) : Int) % 13 = o' := by omega
    have := hd z (s' * 13 + o').toNat (by omega) (by unfold mm_has mm_at at hh; rw [show 572 * o + (((s' * 13 + o').toNat : Nat) : Int) = 572 * o + 13 * s' + o' by omega]; exact hh) (by rw [e1]; exact hb)
    rw [e1, e2] at this
    exact this
  | succ m ih =>
    intro k n w1 hk hg hs hd
    have hi := hk0.2.1
    have hok1 := hk0.step hg hs
    have hG1 := hok1.1
    have e22 : w1 22 r 0 = w 22 r 0 := hg.eq.fr.2.1 r
    have ebh := hg.eq.fr.2.2.1
    have hl := hk0.1.2.1 r hr0 hr1
    have hs0 : (0 : Int) ≤ (k : Int) / 13 := by omega
    have hs1 : (k : Int) / 13 < 44 := by omega
    have hbool := hG1.2.2.2.2.2 (572 * o + (k : Int)) (by omega) (by omega)
    have hrk : mj_rg ((k : Int) / 13) ((k : Int) % 13) := ⟨hs0, hs1, by omega, by omega⟩
    have eat : mm_at o ((k : Int) / 13) ((k : Int) % 13) = 572 * o + (k : Int) := by unfold mm_at; omega
    have hbh := hG1.bh hs0 hs1
    have skip : (n = 0 → w 26 (572 * o + (k : Int)) 0 ≠ 0 → mm_bh w ((k : Int) / 13) = w 22 r 0 → False) → mj_J g y_Mo_follow (d + 3) 0 0 (147, [some (mj_R 21), some (.inl i), some (.inl r), some (.inl t), some (.inl o), some (.inl nx), some (.inl n), some (.inl nm), some (.inl ((k : Int) + 1))], [], mj_mem nn xs w1) (mj_P nn xs Post) := fun hno => by
      have := ih (k + 1) n w1 (by omega) hg hs (fun z j hj hh hb => by
        by_cases e : j = k
        · subst e; exact (hno z hh hb).elim
        · exact hd z j (by omega) hh hb)
      rw [show (((k + 1 : Nat) : Int)) = (k : Int) + 1 by omega] at this
      exact this
    refine v_Mo_follow_147 (d := d + 2) hn ⟨⟨by omega, by omega⟩, fun q => ⟨by omega, by omega, ⟨by omega, by omega⟩, fun q1 => skip fun z hh _ => ?_, fun q1 => ⟨by omega, ⟨by omega, by omega⟩, by omega, ?_⟩⟩, fun q => by omega⟩
    · rw [hg.2.2.2.2.2 z] at q1
      exact hh q1
    · refine c_M_behind (d := d + 1) hn hG1 hs0 hs1 (by omega) (by omega) ⟨_, rfl, hr0, hr1, ⟨by omega, by omega⟩, by rw [e22]; exact ⟨by omega, by omega⟩, fun q2 => ?_, fun q2 => skip fun _ _ hb => q2 (by rw [ebh, e22]; exact hb)⟩
      rw [e22, ebh] at q2
      have hm3 : (k : Int) / 13 % 4 ≠ 3 := fun z => by
        have h5 := hbh.2.2.2.1 z
        rw [ebh] at h5
        omega
      have hrn : mj_rg ((k : Int) / 13 + 1) ((k : Int) % 13) := ⟨by omega, by omega, by omega, by omega⟩
      refine c_M_put (d := d + 1) hn hok1 hrn (by omega) (fun T hc hsub => ?_) (fun n' w2 g2 s2 hh2 => ⟨_, rfl, ?_⟩)
      · have hT' := hT T (hg.eq.symm.closed hc) (fun s o hr hh => hsub s o hr (hg.2.1 _ hh))
        by_cases e : o < i
        · refine hT'.1 e _ _ hrk ?_ q2
          unfold mm_has
          rw [eat]
          rw [hg.1 26 (572 * o + (k : Int)) 0 (fun z => by have := z.2.1; omega)] at q1
          exact q1
        · have e' : o = i := by omega
          have hit1 : mm_has w1 i ((k : Int) / 13) ((k : Int) % 13) := by
            unfold mm_has
            rw [← e', eat]
            exact q1
          exact hT'.2 e' _ _ hrk (hok1.2.2.2 _ _ hrk hit1).1 (hsub _ _ hrk hit1) q2
      · have := ih (k + 1) (n + n') w2 (by omega) (hg.trans g2) (hs.trans hg.eq s2) (fun z j hj hh hb => by
          have hgn : 0 ≤ n := hg.2.2.2.2.1
          have hgn' : 0 ≤ n' := g2.2.2.2.2.1
          by_cases e : j = k
          · subst e
            have e1 := g2.2.2.2.2.2 (by omega)
            have e2 := hg.2.2.2.2.2 (by omega)
            rw [e1, e2] at hh2
            exact hh2
          · exact hd (by omega) j (by omega) hh hb)
        rw [show (((k + 1 : Nat) : Int)) = (k : Int) + 1 by omega] at this
        exact this
/-- follow's first loop: the rules of the symbol behind the dot -/
theorem c_M_follow_22 (hn : 33 ≤ nn) {i r t o nx : Int} (hk0 : mm_ok i w) (hx0 : 0 ≤ nx) (hx1 : nx < 5)
    (hT : ∀ T : Int → Int → Prop, mj_closed i (mm_w w) T → (∀ s o : Int, mj_rg s o → mm_has w i s o → T s o) → ∀ q : Int, 0 ≤ q → q < w 21 2 0 → w 22 q 0 = nx → T ((q + 1) * 4) i)
    (h : ∀ n w', mm_gr i n w w' → mm_sub i w w' → (n = 0 → ∀ q : Int, 0 ≤ q → q < w 21 2 0 → w 22 q 0 = nx → mm_has w i ((q + 1) * 4) i) → Post (some (.inl n)) w') :
    ∀ (m : Nat) (q n : Int) (w1 : mj_w), 0 ≤ q → q ≤ w 21 2 0 → (w 21 2 0 - q).toNat = m → mm_gr i n w w1 → mm_sub i w w1 → (n = 0 → ∀ q' : Int, 0 ≤ q' → q' < q → w 22 q' 0 = nx → mm_has w i ((q' + 1) * 4) i) →
    mj_J g y_Mo_follow (d + 3) 0 0 (22, [some (mj_R 21), some (.inl i), some (.inl r), some (.inl t), some (.inl o), some (.inl nx), some (.inl n), some (.inl q), none], [], mj_mem nn xs w1) (mj_P nn xs Post) := by
  intro m
  induction m with
  | zero =>
    intro q n w1 q0 q1 hm hg hs hd
    have e1 := hg.eq.fr.1
    have hc := hk0.1.1
    refine v_Mo_follow_22 (d := d + 2) hn ⟨⟨by omega, by omega⟩, ⟨by omega, by omega⟩, fun z => by omega, fun z => ⟨⟨by omega, by omega⟩, fun z1 => by omega, fun _ => h n w1 hg hs (fun y q' a b c => hd y q' a (by omega) c)⟩⟩
  | succ m ih =>
    intro q n w1 q0 q1 hm hg hs hd
    have e1 := hg.eq.fr.1
    have e22 : w1 22 q 0 = w 22 q 0 := hg.eq.fr.2.1 q
    have hc := hk0.1.1
    have hi := hk0.2.1
    have hl := hk0.1.2.1 q q0 (by omega)
    have hok1 := hk0.step hg hs
    refine v_Mo_follow_22 (d := d + 2) hn ⟨⟨by omega, by omega⟩, ⟨by omega, by omega⟩, fun z => ⟨q0, by omega, ⟨by omega, by omega⟩, ⟨by omega, by omega⟩, fun z1 => ?_, fun z1 => ?_⟩, fun z => by omega⟩
    · rw [e22] at z1
      have hrn : mj_rg ((q + 1) * 4) i := ⟨by omega, by omega, hi.1, hi.2⟩
      refine c_M_put (d := d + 1) hn hok1 hrn (by omega) (fun T hcl hsub => hT T (hg.eq.symm.closed hcl) (fun s o hr hh => hsub s o hr (hg.2.1 _ hh)) q q0 (by omega) z1) (fun n' w2 g2 s2 hh2 => ⟨_, rfl, ?_⟩)
      refine ih (q + 1) (n + n') w2 (by omega) (by omega) (by omega) (hg.trans g2) (hs.trans hg.eq s2) (fun z2 q' a b c => ?_)
      have hgn : 0 ≤ n := hg.2.2.2.2.1
      have hgn' : 0 ≤ n' := g2.2.2.2.2.1
      by_cases e : q' = q
      · subst e
        have e1 := g2.2.2.2.2.2 (by omega)
        have e2 := hg.2.2.2.2.2 (by omega)
        rw [e1, e2] at hh2
        exact hh2
      · exact hd (by omega) q' a (by omega) c
    · rw [e22] at z1
      rw [Int.add_zero]
      refine ih (q + 1) n w1 (by omega) (by omega) (by omega) hg hs (fun z2 q' a b c => ?_)
      by_cases e : q' = q
      · subst e; exact absurd c z1
      · exact hd z2 q' a (by omega) c
theorem c_M_follow (hn : 33 ≤ nn) {i r t s o : Int} (hk0 : mm_ok i w) (hr : mj_rg s o) (hh : mm_has w i s o) (er : r = s / 4 - 1) (et : t = s % 4)
    (h : ∀ n w', mm_gr i n w w' → mm_sub i w w' → (n = 0 → mj_done i (mm_w w) (mj_it (mm_w w) i) s o) → Post (some (.inl n)) w') :
    mj_J g y_Mo_follow (d + 3) 0 0 (0, [some (mj_R 21), some (.inl i), some (.inl r), some (.inl t), some (.inl o), none, none, none, none], [], mj_mem nn xs w) (mj_P nn xs Post) := by
  obtain ⟨hG, hi, hO, hI⟩ := hk0
  have hk0 : mm_ok i w := ⟨hG, hi, hO, hI⟩
  obtain ⟨ho, hsr⟩ := hI s o hr hh
  obtain ⟨r1, r2, r3, r4⟩ := hr
  have hbh := hG.bh r1 r2
  have hcnt := hG.1
  have nopred : (mm_bh w s < 0 ∨ 5 ≤ mm_bh w s) → ∀ q : Int, 0 ≤ q → q < mm_w w 1 0 0 → mm_w w 2 q 0 = mm_w w 3 s 0 → mj_it (mm_w w) i ((q + 1) * 4) i := fun z q a b c => by
    change q < w 21 2 0 at b
    change w 22 q 0 = mm_bh w s at c
    have := hG.2.1 q a (by omega)
    omega
  have l147 : mm_bh w s = -1 → 0 ≤ r → (o < i → mm_w w 9 o (w 22 r 0) = -1) → ∀ nm : Int, mj_J g y_Mo_follow (d + 3) 0 0 (147, [some (mj_R 21), some (.inl i), some (.inl r), some (.inl t), some (.inl o), some (.inl (mm_bh w s)), some (.inl 0), some (.inl nm), some (.inl 0)], [], mj_mem nn xs w) (mj_P nn xs Post) := by
    intro z1 z2 z3 nm
    have els : mj_ls_ (mm_w w) s = w 22 r 0 := by rw [er]; exact mm_ls (by omega) hsr
    have hlr := hG.2.1 r z2 (by omega)
    refine c_M_follow_147 hn hk0 z2 (by omega) r3 ho (fun T hc hs => ?_) (fun n w' g1 s1 d1 => h n w' g1 s1 (fun y => ⟨nopred (by omega), fun _ _ => ⟨fun x1 x2 => ?_, fun x1 x2 s' o' hr' _ hit hb => ?_, fun x1 s' o' hr' _ hit hb => ?_⟩⟩)) 572 0 0 w rfl (mm_gr.refl i hG) (mm_sub.refl i w) (fun _ j hj => by omega)
    · have hcl := (hc.at ⟨r1, r2, r3, r4⟩ ho (hs s o ⟨r1, r2, r3, r4⟩ hh)).2 z1 (by rw [els]; omega)
      rw [els] at hcl
      exact ⟨fun x1 s' o' hr' hh' hb => hcl.2.1 x1 (z3 x1) s' o' hr' (hO o s' o' r3 x1 hr' hh').1 ((mm_it w o hr').mpr hh') hb, fun x1 => hcl.2.2 x1⟩
    · rw [els] at x2
      exact absurd (z3 x1) x2
    · rw [els] at hb
      have hb' : mm_bh w s' = w 22 r 0 := hb
      have hnx := hG.GI.nx hr' (show mm_w w 3 s' 0 ≠ -1 from by show mm_bh w s' ≠ -1; omega)
      exact (mm_it w i hnx).mpr (d1 y s' o' hr' ((mm_it w o hr').mp hit) hb')
    · rw [els] at hb
      have hb' : mm_bh w s' = w 22 r 0 := hb
      have hnx := hG.GI.nx hr' (show mm_w w 3 s' 0 ≠ -1 from by show mm_bh w s' ≠ -1; omega)
      subst x1
      exact (mm_it w o hnx).mpr (d1 y s' o' hr' ((mm_it w o hr').mp hit) hb')
  refine v_Mo_follow_0 (d := d + 2) hn (c_M_behind (d := d + 1) hn hG r1 r2 er et ⟨_, rfl, v_Mo_isNonterminal_0 hn ⟨⟨by omega, by omega⟩, fun z => ⟨_, rfl, ⟨by decide, by decide⟩, fun _ => ⟨⟨by omega, by omega⟩, fun _ => ⟨⟨by omega, by omega⟩, fun z1 => ?_, fun z1 => ⟨?_, fun z2 => ?_, fun z2 => ⟨⟨by omega, by omega⟩, ⟨by omega, by omega⟩, fun z3 => ⟨by omega, by omega, ?_⟩, fun z3 => ?_⟩⟩⟩, fun z1 => absurd z z1⟩, fun z1 => absurd rfl z1⟩, fun z => ⟨fun z1 => ⟨_, rfl, ⟨by decide, by decide⟩, fun _ => ⟨⟨by omega, by omega⟩, fun z2 => absurd z2 z, fun _ => ?_⟩, fun z2 => absurd rfl z2⟩, fun z1 => ⟨_, rfl, ⟨by decide, by decide⟩, fun z2 => absurd z2 (by decide), fun _ => ?_⟩⟩⟩⟩)
  · exact h 0 w (mm_gr.refl i hG) (mm_sub.refl i w) (fun _ => ⟨nopred (by omega), fun _ q => absurd (mm_ls_goal (by omega)) q⟩)
  · rcases hG.2.2.2.2.1 with q | q <;> rw [q] <;> exact ⟨by decide, by decide⟩
  · refine l147 (by omega) (by omega) (fun x => ?_) (-1)
    exact (mm_names w r3 (by omega) _).1 z2
  · have hlr := hG.2.1 r (by omega) (by omega)
    have els : mj_ls_ (mm_w w) s = w 22 r 0 := by rw [er]; exact mm_ls (by omega) hsr
    have hNR := mm_NR hG hi.2 hO _ o (w 22 r 0) rfl r3 z3 hlr.1
    have hL : w 21 0 0 = 1 := hG.2.2.2.2.1.resolve_left z2
    refine c_M_leapOf (d := d) hn hG hL r3 (by omega) (fun f s' o' f0 f1 hr' hh' => (hO f s' o' f0 (by omega) hr' hh').2) hlr.1 hlr.2 ⟨_, rfl, ⟨by omega, by omega⟩, fun z4 => ?_, fun z4 => ⟨by omega, ⟨by omega, by omega⟩, by omega, ?_⟩⟩
    · exact l147 (by omega) (by omega) (fun x => by omega) _
    · have hN := hNR.resolve_left (by omega)
      have hrn : mj_rg (mm_w w 9 o (w 22 r 0) / 13) (mm_w w 9 o (w 22 r 0) % 13) := ⟨by omega, by omega, by omega, by omega⟩
      refine c_M_put (d := d + 1) hn hk0 hrn (by omega) (fun T hc hs => ?_) (fun n w' g1 s1 hh1 => ⟨_, rfl, ?_⟩)
      · have hcl := (hc.at ⟨r1, r2, r3, r4⟩ ho (hs s o ⟨r1, r2, r3, r4⟩ hh)).2 (show mm_bh w s = -1 by omega) (by rw [els]; omega)
        rw [els] at hcl
        exact hcl.1 z3 (by omega)
      · rw [Int.zero_add]
        refine h n w' g1 s1 (fun y => ⟨nopred (by omega), fun _ _ => ⟨fun x1 x2 => ?_, fun x1 x2 => ?_, fun x1 => by omega⟩⟩)
        · rw [els]
          rw [g1.2.2.2.2.2 y] at hh1
          exact (mm_it w i hrn).mpr hh1
        · rw [els] at x2
          omega
  · exact l147 (by omega) (by omega) (fun x => absurd x z3) (-1)
  · exact h 0 w (mm_gr.refl i hG) (mm_sub.refl i w) (fun _ => ⟨nopred (by omega), fun q => by change mm_bh w s = -1 at q; omega⟩)
  · refine c_M_follow_22 hn hk0 (by omega) (by omega) (fun T hc hs q a b c => ?_) (fun n w' g1 s1 d1 => h n w' g1 s1 (fun y => ⟨fun q a b c => ?_, fun q => by change mm_bh w s = -1 at q; omega⟩)) _ 0 0 w (Int.le_refl _) hcnt.1 rfl (mm_gr.refl i hG) (mm_sub.refl i w) (fun _ q' a b => by omega)
    · exact hc.1 s o ⟨r1, r2, r3, r4⟩ ho (hs s o ⟨r1, r2, r3, r4⟩ hh) q a b c
    · change q < w 21 2 0 at b
      exact (mm_it w i ⟨by omega, by omega, hi.1, hi.2⟩).mpr (d1 y q a b c)
end C62
