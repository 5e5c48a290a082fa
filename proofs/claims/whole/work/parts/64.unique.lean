/-! ===== the sets are determined by grammar, tape and leaping ===== -/
def mj_CS (n : Int) (w : mj_w) : Prop := mj_GI w ∧ (∀ f s o : Int, 0 ≤ f → f ≤ n → mj_rg s o → mj_it w f s o → o ≤ f) ∧ (∀ f l : Int, 0 ≤ f → f < n → 0 ≤ l → l < 5 → mj_nmOK w f l (w 9 f l)) ∧ ∀ f : Int, 0 ≤ f → f ≤ n → mj_set f w
theorem mj_CI.cs {n : Int} {w : mj_w} (h : mj_CI n w) : mj_CS n w := ⟨h.1, h.2.2.2.2.1, h.2.2.2.2.2.2.1, h.2.2.2.2.2.2.2⟩
theorem mm_CI.cs {n : Int} {w : mj_w} (h : mm_CI n w) : mj_CS n (mm_w w) :=
  ⟨h.1.GI, fun f s o f0 f1 hr hit => (h.2.2.1 f s o f0 f1 hr ((mm_it w f hr).mp hit)).1, fun f l f0 f1 _ _ => mm_names w f0 (by have := h.2.1; omega) l, h.2.2.2⟩
/-- the same grammar, tape and leaping -/
def mj_same (n : Int) (u v : mj_w) : Prop := v 1 0 0 = u 1 0 0 ∧ (∀ r : Int, 0 ≤ r → r < u 1 0 0 → v 2 r 0 = u 2 r 0) ∧ (∀ s : Int, 0 ≤ s → s < 44 → v 3 s 0 = u 3 s 0) ∧ (∀ a : Int, 0 ≤ a → a < n → v 5 a 0 = u 5 a 0) ∧ v 6 1 0 = u 6 1 0
theorem mj_same.symm {n : Int} {u v : mj_w} (h : mj_same n u v) : mj_same n v u :=
  ⟨h.1.symm, fun r a b => (h.2.1 r a (by rw [← h.1]; exact b)).symm, fun s a b => (h.2.2.1 s a b).symm, fun a b c => (h.2.2.2.1 a b c).symm, h.2.2.2.2.symm⟩
theorem mj_same.lo {n : Int} {u v : mj_w} (h : mj_same n u v) (r : Int) : mj_lo v r = mj_lo u r := by
  unfold mj_lo
  rw [h.1]
  by_cases q : 0 ≤ r ∧ r < u 1 0 0
  · rw [if_pos q, if_pos q]; exact h.2.1 r q.1 q.2
  · rw [if_neg q, if_neg q]
/-- below f: the same items and names -/
def mj_agree (f : Int) (u v : mj_w) : Prop := (∀ o s' o' : Int, 0 ≤ o → o < f → mj_rg s' o' → (mj_it u o s' o' ↔ mj_it v o s' o')) ∧ ∀ o l : Int, 0 ≤ o → o < f → 0 ≤ l → l < 5 → v 9 o l = u 9 o l
theorem mj_agree.symm {f : Int} {u v : mj_w} (h : mj_agree f u v) : mj_agree f v u := ⟨fun o s' o' a b c => (h.1 o s' o' a b c).symm, fun o l a b c d => (h.2 o l a b c d).symm⟩
theorem mj_agree.closed {n f : Int} {u v : mj_w} (hs : mj_same n u v) (h : mj_agree f u v) (hG : mj_GI u) {T : Int → Int → Prop} (hc : mj_closed f u T) : mj_closed f v T := by
  refine ⟨fun s o hr ho ht r r0 r1 r2 => ?_, fun s o hr ho ht q1 q2 => ?_⟩
  · rw [hs.1] at r1
    rw [hs.2.1 r r0 r1, hs.2.2.1 s hr.1 hr.2.1] at r2
    exact hc.1 s o hr ho ht r r0 r1 r2
  · have els : mj_ls_ v s = mj_ls_ u s := hs.lo _
    rw [els] at q2 ⊢
    rw [hs.2.2.1 s hr.1 hr.2.1] at q1
    have hl := (mj_lo_r hG (s / 4 - 1)).resolve_left q2
    obtain ⟨c1, c2, c3⟩ := hc.2 s o hr ho ht q1 q2
    refine ⟨fun x => ?_, fun x => ?_, fun x s' o' hr' => ?_⟩
    · rw [h.2 o (mj_ls_ u s) hr.2.2.1 x hl.1 hl.2]; exact c1 x
    · rw [h.2 o (mj_ls_ u s) hr.2.2.1 x hl.1 hl.2]
      intro y s' o' hr' ho' hit hb
      rw [hs.2.2.1 s' hr'.1 hr'.2.1] at hb
      exact c2 x y s' o' hr' ho' ((h.1 o s' o' hr.2.2.1 x hr').mpr hit) hb
    · rw [hs.2.2.1 s' hr'.1 hr'.2.1]; exact c3 x s' o' hr'
theorem mj_agree.seed {n f : Int} {u v : mj_w} (hs : mj_same n u v) (h : mj_agree f u v) (hf : f ≤ n) {T : Int → Int → Prop} (hc : mj_seed f u T) : mj_seed f v T := by
  refine ⟨hc.1, fun q s o hr ho hit hb => hc.2 q s o hr ho ((h.1 (f - 1) s o (by omega) (by omega) hr).mpr hit) ?_⟩
  rw [hs.2.2.1 s hr.1 hr.2.1, hs.2.2.2.1 (f - 1) (by omega) (by omega)] at hb
  exact hb
theorem mj_agree.items {n f : Int} {u v : mj_w} (hs : mj_same n u v) (h : mj_agree f u v) (hf0 : 0 ≤ f) (hf : f ≤ n) (hu : mj_CS n u) (hv : mj_CS n v) {s o : Int} (hr : mj_rg s o) : mj_it u f s o ↔ mj_it v f s o := by
  obtain ⟨u1, u2, u3⟩ := hu.2.2.2 f hf0 hf
  obtain ⟨v1, v2, v3⟩ := hv.2.2.2 f hf0 hf
  exact ⟨u3 _ (h.symm.closed hs.symm hv.1 v1) (h.symm.seed hs.symm hf v2) s o hr, v3 _ (h.closed hs hu.1 u1) (h.seed hs hf u2) s o hr⟩
theorem mj_agree.lone {n f : Int} {u v : mj_w} (hs : mj_same n u v) (hi : ∀ s o : Int, mj_rg s o → (mj_it u f s o ↔ mj_it v f s o)) {b s o : Int} (h : mj_lone u f b s o) : mj_lone v f b s o := by
  obtain ⟨h1, h2, h3, h4⟩ := h
  refine ⟨h1, (hi s o h1).mp h2, (hs.2.2.1 s h1.1 h1.2.1).trans h3, fun s' o' hr hit hb => h4 s' o' hr ((hi s' o' hr).mpr hit) ?_⟩
  rw [← hs.2.2.1 s' hr.1 hr.2.1]; exact hb
theorem mj_agree.nm {n f : Int} {u v : mj_w} (hs : mj_same n u v) (h : mj_agree f u v) (hG : mj_GI u) {s o : Int} (hr : mj_rg s o) : mj_nm v f s o = mj_nm u f s o := by
  unfold mj_nm
  have els : mj_ls_ v s = mj_ls_ u s := hs.lo _
  rw [els]
  by_cases q : o < f ∧ mj_ls_ u s ≠ -1
  · have hl := (mj_lo_r hG (s / 4 - 1)).resolve_left q.2
    rw [h.2 o (mj_ls_ u s) hr.2.2.1 q.1 hl.1 hl.2]
  · rw [if_neg (fun z => q ⟨z.1, z.2.1⟩), if_neg (fun z => q ⟨z.1, z.2.1⟩)]
theorem mj_agree.name {n f : Int} {u v : mj_w} (hs : mj_same n u v) (h : mj_agree f u v) (hi : ∀ s o : Int, mj_rg s o → (mj_it u f s o ↔ mj_it v f s o)) (hG : mj_GI u) {l x y : Int} (hl : 0 ≤ l) (hx : mj_nmOK u f l x) (hy : mj_nmOK v f l y) : y = x := by
  by_cases q6 : u 6 1 0 = 0
  · rw [hx.1 q6, hy.1 (hs.2.2.2.2.trans q6)]
  · obtain ⟨x1, x2⟩ := hx.2 q6
    obtain ⟨y1, y2⟩ := hy.2 (by rw [hs.2.2.2.2]; exact q6)
    by_cases q : ∃ s o, mj_lone u f l s o ∧ u 3 (s + 1) 0 = -1
    · obtain ⟨s, o, q1, q2⟩ := q
      have hnx := hG.nx q1.1 (by have := q1.2.2.1; omega)
      rw [x1 s o q1 q2, y1 s o (mj_agree.lone hs hi q1) ((hs.2.2.1 _ hnx.1 hnx.2.1).trans q2)]
      exact h.nm hs hG q1.1
    · rw [x2 fun s o z1 z2 => q ⟨s, o, z1, z2⟩]
      refine y2 fun s o z1 z2 => ?_
      have z1' := mj_agree.lone hs.symm (fun s o hr => (hi s o hr).symm) z1
      have hnx := hG.nx z1'.1 (by have := z1'.2.2.1; omega)
      exact q ⟨s, o, z1', (hs.2.2.1 _ hnx.1 hnx.2.1).symm.trans z2⟩
theorem mj_unique {n : Int} {u v : mj_w} (hs : mj_same n u v) (hu : mj_CS n u) (hv : mj_CS n v) : ∀ m : Nat, (m : Int) ≤ n → mj_agree (m : Int) u v := by
  intro m
  induction m with
  | zero => intro _; exact ⟨fun o _ _ a b => by omega, fun o _ a b => by omega⟩
  | succ m ih =>
    intro hm
    have hA := ih (by omega)
    have hit : ∀ s o : Int, mj_rg s o → (mj_it u (m : Int) s o ↔ mj_it v (m : Int) s o) := fun s o hr => hA.items hs (by omega) (by omega) hu hv hr
    refine ⟨fun o s' o' a b hr => ?_, fun o l a b l0 l1 => ?_⟩
    · by_cases e : o = (m : Int)
      · rw [e]; exact hit s' o' hr
      · exact hA.1 o s' o' a (by omega) hr
    · by_cases e : o = (m : Int)
      · rw [e]
        exact hA.name hs hit hu.1 l0 (hu.2.2.1 _ l (by omega) (by omega) l0 l1) (hv.2.2.1 _ l (by omega) (by omega) l0 l1)
      · exact hA.2 o l a (by omega) l0 l1
/-- items of every set, names of every set but the last -/
theorem mj_unique' {n : Int} {u v : mj_w} (hn : 0 ≤ n) (hs : mj_same n u v) (hu : mj_CS n u) (hv : mj_CS n v) : (∀ f s o : Int, 0 ≤ f → f ≤ n → mj_rg s o → (mj_it u f s o ↔ mj_it v f s o)) ∧ ∀ f l : Int, 0 ≤ f → f < n → 0 ≤ l → l < 5 → v 9 f l = u 9 f l := by
  have h := mj_unique hs hu hv
  refine ⟨fun f s o f0 f1 hr => ?_, fun f l f0 f1 l0 l1 => ?_⟩
  · have := h f.toNat (by omega)
    rw [show ((f.toNat : Nat) : Int) = f by omega] at this
    exact this.items hs f0 f1 hu hv hr
  · have := h n.toNat (by omega)
    rw [show ((n.toNat : Nat) : Int) = n by omega] at this
    exact this.2 f l f0 f1 l0 l1
