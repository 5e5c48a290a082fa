/-! ===== the world behind the constructors: every reference is fixed, every number stands in one function of place, index, column ===== -/
abbrev mj_w : Type := Nat → Int → Int → Int
abbrev mj_Sh : Type := (Nat × Nat) ⊕ (Nat × Nat) ⊕ (Nat × List (Option Nat))
def mj_sh : List mj_Sh := [
  .inr (.inr (0, [some 1, some 4, some 6, some 11])),
  .inr (.inr (1, [none, some 2, some 3])), .inl (0, 10), .inl (0, 44),
  .inr (.inr (2, [none, some 5])), .inl (0, 12),
  .inr (.inr (3, [some 1, none, some 7, some 8, some 9, some 10, none, none])), .inr (.inl (13, 44)), .inl (0, 13), .inr (.inl (13, 5)), .inl (0, 572),
  .inr (.inr (4, [some 4, some 15, some 17, none, some 12, some 13, none, some 14])), .inl (0, 845), .inl (1, 845), .inl (2, 845),
  .inr (.inr (5, [some 4, some 16])), .inl (2, 845),
  .inr (.inr (6, [some 1, some 15, none, none, none, some 18, some 19, some 20])), .inl (0, 910), .inl (0, 910), .inl (2, 910),
  .inr (.inr (7, [none, none, none, some 22, some 23, some 24, none, some 25, some 26, none, some 27, some 28, some 29, some 30, none, none, some 31, some 32, none])),
  .inl (0, 10), .inl (0, 10), .inl (0, 30), .inl (0, 12), .inl (1, 7436), .inl (1, 845), .inl (1, 845), .inl (2, 845), .inl (1, 845), .inl (0, 900), .inl (2, 900),
  .inl (2, 1)]
def mj_fl : List (Option Nat) → Nat → (Int → Int → Int) → List mj_V
  | [], _, _ => []
  | none :: r, k, f => .inl (f (k : Int) 0) :: mj_fl r (k + 1) f
  | some q :: r, k, f => .inr (.inr (.inl (some (q, 0)))) :: mj_fl r (k + 1) f
def mj_sk (s : mj_Sh) (f : Int → Int → Int) : mj_C := match s with
  | .inl (k, n) => .inl (k, n, fun i => f (i : Int) 0)
  | .inr (.inl (n, k)) => .inr (.inl (n, k, fun i j => f (i : Int) (j : Int)))
  | .inr (.inr (ci, l)) => .inr (.inr (ci, mj_fl l 0 f))
def mj_mem (nn : Nat) (xs : mj_M) (w : mj_w) : mj_M := (List.range nn).map (fun p => mj_sk (mj_sh.getD p (.inl (0, 0))) (w p)) ++ xs
def mj_wu (w : mj_w) (p : Nat) (i j v : Int) : mj_w := fun q a b => if q = p ∧ a = i ∧ b = j then v else w q a b
theorem mj_wu_s (w : mj_w) (p : Nat) (i j v : Int) : mj_wu w p i j v p i j = v := by simp [mj_wu]
theorem mj_wu_n {w : mj_w} {p q : Nat} {i j a b v : Int} (h : ¬ (q = p ∧ a = i ∧ b = j)) : mj_wu w p i j v q a b = w q a b := by simp [mj_wu, h]
theorem mj_wu_p {w : mj_w} {p q : Nat} {i j a b v : Int} (h : q ≠ p) : mj_wu w p i j v q a b = w q a b := by simp [mj_wu, h]
theorem mj_mem_at {nn p : Nat} {xs : mj_M} {w : mj_w} {s : mj_Sh} (hp : p < nn) (hs : mj_sh[p]? = some s) : (mj_mem nn xs w)[p]? = some (mj_sk s (w p)) := by
  rw [mj_mem, List.getElem?_append_left (by rw [List.length_map, List.length_range]; exact hp), List.getElem?_map, List.getElem?_range hp]
  simp [List.getD, hs]
theorem mj_mem_set {nn p : Nat} {xs : mj_M} {w w' : mj_w} {s : mj_Sh} {c : mj_C} (hp : p < nn) (hs : mj_sh[p]? = some s) (hc : c = mj_sk s (w' p)) (ho : ∀ q, q ≠ p → w' q = w q) : (mj_mem nn xs w).set p c = mj_mem nn xs w' := by
  subst hc
  apply List.ext_getElem?
  intro q
  by_cases e : p = q
  · subst e
    rw [List.getElem?_set_self (by rw [mj_mem, List.length_append, List.length_map, List.length_range]; omega), mj_mem_at hp hs]
  · rw [List.getElem?_set_ne e, mj_mem, mj_mem, List.getElem?_append, List.getElem?_append]
    simp only [List.length_map, List.length_range, List.getElem?_map]
    split
    · rename_i h
      rw [List.getElem?_range h]
      simp [ho q (Ne.symm e)]
    · rfl
theorem mj_fl_len (l : List (Option Nat)) (k : Nat) (f : Int → Int → Int) : (mj_fl l k f).length = l.length := by
  induction l generalizing k with
  | nil => rfl
  | cons a r ih => cases a <;> simp [mj_fl, ih]
theorem mj_fl_i {l : List (Option Nat)} {j k : Nat} {f : Int → Int → Int} (h : l[j]? = some none) : (mj_fl l k f)[j]? = some (.inl (f ((k + j : Nat) : Int) 0)) := by
  induction l generalizing j k with
  | nil => cases h
  | cons a r ih =>
    cases j with
    | zero =>
      cases a with
      | none => rfl
      | some q => cases h
    | succ j =>
      have h2 : r[j]? = some none := h
      have h3 := ih (k := k + 1) h2
      rw [show k + 1 + j = k + (j + 1) by omega] at h3
      cases a <;> exact h3
theorem mj_fl_r {l : List (Option Nat)} {j k q : Nat} {f : Int → Int → Int} (h : l[j]? = some (some q)) : (mj_fl l k f)[j]? = some (.inr (.inr (.inl (some (q, 0))))) := by
  induction l generalizing j k with
  | nil => cases h
  | cons a r ih =>
    cases j with
    | zero =>
      cases a with
      | none => cases h
      | some q' => cases h; rfl
    | succ j =>
      have h2 : r[j]? = some (some q) := h
      cases a <;> exact ih (k := k + 1) h2
theorem mj_fl_set {l : List (Option Nat)} {j k : Nat} {f f' : Int → Int → Int} {x : Int} (h : l[j]? = some none) (hx : f' ((k + j : Nat) : Int) 0 = x) (ho : ∀ i : Nat, i ≠ k + j → f' (i : Int) 0 = f (i : Int) 0) : (mj_fl l k f).set j (.inl x) = mj_fl l k f' := by
  induction l generalizing j k with
  | nil => cases h
  | cons a r ih =>
    cases j with
    | zero =>
      cases a with
      | none =>
        show .inl x :: mj_fl r (k + 1) f = .inl (f' (k : Int) 0) :: mj_fl r (k + 1) f'
        have e1 : ∀ (r : List (Option Nat)) (n : Nat), k < n → mj_fl r n f = mj_fl r n f' := by
          intro r
          induction r with
          | nil => intros; rfl
          | cons a r ih =>
            intro n hn
            cases a with
            | none => simp only [mj_fl]; rw [ih (n + 1) (by omega), ho n (by omega)]
            | some q => simp only [mj_fl]; rw [ih (n + 1) (by omega)]
        rw [e1 r (k + 1) (by omega), ← hx]
        rfl
      | some q => cases h
    | succ j =>
      have h2 : r[j]? = some none := h
      have h3 := ih (k := k + 1) h2 (by rw [show k + 1 + j = k + (j + 1) by omega]; exact hx) (fun i hi => ho i (by omega))
      cases a with
      | none =>
        show .inl (f (k : Int) 0) :: (mj_fl r (k + 1) f).set j (.inl x) = .inl (f' (k : Int) 0) :: mj_fl r (k + 1) f'
        rw [h3, ho k (by omega)]
      | some q =>
        show .inr (.inr (.inl (some (q, 0)))) :: (mj_fl r (k + 1) f).set j (.inl x) = .inr (.inr (.inl (some (q, 0)))) :: mj_fl r (k + 1) f'
        rw [h3]
/-- a number's field, a reference's field -/
def mj_fI (p k : Nat) (C nm ds : String) (fin : Bool) : Prop := ∃ ci l fl, mj_sh[p]? = some (.inr (.inr (ci, l))) ∧ mj_cf[ci]? = some (C, fl) ∧ fl[k]? = some (nm, ds, fin) ∧ l[k]? = some none
def mj_fR (p k q : Nat) (C nm ds : String) (fin : Bool) : Prop := ∃ ci l fl, mj_sh[p]? = some (.inr (.inr (ci, l))) ∧ mj_cf[ci]? = some (C, fl) ∧ fl[k]? = some (nm, ds, fin) ∧ l[k]? = some (some q)
/-- a call's end in the world -/
def mj_P (nn : Nat) (xs : mj_M) (Post : Option mj_V → mj_w → Prop) : mj_O → mj_M → Prop := fun o M => ∃ v w, o = .inl v ∧ M = mj_mem nn xs w ∧ Post v w
section MJW
variable {g : mj_G} {Y Y' : mj_Y} {d kc ks pc nn N0 : Nat} {lv : mj_L} {st : List mj_V} {xs : mj_M} {w : mj_w} {Post : mj_O → mj_M → Prop}
theorem mj_q_geti {p k idx : Nat} {C nm ds : String} {fin : Bool} (hd : decode Y.2.2.1 pc = .ok (.getfield idx, 3)) (hf : mj_fI p k C nm ds fin) (hw : Cond.fieldLink Y.1 idx C nm ds ∈ mj_tbl ∨ Cond.fieldLinkNest Y.1 idx C nm ds "ChartForest" ∈ mj_tbl) (hb : Nat.blt p N0 = true) (hn : N0 ≤ nn)
    (kk : mj_J g Y d kc ks (pc + 3, lv, .inl (w p (k : Int) 0) :: st, mj_mem nn xs w) Post) : mj_J g Y d kc ks (pc, lv, .inr (.inr (.inl (some (p, 0)))) :: st, mj_mem nn xs w) Post := by
  obtain ⟨ci, l, fl, h1, h2, h3, h4⟩ := hf
  have hp : p < nn := Nat.lt_of_lt_of_le (Nat.blt_eq.mp hb) hn
  refine mj_r_getf hd h2 h3 hw (mj_mem_at hp h1) (w := .inl (w p (k : Int) 0)) ?_ kk
  rw [mj_fl_i h4, Nat.zero_add]
theorem mj_q_getr {p k q idx : Nat} {C nm ds : String} {fin : Bool} (hd : decode Y.2.2.1 pc = .ok (.getfield idx, 3)) (hf : mj_fR p k q C nm ds fin) (hw : Cond.fieldLink Y.1 idx C nm ds ∈ mj_tbl ∨ Cond.fieldLinkNest Y.1 idx C nm ds "ChartForest" ∈ mj_tbl) (hb : Nat.blt p N0 = true) (hn : N0 ≤ nn)
    (kk : mj_J g Y d kc ks (pc + 3, lv, .inr (.inr (.inl (some (q, 0)))) :: st, mj_mem nn xs w) Post) : mj_J g Y d kc ks (pc, lv, .inr (.inr (.inl (some (p, 0)))) :: st, mj_mem nn xs w) Post := by
  obtain ⟨ci, l, fl, h1, h2, h3, h4⟩ := hf
  have hp : p < nn := Nat.lt_of_lt_of_le (Nat.blt_eq.mp hb) hn
  exact mj_r_getf hd h2 h3 hw (mj_mem_at hp h1) (mj_fl_r h4) kk
theorem mj_fit_I (x : Int) : ∀ b z, mj_fits b z "I" (.inl x) := fun b z => ⟨.int, by decide +kernel, rfl, rfl⟩
theorem mj_fit_Z {x : Int} (h : x = 0 ∨ x = 1) : ∀ b z, mj_fits b z "Z" (.inl x) := fun b z => ⟨.boolean, by decide +kernel, mj_nb h, by rcases h with rfl | rfl <;> rfl⟩
theorem mj_q_put {p k idx : Nat} {C nm ds : String} {x : Int} (hd : decode Y.2.2.1 pc = .ok (.putfield idx, 3)) (hf : mj_fI p k C nm ds false) (hft : ∀ b z, mj_fits b z ds (.inl x)) (hw : Cond.fieldLink Y.1 idx C nm ds ∈ mj_tbl ∨ Cond.fieldLinkNest Y.1 idx C nm ds "ChartForest" ∈ mj_tbl) (hb : Nat.blt p N0 = true) (hn : N0 ≤ nn)
    (kk : ∀ w1, w1 = mj_wu w p (k : Int) 0 x → mj_J g Y d kc ks (pc + 3, lv, st, mj_mem nn xs w1) Post) : mj_J g Y d kc ks (pc, lv, .inl x :: .inr (.inr (.inl (some (p, 0)))) :: st, mj_mem nn xs w) Post := by
  obtain ⟨ci, l, fl, h1, h2, h3, h4⟩ := hf
  have hp : p < nn := Nat.lt_of_lt_of_le (Nat.blt_eq.mp hb) hn
  refine mj_r_putf hd h2 h3 hw (mj_mem_at hp h1) (by rw [mj_fl_len]; exact (List.getElem?_eq_some_iff.mp h4).1) hft ?_
  rw [mj_mem_set (w' := mj_wu w p (k : Int) 0 x) hp h1 ?_ ?_]
  · exact kk _ rfl
  · show _ = Sum.inr (Sum.inr (ci, mj_fl l 0 _))
    rw [mj_fl_set (f' := mj_wu w p (k : Int) 0 x p) h4]
    · rw [Nat.zero_add]; exact mj_wu_s _ _ _ _ _
    · intro i hi
      exact mj_wu_n (fun q => hi (by have := q.2.1; omega))
  · intro q hq
    funext a b
    exact mj_wu_p hq
theorem mj_q_iald {p n : Nat} {x : Int} (hd : decode Y.2.2.1 pc = .ok (.iaload, 1)) (hs : mj_sh[p]? = some (.inl (0, n))) (hb : Nat.blt p N0 = true) (hn : N0 ≤ nn) (hz : Nat.blt n 2147483648 = true) (h0 : 0 ≤ x) (h1 : x < (n : Int))
    (kk : mj_J g Y d kc ks (pc + 1, lv, .inl (w p x 0) :: st, mj_mem nn xs w) Post) : mj_J g Y d kc ks (pc, lv, .inl x :: .inr (.inr (.inl (some (p, 0)))) :: st, mj_mem nn xs w) Post := by
  have hp : p < nn := Nat.lt_of_lt_of_le (Nat.blt_eq.mp hb) hn
  have hz2 := Nat.blt_eq.mp hz
  refine mj_r_iald hd (mj_mem_at hp hs) ⟨by omega, by omega⟩ h0 h1 ?_
  rw [Int.toNat_of_nonneg h0]
  exact kk
theorem mj_q_zald {p n : Nat} {x : Int} (hd : decode Y.2.2.1 pc = .ok (.baload, 1)) (hs : mj_sh[p]? = some (.inl (1, n))) (hb : Nat.blt p N0 = true) (hn : N0 ≤ nn) (hz : Nat.blt n 2147483648 = true) (h0 : 0 ≤ x) (h1 : x < (n : Int))
    (kk : mj_J g Y d kc ks (pc + 1, lv, .inl (w p x 0) :: st, mj_mem nn xs w) Post) : mj_J g Y d kc ks (pc, lv, .inl x :: .inr (.inr (.inl (some (p, 0)))) :: st, mj_mem nn xs w) Post := by
  have hp : p < nn := Nat.lt_of_lt_of_le (Nat.blt_eq.mp hb) hn
  have hz2 := Nat.blt_eq.mp hz
  refine mj_r_zald hd (mj_mem_at hp hs) ⟨by omega, by omega⟩ h0 h1 ?_
  rw [Int.toNat_of_nonneg h0]
  exact kk
theorem mj_q_lald {p n : Nat} {x : Int} (hd : decode Y.2.2.1 pc = .ok (.laload, 1)) (hs : mj_sh[p]? = some (.inl (2, n))) (hb : Nat.blt p N0 = true) (hn : N0 ≤ nn) (hz : Nat.blt n 2147483648 = true) (h0 : 0 ≤ x) (h1 : x < (n : Int))
    (kk : mj_J g Y d kc ks (pc + 1, lv, .inr (.inl (w p x 0)) :: st, mj_mem nn xs w) Post) : mj_J g Y d kc ks (pc, lv, .inl x :: .inr (.inr (.inl (some (p, 0)))) :: st, mj_mem nn xs w) Post := by
  have hp : p < nn := Nat.lt_of_lt_of_le (Nat.blt_eq.mp hb) hn
  have hz2 := Nat.blt_eq.mp hz
  refine mj_r_lald hd (mj_mem_at hp hs) ⟨by omega, by omega⟩ h0 h1 ?_
  rw [Int.toNat_of_nonneg h0]
  exact kk
theorem mj_q_iast {p n : Nat} {x y : Int} (hd : decode Y.2.2.1 pc = .ok (.iastore, 1)) (hs : mj_sh[p]? = some (.inl (0, n))) (hb : Nat.blt p N0 = true) (hn : N0 ≤ nn) (hz : Nat.blt n 2147483648 = true) (h0 : 0 ≤ x) (h1 : x < (n : Int))
    (kk : ∀ w1, w1 = mj_wu w p x 0 y → mj_J g Y d kc ks (pc + 1, lv, st, mj_mem nn xs w1) Post) : mj_J g Y d kc ks (pc, lv, .inl y :: .inl x :: .inr (.inr (.inl (some (p, 0)))) :: st, mj_mem nn xs w) Post := by
  have hp : p < nn := Nat.lt_of_lt_of_le (Nat.blt_eq.mp hb) hn
  have hz2 := Nat.blt_eq.mp hz
  refine mj_r_iast hd (mj_mem_at hp hs) ⟨by omega, by omega⟩ h0 h1 ?_
  rw [mj_mem_set (w' := mj_wu w p x 0 y) hp hs ?_ ?_]
  · exact kk _ rfl
  · show _ = Sum.inl (0, n, _)
    congr 3
    funext j
    unfold mj_up mj_wu
    by_cases e : j = x.toNat
    · subst e
      simp [Int.toNat_of_nonneg h0]
    · have e2 : ¬ (j : Int) = x := by omega
      simp [e, e2]
  · intro q hq
    funext a b
    exact mj_wu_p hq
theorem mj_q_zast {p n : Nat} {x y : Int} (hd : decode Y.2.2.1 pc = .ok (.bastore, 1)) (hs : mj_sh[p]? = some (.inl (1, n))) (hb : Nat.blt p N0 = true) (hn : N0 ≤ nn) (hz : Nat.blt n 2147483648 = true) (h0 : 0 ≤ x) (h1 : x < (n : Int)) (hy : y = 0 ∨ y = 1)
    (kk : ∀ w1, w1 = mj_wu w p x 0 y → mj_J g Y d kc ks (pc + 1, lv, st, mj_mem nn xs w1) Post) : mj_J g Y d kc ks (pc, lv, .inl y :: .inl x :: .inr (.inr (.inl (some (p, 0)))) :: st, mj_mem nn xs w) Post := by
  have hp : p < nn := Nat.lt_of_lt_of_le (Nat.blt_eq.mp hb) hn
  have hz2 := Nat.blt_eq.mp hz
  refine mj_r_zast hd (mj_mem_at hp hs) ⟨by omega, by omega⟩ h0 h1 hy ?_
  rw [mj_mem_set (w' := mj_wu w p x 0 y) hp hs ?_ ?_]
  · exact kk _ rfl
  · show _ = Sum.inl (1, n, _)
    congr 3
    funext j
    unfold mj_up mj_wu
    by_cases e : j = x.toNat
    · subst e
      simp [Int.toNat_of_nonneg h0]
    · have e2 : ¬ (j : Int) = x := by omega
      simp [e, e2]
  · intro q hq
    funext a b
    exact mj_wu_p hq
theorem mj_q_last {p n : Nat} {x y : Int} (hd : decode Y.2.2.1 pc = .ok (.lastore, 1)) (hs : mj_sh[p]? = some (.inl (2, n))) (hb : Nat.blt p N0 = true) (hn : N0 ≤ nn) (hz : Nat.blt n 2147483648 = true) (h0 : 0 ≤ x) (h1 : x < (n : Int))
    (kk : ∀ w1, w1 = mj_wu w p x 0 y → mj_J g Y d kc ks (pc + 1, lv, st, mj_mem nn xs w1) Post) : mj_J g Y d kc ks (pc, lv, .inr (.inl y) :: .inl x :: .inr (.inr (.inl (some (p, 0)))) :: st, mj_mem nn xs w) Post := by
  have hp : p < nn := Nat.lt_of_lt_of_le (Nat.blt_eq.mp hb) hn
  have hz2 := Nat.blt_eq.mp hz
  refine mj_r_last hd (mj_mem_at hp hs) ⟨by omega, by omega⟩ h0 h1 ?_
  rw [mj_mem_set (w' := mj_wu w p x 0 y) hp hs ?_ ?_]
  · exact kk _ rfl
  · show _ = Sum.inl (2, n, _)
    congr 3
    funext j
    unfold mj_up mj_wu
    by_cases e : j = x.toNat
    · subst e
      simp [Int.toNat_of_nonneg h0]
    · have e2 : ¬ (j : Int) = x := by omega
      simp [e, e2]
  · intro q hq
    funext a b
    exact mj_wu_p hq
theorem mj_q_aald {p n k0 : Nat} {x : Int} (hd : decode Y.2.2.1 pc = .ok (.aaload, 1)) (hs : mj_sh[p]? = some (.inr (.inl (n, k0)))) (hb : Nat.blt p N0 = true) (hn : N0 ≤ nn) (hz : Nat.blt n 2147483648 = true) (h0 : 0 ≤ x) (h1 : x < (n : Int))
    (kk : mj_J g Y d kc ks (pc + 1, lv, .inr (.inr (.inl (some (p, x.toNat + 1)))) :: st, mj_mem nn xs w) Post) : mj_J g Y d kc ks (pc, lv, .inl x :: .inr (.inr (.inl (some (p, 0)))) :: st, mj_mem nn xs w) Post := by
  have hp : p < nn := Nat.lt_of_lt_of_le (Nat.blt_eq.mp hb) hn
  have hz2 := Nat.blt_eq.mp hz
  exact mj_r_aald hd (mj_mem_at hp hs) ⟨by omega, by omega⟩ h0 h1 kk
theorem mj_q_gald {p n k0 : Nat} {r x : Int} (hd : decode Y.2.2.1 pc = .ok (.iaload, 1)) (hs : mj_sh[p]? = some (.inr (.inl (n, k0)))) (hb : Nat.blt p N0 = true) (hn : N0 ≤ nn) (hz : Nat.blt k0 2147483648 = true) (hr0 : 0 ≤ r) (hr1 : r < (n : Int)) (h0 : 0 ≤ x) (h1 : x < (k0 : Int))
    (kk : mj_J g Y d kc ks (pc + 1, lv, .inl (w p r x) :: st, mj_mem nn xs w) Post) : mj_J g Y d kc ks (pc, lv, .inl x :: .inr (.inr (.inl (some (p, r.toNat + 1)))) :: st, mj_mem nn xs w) Post := by
  have hp : p < nn := Nat.lt_of_lt_of_le (Nat.blt_eq.mp hb) hn
  have hz2 := Nat.blt_eq.mp hz
  refine mj_r_gald hd (mj_mem_at hp hs) (by omega) ⟨by omega, by omega⟩ h0 h1 ?_
  rw [Int.toNat_of_nonneg h0, Int.toNat_of_nonneg hr0]
  exact kk
theorem mj_q_gast {p n k0 : Nat} {r x y : Int} (hd : decode Y.2.2.1 pc = .ok (.iastore, 1)) (hs : mj_sh[p]? = some (.inr (.inl (n, k0)))) (hb : Nat.blt p N0 = true) (hn : N0 ≤ nn) (hz : Nat.blt k0 2147483648 = true) (hr0 : 0 ≤ r) (hr1 : r < (n : Int)) (h0 : 0 ≤ x) (h1 : x < (k0 : Int))
    (kk : ∀ w1, w1 = mj_wu w p r x y → mj_J g Y d kc ks (pc + 1, lv, st, mj_mem nn xs w1) Post) : mj_J g Y d kc ks (pc, lv, .inl y :: .inl x :: .inr (.inr (.inl (some (p, r.toNat + 1)))) :: st, mj_mem nn xs w) Post := by
  have hp : p < nn := Nat.lt_of_lt_of_le (Nat.blt_eq.mp hb) hn
  have hz2 := Nat.blt_eq.mp hz
  refine mj_r_gast hd (mj_mem_at hp hs) (by omega) ⟨by omega, by omega⟩ h0 h1 ?_
  rw [mj_mem_set (w' := mj_wu w p r x y) hp hs ?_ ?_]
  · exact kk _ rfl
  · show _ = Sum.inr (Sum.inl (n, k0, _))
    congr 4
    funext i j
    unfold mj_up2 mj_wu
    by_cases e : i = r.toNat ∧ j = x.toNat
    · obtain ⟨rfl, rfl⟩ := e
      simp [Int.toNat_of_nonneg h0, Int.toNat_of_nonneg hr0]
    · have e2 : ¬ ((i : Int) = r ∧ (j : Int) = x) := by omega
      simp [e, e2]
  · intro q hq
    funext a b
    exact mj_wu_p hq
theorem mj_q_alen {p n k0 : Nat} (hd : decode Y.2.2.1 pc = .ok (.arraylength, 1)) (hs : mj_sh[p]? = some (.inl (k0, n))) (hb : Nat.blt p N0 = true) (hn : N0 ≤ nn) (hz : Nat.blt n 2147483648 = true)
    (kk : mj_J g Y d kc ks (pc + 1, lv, .inl (n : Int) :: st, mj_mem nn xs w) Post) : mj_J g Y d kc ks (pc, lv, .inr (.inr (.inl (some (p, 0)))) :: st, mj_mem nn xs w) Post := by
  have hp : p < nn := Nat.lt_of_lt_of_le (Nat.blt_eq.mp hb) hn
  exact mj_r_alen hd (mj_mem_at hp hs) (Nat.blt_eq.mp hz) kk
/-- a number whose width is known stands for itself -/
theorem mj_w_eq {w w' : mj_w} (h : w = w') (k : mj_J g Y d kc ks (pc, lv, st, mj_mem nn xs w') Post) : mj_J g Y d kc ks (pc, lv, st, mj_mem nn xs w) Post := h ▸ k
end MJW
theorem mj_wd (i : Nat) {w : Cond} (h : lw_tbl[i]? = some w) (hg : mj_gw w = true) : w ∈ mj_tbl := List.mem_filter.mpr ⟨List.mem_of_getElem? h, hg⟩
section MJV
variable {g : mj_G} {Y Y' : mj_Y} {d d' kc ks pc nn N0 idx : Nat} {lv : mj_L} {st : List mj_V} {xs : mj_M} {w : mj_w} {Post : mj_O → mj_M → Prop}
theorem mj_q_S (n : Nat) {vs stk : List mj_V} (hd : decode Y.2.2.1 pc = .ok (.invokestatic idx, 3)) (hy : mj_yk Y' n) (hl : Cond.methodLink Y.1 idx Y'.2.1 ∈ mj_tbl ∨ Cond.methodLinkNest Y.1 idx Y'.2.1 "ChartForest" ∈ mj_tbl) (hs : Cond.static Y'.2.1 ∈ mj_tbl)
    (hstk : stk = vs.reverse ++ st) (hn : vs.length = n) (he : Nat.ble (mj_e1 vs).length Y'.2.2.2.1 = true) (hst : Nat.ble (st.map mj_cat).sum 8 = true)
    (k : mj_J g Y' d' 0 0 (0, mj_ent vs Y'.2.2.2.1, [], mj_mem nn xs w) (mj_P nn xs (fun v w1 => mj_J g Y (d' + 1) kc ks (pc + 3, lv, v.toList ++ st, mj_mem nn xs w1) Post))) : mj_J g Y (d' + 1) kc ks (pc, lv, stk, mj_mem nn xs w) Post := by
  have h := mj_callS (kc' := 0) (ks' := 0) (kc2 := kc) (ks2 := ks) (Post := Post) hd hy hl hs hstk hn (Nat.le_of_ble_eq_true he) (Nat.le_of_ble_eq_true hst) (k.weaken (fun o M h => by obtain ⟨v, w1, rfl, rfl, h⟩ := h; exact ⟨v, rfl, h⟩))
  rwa [Nat.zero_add, Nat.zero_add] at h
theorem mj_q_V (n : Nat) {p ci : Nat} {vs stk : List mj_V} {l : List (Option Nat)} {fl : List (String × String × Bool)} (hd : decode Y.2.2.1 pc = .ok (.invokevirtual idx, 3)) (hy : mj_yk Y' n) (hl : Cond.methodLink Y.1 idx Y'.2.1 ∈ mj_tbl ∨ Cond.methodLinkNest Y.1 idx Y'.2.1 "ChartForest" ∈ mj_tbl) (hs : Cond.instanceMethod Y'.2.1 ∈ mj_tbl) (hse : Cond.selects Y'.1 Y'.2.1 Y'.2.1 ∈ mj_tbl)
    (hsh : mj_sh[p]? = some (.inr (.inr (ci, l)))) (hc : mj_cf[ci]? = some (Y'.1, fl)) (hb : Nat.blt p N0 = true) (hn0 : N0 ≤ nn) (hstk : stk = vs.reverse ++ .inr (.inr (.inl (some (p, 0)))) :: st) (hn : vs.length = n) (he : Nat.ble (mj_e1 (.inr (.inr (.inl (some (p, 0)))) :: vs)).length Y'.2.2.2.1 = true) (hst : Nat.ble (st.map mj_cat).sum 8 = true)
    (k : mj_J g Y' d' 0 0 (0, mj_ent (.inr (.inr (.inl (some (p, 0)))) :: vs) Y'.2.2.2.1, [], mj_mem nn xs w) (mj_P nn xs (fun v w1 => mj_J g Y (d' + 1) kc ks (pc + 3, lv, v.toList ++ st, mj_mem nn xs w1) Post))) : mj_J g Y (d' + 1) kc ks (pc, lv, stk, mj_mem nn xs w) Post := by
  have h := mj_callV (kc' := 0) (ks' := 0) (kc2 := kc) (ks2 := ks) (Post := Post) hd hy hl hs hse hc (mj_mem_at (Nat.lt_of_lt_of_le (Nat.blt_eq.mp hb) hn0) hsh) hstk hn (Nat.le_of_ble_eq_true he) (Nat.le_of_ble_eq_true hst) (k.weaken (fun o M h => by obtain ⟨v, w1, rfl, rfl, h⟩ := h; exact ⟨v, rfl, h⟩))
  rwa [Nat.zero_add, Nat.zero_add] at h
theorem mj_q_ret {Post : Option mj_V → mj_w → Prop} {v : Option mj_V} (h : Post v w) : mj_P nn xs Post (.inl v) (mj_mem nn xs w) := ⟨v, w, rfl, rfl, h⟩
theorem mj_wk {S : mj_S} {A B : Option mj_V → mj_w → Prop} (k : mj_J g Y d kc ks S (mj_P nn xs A)) (h : ∀ v w1, A v w1 → B v w1) : mj_J g Y d kc ks S (mj_P nn xs B) :=
  k.weaken (fun o M hP => by obtain ⟨v, w1, e1, e2, h3⟩ := hP; exact ⟨v, w1, e1, e2, h v w1 h3⟩)
theorem mj_q_S0i (hd : decode Y.2.2.1 pc = .ok (.invokestatic idx, 3)) (hy : mj_yk Y' 0) (hl : Cond.methodLink Y.1 idx Y'.2.1 ∈ mj_tbl ∨ Cond.methodLinkNest Y.1 idx Y'.2.1 "ChartForest" ∈ mj_tbl) (hs : Cond.static Y'.2.1 ∈ mj_tbl) (he : Nat.ble (mj_e1 []).length Y'.2.2.2.1 = true) (hst : Nat.ble (st.map mj_cat).sum 8 = true)
    (k : mj_J g Y' d' 0 0 (0, mj_ent [] Y'.2.2.2.1, [], mj_mem nn xs w) (mj_P nn xs (fun v w1 => ∃ x : Int, v = some (.inl x) ∧ mj_J g Y (d' + 1) kc ks (pc + 3, lv, .inl x :: st, mj_mem nn xs w1) Post))) : mj_J g Y (d' + 1) kc ks (pc, lv, st, mj_mem nn xs w) Post :=
  mj_q_S 0 (vs := []) hd hy hl hs rfl rfl he hst (mj_wk k (fun v w1 h => by obtain ⟨x, rfl, h⟩ := h; exact h))
theorem mj_q_V0i {p ci : Nat} {l : List (Option Nat)} {fl : List (String × String × Bool)} (hd : decode Y.2.2.1 pc = .ok (.invokevirtual idx, 3)) (hy : mj_yk Y' 0) (hl : Cond.methodLink Y.1 idx Y'.2.1 ∈ mj_tbl ∨ Cond.methodLinkNest Y.1 idx Y'.2.1 "ChartForest" ∈ mj_tbl) (hs : Cond.instanceMethod Y'.2.1 ∈ mj_tbl) (hse : Cond.selects Y'.1 Y'.2.1 Y'.2.1 ∈ mj_tbl)
    (hsh : mj_sh[p]? = some (.inr (.inr (ci, l)))) (hc : mj_cf[ci]? = some (Y'.1, fl)) (hb : Nat.blt p N0 = true) (hn0 : N0 ≤ nn) (he : Nat.ble (mj_e1 [.inr (.inr (.inl (some (p, 0))))]).length Y'.2.2.2.1 = true) (hst : Nat.ble (st.map mj_cat).sum 8 = true)
    (k : mj_J g Y' d' 0 0 (0, mj_ent [.inr (.inr (.inl (some (p, 0))))] Y'.2.2.2.1, [], mj_mem nn xs w) (mj_P nn xs (fun v w1 => ∃ x : Int, v = some (.inl x) ∧ mj_J g Y (d' + 1) kc ks (pc + 3, lv, .inl x :: st, mj_mem nn xs w1) Post))) : mj_J g Y (d' + 1) kc ks (pc, lv, .inr (.inr (.inl (some (p, 0)))) :: st, mj_mem nn xs w) Post :=
  mj_q_V 0 (vs := []) hd hy hl hs hse hsh hc hb hn0 rfl rfl he hst (mj_wk k (fun v w1 h => by obtain ⟨x, rfl, h⟩ := h; exact h))
theorem mj_q_S0l (hd : decode Y.2.2.1 pc = .ok (.invokestatic idx, 3)) (hy : mj_yk Y' 0) (hl : Cond.methodLink Y.1 idx Y'.2.1 ∈ mj_tbl ∨ Cond.methodLinkNest Y.1 idx Y'.2.1 "ChartForest" ∈ mj_tbl) (hs : Cond.static Y'.2.1 ∈ mj_tbl) (he : Nat.ble (mj_e1 []).length Y'.2.2.2.1 = true) (hst : Nat.ble (st.map mj_cat).sum 8 = true)
    (k : mj_J g Y' d' 0 0 (0, mj_ent [] Y'.2.2.2.1, [], mj_mem nn xs w) (mj_P nn xs (fun v w1 => ∃ x : Int, v = some (.inr (.inl x)) ∧ mj_J g Y (d' + 1) kc ks (pc + 3, lv, .inr (.inl x) :: st, mj_mem nn xs w1) Post))) : mj_J g Y (d' + 1) kc ks (pc, lv, st, mj_mem nn xs w) Post :=
  mj_q_S 0 (vs := []) hd hy hl hs rfl rfl he hst (mj_wk k (fun v w1 h => by obtain ⟨x, rfl, h⟩ := h; exact h))
theorem mj_q_V0l {p ci : Nat} {l : List (Option Nat)} {fl : List (String × String × Bool)} (hd : decode Y.2.2.1 pc = .ok (.invokevirtual idx, 3)) (hy : mj_yk Y' 0) (hl : Cond.methodLink Y.1 idx Y'.2.1 ∈ mj_tbl ∨ Cond.methodLinkNest Y.1 idx Y'.2.1 "ChartForest" ∈ mj_tbl) (hs : Cond.instanceMethod Y'.2.1 ∈ mj_tbl) (hse : Cond.selects Y'.1 Y'.2.1 Y'.2.1 ∈ mj_tbl)
    (hsh : mj_sh[p]? = some (.inr (.inr (ci, l)))) (hc : mj_cf[ci]? = some (Y'.1, fl)) (hb : Nat.blt p N0 = true) (hn0 : N0 ≤ nn) (he : Nat.ble (mj_e1 [.inr (.inr (.inl (some (p, 0))))]).length Y'.2.2.2.1 = true) (hst : Nat.ble (st.map mj_cat).sum 8 = true)
    (k : mj_J g Y' d' 0 0 (0, mj_ent [.inr (.inr (.inl (some (p, 0))))] Y'.2.2.2.1, [], mj_mem nn xs w) (mj_P nn xs (fun v w1 => ∃ x : Int, v = some (.inr (.inl x)) ∧ mj_J g Y (d' + 1) kc ks (pc + 3, lv, .inr (.inl x) :: st, mj_mem nn xs w1) Post))) : mj_J g Y (d' + 1) kc ks (pc, lv, .inr (.inr (.inl (some (p, 0)))) :: st, mj_mem nn xs w) Post :=
  mj_q_V 0 (vs := []) hd hy hl hs hse hsh hc hb hn0 rfl rfl he hst (mj_wk k (fun v w1 h => by obtain ⟨x, rfl, h⟩ := h; exact h))
theorem mj_q_S0v (hd : decode Y.2.2.1 pc = .ok (.invokestatic idx, 3)) (hy : mj_yk Y' 0) (hl : Cond.methodLink Y.1 idx Y'.2.1 ∈ mj_tbl ∨ Cond.methodLinkNest Y.1 idx Y'.2.1 "ChartForest" ∈ mj_tbl) (hs : Cond.static Y'.2.1 ∈ mj_tbl) (he : Nat.ble (mj_e1 []).length Y'.2.2.2.1 = true) (hst : Nat.ble (st.map mj_cat).sum 8 = true)
    (k : mj_J g Y' d' 0 0 (0, mj_ent [] Y'.2.2.2.1, [], mj_mem nn xs w) (mj_P nn xs (fun v w1 => v = none ∧ mj_J g Y (d' + 1) kc ks (pc + 3, lv, st, mj_mem nn xs w1) Post))) : mj_J g Y (d' + 1) kc ks (pc, lv, st, mj_mem nn xs w) Post :=
  mj_q_S 0 (vs := []) hd hy hl hs rfl rfl he hst (mj_wk k (fun v w1 h => by obtain ⟨rfl, h⟩ := h; exact h))
theorem mj_q_V0v {p ci : Nat} {l : List (Option Nat)} {fl : List (String × String × Bool)} (hd : decode Y.2.2.1 pc = .ok (.invokevirtual idx, 3)) (hy : mj_yk Y' 0) (hl : Cond.methodLink Y.1 idx Y'.2.1 ∈ mj_tbl ∨ Cond.methodLinkNest Y.1 idx Y'.2.1 "ChartForest" ∈ mj_tbl) (hs : Cond.instanceMethod Y'.2.1 ∈ mj_tbl) (hse : Cond.selects Y'.1 Y'.2.1 Y'.2.1 ∈ mj_tbl)
    (hsh : mj_sh[p]? = some (.inr (.inr (ci, l)))) (hc : mj_cf[ci]? = some (Y'.1, fl)) (hb : Nat.blt p N0 = true) (hn0 : N0 ≤ nn) (he : Nat.ble (mj_e1 [.inr (.inr (.inl (some (p, 0))))]).length Y'.2.2.2.1 = true) (hst : Nat.ble (st.map mj_cat).sum 8 = true)
    (k : mj_J g Y' d' 0 0 (0, mj_ent [.inr (.inr (.inl (some (p, 0))))] Y'.2.2.2.1, [], mj_mem nn xs w) (mj_P nn xs (fun v w1 => v = none ∧ mj_J g Y (d' + 1) kc ks (pc + 3, lv, st, mj_mem nn xs w1) Post))) : mj_J g Y (d' + 1) kc ks (pc, lv, .inr (.inr (.inl (some (p, 0)))) :: st, mj_mem nn xs w) Post :=
  mj_q_V 0 (vs := []) hd hy hl hs hse hsh hc hb hn0 rfl rfl he hst (mj_wk k (fun v w1 h => by obtain ⟨rfl, h⟩ := h; exact h))
theorem mj_q_S1i {v0 : mj_V} (hd : decode Y.2.2.1 pc = .ok (.invokestatic idx, 3)) (hy : mj_yk Y' 1) (hl : Cond.methodLink Y.1 idx Y'.2.1 ∈ mj_tbl ∨ Cond.methodLinkNest Y.1 idx Y'.2.1 "ChartForest" ∈ mj_tbl) (hs : Cond.static Y'.2.1 ∈ mj_tbl) (he : Nat.ble (mj_e1 [v0]).length Y'.2.2.2.1 = true) (hst : Nat.ble (st.map mj_cat).sum 8 = true)
    (k : mj_J g Y' d' 0 0 (0, mj_ent [v0] Y'.2.2.2.1, [], mj_mem nn xs w) (mj_P nn xs (fun v w1 => ∃ x : Int, v = some (.inl x) ∧ mj_J g Y (d' + 1) kc ks (pc + 3, lv, .inl x :: st, mj_mem nn xs w1) Post))) : mj_J g Y (d' + 1) kc ks (pc, lv, v0 :: st, mj_mem nn xs w) Post :=
  mj_q_S 1 (vs := [v0]) hd hy hl hs rfl rfl he hst (mj_wk k (fun v w1 h => by obtain ⟨x, rfl, h⟩ := h; exact h))
theorem mj_q_V1i {p ci : Nat} {l : List (Option Nat)} {fl : List (String × String × Bool)} {v0 : mj_V} (hd : decode Y.2.2.1 pc = .ok (.invokevirtual idx, 3)) (hy : mj_yk Y' 1) (hl : Cond.methodLink Y.1 idx Y'.2.1 ∈ mj_tbl ∨ Cond.methodLinkNest Y.1 idx Y'.2.1 "ChartForest" ∈ mj_tbl) (hs : Cond.instanceMethod Y'.2.1 ∈ mj_tbl) (hse : Cond.selects Y'.1 Y'.2.1 Y'.2.1 ∈ mj_tbl)
    (hsh : mj_sh[p]? = some (.inr (.inr (ci, l)))) (hc : mj_cf[ci]? = some (Y'.1, fl)) (hb : Nat.blt p N0 = true) (hn0 : N0 ≤ nn) (he : Nat.ble (mj_e1 [.inr (.inr (.inl (some (p, 0)))), v0]).length Y'.2.2.2.1 = true) (hst : Nat.ble (st.map mj_cat).sum 8 = true)
    (k : mj_J g Y' d' 0 0 (0, mj_ent [.inr (.inr (.inl (some (p, 0)))), v0] Y'.2.2.2.1, [], mj_mem nn xs w) (mj_P nn xs (fun v w1 => ∃ x : Int, v = some (.inl x) ∧ mj_J g Y (d' + 1) kc ks (pc + 3, lv, .inl x :: st, mj_mem nn xs w1) Post))) : mj_J g Y (d' + 1) kc ks (pc, lv, v0 :: .inr (.inr (.inl (some (p, 0)))) :: st, mj_mem nn xs w) Post :=
  mj_q_V 1 (vs := [v0]) hd hy hl hs hse hsh hc hb hn0 rfl rfl he hst (mj_wk k (fun v w1 h => by obtain ⟨x, rfl, h⟩ := h; exact h))
theorem mj_q_S1l {v0 : mj_V} (hd : decode Y.2.2.1 pc = .ok (.invokestatic idx, 3)) (hy : mj_yk Y' 1) (hl : Cond.methodLink Y.1 idx Y'.2.1 ∈ mj_tbl ∨ Cond.methodLinkNest Y.1 idx Y'.2.1 "ChartForest" ∈ mj_tbl) (hs : Cond.static Y'.2.1 ∈ mj_tbl) (he : Nat.ble (mj_e1 [v0]).length Y'.2.2.2.1 = true) (hst : Nat.ble (st.map mj_cat).sum 8 = true)
    (k : mj_J g Y' d' 0 0 (0, mj_ent [v0] Y'.2.2.2.1, [], mj_mem nn xs w) (mj_P nn xs (fun v w1 => ∃ x : Int, v = some (.inr (.inl x)) ∧ mj_J g Y (d' + 1) kc ks (pc + 3, lv, .inr (.inl x) :: st, mj_mem nn xs w1) Post))) : mj_J g Y (d' + 1) kc ks (pc, lv, v0 :: st, mj_mem nn xs w) Post :=
  mj_q_S 1 (vs := [v0]) hd hy hl hs rfl rfl he hst (mj_wk k (fun v w1 h => by obtain ⟨x, rfl, h⟩ := h; exact h))
theorem mj_q_V1l {p ci : Nat} {l : List (Option Nat)} {fl : List (String × String × Bool)} {v0 : mj_V} (hd : decode Y.2.2.1 pc = .ok (.invokevirtual idx, 3)) (hy : mj_yk Y' 1) (hl : Cond.methodLink Y.1 idx Y'.2.1 ∈ mj_tbl ∨ Cond.methodLinkNest Y.1 idx Y'.2.1 "ChartForest" ∈ mj_tbl) (hs : Cond.instanceMethod Y'.2.1 ∈ mj_tbl) (hse : Cond.selects Y'.1 Y'.2.1 Y'.2.1 ∈ mj_tbl)
    (hsh : mj_sh[p]? = some (.inr (.inr (ci, l)))) (hc : mj_cf[ci]? = some (Y'.1, fl)) (hb : Nat.blt p N0 = true) (hn0 : N0 ≤ nn) (he : Nat.ble (mj_e1 [.inr (.inr (.inl (some (p, 0)))), v0]).length Y'.2.2.2.1 = true) (hst : Nat.ble (st.map mj_cat).sum 8 = true)
    (k : mj_J g Y' d' 0 0 (0, mj_ent [.inr (.inr (.inl (some (p, 0)))), v0] Y'.2.2.2.1, [], mj_mem nn xs w) (mj_P nn xs (fun v w1 => ∃ x : Int, v = some (.inr (.inl x)) ∧ mj_J g Y (d' + 1) kc ks (pc + 3, lv, .inr (.inl x) :: st, mj_mem nn xs w1) Post))) : mj_J g Y (d' + 1) kc ks (pc, lv, v0 :: .inr (.inr (.inl (some (p, 0)))) :: st, mj_mem nn xs w) Post :=
  mj_q_V 1 (vs := [v0]) hd hy hl hs hse hsh hc hb hn0 rfl rfl he hst (mj_wk k (fun v w1 h => by obtain ⟨x, rfl, h⟩ := h; exact h))
theorem mj_q_S1v {v0 : mj_V} (hd : decode Y.2.2.1 pc = .ok (.invokestatic idx, 3)) (hy : mj_yk Y' 1) (hl : Cond.methodLink Y.1 idx Y'.2.1 ∈ mj_tbl ∨ Cond.methodLinkNest Y.1 idx Y'.2.1 "ChartForest" ∈ mj_tbl) (hs : Cond.static Y'.2.1 ∈ mj_tbl) (he : Nat.ble (mj_e1 [v0]).length Y'.2.2.2.1 = true) (hst : Nat.ble (st.map mj_cat).sum 8 = true)
    (k : mj_J g Y' d' 0 0 (0, mj_ent [v0] Y'.2.2.2.1, [], mj_mem nn xs w) (mj_P nn xs (fun v w1 => v = none ∧ mj_J g Y (d' + 1) kc ks (pc + 3, lv, st, mj_mem nn xs w1) Post))) : mj_J g Y (d' + 1) kc ks (pc, lv, v0 :: st, mj_mem nn xs w) Post :=
  mj_q_S 1 (vs := [v0]) hd hy hl hs rfl rfl he hst (mj_wk k (fun v w1 h => by obtain ⟨rfl, h⟩ := h; exact h))
theorem mj_q_V1v {p ci : Nat} {l : List (Option Nat)} {fl : List (String × String × Bool)} {v0 : mj_V} (hd : decode Y.2.2.1 pc = .ok (.invokevirtual idx, 3)) (hy : mj_yk Y' 1) (hl : Cond.methodLink Y.1 idx Y'.2.1 ∈ mj_tbl ∨ Cond.methodLinkNest Y.1 idx Y'.2.1 "ChartForest" ∈ mj_tbl) (hs : Cond.instanceMethod Y'.2.1 ∈ mj_tbl) (hse : Cond.selects Y'.1 Y'.2.1 Y'.2.1 ∈ mj_tbl)
    (hsh : mj_sh[p]? = some (.inr (.inr (ci, l)))) (hc : mj_cf[ci]? = some (Y'.1, fl)) (hb : Nat.blt p N0 = true) (hn0 : N0 ≤ nn) (he : Nat.ble (mj_e1 [.inr (.inr (.inl (some (p, 0)))), v0]).length Y'.2.2.2.1 = true) (hst : Nat.ble (st.map mj_cat).sum 8 = true)
    (k : mj_J g Y' d' 0 0 (0, mj_ent [.inr (.inr (.inl (some (p, 0)))), v0] Y'.2.2.2.1, [], mj_mem nn xs w) (mj_P nn xs (fun v w1 => v = none ∧ mj_J g Y (d' + 1) kc ks (pc + 3, lv, st, mj_mem nn xs w1) Post))) : mj_J g Y (d' + 1) kc ks (pc, lv, v0 :: .inr (.inr (.inl (some (p, 0)))) :: st, mj_mem nn xs w) Post :=
  mj_q_V 1 (vs := [v0]) hd hy hl hs hse hsh hc hb hn0 rfl rfl he hst (mj_wk k (fun v w1 h => by obtain ⟨rfl, h⟩ := h; exact h))
theorem mj_q_S2i {v0 v1 : mj_V} (hd : decode Y.2.2.1 pc = .ok (.invokestatic idx, 3)) (hy : mj_yk Y' 2) (hl : Cond.methodLink Y.1 idx Y'.2.1 ∈ mj_tbl ∨ Cond.methodLinkNest Y.1 idx Y'.2.1 "ChartForest" ∈ mj_tbl) (hs : Cond.static Y'.2.1 ∈ mj_tbl) (he : Nat.ble (mj_e1 [v0, v1]).length Y'.2.2.2.1 = true) (hst : Nat.ble (st.map mj_cat).sum 8 = true)
    (k : mj_J g Y' d' 0 0 (0, mj_ent [v0, v1] Y'.2.2.2.1, [], mj_mem nn xs w) (mj_P nn xs (fun v w1 => ∃ x : Int, v = some (.inl x) ∧ mj_J g Y (d' + 1) kc ks (pc + 3, lv, .inl x :: st, mj_mem nn xs w1) Post))) : mj_J g Y (d' + 1) kc ks (pc, lv, v1 :: v0 :: st, mj_mem nn xs w) Post :=
  mj_q_S 2 (vs := [v0, v1]) hd hy hl hs rfl rfl he hst (mj_wk k (fun v w1 h => by obtain ⟨x, rfl, h⟩ := h; exact h))
theorem mj_q_V2i {p ci : Nat} {l : List (Option Nat)} {fl : List (String × String × Bool)} {v0 v1 : mj_V} (hd : decode Y.2.2.1 pc = .ok (.invokevirtual idx, 3)) (hy : mj_yk Y' 2) (hl : Cond.methodLink Y.1 idx Y'.2.1 ∈ mj_tbl ∨ Cond.methodLinkNest Y.1 idx Y'.2.1 "ChartForest" ∈ mj_tbl) (hs : Cond.instanceMethod Y'.2.1 ∈ mj_tbl) (hse : Cond.selects Y'.1 Y'.2.1 Y'.2.1 ∈ mj_tbl)
    (hsh : mj_sh[p]? = some (.inr (.inr (ci, l)))) (hc : mj_cf[ci]? = some (Y'.1, fl)) (hb : Nat.blt p N0 = true) (hn0 : N0 ≤ nn) (he : Nat.ble (mj_e1 [.inr (.inr (.inl (some (p, 0)))), v0, v1]).length Y'.2.2.2.1 = true) (hst : Nat.ble (st.map mj_cat).sum 8 = true)
    (k : mj_J g Y' d' 0 0 (0, mj_ent [.inr (.inr (.inl (some (p, 0)))), v0, v1] Y'.2.2.2.1, [], mj_mem nn xs w) (mj_P nn xs (fun v w1 => ∃ x : Int, v = some (.inl x) ∧ mj_J g Y (d' + 1) kc ks (pc + 3, lv, .inl x :: st, mj_mem nn xs w1) Post))) : mj_J g Y (d' + 1) kc ks (pc, lv, v1 :: v0 :: .inr (.inr (.inl (some (p, 0)))) :: st, mj_mem nn xs w) Post :=
  mj_q_V 2 (vs := [v0, v1]) hd hy hl hs hse hsh hc hb hn0 rfl rfl he hst (mj_wk k (fun v w1 h => by obtain ⟨x, rfl, h⟩ := h; exact h))
theorem mj_q_S2l {v0 v1 : mj_V} (hd : decode Y.2.2.1 pc = .ok (.invokestatic idx, 3)) (hy : mj_yk Y' 2) (hl : Cond.methodLink Y.1 idx Y'.2.1 ∈ mj_tbl ∨ Cond.methodLinkNest Y.1 idx Y'.2.1 "ChartForest" ∈ mj_tbl) (hs : Cond.static Y'.2.1 ∈ mj_tbl) (he : Nat.ble (mj_e1 [v0, v1]).length Y'.2.2.2.1 = true) (hst : Nat.ble (st.map mj_cat).sum 8 = true)
    (k : mj_J g Y' d' 0 0 (0, mj_ent [v0, v1] Y'.2.2.2.1, [], mj_mem nn xs w) (mj_P nn xs (fun v w1 => ∃ x : Int, v = some (.inr (.inl x)) ∧ mj_J g Y (d' + 1) kc ks (pc + 3, lv, .inr (.inl x) :: st, mj_mem nn xs w1) Post))) : mj_J g Y (d' + 1) kc ks (pc, lv, v1 :: v0 :: st, mj_mem nn xs w) Post :=
  mj_q_S 2 (vs := [v0, v1]) hd hy hl hs rfl rfl he hst (mj_wk k (fun v w1 h => by obtain ⟨x, rfl, h⟩ := h; exact h))
theorem mj_q_V2l {p ci : Nat} {l : List (Option Nat)} {fl : List (String × String × Bool)} {v0 v1 : mj_V} (hd : decode Y.2.2.1 pc = .ok (.invokevirtual idx, 3)) (hy : mj_yk Y' 2) (hl : Cond.methodLink Y.1 idx Y'.2.1 ∈ mj_tbl ∨ Cond.methodLinkNest Y.1 idx Y'.2.1 "ChartForest" ∈ mj_tbl) (hs : Cond.instanceMethod Y'.2.1 ∈ mj_tbl) (hse : Cond.selects Y'.1 Y'.2.1 Y'.2.1 ∈ mj_tbl)
    (hsh : mj_sh[p]? = some (.inr (.inr (ci, l)))) (hc : mj_cf[ci]? = some (Y'.1, fl)) (hb : Nat.blt p N0 = true) (hn0 : N0 ≤ nn) (he : Nat.ble (mj_e1 [.inr (.inr (.inl (some (p, 0)))), v0, v1]).length Y'.2.2.2.1 = true) (hst : Nat.ble (st.map mj_cat).sum 8 = true)
    (k : mj_J g Y' d' 0 0 (0, mj_ent [.inr (.inr (.inl (some (p, 0)))), v0, v1] Y'.2.2.2.1, [], mj_mem nn xs w) (mj_P nn xs (fun v w1 => ∃ x : Int, v = some (.inr (.inl x)) ∧ mj_J g Y (d' + 1) kc ks (pc + 3, lv, .inr (.inl x) :: st, mj_mem nn xs w1) Post))) : mj_J g Y (d' + 1) kc ks (pc, lv, v1 :: v0 :: .inr (.inr (.inl (some (p, 0)))) :: st, mj_mem nn xs w) Post :=
  mj_q_V 2 (vs := [v0, v1]) hd hy hl hs hse hsh hc hb hn0 rfl rfl he hst (mj_wk k (fun v w1 h => by obtain ⟨x, rfl, h⟩ := h; exact h))
theorem mj_q_S2v {v0 v1 : mj_V} (hd : decode Y.2.2.1 pc = .ok (.invokestatic idx, 3)) (hy : mj_yk Y' 2) (hl : Cond.methodLink Y.1 idx Y'.2.1 ∈ mj_tbl ∨ Cond.methodLinkNest Y.1 idx Y'.2.1 "ChartForest" ∈ mj_tbl) (hs : Cond.static Y'.2.1 ∈ mj_tbl) (he : Nat.ble (mj_e1 [v0, v1]).length Y'.2.2.2.1 = true) (hst : Nat.ble (st.map mj_cat).sum 8 = true)
    (k : mj_J g Y' d' 0 0 (0, mj_ent [v0, v1] Y'.2.2.2.1, [], mj_mem nn xs w) (mj_P nn xs (fun v w1 => v = none ∧ mj_J g Y (d' + 1) kc ks (pc + 3, lv, st, mj_mem nn xs w1) Post))) : mj_J g Y (d' + 1) kc ks (pc, lv, v1 :: v0 :: st, mj_mem nn xs w) Post :=
  mj_q_S 2 (vs := [v0, v1]) hd hy hl hs rfl rfl he hst (mj_wk k (fun v w1 h => by obtain ⟨rfl, h⟩ := h; exact h))
theorem mj_q_V2v {p ci : Nat} {l : List (Option Nat)} {fl : List (String × String × Bool)} {v0 v1 : mj_V} (hd : decode Y.2.2.1 pc = .ok (.invokevirtual idx, 3)) (hy : mj_yk Y' 2) (hl : Cond.methodLink Y.1 idx Y'.2.1 ∈ mj_tbl ∨ Cond.methodLinkNest Y.1 idx Y'.2.1 "ChartForest" ∈ mj_tbl) (hs : Cond.instanceMethod Y'.2.1 ∈ mj_tbl) (hse : Cond.selects Y'.1 Y'.2.1 Y'.2.1 ∈ mj_tbl)
    (hsh : mj_sh[p]? = some (.inr (.inr (ci, l)))) (hc : mj_cf[ci]? = some (Y'.1, fl)) (hb : Nat.blt p N0 = true) (hn0 : N0 ≤ nn) (he : Nat.ble (mj_e1 [.inr (.inr (.inl (some (p, 0)))), v0, v1]).length Y'.2.2.2.1 = true) (hst : Nat.ble (st.map mj_cat).sum 8 = true)
    (k : mj_J g Y' d' 0 0 (0, mj_ent [.inr (.inr (.inl (some (p, 0)))), v0, v1] Y'.2.2.2.1, [], mj_mem nn xs w) (mj_P nn xs (fun v w1 => v = none ∧ mj_J g Y (d' + 1) kc ks (pc + 3, lv, st, mj_mem nn xs w1) Post))) : mj_J g Y (d' + 1) kc ks (pc, lv, v1 :: v0 :: .inr (.inr (.inl (some (p, 0)))) :: st, mj_mem nn xs w) Post :=
  mj_q_V 2 (vs := [v0, v1]) hd hy hl hs hse hsh hc hb hn0 rfl rfl he hst (mj_wk k (fun v w1 h => by obtain ⟨rfl, h⟩ := h; exact h))
theorem mj_q_S3i {v0 v1 v2 : mj_V} (hd : decode Y.2.2.1 pc = .ok (.invokestatic idx, 3)) (hy : mj_yk Y' 3) (hl : Cond.methodLink Y.1 idx Y'.2.1 ∈ mj_tbl ∨ Cond.methodLinkNest Y.1 idx Y'.2.1 "ChartForest" ∈ mj_tbl) (hs : Cond.static Y'.2.1 ∈ mj_tbl) (he : Nat.ble (mj_e1 [v0, v1, v2]).length Y'.2.2.2.1 = true) (hst : Nat.ble (st.map mj_cat).sum 8 = true)
    (k : mj_J g Y' d' 0 0 (0, mj_ent [v0, v1, v2] Y'.2.2.2.1, [], mj_mem nn xs w) (mj_P nn xs (fun v w1 => ∃ x : Int, v = some (.inl x) ∧ mj_J g Y (d' + 1) kc ks (pc + 3, lv, .inl x :: st, mj_mem nn xs w1) Post))) : mj_J g Y (d' + 1) kc ks (pc, lv, v2 :: v1 :: v0 :: st, mj_mem nn xs w) Post :=
  mj_q_S 3 (vs := [v0, v1, v2]) hd hy hl hs rfl rfl he hst (mj_wk k (fun v w1 h => by obtain ⟨x, rfl, h⟩ := h; exact h))
theorem mj_q_V3i {p ci : Nat} {l : List (Option Nat)} {fl : List (String × String × Bool)} {v0 v1 v2 : mj_V} (hd : decode Y.2.2.1 pc = .ok (.invokevirtual idx, 3)) (hy : mj_yk Y' 3) (hl : Cond.methodLink Y.1 idx Y'.2.1 ∈ mj_tbl ∨ Cond.methodLinkNest Y.1 idx Y'.2.1 "ChartForest" ∈ mj_tbl) (hs : Cond.instanceMethod Y'.2.1 ∈ mj_tbl) (hse : Cond.selects Y'.1 Y'.2.1 Y'.2.1 ∈ mj_tbl)
    (hsh : mj_sh[p]? = some (.inr (.inr (ci, l)))) (hc : mj_cf[ci]? = some (Y'.1, fl)) (hb : Nat.blt p N0 = true) (hn0 : N0 ≤ nn) (he : Nat.ble (mj_e1 [.inr (.inr (.inl (some (p, 0)))), v0, v1, v2]).length Y'.2.2.2.1 = true) (hst : Nat.ble (st.map mj_cat).sum 8 = true)
    (k : mj_J g Y' d' 0 0 (0, mj_ent [.inr (.inr (.inl (some (p, 0)))), v0, v1, v2] Y'.2.2.2.1, [], mj_mem nn xs w) (mj_P nn xs (fun v w1 => ∃ x : Int, v = some (.inl x) ∧ mj_J g Y (d' + 1) kc ks (pc + 3, lv, .inl x :: st, mj_mem nn xs w1) Post))) : mj_J g Y (d' + 1) kc ks (pc, lv, v2 :: v1 :: v0 :: .inr (.inr (.inl (some (p, 0)))) :: st, mj_mem nn xs w) Post :=
  mj_q_V 3 (vs := [v0, v1, v2]) hd hy hl hs hse hsh hc hb hn0 rfl rfl he hst (mj_wk k (fun v w1 h => by obtain ⟨x, rfl, h⟩ := h; exact h))
theorem mj_q_S3l {v0 v1 v2 : mj_V} (hd : decode Y.2.2.1 pc = .ok (.invokestatic idx, 3)) (hy : mj_yk Y' 3) (hl : Cond.methodLink Y.1 idx Y'.2.1 ∈ mj_tbl ∨ Cond.methodLinkNest Y.1 idx Y'.2.1 "ChartForest" ∈ mj_tbl) (hs : Cond.static Y'.2.1 ∈ mj_tbl) (he : Nat.ble (mj_e1 [v0, v1, v2]).length Y'.2.2.2.1 = true) (hst : Nat.ble (st.map mj_cat).sum 8 = true)
    (k : mj_J g Y' d' 0 0 (0, mj_ent [v0, v1, v2] Y'.2.2.2.1, [], mj_mem nn xs w) (mj_P nn xs (fun v w1 => ∃ x : Int, v = some (.inr (.inl x)) ∧ mj_J g Y (d' + 1) kc ks (pc + 3, lv, .inr (.inl x) :: st, mj_mem nn xs w1) Post))) : mj_J g Y (d' + 1) kc ks (pc, lv, v2 :: v1 :: v0 :: st, mj_mem nn xs w) Post :=
  mj_q_S 3 (vs := [v0, v1, v2]) hd hy hl hs rfl rfl he hst (mj_wk k (fun v w1 h => by obtain ⟨x, rfl, h⟩ := h; exact h))
theorem mj_q_V3l {p ci : Nat} {l : List (Option Nat)} {fl : List (String × String × Bool)} {v0 v1 v2 : mj_V} (hd : decode Y.2.2.1 pc = .ok (.invokevirtual idx, 3)) (hy : mj_yk Y' 3) (hl : Cond.methodLink Y.1 idx Y'.2.1 ∈ mj_tbl ∨ Cond.methodLinkNest Y.1 idx Y'.2.1 "ChartForest" ∈ mj_tbl) (hs : Cond.instanceMethod Y'.2.1 ∈ mj_tbl) (hse : Cond.selects Y'.1 Y'.2.1 Y'.2.1 ∈ mj_tbl)
    (hsh : mj_sh[p]? = some (.inr (.inr (ci, l)))) (hc : mj_cf[ci]? = some (Y'.1, fl)) (hb : Nat.blt p N0 = true) (hn0 : N0 ≤ nn) (he : Nat.ble (mj_e1 [.inr (.inr (.inl (some (p, 0)))), v0, v1, v2]).length Y'.2.2.2.1 = true) (hst : Nat.ble (st.map mj_cat).sum 8 = true)
    (k : mj_J g Y' d' 0 0 (0, mj_ent [.inr (.inr (.inl (some (p, 0)))), v0, v1, v2] Y'.2.2.2.1, [], mj_mem nn xs w) (mj_P nn xs (fun v w1 => ∃ x : Int, v = some (.inr (.inl x)) ∧ mj_J g Y (d' + 1) kc ks (pc + 3, lv, .inr (.inl x) :: st, mj_mem nn xs w1) Post))) : mj_J g Y (d' + 1) kc ks (pc, lv, v2 :: v1 :: v0 :: .inr (.inr (.inl (some (p, 0)))) :: st, mj_mem nn xs w) Post :=
  mj_q_V 3 (vs := [v0, v1, v2]) hd hy hl hs hse hsh hc hb hn0 rfl rfl he hst (mj_wk k (fun v w1 h => by obtain ⟨x, rfl, h⟩ := h; exact h))
theorem mj_q_S3v {v0 v1 v2 : mj_V} (hd : decode Y.2.2.1 pc = .ok (.invokestatic idx, 3)) (hy : mj_yk Y' 3) (hl : Cond.methodLink Y.1 idx Y'.2.1 ∈ mj_tbl ∨ Cond.methodLinkNest Y.1 idx Y'.2.1 "ChartForest" ∈ mj_tbl) (hs : Cond.static Y'.2.1 ∈ mj_tbl) (he : Nat.ble (mj_e1 [v0, v1, v2]).length Y'.2.2.2.1 = true) (hst : Nat.ble (st.map mj_cat).sum 8 = true)
    (k : mj_J g Y' d' 0 0 (0, mj_ent [v0, v1, v2] Y'.2.2.2.1, [], mj_mem nn xs w) (mj_P nn xs (fun v w1 => v = none ∧ mj_J g Y (d' + 1) kc ks (pc + 3, lv, st, mj_mem nn xs w1) Post))) : mj_J g Y (d' + 1) kc ks (pc, lv, v2 :: v1 :: v0 :: st, mj_mem nn xs w) Post :=
  mj_q_S 3 (vs := [v0, v1, v2]) hd hy hl hs rfl rfl he hst (mj_wk k (fun v w1 h => by obtain ⟨rfl, h⟩ := h; exact h))
theorem mj_q_V3v {p ci : Nat} {l : List (Option Nat)} {fl : List (String × String × Bool)} {v0 v1 v2 : mj_V} (hd : decode Y.2.2.1 pc = .ok (.invokevirtual idx, 3)) (hy : mj_yk Y' 3) (hl : Cond.methodLink Y.1 idx Y'.2.1 ∈ mj_tbl ∨ Cond.methodLinkNest Y.1 idx Y'.2.1 "ChartForest" ∈ mj_tbl) (hs : Cond.instanceMethod Y'.2.1 ∈ mj_tbl) (hse : Cond.selects Y'.1 Y'.2.1 Y'.2.1 ∈ mj_tbl)
    (hsh : mj_sh[p]? = some (.inr (.inr (ci, l)))) (hc : mj_cf[ci]? = some (Y'.1, fl)) (hb : Nat.blt p N0 = true) (hn0 : N0 ≤ nn) (he : Nat.ble (mj_e1 [.inr (.inr (.inl (some (p, 0)))), v0, v1, v2]).length Y'.2.2.2.1 = true) (hst : Nat.ble (st.map mj_cat).sum 8 = true)
    (k : mj_J g Y' d' 0 0 (0, mj_ent [.inr (.inr (.inl (some (p, 0)))), v0, v1, v2] Y'.2.2.2.1, [], mj_mem nn xs w) (mj_P nn xs (fun v w1 => v = none ∧ mj_J g Y (d' + 1) kc ks (pc + 3, lv, st, mj_mem nn xs w1) Post))) : mj_J g Y (d' + 1) kc ks (pc, lv, v2 :: v1 :: v0 :: .inr (.inr (.inl (some (p, 0)))) :: st, mj_mem nn xs w) Post :=
  mj_q_V 3 (vs := [v0, v1, v2]) hd hy hl hs hse hsh hc hb hn0 rfl rfl he hst (mj_wk k (fun v w1 h => by obtain ⟨rfl, h⟩ := h; exact h))
theorem mj_q_S4i {v0 v1 v2 v3 : mj_V} (hd : decode Y.2.2.1 pc = .ok (.invokestatic idx, 3)) (hy : mj_yk Y' 4) (hl : Cond.methodLink Y.1 idx Y'.2.1 ∈ mj_tbl ∨ Cond.methodLinkNest Y.1 idx Y'.2.1 "ChartForest" ∈ mj_tbl) (hs : Cond.static Y'.2.1 ∈ mj_tbl) (he : Nat.ble (mj_e1 [v0, v1, v2, v3]).length Y'.2.2.2.1 = true) (hst : Nat.ble (st.map mj_cat).sum 8 = true)
    (k : mj_J g Y' d' 0 0 (0, mj_ent [v0, v1, v2, v3] Y'.2.2.2.1, [], mj_mem nn xs w) (mj_P nn xs (fun v w1 => ∃ x : Int, v = some (.inl x) ∧ mj_J g Y (d' + 1) kc ks (pc + 3, lv, .inl x :: st, mj_mem nn xs w1) Post))) : mj_J g Y (d' + 1) kc ks (pc, lv, v3 :: v2 :: v1 :: v0 :: st, mj_mem nn xs w) Post :=
  mj_q_S 4 (vs := [v0, v1, v2, v3]) hd hy hl hs rfl rfl he hst (mj_wk k (fun v w1 h => by obtain ⟨x, rfl, h⟩ := h; exact h))
theorem mj_q_V4i {p ci : Nat} {l : List (Option Nat)} {fl : List (String × String × Bool)} {v0 v1 v2 v3 : mj_V} (hd : decode Y.2.2.1 pc = .ok (.invokevirtual idx, 3)) (hy : mj_yk Y' 4) (hl : Cond.methodLink Y.1 idx Y'.2.1 ∈ mj_tbl ∨ Cond.methodLinkNest Y.1 idx Y'.2.1 "ChartForest" ∈ mj_tbl) (hs : Cond.instanceMethod Y'.2.1 ∈ mj_tbl) (hse : Cond.selects Y'.1 Y'.2.1 Y'.2.1 ∈ mj_tbl)
    (hsh : mj_sh[p]? = some (.inr (.inr (ci, l)))) (hc : mj_cf[ci]? = some (Y'.1, fl)) (hb : Nat.blt p N0 = true) (hn0 : N0 ≤ nn) (he : Nat.ble (mj_e1 [.inr (.inr (.inl (some (p, 0)))), v0, v1, v2, v3]).length Y'.2.2.2.1 = true) (hst : Nat.ble (st.map mj_cat).sum 8 = true)
    (k : mj_J g Y' d' 0 0 (0, mj_ent [.inr (.inr (.inl (some (p, 0)))), v0, v1, v2, v3] Y'.2.2.2.1, [], mj_mem nn xs w) (mj_P nn xs (fun v w1 => ∃ x : Int, v = some (.inl x) ∧ mj_J g Y (d' + 1) kc ks (pc + 3, lv, .inl x :: st, mj_mem nn xs w1) Post))) : mj_J g Y (d' + 1) kc ks (pc, lv, v3 :: v2 :: v1 :: v0 :: .inr (.inr (.inl (some (p, 0)))) :: st, mj_mem nn xs w) Post :=
  mj_q_V 4 (vs := [v0, v1, v2, v3]) hd hy hl hs hse hsh hc hb hn0 rfl rfl he hst (mj_wk k (fun v w1 h => by obtain ⟨x, rfl, h⟩ := h; exact h))
theorem mj_q_S4l {v0 v1 v2 v3 : mj_V} (hd : decode Y.2.2.1 pc = .ok (.invokestatic idx, 3)) (hy : mj_yk Y' 4) (hl : Cond.methodLink Y.1 idx Y'.2.1 ∈ mj_tbl ∨ Cond.methodLinkNest Y.1 idx Y'.2.1 "ChartForest" ∈ mj_tbl) (hs : Cond.static Y'.2.1 ∈ mj_tbl) (he : Nat.ble (mj_e1 [v0, v1, v2, v3]).length Y'.2.2.2.1 = true) (hst : Nat.ble (st.map mj_cat).sum 8 = true)
    (k : mj_J g Y' d' 0 0 (0, mj_ent [v0, v1, v2, v3] Y'.2.2.2.1, [], mj_mem nn xs w) (mj_P nn xs (fun v w1 => ∃ x : Int, v = some (.inr (.inl x)) ∧ mj_J g Y (d' + 1) kc ks (pc + 3, lv, .inr (.inl x) :: st, mj_mem nn xs w1) Post))) : mj_J g Y (d' + 1) kc ks (pc, lv, v3 :: v2 :: v1 :: v0 :: st, mj_mem nn xs w) Post :=
  mj_q_S 4 (vs := [v0, v1, v2, v3]) hd hy hl hs rfl rfl he hst (mj_wk k (fun v w1 h => by obtain ⟨x, rfl, h⟩ := h; exact h))
theorem mj_q_V4l {p ci : Nat} {l : List (Option Nat)} {fl : List (String × String × Bool)} {v0 v1 v2 v3 : mj_V} (hd : decode Y.2.2.1 pc = .ok (.invokevirtual idx, 3)) (hy : mj_yk Y' 4) (hl : Cond.methodLink Y.1 idx Y'.2.1 ∈ mj_tbl ∨ Cond.methodLinkNest Y.1 idx Y'.2.1 "ChartForest" ∈ mj_tbl) (hs : Cond.instanceMethod Y'.2.1 ∈ mj_tbl) (hse : Cond.selects Y'.1 Y'.2.1 Y'.2.1 ∈ mj_tbl)
    (hsh : mj_sh[p]? = some (.inr (.inr (ci, l)))) (hc : mj_cf[ci]? = some (Y'.1, fl)) (hb : Nat.blt p N0 = true) (hn0 : N0 ≤ nn) (he : Nat.ble (mj_e1 [.inr (.inr (.inl (some (p, 0)))), v0, v1, v2, v3]).length Y'.2.2.2.1 = true) (hst : Nat.ble (st.map mj_cat).sum 8 = true)
    (k : mj_J g Y' d' 0 0 (0, mj_ent [.inr (.inr (.inl (some (p, 0)))), v0, v1, v2, v3] Y'.2.2.2.1, [], mj_mem nn xs w) (mj_P nn xs (fun v w1 => ∃ x : Int, v = some (.inr (.inl x)) ∧ mj_J g Y (d' + 1) kc ks (pc + 3, lv, .inr (.inl x) :: st, mj_mem nn xs w1) Post))) : mj_J g Y (d' + 1) kc ks (pc, lv, v3 :: v2 :: v1 :: v0 :: .inr (.inr (.inl (some (p, 0)))) :: st, mj_mem nn xs w) Post :=
  mj_q_V 4 (vs := [v0, v1, v2, v3]) hd hy hl hs hse hsh hc hb hn0 rfl rfl he hst (mj_wk k (fun v w1 h => by obtain ⟨x, rfl, h⟩ := h; exact h))
theorem mj_q_S4v {v0 v1 v2 v3 : mj_V} (hd : decode Y.2.2.1 pc = .ok (.invokestatic idx, 3)) (hy : mj_yk Y' 4) (hl : Cond.methodLink Y.1 idx Y'.2.1 ∈ mj_tbl ∨ Cond.methodLinkNest Y.1 idx Y'.2.1 "ChartForest" ∈ mj_tbl) (hs : Cond.static Y'.2.1 ∈ mj_tbl) (he : Nat.ble (mj_e1 [v0, v1, v2, v3]).length Y'.2.2.2.1 = true) (hst : Nat.ble (st.map mj_cat).sum 8 = true)
    (k : mj_J g Y' d' 0 0 (0, mj_ent [v0, v1, v2, v3] Y'.2.2.2.1, [], mj_mem nn xs w) (mj_P nn xs (fun v w1 => v = none ∧ mj_J g Y (d' + 1) kc ks (pc + 3, lv, st, mj_mem nn xs w1) Post))) : mj_J g Y (d' + 1) kc ks (pc, lv, v3 :: v2 :: v1 :: v0 :: st, mj_mem nn xs w) Post :=
  mj_q_S 4 (vs := [v0, v1, v2, v3]) hd hy hl hs rfl rfl he hst (mj_wk k (fun v w1 h => by obtain ⟨rfl, h⟩ := h; exact h))
theorem mj_q_V4v {p ci : Nat} {l : List (Option Nat)} {fl : List (String × String × Bool)} {v0 v1 v2 v3 : mj_V} (hd : decode Y.2.2.1 pc = .ok (.invokevirtual idx, 3)) (hy : mj_yk Y' 4) (hl : Cond.methodLink Y.1 idx Y'.2.1 ∈ mj_tbl ∨ Cond.methodLinkNest Y.1 idx Y'.2.1 "ChartForest" ∈ mj_tbl) (hs : Cond.instanceMethod Y'.2.1 ∈ mj_tbl) (hse : Cond.selects Y'.1 Y'.2.1 Y'.2.1 ∈ mj_tbl)
    (hsh : mj_sh[p]? = some (.inr (.inr (ci, l)))) (hc : mj_cf[ci]? = some (Y'.1, fl)) (hb : Nat.blt p N0 = true) (hn0 : N0 ≤ nn) (he : Nat.ble (mj_e1 [.inr (.inr (.inl (some (p, 0)))), v0, v1, v2, v3]).length Y'.2.2.2.1 = true) (hst : Nat.ble (st.map mj_cat).sum 8 = true)
    (k : mj_J g Y' d' 0 0 (0, mj_ent [.inr (.inr (.inl (some (p, 0)))), v0, v1, v2, v3] Y'.2.2.2.1, [], mj_mem nn xs w) (mj_P nn xs (fun v w1 => v = none ∧ mj_J g Y (d' + 1) kc ks (pc + 3, lv, st, mj_mem nn xs w1) Post))) : mj_J g Y (d' + 1) kc ks (pc, lv, v3 :: v2 :: v1 :: v0 :: .inr (.inr (.inl (some (p, 0)))) :: st, mj_mem nn xs w) Post :=
  mj_q_V 4 (vs := [v0, v1, v2, v3]) hd hy hl hs hse hsh hc hb hn0 rfl rfl he hst (mj_wk k (fun v w1 h => by obtain ⟨rfl, h⟩ := h; exact h))
theorem mj_q_S5i {v0 v1 v2 v3 v4 : mj_V} (hd : decode Y.2.2.1 pc = .ok (.invokestatic idx, 3)) (hy : mj_yk Y' 5) (hl : Cond.methodLink Y.1 idx Y'.2.1 ∈ mj_tbl ∨ Cond.methodLinkNest Y.1 idx Y'.2.1 "ChartForest" ∈ mj_tbl) (hs : Cond.static Y'.2.1 ∈ mj_tbl) (he : Nat.ble (mj_e1 [v0, v1, v2, v3, v4]).length Y'.2.2.2.1 = true) (hst : Nat.ble (st.map mj_cat).sum 8 = true)
    (k : mj_J g Y' d' 0 0 (0, mj_ent [v0, v1, v2, v3, v4] Y'.2.2.2.1, [], mj_mem nn xs w) (mj_P nn xs (fun v w1 => ∃ x : Int, v = some (.inl x) ∧ mj_J g Y (d' + 1) kc ks (pc + 3, lv, .inl x :: st, mj_mem nn xs w1) Post))) : mj_J g Y (d' + 1) kc ks (pc, lv, v4 :: v3 :: v2 :: v1 :: v0 :: st, mj_mem nn xs w) Post :=
  mj_q_S 5 (vs := [v0, v1, v2, v3, v4]) hd hy hl hs rfl rfl he hst (mj_wk k (fun v w1 h => by obtain ⟨x, rfl, h⟩ := h; exact h))
theorem mj_q_V5i {p ci : Nat} {l : List (Option Nat)} {fl : List (String × String × Bool)} {v0 v1 v2 v3 v4 : mj_V} (hd : decode Y.2.2.1 pc = .ok (.invokevirtual idx, 3)) (hy : mj_yk Y' 5) (hl : Cond.methodLink Y.1 idx Y'.2.1 ∈ mj_tbl ∨ Cond.methodLinkNest Y.1 idx Y'.2.1 "ChartForest" ∈ mj_tbl) (hs : Cond.instanceMethod Y'.2.1 ∈ mj_tbl) (hse : Cond.selects Y'.1 Y'.2.1 Y'.2.1 ∈ mj_tbl)
    (hsh : mj_sh[p]? = some (.inr (.inr (ci, l)))) (hc : mj_cf[ci]? = some (Y'.1, fl)) (hb : Nat.blt p N0 = true) (hn0 : N0 ≤ nn) (he : Nat.ble (mj_e1 [.inr (.inr (.inl (some (p, 0)))), v0, v1, v2, v3, v4]).length Y'.2.2.2.1 = true) (hst : Nat.ble (st.map mj_cat).sum 8 = true)
    (k : mj_J g Y' d' 0 0 (0, mj_ent [.inr (.inr (.inl (some (p, 0)))), v0, v1, v2, v3, v4] Y'.2.2.2.1, [], mj_mem nn xs w) (mj_P nn xs (fun v w1 => ∃ x : Int, v = some (.inl x) ∧ mj_J g Y (d' + 1) kc ks (pc + 3, lv, .inl x :: st, mj_mem nn xs w1) Post))) : mj_J g Y (d' + 1) kc ks (pc, lv, v4 :: v3 :: v2 :: v1 :: v0 :: .inr (.inr (.inl (some (p, 0)))) :: st, mj_mem nn xs w) Post :=
  mj_q_V 5 (vs := [v0, v1, v2, v3, v4]) hd hy hl hs hse hsh hc hb hn0 rfl rfl he hst (mj_wk k (fun v w1 h => by obtain ⟨x, rfl, h⟩ := h; exact h))
theorem mj_q_S5l {v0 v1 v2 v3 v4 : mj_V} (hd : decode Y.2.2.1 pc = .ok (.invokestatic idx, 3)) (hy : mj_yk Y' 5) (hl : Cond.methodLink Y.1 idx Y'.2.1 ∈ mj_tbl ∨ Cond.methodLinkNest Y.1 idx Y'.2.1 "ChartForest" ∈ mj_tbl) (hs : Cond.static Y'.2.1 ∈ mj_tbl) (he : Nat.ble (mj_e1 [v0, v1, v2, v3, v4]).length Y'.2.2.2.1 = true) (hst : Nat.ble (st.map mj_cat).sum 8 = true)
    (k : mj_J g Y' d' 0 0 (0, mj_ent [v0, v1, v2, v3, v4] Y'.2.2.2.1, [], mj_mem nn xs w) (mj_P nn xs (fun v w1 => ∃ x : Int, v = some (.inr (.inl x)) ∧ mj_J g Y (d' + 1) kc ks (pc + 3, lv, .inr (.inl x) :: st, mj_mem nn xs w1) Post))) : mj_J g Y (d' + 1) kc ks (pc, lv, v4 :: v3 :: v2 :: v1 :: v0 :: st, mj_mem nn xs w) Post :=
  mj_q_S 5 (vs := [v0, v1, v2, v3, v4]) hd hy hl hs rfl rfl he hst (mj_wk k (fun v w1 h => by obtain ⟨x, rfl, h⟩ := h; exact h))
theorem mj_q_V5l {p ci : Nat} {l : List (Option Nat)} {fl : List (String × String × Bool)} {v0 v1 v2 v3 v4 : mj_V} (hd : decode Y.2.2.1 pc = .ok (.invokevirtual idx, 3)) (hy : mj_yk Y' 5) (hl : Cond.methodLink Y.1 idx Y'.2.1 ∈ mj_tbl ∨ Cond.methodLinkNest Y.1 idx Y'.2.1 "ChartForest" ∈ mj_tbl) (hs : Cond.instanceMethod Y'.2.1 ∈ mj_tbl) (hse : Cond.selects Y'.1 Y'.2.1 Y'.2.1 ∈ mj_tbl)
    (hsh : mj_sh[p]? = some (.inr (.inr (ci, l)))) (hc : mj_cf[ci]? = some (Y'.1, fl)) (hb : Nat.blt p N0 = true) (hn0 : N0 ≤ nn) (he : Nat.ble (mj_e1 [.inr (.inr (.inl (some (p, 0)))), v0, v1, v2, v3, v4]).length Y'.2.2.2.1 = true) (hst : Nat.ble (st.map mj_cat).sum 8 = true)
    (k : mj_J g Y' d' 0 0 (0, mj_ent [.inr (.inr (.inl (some (p, 0)))), v0, v1, v2, v3, v4] Y'.2.2.2.1, [], mj_mem nn xs w) (mj_P nn xs (fun v w1 => ∃ x : Int, v = some (.inr (.inl x)) ∧ mj_J g Y (d' + 1) kc ks (pc + 3, lv, .inr (.inl x) :: st, mj_mem nn xs w1) Post))) : mj_J g Y (d' + 1) kc ks (pc, lv, v4 :: v3 :: v2 :: v1 :: v0 :: .inr (.inr (.inl (some (p, 0)))) :: st, mj_mem nn xs w) Post :=
  mj_q_V 5 (vs := [v0, v1, v2, v3, v4]) hd hy hl hs hse hsh hc hb hn0 rfl rfl he hst (mj_wk k (fun v w1 h => by obtain ⟨x, rfl, h⟩ := h; exact h))
theorem mj_q_S5v {v0 v1 v2 v3 v4 : mj_V} (hd : decode Y.2.2.1 pc = .ok (.invokestatic idx, 3)) (hy : mj_yk Y' 5) (hl : Cond.methodLink Y.1 idx Y'.2.1 ∈ mj_tbl ∨ Cond.methodLinkNest Y.1 idx Y'.2.1 "ChartForest" ∈ mj_tbl) (hs : Cond.static Y'.2.1 ∈ mj_tbl) (he : Nat.ble (mj_e1 [v0, v1, v2, v3, v4]).length Y'.2.2.2.1 = true) (hst : Nat.ble (st.map mj_cat).sum 8 = true)
    (k : mj_J g Y' d' 0 0 (0, mj_ent [v0, v1, v2, v3, v4] Y'.2.2.2.1, [], mj_mem nn xs w) (mj_P nn xs (fun v w1 => v = none ∧ mj_J g Y (d' + 1) kc ks (pc + 3, lv, st, mj_mem nn xs w1) Post))) : mj_J g Y (d' + 1) kc ks (pc, lv, v4 :: v3 :: v2 :: v1 :: v0 :: st, mj_mem nn xs w) Post :=
  mj_q_S 5 (vs := [v0, v1, v2, v3, v4]) hd hy hl hs rfl rfl he hst (mj_wk k (fun v w1 h => by obtain ⟨rfl, h⟩ := h; exact h))
theorem mj_q_V5v {p ci : Nat} {l : List (Option Nat)} {fl : List (String × String × Bool)} {v0 v1 v2 v3 v4 : mj_V} (hd : decode Y.2.2.1 pc = .ok (.invokevirtual idx, 3)) (hy : mj_yk Y' 5) (hl : Cond.methodLink Y.1 idx Y'.2.1 ∈ mj_tbl ∨ Cond.methodLinkNest Y.1 idx Y'.2.1 "ChartForest" ∈ mj_tbl) (hs : Cond.instanceMethod Y'.2.1 ∈ mj_tbl) (hse : Cond.selects Y'.1 Y'.2.1 Y'.2.1 ∈ mj_tbl)
    (hsh : mj_sh[p]? = some (.inr (.inr (ci, l)))) (hc : mj_cf[ci]? = some (Y'.1, fl)) (hb : Nat.blt p N0 = true) (hn0 : N0 ≤ nn) (he : Nat.ble (mj_e1 [.inr (.inr (.inl (some (p, 0)))), v0, v1, v2, v3, v4]).length Y'.2.2.2.1 = true) (hst : Nat.ble (st.map mj_cat).sum 8 = true)
    (k : mj_J g Y' d' 0 0 (0, mj_ent [.inr (.inr (.inl (some (p, 0)))), v0, v1, v2, v3, v4] Y'.2.2.2.1, [], mj_mem nn xs w) (mj_P nn xs (fun v w1 => v = none ∧ mj_J g Y (d' + 1) kc ks (pc + 3, lv, st, mj_mem nn xs w1) Post))) : mj_J g Y (d' + 1) kc ks (pc, lv, v4 :: v3 :: v2 :: v1 :: v0 :: .inr (.inr (.inl (some (p, 0)))) :: st, mj_mem nn xs w) Post :=
  mj_q_V 5 (vs := [v0, v1, v2, v3, v4]) hd hy hl hs hse hsh hc hb hn0 rfl rfl he hst (mj_wk k (fun v w1 h => by obtain ⟨rfl, h⟩ := h; exact h))
end MJV
/-! ===== decode rows of a method in one, locals by parts, branches in two ===== -/
def mj_dec (c : ByteArray) (l : List (Nat × Instr × Nat)) : Bool := l.all fun q => decide (decode c q.1 = .ok (q.2.1, q.2.2))
theorem mj_d {c : ByteArray} {l : List (Nat × Instr × Nat)} (h : mj_dec c l = true) (n : Nat) {q : Nat × Instr × Nat} (hq : l[n]? = some q) : decode c q.1 = .ok (q.2.1, q.2.2) :=
  of_decide_eq_true (List.all_eq_true.mp h q (List.mem_of_getElem? hq))
def mj_sub : mj_L → mj_L → Prop
  | [], [] => True
  | a :: r, b :: q => (a = none ∨ a = b) ∧ mj_sub r q
  | _, _ => False
theorem mj_sub_of : ∀ {a b : mj_L}, mj_sub a b → a.length = b.length ∧ ∀ (i : Nat) (w : mj_V), a[i]? = some (some w) → b[i]? = some (some w)
  | [], [], _ => ⟨rfl, fun _ _ h => h⟩
  | a :: r, b :: q, h => by
    obtain ⟨h1, h2⟩ := mj_sub_of h.2
    refine ⟨by rw [List.length_cons, List.length_cons, h1], fun i w hw => ?_⟩
    cases i with
    | zero =>
      have hw2 : a = some w := Option.some.inj hw
      rcases h.1 with e | e
      · rw [e] at hw2; cases hw2
      · rw [← e, hw2]; rfl
    | succ i => exact h2 i w hw
  | [], _ :: _, h => h.elim
  | _ :: _, [], h => h.elim
theorem mj_ik {x : Int} (h : (decide (-2147483648 ≤ x) && decide (x < 2147483648)) = true) : mj_i x := by
  simp at h
  exact h
theorem mj_lk {x : Int} (h : (decide (-9223372036854775808 ≤ x) && decide (x < 9223372036854775808)) = true) : mj_l x := by
  simp at h
  exact h
section MJB
variable {g : mj_G} {Y : mj_Y} {d kc ks pc : Nat} {lv : mj_L} {st : List mj_V} {M : mj_M} {Post : mj_O → mj_M → Prop}
theorem mj_r_sub {lv' : mj_L} (h : mj_sub lv' lv) (k : mj_J g Y d kc ks (pc, lv', st, M) Post) : mj_J g Y d kc ks (pc, lv, st, M) Post := mj_r_less (mj_sub_of h).1 (mj_sub_of h).2 k
theorem mj_s_icmp_eq {x y : Int} {off : Int} {tgt : Nat} (hd : decode Y.2.2.1 pc = .ok (.if_icmp .eq off, 3)) (ht : (pc : Int) + off = (tgt : Int)) (hx : mj_i x) (hy : mj_i y) (kt : x = y → mj_J g Y d kc ks (tgt, lv, st, M) Post) (kf : ¬ x = y → mj_J g Y d kc ks (pc + 3, lv, st, M) Post) : mj_J g Y d kc ks (pc, lv, .inl y :: .inl x :: st, M) Post := by
  refine mj_r_icmp_eq hd ht hx hy ?_
  by_cases q : x = y
  · rw [if_pos q]; exact kt q
  · rw [if_neg q]; exact kf q
theorem mj_s_if_eq {x : Int} {off : Int} {tgt : Nat} (hd : decode Y.2.2.1 pc = .ok (.ifCond .eq off, 3)) (ht : (pc : Int) + off = (tgt : Int)) (hx : mj_i x) (kt : x = 0 → mj_J g Y d kc ks (tgt, lv, st, M) Post) (kf : ¬ x = 0 → mj_J g Y d kc ks (pc + 3, lv, st, M) Post) : mj_J g Y d kc ks (pc, lv, .inl x :: st, M) Post := by
  refine mj_r_if_eq hd ht hx ?_
  by_cases q : x = 0
  · rw [if_pos q]; exact kt q
  · rw [if_neg q]; exact kf q
theorem mj_s_icmp_ne {x y : Int} {off : Int} {tgt : Nat} (hd : decode Y.2.2.1 pc = .ok (.if_icmp .ne off, 3)) (ht : (pc : Int) + off = (tgt : Int)) (hx : mj_i x) (hy : mj_i y) (kt : x = y → mj_J g Y d kc ks (pc + 3, lv, st, M) Post) (kf : ¬ x = y → mj_J g Y d kc ks (tgt, lv, st, M) Post) : mj_J g Y d kc ks (pc, lv, .inl y :: .inl x :: st, M) Post := by
  refine mj_r_icmp_ne hd ht hx hy ?_
  by_cases q : x = y
  · rw [if_pos q]; exact kt q
  · rw [if_neg q]; exact kf q
theorem mj_s_if_ne {x : Int} {off : Int} {tgt : Nat} (hd : decode Y.2.2.1 pc = .ok (.ifCond .ne off, 3)) (ht : (pc : Int) + off = (tgt : Int)) (hx : mj_i x) (kt : x = 0 → mj_J g Y d kc ks (pc + 3, lv, st, M) Post) (kf : ¬ x = 0 → mj_J g Y d kc ks (tgt, lv, st, M) Post) : mj_J g Y d kc ks (pc, lv, .inl x :: st, M) Post := by
  refine mj_r_if_ne hd ht hx ?_
  by_cases q : x = 0
  · rw [if_pos q]; exact kt q
  · rw [if_neg q]; exact kf q
theorem mj_s_icmp_lt {x y : Int} {off : Int} {tgt : Nat} (hd : decode Y.2.2.1 pc = .ok (.if_icmp .lt off, 3)) (ht : (pc : Int) + off = (tgt : Int)) (hx : mj_i x) (hy : mj_i y) (kt : x < y → mj_J g Y d kc ks (tgt, lv, st, M) Post) (kf : ¬ x < y → mj_J g Y d kc ks (pc + 3, lv, st, M) Post) : mj_J g Y d kc ks (pc, lv, .inl y :: .inl x :: st, M) Post := by
  refine mj_r_icmp_lt hd ht hx hy ?_
  by_cases q : x < y
  · rw [if_pos q]; exact kt q
  · rw [if_neg q]; exact kf q
theorem mj_s_if_lt {x : Int} {off : Int} {tgt : Nat} (hd : decode Y.2.2.1 pc = .ok (.ifCond .lt off, 3)) (ht : (pc : Int) + off = (tgt : Int)) (hx : mj_i x) (kt : x < 0 → mj_J g Y d kc ks (tgt, lv, st, M) Post) (kf : ¬ x < 0 → mj_J g Y d kc ks (pc + 3, lv, st, M) Post) : mj_J g Y d kc ks (pc, lv, .inl x :: st, M) Post := by
  refine mj_r_if_lt hd ht hx ?_
  by_cases q : x < 0
  · rw [if_pos q]; exact kt q
  · rw [if_neg q]; exact kf q
theorem mj_s_icmp_ge {x y : Int} {off : Int} {tgt : Nat} (hd : decode Y.2.2.1 pc = .ok (.if_icmp .ge off, 3)) (ht : (pc : Int) + off = (tgt : Int)) (hx : mj_i x) (hy : mj_i y) (kt : x < y → mj_J g Y d kc ks (pc + 3, lv, st, M) Post) (kf : ¬ x < y → mj_J g Y d kc ks (tgt, lv, st, M) Post) : mj_J g Y d kc ks (pc, lv, .inl y :: .inl x :: st, M) Post := by
  refine mj_r_icmp_ge hd ht hx hy ?_
  by_cases q : x < y
  · rw [if_pos q]; exact kt q
  · rw [if_neg q]; exact kf q
theorem mj_s_if_ge {x : Int} {off : Int} {tgt : Nat} (hd : decode Y.2.2.1 pc = .ok (.ifCond .ge off, 3)) (ht : (pc : Int) + off = (tgt : Int)) (hx : mj_i x) (kt : x < 0 → mj_J g Y d kc ks (pc + 3, lv, st, M) Post) (kf : ¬ x < 0 → mj_J g Y d kc ks (tgt, lv, st, M) Post) : mj_J g Y d kc ks (pc, lv, .inl x :: st, M) Post := by
  refine mj_r_if_ge hd ht hx ?_
  by_cases q : x < 0
  · rw [if_pos q]; exact kt q
  · rw [if_neg q]; exact kf q
theorem mj_s_icmp_gt {x y : Int} {off : Int} {tgt : Nat} (hd : decode Y.2.2.1 pc = .ok (.if_icmp .gt off, 3)) (ht : (pc : Int) + off = (tgt : Int)) (hx : mj_i x) (hy : mj_i y) (kt : y < x → mj_J g Y d kc ks (tgt, lv, st, M) Post) (kf : ¬ y < x → mj_J g Y d kc ks (pc + 3, lv, st, M) Post) : mj_J g Y d kc ks (pc, lv, .inl y :: .inl x :: st, M) Post := by
  refine mj_r_icmp_gt hd ht hx hy ?_
  by_cases q : y < x
  · rw [if_pos q]; exact kt q
  · rw [if_neg q]; exact kf q
theorem mj_s_if_gt {x : Int} {off : Int} {tgt : Nat} (hd : decode Y.2.2.1 pc = .ok (.ifCond .gt off, 3)) (ht : (pc : Int) + off = (tgt : Int)) (hx : mj_i x) (kt : 0 < x → mj_J g Y d kc ks (tgt, lv, st, M) Post) (kf : ¬ 0 < x → mj_J g Y d kc ks (pc + 3, lv, st, M) Post) : mj_J g Y d kc ks (pc, lv, .inl x :: st, M) Post := by
  refine mj_r_if_gt hd ht hx ?_
  by_cases q : 0 < x
  · rw [if_pos q]; exact kt q
  · rw [if_neg q]; exact kf q
theorem mj_s_icmp_le {x y : Int} {off : Int} {tgt : Nat} (hd : decode Y.2.2.1 pc = .ok (.if_icmp .le off, 3)) (ht : (pc : Int) + off = (tgt : Int)) (hx : mj_i x) (hy : mj_i y) (kt : y < x → mj_J g Y d kc ks (pc + 3, lv, st, M) Post) (kf : ¬ y < x → mj_J g Y d kc ks (tgt, lv, st, M) Post) : mj_J g Y d kc ks (pc, lv, .inl y :: .inl x :: st, M) Post := by
  refine mj_r_icmp_le hd ht hx hy ?_
  by_cases q : y < x
  · rw [if_pos q]; exact kt q
  · rw [if_neg q]; exact kf q
theorem mj_s_if_le {x : Int} {off : Int} {tgt : Nat} (hd : decode Y.2.2.1 pc = .ok (.ifCond .le off, 3)) (ht : (pc : Int) + off = (tgt : Int)) (hx : mj_i x) (kt : 0 < x → mj_J g Y d kc ks (pc + 3, lv, st, M) Post) (kf : ¬ 0 < x → mj_J g Y d kc ks (tgt, lv, st, M) Post) : mj_J g Y d kc ks (pc, lv, .inl x :: st, M) Post := by
  refine mj_r_if_le hd ht hx ?_
  by_cases q : 0 < x
  · rw [if_pos q]; exact kt q
  · rw [if_neg q]; exact kf q
/-- a compare of longs and the branch behind it -/
theorem mj_s_l_eq {x y : Int} {off : Int} {tgt : Nat} (hd0 : decode Y.2.2.1 pc = .ok (.lcmp, 1)) (hd : decode Y.2.2.1 (pc + 1) = .ok (.ifCond .eq off, 3)) (ht : ((pc + 1 : Nat) : Int) + off = (tgt : Int)) (hx : mj_l x) (hy : mj_l y) (kt : x = y → mj_J g Y d kc ks (tgt, lv, st, M) Post) (kf : ¬ x = y → mj_J g Y d kc ks (pc + 1 + 3, lv, st, M) Post) : mj_J g Y d kc ks (pc, lv, .inr (.inl y) :: .inr (.inl x) :: st, M) Post := by
  refine mj_r_lcmp hd0 hx hy ?_
  have hi : mj_i (mj_cmp x y) := by
    unfold mj_cmp mj_i
    split
    · omega
    · split <;> omega
  have e : (mj_cmp x y = 0) ↔ x = y := by
    unfold mj_cmp
    split
    · omega
    · split <;> omega
  refine mj_s_if_eq hd ht hi (fun q => kt (e.mp q)) (fun q => kf (fun q2 => q (e.mpr q2)))
theorem mj_s_l_ne {x y : Int} {off : Int} {tgt : Nat} (hd0 : decode Y.2.2.1 pc = .ok (.lcmp, 1)) (hd : decode Y.2.2.1 (pc + 1) = .ok (.ifCond .ne off, 3)) (ht : ((pc + 1 : Nat) : Int) + off = (tgt : Int)) (hx : mj_l x) (hy : mj_l y) (kt : x = y → mj_J g Y d kc ks (pc + 1 + 3, lv, st, M) Post) (kf : ¬ x = y → mj_J g Y d kc ks (tgt, lv, st, M) Post) : mj_J g Y d kc ks (pc, lv, .inr (.inl y) :: .inr (.inl x) :: st, M) Post := by
  refine mj_r_lcmp hd0 hx hy ?_
  have hi : mj_i (mj_cmp x y) := by
    unfold mj_cmp mj_i
    split
    · omega
    · split <;> omega
  have e : (mj_cmp x y = 0) ↔ x = y := by
    unfold mj_cmp
    split
    · omega
    · split <;> omega
  refine mj_s_if_ne hd ht hi (fun q => kt (e.mp q)) (fun q => kf (fun q2 => q (e.mpr q2)))
theorem mj_s_l_lt {x y : Int} {off : Int} {tgt : Nat} (hd0 : decode Y.2.2.1 pc = .ok (.lcmp, 1)) (hd : decode Y.2.2.1 (pc + 1) = .ok (.ifCond .lt off, 3)) (ht : ((pc + 1 : Nat) : Int) + off = (tgt : Int)) (hx : mj_l x) (hy : mj_l y) (kt : x < y → mj_J g Y d kc ks (tgt, lv, st, M) Post) (kf : ¬ x < y → mj_J g Y d kc ks (pc + 1 + 3, lv, st, M) Post) : mj_J g Y d kc ks (pc, lv, .inr (.inl y) :: .inr (.inl x) :: st, M) Post := by
  refine mj_r_lcmp hd0 hx hy ?_
  have hi : mj_i (mj_cmp x y) := by
    unfold mj_cmp mj_i
    split
    · omega
    · split <;> omega
  have e : (mj_cmp x y < 0) ↔ x < y := by
    unfold mj_cmp
    split
    · omega
    · split <;> omega
  refine mj_s_if_lt hd ht hi (fun q => kt (e.mp q)) (fun q => kf (fun q2 => q (e.mpr q2)))
theorem mj_s_l_ge {x y : Int} {off : Int} {tgt : Nat} (hd0 : decode Y.2.2.1 pc = .ok (.lcmp, 1)) (hd : decode Y.2.2.1 (pc + 1) = .ok (.ifCond .ge off, 3)) (ht : ((pc + 1 : Nat) : Int) + off = (tgt : Int)) (hx : mj_l x) (hy : mj_l y) (kt : x < y → mj_J g Y d kc ks (pc + 1 + 3, lv, st, M) Post) (kf : ¬ x < y → mj_J g Y d kc ks (tgt, lv, st, M) Post) : mj_J g Y d kc ks (pc, lv, .inr (.inl y) :: .inr (.inl x) :: st, M) Post := by
  refine mj_r_lcmp hd0 hx hy ?_
  have hi : mj_i (mj_cmp x y) := by
    unfold mj_cmp mj_i
    split
    · omega
    · split <;> omega
  have e : (mj_cmp x y < 0) ↔ x < y := by
    unfold mj_cmp
    split
    · omega
    · split <;> omega
  refine mj_s_if_ge hd ht hi (fun q => kt (e.mp q)) (fun q => kf (fun q2 => q (e.mpr q2)))
theorem mj_s_l_gt {x y : Int} {off : Int} {tgt : Nat} (hd0 : decode Y.2.2.1 pc = .ok (.lcmp, 1)) (hd : decode Y.2.2.1 (pc + 1) = .ok (.ifCond .gt off, 3)) (ht : ((pc + 1 : Nat) : Int) + off = (tgt : Int)) (hx : mj_l x) (hy : mj_l y) (kt : y < x → mj_J g Y d kc ks (tgt, lv, st, M) Post) (kf : ¬ y < x → mj_J g Y d kc ks (pc + 1 + 3, lv, st, M) Post) : mj_J g Y d kc ks (pc, lv, .inr (.inl y) :: .inr (.inl x) :: st, M) Post := by
  refine mj_r_lcmp hd0 hx hy ?_
  have hi : mj_i (mj_cmp x y) := by
    unfold mj_cmp mj_i
    split
    · omega
    · split <;> omega
  have e : (0 < mj_cmp x y) ↔ y < x := by
    unfold mj_cmp
    split
    · omega
    · split <;> omega
  refine mj_s_if_gt hd ht hi (fun q => kt (e.mp q)) (fun q => kf (fun q2 => q (e.mpr q2)))
theorem mj_s_l_le {x y : Int} {off : Int} {tgt : Nat} (hd0 : decode Y.2.2.1 pc = .ok (.lcmp, 1)) (hd : decode Y.2.2.1 (pc + 1) = .ok (.ifCond .le off, 3)) (ht : ((pc + 1 : Nat) : Int) + off = (tgt : Int)) (hx : mj_l x) (hy : mj_l y) (kt : y < x → mj_J g Y d kc ks (pc + 1 + 3, lv, st, M) Post) (kf : ¬ y < x → mj_J g Y d kc ks (tgt, lv, st, M) Post) : mj_J g Y d kc ks (pc, lv, .inr (.inl y) :: .inr (.inl x) :: st, M) Post := by
  refine mj_r_lcmp hd0 hx hy ?_
  have hi : mj_i (mj_cmp x y) := by
    unfold mj_cmp mj_i
    split
    · omega
    · split <;> omega
  have e : (0 < mj_cmp x y) ↔ y < x := by
    unfold mj_cmp
    split
    · omega
    · split <;> omega
  refine mj_s_if_le hd ht hi (fun q => kt (e.mp q)) (fun q => kf (fun q2 => q (e.mpr q2)))
theorem mj_s_table {dflt lo hi : Int} {offs : Array Int} {len : Nat} {x : Int} (hd : decode Y.2.2.1 pc = .ok (.tableswitch dflt lo hi offs, len)) (hx : mj_i x) (kd : x < lo ∨ hi < x → ∃ td : Nat, (pc : Int) + dflt = (td : Int) ∧ mj_J g Y d kc ks (td, lv, st, M) Post)
    (kt : ∀ j : Nat, (j : Int) ≤ hi - lo → x = lo + j → ∃ (off : Int) (td : Nat), offs[j]? = some off ∧ (pc : Int) + off = (td : Int) ∧ mj_J g Y d kc ks (td, lv, st, M) Post) : mj_J g Y d kc ks (pc, lv, .inl x :: st, M) Post := by
  intro hG p e R s m args below meth c H ls locs cells slots hK
  by_cases q : x < lo ∨ hi < x
  · obtain ⟨td, h1, k⟩ := kd q
    exact lv_tableOut hK.1.1 hK.1.2.1 hd (by rw [mj_ti hx]; exact q) h1 (k hG p e R s m args below meth c H ls locs cells slots hK)
  · obtain ⟨off, td, e1, e2, k⟩ := kt (x - lo).toNat (by omega) (by omega)
    exact lv_tableIn hK.1.1 hK.1.2.1 hd (by rw [mj_ti hx]; omega) (by rw [mj_ti hx]; omega) (by rw [mj_ti hx]; exact e1) e2 (k hG p e R s m args below meth c H ls locs cells slots hK)
theorem mj_r_dup_x1 {v u : mj_V} (hd : decode Y.2.2.1 pc = .ok (.dup_x1, 1)) (hc : mj_cat v = 1) (hv : mj_cat u = 1) (k : mj_J g Y d kc ks (pc + 1, lv, v :: u :: v :: st, M) Post) : mj_J g Y d kc ks (pc, lv, v :: u :: st, M) Post := by
  intro hG p e R s m args below meth c H ls locs cells slots hK
  have h := k hG p e R s m args below meth c H ls locs cells slots hK
  exact lv_dup_x1 hK.1.1 hK.1.2.1 hd (by rw [mj_tr_cat]; exact hc) (by rw [mj_tr_cat]; exact hv) h
theorem mj_r_dup_x2 {v u t : mj_V} (hd : decode Y.2.2.1 pc = .ok (.dup_x2, 1)) (hc : mj_cat v = 1) (hv : mj_cat u = 1) (ht : mj_cat t = 1) (k : mj_J g Y d kc ks (pc + 1, lv, v :: u :: t :: v :: st, M) Post) : mj_J g Y d kc ks (pc, lv, v :: u :: t :: st, M) Post := by
  intro hG p e R s m args below meth c H ls locs cells slots hK
  have h := k hG p e R s m args below meth c H ls locs cells slots hK
  exact lv_dup_x2 hK.1.1 hK.1.2.1 hd (by rw [mj_tr_cat]; exact hc) (by rw [mj_tr_cat]; exact hv) (by rw [mj_tr_cat]; exact ht) h
end MJB
abbrev mj_R (p : Nat) : mj_V := .inr (.inr (.inl (some (p, 0))))
theorem f_0_0 : mj_fR 0 0 1 "ChartForest" "grammar" "LChartForest$Grammar;" true := ⟨_, _, _, rfl, rfl, rfl, rfl⟩
theorem f_0_1 : mj_fR 0 1 4 "ChartForest" "tape" "LChartForest$Tape;" true := ⟨_, _, _, rfl, rfl, rfl, rfl⟩
theorem f_0_2 : mj_fR 0 2 6 "ChartForest" "chart" "LChartForest$Chart;" true := ⟨_, _, _, rfl, rfl, rfl, rfl⟩
theorem f_0_3 : mj_fR 0 3 11 "ChartForest" "forest" "LChartForest$Forest;" true := ⟨_, _, _, rfl, rfl, rfl, rfl⟩
theorem f_1_0 : mj_fI 1 0 "ChartForest$Grammar" "count" "I" false := ⟨_, _, _, rfl, rfl, rfl, rfl⟩
theorem f_1_1 : mj_fR 1 1 2 "ChartForest$Grammar" "lefts" "[I" true := ⟨_, _, _, rfl, rfl, rfl, rfl⟩
theorem f_1_2 : mj_fR 1 2 3 "ChartForest$Grammar" "behind" "[I" true := ⟨_, _, _, rfl, rfl, rfl, rfl⟩
theorem f_4_0 : mj_fI 4 0 "ChartForest$Tape" "length" "I" false := ⟨_, _, _, rfl, rfl, rfl, rfl⟩
theorem f_4_1 : mj_fR 4 1 5 "ChartForest$Tape" "terminals" "[I" true := ⟨_, _, _, rfl, rfl, rfl, rfl⟩
theorem f_6_0 : mj_fR 6 0 1 "ChartForest$Chart" "grammar" "LChartForest$Grammar;" true := ⟨_, _, _, rfl, rfl, rfl, rfl⟩
theorem f_6_1 : mj_fI 6 1 "ChartForest$Chart" "leaping" "Z" true := ⟨_, _, _, rfl, rfl, rfl, rfl⟩
theorem f_6_2 : mj_fR 6 2 7 "ChartForest$Chart" "origins" "[[I" true := ⟨_, _, _, rfl, rfl, rfl, rfl⟩
theorem f_6_3 : mj_fR 6 3 8 "ChartForest$Chart" "sizes" "[I" true := ⟨_, _, _, rfl, rfl, rfl, rfl⟩
theorem f_6_4 : mj_fR 6 4 9 "ChartForest$Chart" "named" "[[I" true := ⟨_, _, _, rfl, rfl, rfl, rfl⟩
theorem f_6_5 : mj_fR 6 5 10 "ChartForest$Chart" "agenda" "[I" true := ⟨_, _, _, rfl, rfl, rfl, rfl⟩
theorem f_6_6 : mj_fI 6 6 "ChartForest$Chart" "agendaSize" "I" false := ⟨_, _, _, rfl, rfl, rfl, rfl⟩
theorem f_6_7 : mj_fI 6 7 "ChartForest$Chart" "completeHere" "I" false := ⟨_, _, _, rfl, rfl, rfl, rfl⟩
theorem f_11_0 : mj_fR 11 0 4 "ChartForest$Forest" "tape" "LChartForest$Tape;" true := ⟨_, _, _, rfl, rfl, rfl, rfl⟩
theorem f_11_1 : mj_fR 11 1 15 "ChartForest$Forest" "counts" "LChartForest$Counts;" true := ⟨_, _, _, rfl, rfl, rfl, rfl⟩
theorem f_11_2 : mj_fR 11 2 17 "ChartForest$Forest" "ways" "LChartForest$Ways;" true := ⟨_, _, _, rfl, rfl, rfl, rfl⟩
theorem f_11_3 : mj_fI 11 3 "ChartForest$Forest" "readyEnds" "I" false := ⟨_, _, _, rfl, rfl, rfl, rfl⟩
theorem f_11_4 : mj_fR 11 4 12 "ChartForest$Forest" "cells" "[I" true := ⟨_, _, _, rfl, rfl, rfl, rfl⟩
theorem f_11_5 : mj_fR 11 5 13 "ChartForest$Forest" "met" "[Z" true := ⟨_, _, _, rfl, rfl, rfl, rfl⟩
theorem f_11_6 : mj_fI 11 6 "ChartForest$Forest" "cellCount" "I" false := ⟨_, _, _, rfl, rfl, rfl, rfl⟩
theorem f_11_7 : mj_fR 11 7 14 "ChartForest$Forest" "numbers" "[J" true := ⟨_, _, _, rfl, rfl, rfl, rfl⟩
theorem f_15_0 : mj_fR 15 0 4 "ChartForest$Counts" "tape" "LChartForest$Tape;" true := ⟨_, _, _, rfl, rfl, rfl, rfl⟩
theorem f_15_1 : mj_fR 15 1 16 "ChartForest$Counts" "table" "[J" true := ⟨_, _, _, rfl, rfl, rfl, rfl⟩
theorem f_17_0 : mj_fR 17 0 1 "ChartForest$Ways" "grammar" "LChartForest$Grammar;" true := ⟨_, _, _, rfl, rfl, rfl, rfl⟩
theorem f_17_1 : mj_fR 17 1 15 "ChartForest$Ways" "counts" "LChartForest$Counts;" true := ⟨_, _, _, rfl, rfl, rfl, rfl⟩
theorem f_17_2 : mj_fI 17 2 "ChartForest$Ways" "from" "I" false := ⟨_, _, _, rfl, rfl, rfl, rfl⟩
theorem f_17_3 : mj_fI 17 3 "ChartForest$Ways" "to" "I" false := ⟨_, _, _, rfl, rfl, rfl, rfl⟩
theorem f_17_4 : mj_fI 17 4 "ChartForest$Ways" "count" "I" false := ⟨_, _, _, rfl, rfl, rfl, rfl⟩
theorem f_17_5 : mj_fR 17 5 18 "ChartForest$Ways" "rules" "[I" true := ⟨_, _, _, rfl, rfl, rfl, rfl⟩
theorem f_17_6 : mj_fR 17 6 19 "ChartForest$Ways" "innerCuts" "[I" true := ⟨_, _, _, rfl, rfl, rfl, rfl⟩
theorem f_17_7 : mj_fR 17 7 20 "ChartForest$Ways" "trees" "[J" true := ⟨_, _, _, rfl, rfl, rfl, rfl⟩
theorem f_21_0 : mj_fI 21 0 "ChartForestModel" "leaps" "Z" true := ⟨_, _, _, rfl, rfl, rfl, rfl⟩
theorem f_21_1 : mj_fI 21 1 "ChartForestModel" "refusal" "I" false := ⟨_, _, _, rfl, rfl, rfl, rfl⟩
theorem f_21_2 : mj_fI 21 2 "ChartForestModel" "rules" "I" false := ⟨_, _, _, rfl, rfl, rfl, rfl⟩
theorem f_21_3 : mj_fR 21 3 22 "ChartForestModel" "left" "[I" false := ⟨_, _, _, rfl, rfl, rfl, rfl⟩
theorem f_21_4 : mj_fR 21 4 23 "ChartForestModel" "lengths" "[I" false := ⟨_, _, _, rfl, rfl, rfl, rfl⟩
theorem f_21_5 : mj_fR 21 5 24 "ChartForestModel" "body" "[I" false := ⟨_, _, _, rfl, rfl, rfl, rfl⟩
theorem f_21_6 : mj_fI 21 6 "ChartForestModel" "fedCount" "I" false := ⟨_, _, _, rfl, rfl, rfl, rfl⟩
theorem f_21_7 : mj_fR 21 7 25 "ChartForestModel" "terminals" "[I" false := ⟨_, _, _, rfl, rfl, rfl, rfl⟩
theorem f_21_8 : mj_fR 21 8 26 "ChartForestModel" "items" "[Z" false := ⟨_, _, _, rfl, rfl, rfl, rfl⟩
theorem f_21_9 : mj_fI 21 9 "ChartForestModel" "worked" "Z" false := ⟨_, _, _, rfl, rfl, rfl, rfl⟩
theorem f_21_10 : mj_fR 21 10 27 "ChartForestModel" "derives" "[Z" false := ⟨_, _, _, rfl, rfl, rfl, rfl⟩
theorem f_21_11 : mj_fR 21 11 28 "ChartForestModel" "counted" "[Z" false := ⟨_, _, _, rfl, rfl, rfl, rfl⟩
theorem f_21_12 : mj_fR 21 12 29 "ChartForestModel" "number" "[J" false := ⟨_, _, _, rfl, rfl, rfl, rfl⟩
theorem f_21_13 : mj_fR 21 13 30 "ChartForestModel" "met" "[Z" false := ⟨_, _, _, rfl, rfl, rfl, rfl⟩
theorem f_21_14 : mj_fI 21 14 "ChartForestModel" "cutOne" "I" false := ⟨_, _, _, rfl, rfl, rfl, rfl⟩
theorem f_21_15 : mj_fI 21 15 "ChartForestModel" "cutTwo" "I" false := ⟨_, _, _, rfl, rfl, rfl, rfl⟩
theorem f_21_16 : mj_fR 21 16 31 "ChartForestModel" "todo" "[I" false := ⟨_, _, _, rfl, rfl, rfl, rfl⟩
theorem f_21_17 : mj_fR 21 17 32 "ChartForestModel" "todoTree" "[J" false := ⟨_, _, _, rfl, rfl, rfl, rfl⟩
theorem f_21_18 : mj_fI 21 18 "ChartForestModel" "todoCount" "I" false := ⟨_, _, _, rfl, rfl, rfl, rfl⟩
