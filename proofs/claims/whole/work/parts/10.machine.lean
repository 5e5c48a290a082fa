/-! ===== the small machine: whole numbers instead of words, places instead of addresses ===== -/
abbrev mj_V : Type := Int ⊕ Int ⊕ Option (Nat × Nat) ⊕ Unit
abbrev mj_C : Type := (Nat × Nat × (Nat → Int)) ⊕ (Nat × Nat × (Nat → Nat → Int)) ⊕ (Nat × List mj_V)
abbrev mj_M : Type := List mj_C
abbrev mj_L : Type := List (Option mj_V)
abbrev mj_S : Type := Nat × mj_L × List mj_V × mj_M
abbrev mj_O : Type := Option mj_V ⊕ Nat
/-- the run: launch, classes' numbers and slots, the law's start, the script's address, its length, its ints -/
abbrev mj_G : Type := Launch × va_G × State × Nat × Nat × (Nat → Int32)
/-- the method: own name of its class file, its name, code, number of locals, what it returns -/
abbrev mj_Y : Type := String × MethodName × ByteArray × Nat × Option FieldType
/-- how far behind the first new address the cell at a place lies -/
def mj_o (p : Nat) : Nat := p + (if 7 < p then 13 else 0) + (if 9 < p then 13 else 0)
theorem mj_o_lt {p q : Nat} (h : p < q) : mj_o (p + 1) ≤ mj_o q := by
  unfold mj_o
  split <;> split <;> split <;> split <;> omega
theorem mj_o_s (p : Nat) : mj_o p < mj_o (p + 1) := by
  unfold mj_o
  split <;> split <;> split <;> split <;> omega
/-- the value of the machine that a small value stands for -/
def mj_tr (b z : Nat) : mj_V → Value
  | .inl x => .int (Int32.ofInt x)
  | .inr (.inl x) => .long (Int64.ofInt x)
  | .inr (.inr (.inl none)) => .null
  | .inr (.inr (.inl (some r))) => .ref (z + mj_o r.1 + r.2)
  | .inr (.inr (.inr _)) => .ref b
def mj_cat : mj_V → Nat
  | .inr (.inl _) => 2
  | _ => 1
theorem mj_tr_cat (b z : Nat) (w : mj_V) : (mj_tr b z w).category = mj_cat w := by
  rcases w with x | x | (_ | r) | x <;> rfl
def mj_i (x : Int) : Prop := -2147483648 ≤ x ∧ x < 2147483648
def mj_l (x : Int) : Prop := -9223372036854775808 ≤ x ∧ x < 9223372036854775808
theorem mj_ti {x : Int} (h : mj_i x) : (Int32.ofInt x).toInt = x := Int32.toInt_ofInt_of_le h.1 h.2
theorem mj_tl {x : Int} (h : mj_l x) : (Int64.ofInt x).toInt = x := Int64.toInt_ofInt_of_le h.1 h.2
theorem mj_lt {x y : Int} (hx : mj_i x) (hy : mj_i y) : Int32.ofInt x < Int32.ofInt y ↔ x < y := by
  rw [Int32.lt_iff_toInt_lt, mj_ti hx, mj_ti hy]
theorem mj_le {x y : Int} (hx : mj_i x) (hy : mj_i y) : Int32.ofInt x ≤ Int32.ofInt y ↔ x ≤ y := by
  rw [Int32.le_iff_toInt_le, mj_ti hx, mj_ti hy]
theorem mj_eq {x y : Int} (hx : mj_i x) (hy : mj_i y) : Int32.ofInt x = Int32.ofInt y ↔ x = y := by
  rw [← Int32.toInt_inj, mj_ti hx, mj_ti hy]
theorem mj_i0 : mj_i 0 := ⟨by decide, by decide⟩
theorem mj_cl {x : Int} (hx : mj_i x) : (Int32.ofInt x).toNatClampNeg = x.toNat := Int32.toNatClampNeg_ofInt_of_le hx.1 hx.2
theorem mj_in_ {x : Int} {n : Nat} (h0 : 0 ≤ x) (h1 : x < n) (hx : mj_i x) : ¬ (Int32.ofInt x < 0 ∨ n ≤ (Int32.ofInt x).toNatClampNeg) := by
  rw [mj_cl hx]
  rintro (h | h)
  · have h2 : Int32.ofInt x < Int32.ofInt 0 := h
    rw [mj_lt hx mj_i0] at h2
    omega
  · omega
def mj_shl (x y : Int) : Int := (Int32.ofInt x <<< (Int32.ofInt y &&& 31)).toInt
def mj_shr (x y : Int) : Int := (Int32.ofInt x >>> (Int32.ofInt y &&& 31)).toInt
def mj_ush (x y : Int) : Int := ((Int32.ofInt x).toUInt32 >>> ((Int32.ofInt y).toUInt32 &&& Int32.toUInt32 31)).toInt32.toInt
def mj_and (x y : Int) : Int := (Int32.ofInt x &&& Int32.ofInt y).toInt
def mj_ior (x y : Int) : Int := (Int32.ofInt x ||| Int32.ofInt y).toInt
def mj_lan (x y : Int) : Int := (Int64.ofInt x &&& Int64.ofInt y).toInt
def mj_lor (x y : Int) : Int := (Int64.ofInt x ||| Int64.ofInt y).toInt
def mj_lsh (x y : Int) : Int := (Int64.ofInt x <<< ((Int32.ofInt y).toInt64 &&& 63)).toInt
def mj_cmp (x y : Int) : Int := if y < x then 1 else if x = y then 0 else -1
def mj_num (k : Nat) (x : Int) : Value := if k = 2 then .long (Int64.ofInt x) else .int (Int32.ofInt x)
def mj_ty (k : Nat) : FieldType := if k = 0 then .int else if k = 1 then .boolean else .long
/-- an array cell of the heap that holds n values -/
def mj_arr (s0 : State) (H : Heap) (a : Nat) (ty : FieldType) (n : Nat) (f : Nat → Value) : Prop :=
  ∃ c : Cell, H[a]? = some c ∧ s0.isArrayOf c ty ∧ c.vm = .none ∧ c.slots.size = n ∧ ∀ j, j < n → c.slots[j]? = some (f j)
/-- what the heap holds for the cell at a place; z: the first new address -/
def mj_cell (D : va_G) (s0 : State) (b z p : Nat) (H : Heap) : mj_C → Prop
  | .inl (k, n, f) => mj_arr s0 H (z + mj_o p) (mj_ty k) n (fun j => mj_num k (f j))
  | .inr (.inl (n, k, g)) => mj_o p + n + 1 ≤ mj_o (p + 1) ∧ mj_arr s0 H (z + mj_o p) (.array .int) n (fun i => .ref (z + mj_o p + (i + 1))) ∧ ∀ i, i < n → mj_arr s0 H (z + mj_o p + (i + 1)) .int k (fun j => .int (Int32.ofInt (g i j)))
  | .inr (.inr (ci, fs)) => ∃ r : vw_C, mj_cls[ci]? = some r ∧ t_OB (z + mj_o p) (D.1 ci) r.2.2 (D.2 ci) H (fun k => mj_tr b z (fs.getD k (.inl 0)))
def mj_W (D : va_G) (s0 : State) (b : Nat) (M : mj_M) (H : Heap) : Prop :=
  H.size = s0.heap.size + mj_o M.length ∧ ∀ (p : Nat) (c : mj_C), M[p]? = some c → mj_cell D s0 b s0.heap.size p H c
theorem mj_arr.kept {s0 : State} {H H1 : Heap} {a : Nat} {ty : FieldType} {n : Nat} {f : Nat → Value} (h : mj_arr s0 H a ty n f) (hq : H1[a]? = H[a]?) : mj_arr s0 H1 a ty n f := by
  obtain ⟨c, h1, h2⟩ := h
  exact ⟨c, hq.trans h1, h2⟩
theorem mj_cell.kept {D : va_G} {s0 : State} {b z p : Nat} {H H1 : Heap} {c : mj_C} (h : mj_cell D s0 b z p H c) (hq : ∀ A : Nat, z + mj_o p ≤ A → A < z + mj_o (p + 1) → H1[A]? = H[A]?) : mj_cell D s0 b z p H1 c := by
  have h0 : H1[z + mj_o p]? = H[z + mj_o p]? := hq _ (Nat.le_refl _) (by have := mj_o_s p; omega)
  rcases c with ⟨k, n, f⟩ | ⟨n, k, g⟩ | ⟨ci, fs⟩
  · exact mj_arr.kept h h0
  · obtain ⟨h1, h2, h3⟩ := h
    exact ⟨h1, h2.kept h0, fun i hi => (h3 i hi).kept (hq _ (by omega) (by omega))⟩
  · obtain ⟨r, hr, hb⟩ := h
    exact ⟨r, hr, hb.kept h0⟩
/-- one cell changes, at addresses of its own; the others stay -/
theorem mj_W.set {D : va_G} {s0 : State} {b p : Nat} {M : mj_M} {H H1 : Heap} {c0 c1 : mj_C} (h : mj_W D s0 b M H) (hp : M[p]? = some c0) (hz : H1.size = H.size)
    (ho : ∀ A : Nat, (A < s0.heap.size + mj_o p ∨ s0.heap.size + mj_o (p + 1) ≤ A) → H1[A]? = H[A]?) (hc : mj_cell D s0 b s0.heap.size p H1 c1) : mj_W D s0 b (M.set p c1) H1 := by
  have hlt : p < M.length := (List.getElem?_eq_some_iff.mp hp).1
  refine ⟨by rw [hz, h.1, List.length_set], fun q c hq => ?_⟩
  by_cases e : p = q
  · subst e
    rw [List.getElem?_set_self hlt] at hq
    cases hq
    exact hc
  · rw [List.getElem?_set_ne e] at hq
    refine (h.2 q c hq).kept fun A h1 h2 => ho A ?_
    rcases Nat.lt_or_ge p q with h3 | h3
    · have := mj_o_lt h3
      right; omega
    · have h4 : q < p := by omega
      have := mj_o_lt h4
      left; omega
/-- locals -/
def mj_ls (b z : Nat) (ls : Array Slot) (lv : mj_L) : Prop := ls.size = lv.length ∧ lv_wf ls ∧ ∀ (i : Nat) (w : mj_V), lv[i]? = some (some w) → ls[i]? = some (.val (mj_tr b z w))
/-- the place before i no longer holds a long -/
def mj_clr (lv : mj_L) (i : Nat) : mj_L := match i with
  | 0 => lv
  | j + 1 => match lv[j]? with
    | some (some (.inr (.inl _))) => lv.set j none
    | _ => lv
def mj_st1 (lv : mj_L) (i : Nat) (w : mj_V) : mj_L := (mj_clr lv i).set i (some w)
def mj_st2 (lv : mj_L) (i : Nat) (w : mj_V) : mj_L := ((mj_clr lv i).set (i + 1) none).set i (some w)
theorem mj_clr_len (lv : mj_L) (i : Nat) : (mj_clr lv i).length = lv.length := by
  unfold mj_clr
  split
  · rfl
  · split
    · simp
    · rfl
theorem mj_clr_at {lv : mj_L} {i j : Nat} {w : mj_V} (h : (mj_clr lv i)[j]? = some (some w)) : lv[j]? = some (some w) ∧ (j + 1 = i → mj_cat w ≠ 2) := by
  unfold mj_clr at h
  split at h
  · exact ⟨h, fun e => by omega⟩
  · rename_i k
    split at h
    · rename_i y hy
      by_cases e : k = j
      · subst e
        rw [List.getElem?_set_self (List.getElem?_eq_some_iff.mp hy).1] at h
        cases h
      · rw [List.getElem?_set_ne e] at h
        exact ⟨h, fun q => by omega⟩
    · rename_i hn
      refine ⟨h, fun e => ?_⟩
      have e2 : j = k := by omega
      subst e2
      rcases w with x | x | x
      · intro q; cases q
      · exact absurd h (hn x)
      · rcases x with x | x <;> (intro q; cases q)
def mj_pr (b z : Nat) (lv : mj_L) : List (Nat × Value) := (List.range lv.length).filterMap fun i => match lv[i]? with
  | some (some w) => some (i, mj_tr b z w)
  | _ => none
theorem mj_pr_in {b z : Nat} {lv : mj_L} {i : Nat} {w : mj_V} (h : lv[i]? = some (some w)) : (i, mj_tr b z w) ∈ mj_pr b z lv :=
  List.mem_filterMap.mpr ⟨i, List.mem_range.mpr (List.getElem?_eq_some_iff.mp h).1, by simp [h]⟩
theorem mj_has {b z : Nat} {ls : Array Slot} {lv : mj_L} (h : mj_ls b z ls lv) : lv_has ls lv.length (mj_pr b z lv) := by
  refine ⟨h.1, h.2.1, fun q hq => ?_⟩
  obtain ⟨i, -, hi⟩ := List.mem_filterMap.mp hq
  split at hi
  · rename_i w hw
    cases hi
    exact h.2.2 i w hw
  · cases hi
theorem mj_ls_st1 {b z : Nat} {ls' : Array Slot} {lv : mj_L} {i : Nat} {w : mj_V} (hi : i < lv.length)
    (h : lv_has ls' lv.length ((i, mj_tr b z w) :: (mj_pr b z lv).filter (fun q => !(q.1 == i) && !(q.1 + 1 == i && q.2.category == 2)))) : mj_ls b z ls' (mj_st1 lv i w) := by
  refine ⟨by rw [h.1, mj_st1, List.length_set, mj_clr_len], h.2.1, fun j w' hj => ?_⟩
  by_cases e : i = j
  · subst e
    rw [mj_st1, List.getElem?_set_self (by rw [mj_clr_len]; exact hi)] at hj
    cases hj
    exact h.2.2 _ List.mem_cons_self
  · rw [mj_st1, List.getElem?_set_ne e] at hj
    obtain ⟨h1, h2⟩ := mj_clr_at hj
    refine h.2.2 (j, mj_tr b z w') (List.mem_cons_of_mem _ (List.mem_filter.mpr ⟨mj_pr_in h1, ?_⟩))
    by_cases e3 : j + 1 = i
    · have := h2 e3
      simp [mj_tr_cat, this, Ne.symm e]
    · simp [e3, Ne.symm e]
theorem mj_ls_st2 {b z : Nat} {ls' : Array Slot} {lv : mj_L} {i : Nat} {w : mj_V} (hi : i + 1 < lv.length)
    (h : lv_has ls' lv.length ((i, mj_tr b z w) :: (mj_pr b z lv).filter (fun q => !(q.1 == i) && (!(q.1 == i + 1) && !(q.1 + 1 == i && q.2.category == 2))))) : mj_ls b z ls' (mj_st2 lv i w) := by
  refine ⟨by rw [h.1, mj_st2, List.length_set, List.length_set, mj_clr_len], h.2.1, fun j w' hj => ?_⟩
  by_cases e : i = j
  · subst e
    rw [mj_st2, List.getElem?_set_self (by rw [List.length_set, mj_clr_len]; omega)] at hj
    cases hj
    exact h.2.2 _ List.mem_cons_self
  · rw [mj_st2, List.getElem?_set_ne e] at hj
    by_cases e1 : i + 1 = j
    · subst e1
      rw [List.getElem?_set_self (by rw [mj_clr_len]; exact hi)] at hj
      cases hj
    · rw [List.getElem?_set_ne e1] at hj
      obtain ⟨h1, h2⟩ := mj_clr_at hj
      refine h.2.2 (j, mj_tr b z w') (List.mem_cons_of_mem _ (List.mem_filter.mpr ⟨mj_pr_in h1, ?_⟩))
      by_cases e3 : j + 1 = i
      · have := h2 e3
        simp [mj_tr_cat, this, Ne.symm e, Ne.symm e1]
      · simp [e3, Ne.symm e, Ne.symm e1]
/-- what is known of the run -/
def mj_F (g : mj_G) : Prop := va_K g.2.1 mj_cls [] g.2.2.1 ∧ va_X g.2.2.2.1 g.2.2.2.2.1 g.2.2.2.2.2 g.2.2.1 g.2.2.1.heap ∧ g.2.2.2.1 < g.2.2.1.heap.size ∧ g.2.2.2.2.1 ≤ 2561 ∧ (∀ w ∈ lw_tbl, w.before #[Value.ref g.2.2.2.1] g.2.2.1 = true) ∧ g.1.stackTraces = false ∧ (Cond.and given_1 narrow_1).before #[Value.ref g.2.2.2.1] g.2.2.1 = true
/-- what holds where the machine stands in a method's body -/
def mj_K (g : mj_G) (Y : mj_Y) (d kc ks : Nat) (lv : mj_L) (M : mj_M) (p : Program) (R : Room) (s : State) (m : MethodId) (args : Array Value) (meth : Method) (c : Code) (H : Heap) (ls : Array Slot) (locs : List Loc) (cells slots : Nat) : Prop :=
  (p.tables.exec = Jvm.exec ∧ c.code = Y.2.2.1 ∧ c.maxLocals = Y.2.2.2.1 ∧ s.vm.findClass Y.1 = some m.cls ∧ (∀ w ∈ mj_tbl, w.before args s = true) ∧ meth.locks = false ∧ meth.sig.returnType = Y.2.2.2.2 ∧ meth.name = Y.2.1.name ∧ g.2.2.1.vm.Alike s.vm ∧ g.2.2.1.heap.size ≤ s.heap.size ∧ s.methodNamed? Y.2.1 = some m) ∧
  (d ≤ R.frames ∧ 40 * d ≤ R.locals ∧ cells + kc ≤ R.cells ∧ slots + ks ≤ R.slots) ∧
  mj_W g.2.1 g.2.2.1 g.2.2.2.1 M H ∧ (∀ q, q < g.2.2.1.heap.size → H[q]? = g.2.2.1.heap[q]?) ∧ (mj_ls g.2.2.2.1 g.2.2.1.heap.size ls lv ∧ lv.length = Y.2.2.2.1) ∧ ∀ q ∈ locs, g.2.2.1.heap.size ≤ q.base
def mj_Q (g : mj_G) (Post : mj_O → mj_M → Prop) (o : Outcome) (t : State) : Prop :=
  ∃ (r : mj_O) (M : mj_M), Post r M ∧ (match r with | .inl v => o = .returned (v.map (mj_tr g.2.2.2.1 g.2.2.1.heap.size)) | .inr q => o = .threw (g.2.2.1.heap.size + mj_o q)) ∧ mj_W g.2.1 g.2.2.1 g.2.2.2.1 M t.heap ∧ ∀ q, q < g.2.2.1.heap.size → t.heap[q]? = g.2.2.1.heap[q]?
def mj_Z (g : mj_G) (Post : mj_O → mj_M → Prop) (below : List Frame) (s : State) (kc ks : Nat) : State → Prop := fun t =>
  ∃ o, t.status = .running ∧ Ended t below o ∧ mj_Q g Post o t ∧ s.WarmedH t.vm ∧ ∃ L : List Loc, s.sameButNew ({ t with vm := s.vm } : State) L kc ks ∧ ∀ q ∈ L, g.2.2.1.heap.size ≤ q.base
/-- from every standing that shows S the method comes to an end that shows Post -/
def mj_J (g : mj_G) (Y : mj_Y) (d kc ks : Nat) (S : mj_S) (Post : mj_O → mj_M → Prop) : Prop :=
  mj_F g → ∀ (p : Program) (e : Env) (R : Room) (s : State) (m : MethodId) (args : Array Value) (below : List Frame) (meth : Method) (c : Code) (H : Heap) (ls : Array Slot) (locs : List Loc) (cells slots : Nat),
    mj_K g Y d kc ks S.2.1 S.2.2.2 p R s m args meth c H ls locs cells slots →
    W p g.1 e R s m args below meth c H locs cells slots (mj_Z g Post below s (cells + kc) (slots + ks)) (F0 m S.1 ls (S.2.2.1.map (mj_tr g.2.2.2.1 g.2.2.1.heap.size)))
section MJ
variable {g : mj_G} {Y : mj_Y} {d kc ks pc : Nat} {lv : mj_L} {st : List mj_V} {M : mj_M} {Post : mj_O → mj_M → Prop}
theorem mj_r_iconst {n x : Int} (hd : decode Y.2.2.1 pc = .ok (.iconst n, 1)) (hv : Int32.ofInt n = Int32.ofInt x) (k : mj_J g Y d kc ks (pc + 1, lv, .inl x :: st, M) Post) : mj_J g Y d kc ks (pc, lv, st, M) Post := by
  intro hG p e R s m args below meth c H ls locs cells slots hK
  have h := k hG p e R s m args below meth c H ls locs cells slots hK
  exact lv_iconst hK.1.1 hK.1.2.1 hd hv h
theorem mj_r_bipush {n x : Int} (hd : decode Y.2.2.1 pc = .ok (.bipush n, 2)) (hv : (Int8.ofInt n).toInt32 = Int32.ofInt x) (k : mj_J g Y d kc ks (pc + 2, lv, .inl x :: st, M) Post) : mj_J g Y d kc ks (pc, lv, st, M) Post := by
  intro hG p e R s m args below meth c H ls locs cells slots hK
  have h := k hG p e R s m args below meth c H ls locs cells slots hK
  exact lv_bipush hK.1.1 hK.1.2.1 hd hv h
theorem mj_r_sipush {n x : Int} (hd : decode Y.2.2.1 pc = .ok (.sipush n, 3)) (hv : (Int16.ofInt n).toInt32 = Int32.ofInt x) (k : mj_J g Y d kc ks (pc + 3, lv, .inl x :: st, M) Post) : mj_J g Y d kc ks (pc, lv, st, M) Post := by
  intro hG p e R s m args below meth c H ls locs cells slots hK
  have h := k hG p e R s m args below meth c H ls locs cells slots hK
  exact lv_sipush hK.1.1 hK.1.2.1 hd hv h
theorem mj_r_lconst {n : Fin 2} {x : Int} (hd : decode Y.2.2.1 pc = .ok (.lconst n, 1)) (hv : Int64.ofNat (n : Nat) = Int64.ofInt x) (k : mj_J g Y d kc ks (pc + 1, lv, .inr (.inl x) :: st, M) Post) : mj_J g Y d kc ks (pc, lv, st, M) Post := by
  intro hG p e R s m args below meth c H ls locs cells slots hK
  have h := k hG p e R s m args below meth c H ls locs cells slots hK
  exact lv_lconst hK.1.1 hK.1.2.1 hd hv h
theorem mj_r_ldc {n : Nat} {x : Int} (hd : decode Y.2.2.1 pc = .ok (.ldc n, 2)) (hw : Cond.constant Y.1 n (Int32.ofInt x) ∈ mj_tbl) (k : mj_J g Y d kc ks (pc + 2, lv, .inl x :: st, M) Post) : mj_J g Y d kc ks (pc, lv, st, M) Post := by
  intro hG p e R s m args below meth c H ls locs cells slots hK
  have h := k hG p e R s m args below meth c H ls locs cells slots hK
  exact lv_ldc hK.1.1 hK.1.2.1 hK.1.2.2.2.1 (hK.1.2.2.2.2.1 _ hw) hd h
theorem mj_r_ldc_w {n : Nat} {x : Int} (hd : decode Y.2.2.1 pc = .ok (.ldc_w n, 3)) (hw : Cond.constant Y.1 n (Int32.ofInt x) ∈ mj_tbl) (k : mj_J g Y d kc ks (pc + 3, lv, .inl x :: st, M) Post) : mj_J g Y d kc ks (pc, lv, st, M) Post := by
  intro hG p e R s m args below meth c H ls locs cells slots hK
  have h := k hG p e R s m args below meth c H ls locs cells slots hK
  exact lv_ldcw hK.1.1 hK.1.2.1 hK.1.2.2.2.1 (hK.1.2.2.2.2.1 _ hw) hd h
theorem mj_r_ldc2_w {n : Nat} {x : Int} (hd : decode Y.2.2.1 pc = .ok (.ldc2_w n, 3)) (hw : Cond.constantLong Y.1 n (Int64.ofInt x) ∈ mj_tbl) (k : mj_J g Y d kc ks (pc + 3, lv, .inr (.inl x) :: st, M) Post) : mj_J g Y d kc ks (pc, lv, st, M) Post := by
  intro hG p e R s m args below meth c H ls locs cells slots hK
  have h := k hG p e R s m args below meth c H ls locs cells slots hK
  exact lv_ldc2 hK.1.1 hK.1.2.1 hK.1.2.2.2.1 (hK.1.2.2.2.2.1 _ hw) hd h
theorem mj_r_iload {i : Nat} {x : Int} (hd : decode Y.2.2.1 pc = .ok (.iload i, 2)) (hl : lv[i]? = some (some (.inl x))) (k : mj_J g Y d kc ks (pc + 2, lv, .inl x :: st, M) Post) : mj_J g Y d kc ks (pc, lv, st, M) Post := by
  intro hG p e R s m args below meth c H ls locs cells slots hK
  have h := k hG p e R s m args below meth c H ls locs cells slots hK
  exact lv_iload hK.1.1 hK.1.2.1 hd (hK.2.2.2.2.1.1.2.2 i _ hl) h
theorem mj_r_iload_n {i : Fin 4} {x : Int} (hd : decode Y.2.2.1 pc = .ok (.iload_n i, 1)) (hl : lv[(i : Nat)]? = some (some (.inl x))) (k : mj_J g Y d kc ks (pc + 1, lv, .inl x :: st, M) Post) : mj_J g Y d kc ks (pc, lv, st, M) Post := by
  intro hG p e R s m args below meth c H ls locs cells slots hK
  have h := k hG p e R s m args below meth c H ls locs cells slots hK
  exact lv_iload_n hK.1.1 hK.1.2.1 hd rfl (hK.2.2.2.2.1.1.2.2 i _ hl) h
theorem mj_r_lload {i : Nat} {x : Int} (hd : decode Y.2.2.1 pc = .ok (.lload i, 2)) (hl : lv[i]? = some (some (.inr (.inl x)))) (k : mj_J g Y d kc ks (pc + 2, lv, .inr (.inl x) :: st, M) Post) : mj_J g Y d kc ks (pc, lv, st, M) Post := by
  intro hG p e R s m args below meth c H ls locs cells slots hK
  have h := k hG p e R s m args below meth c H ls locs cells slots hK
  exact lv_lload hK.1.1 hK.1.2.1 hd (hK.2.2.2.2.1.1.2.2 i _ hl) h
theorem mj_r_lload_n {i : Fin 4} {x : Int} (hd : decode Y.2.2.1 pc = .ok (.lload_n i, 1)) (hl : lv[(i : Nat)]? = some (some (.inr (.inl x)))) (k : mj_J g Y d kc ks (pc + 1, lv, .inr (.inl x) :: st, M) Post) : mj_J g Y d kc ks (pc, lv, st, M) Post := by
  intro hG p e R s m args below meth c H ls locs cells slots hK
  have h := k hG p e R s m args below meth c H ls locs cells slots hK
  exact lv_lload_n hK.1.1 hK.1.2.1 hd rfl (hK.2.2.2.2.1.1.2.2 i _ hl) h
theorem mj_r_aload {i : Nat} {r : Nat × Nat} (hd : decode Y.2.2.1 pc = .ok (.aload i, 2)) (hl : lv[i]? = some (some (.inr (.inr (.inl (some r)))))) (k : mj_J g Y d kc ks (pc + 2, lv, .inr (.inr (.inl (some r))) :: st, M) Post) : mj_J g Y d kc ks (pc, lv, st, M) Post := by
  intro hG p e R s m args below meth c H ls locs cells slots hK
  have h := k hG p e R s m args below meth c H ls locs cells slots hK
  exact lv_aload hK.1.1 hK.1.2.1 hd (hK.2.2.2.2.1.1.2.2 i _ hl) h
theorem mj_r_aload_n {i : Fin 4} {r : Nat × Nat} (hd : decode Y.2.2.1 pc = .ok (.aload_n i, 1)) (hl : lv[(i : Nat)]? = some (some (.inr (.inr (.inl (some r)))))) (k : mj_J g Y d kc ks (pc + 1, lv, .inr (.inr (.inl (some r))) :: st, M) Post) : mj_J g Y d kc ks (pc, lv, st, M) Post := by
  intro hG p e R s m args below meth c H ls locs cells slots hK
  have h := k hG p e R s m args below meth c H ls locs cells slots hK
  exact lv_aload_n hK.1.1 hK.1.2.1 hd rfl (hK.2.2.2.2.1.1.2.2 i _ hl) h
theorem mj_r_aloadS {i : Nat} {u : Unit} (hd : decode Y.2.2.1 pc = .ok (.aload i, 2)) (hl : lv[i]? = some (some (.inr (.inr (.inr u))))) (k : mj_J g Y d kc ks (pc + 2, lv, .inr (.inr (.inr u)) :: st, M) Post) : mj_J g Y d kc ks (pc, lv, st, M) Post := by
  intro hG p e R s m args below meth c H ls locs cells slots hK
  have h := k hG p e R s m args below meth c H ls locs cells slots hK
  exact lv_aload hK.1.1 hK.1.2.1 hd (hK.2.2.2.2.1.1.2.2 i _ hl) h
theorem mj_r_aload_nS {i : Fin 4} {u : Unit} (hd : decode Y.2.2.1 pc = .ok (.aload_n i, 1)) (hl : lv[(i : Nat)]? = some (some (.inr (.inr (.inr u))))) (k : mj_J g Y d kc ks (pc + 1, lv, .inr (.inr (.inr u)) :: st, M) Post) : mj_J g Y d kc ks (pc, lv, st, M) Post := by
  intro hG p e R s m args below meth c H ls locs cells slots hK
  have h := k hG p e R s m args below meth c H ls locs cells slots hK
  exact lv_aload_n hK.1.1 hK.1.2.1 hd rfl (hK.2.2.2.2.1.1.2.2 i _ hl) h
/-- the same standing with other locals -/
theorem mj_K.loc {lv' : mj_L} {p : Program} {R : Room} {s : State} {m : MethodId} {args : Array Value} {meth : Method} {c : Code} {H : Heap} {ls ls' : Array Slot} {locs : List Loc} {cells slots : Nat} (hK : mj_K g Y d kc ks lv M p R s m args meth c H ls locs cells slots) (h : mj_ls g.2.2.2.1 g.2.2.1.heap.size ls' lv') (hl : lv'.length = lv.length) : mj_K g Y d kc ks lv' M p R s m args meth c H ls' locs cells slots :=
  ⟨hK.1, hK.2.1, hK.2.2.1, hK.2.2.2.1, ⟨h, hl.trans hK.2.2.2.2.1.2⟩, hK.2.2.2.2.2⟩
theorem mj_st1_len (lv : mj_L) (i : Nat) (w : mj_V) : (mj_st1 lv i w).length = lv.length := by rw [mj_st1, List.length_set, mj_clr_len]
theorem mj_st2_len (lv : mj_L) (i : Nat) (w : mj_V) : (mj_st2 lv i w).length = lv.length := by rw [mj_st2, List.length_set, List.length_set, mj_clr_len]
theorem mj_r_istore {i : Nat} {x : Int} (hd : decode Y.2.2.1 pc = .ok (.istore i, 2)) (hi0 : Nat.blt i lv.length = true) (k : mj_J g Y d kc ks (pc + 2, mj_st1 lv i (.inl x), st, M) Post) : mj_J g Y d kc ks (pc, lv, .inl x :: st, M) Post := by
  intro hG p e R s m args below meth c H ls locs cells slots hK
  have hi := Nat.blt_eq.mp hi0
  refine lv_istore hK.1.1 hK.1.2.1 hd (mj_has hK.2.2.2.2.1.1) hi rfl fun ls2 h2 => ?_
  exact k hG p e R s m args below meth c H ls2 locs cells slots (hK.loc (mj_ls_st1 hi h2) (mj_st1_len _ _ _))
theorem mj_r_istore_n {i : Fin 4} {x : Int} (hd : decode Y.2.2.1 pc = .ok (.istore_n i, 1)) (hi0 : Nat.blt (i : Nat) lv.length = true) (k : mj_J g Y d kc ks (pc + 1, mj_st1 lv (i : Nat) (.inl x), st, M) Post) : mj_J g Y d kc ks (pc, lv, .inl x :: st, M) Post := by
  intro hG p e R s m args below meth c H ls locs cells slots hK
  have hi := Nat.blt_eq.mp hi0
  refine lv_istore_n hK.1.1 hK.1.2.1 hd rfl (mj_has hK.2.2.2.2.1.1) hi rfl fun ls2 h2 => ?_
  exact k hG p e R s m args below meth c H ls2 locs cells slots (hK.loc (mj_ls_st1 hi h2) (mj_st1_len _ _ _))
theorem mj_r_lstore {i : Nat} {x : Int} (hd : decode Y.2.2.1 pc = .ok (.lstore i, 2)) (hi0 : Nat.blt (i + 1) lv.length = true) (k : mj_J g Y d kc ks (pc + 2, mj_st2 lv i (.inr (.inl x)), st, M) Post) : mj_J g Y d kc ks (pc, lv, .inr (.inl x) :: st, M) Post := by
  intro hG p e R s m args below meth c H ls locs cells slots hK
  have hi := Nat.blt_eq.mp hi0
  refine lv_lstore hK.1.1 hK.1.2.1 hd (mj_has hK.2.2.2.2.1.1) hi rfl fun ls2 h2 => ?_
  exact k hG p e R s m args below meth c H ls2 locs cells slots (hK.loc (mj_ls_st2 hi h2) (mj_st2_len _ _ _))
theorem mj_r_lstore_n {i : Fin 4} {x : Int} (hd : decode Y.2.2.1 pc = .ok (.lstore_n i, 1)) (hi0 : Nat.blt ((i : Nat) + 1) lv.length = true) (k : mj_J g Y d kc ks (pc + 1, mj_st2 lv (i : Nat) (.inr (.inl x)), st, M) Post) : mj_J g Y d kc ks (pc, lv, .inr (.inl x) :: st, M) Post := by
  intro hG p e R s m args below meth c H ls locs cells slots hK
  have hi := Nat.blt_eq.mp hi0
  refine lv_lstore_n hK.1.1 hK.1.2.1 hd rfl (mj_has hK.2.2.2.2.1.1) hi rfl fun ls2 h2 => ?_
  exact k hG p e R s m args below meth c H ls2 locs cells slots (hK.loc (mj_ls_st2 hi h2) (mj_st2_len _ _ _))
theorem mj_r_astore {i : Nat} {r : Nat × Nat} (hd : decode Y.2.2.1 pc = .ok (.astore i, 2)) (hi0 : Nat.blt i lv.length = true) (k : mj_J g Y d kc ks (pc + 2, mj_st1 lv i (.inr (.inr (.inl (some r)))), st, M) Post) : mj_J g Y d kc ks (pc, lv, .inr (.inr (.inl (some r))) :: st, M) Post := by
  intro hG p e R s m args below meth c H ls locs cells slots hK
  have hi := Nat.blt_eq.mp hi0
  refine lv_astore hK.1.1 hK.1.2.1 hd (mj_has hK.2.2.2.2.1.1) hi rfl fun ls2 h2 => ?_
  exact k hG p e R s m args below meth c H ls2 locs cells slots (hK.loc (mj_ls_st1 hi h2) (mj_st1_len _ _ _))
theorem mj_r_astore_n {i : Fin 4} {r : Nat × Nat} (hd : decode Y.2.2.1 pc = .ok (.astore_n i, 1)) (hi0 : Nat.blt (i : Nat) lv.length = true) (k : mj_J g Y d kc ks (pc + 1, mj_st1 lv (i : Nat) (.inr (.inr (.inl (some r)))), st, M) Post) : mj_J g Y d kc ks (pc, lv, .inr (.inr (.inl (some r))) :: st, M) Post := by
  intro hG p e R s m args below meth c H ls locs cells slots hK
  have hi := Nat.blt_eq.mp hi0
  refine lv_astore_n hK.1.1 hK.1.2.1 hd rfl (mj_has hK.2.2.2.2.1.1) hi rfl fun ls2 h2 => ?_
  exact k hG p e R s m args below meth c H ls2 locs cells slots (hK.loc (mj_ls_st1 hi h2) (mj_st1_len _ _ _))
theorem mj_r_astoreS {i : Nat} {u : Unit} (hd : decode Y.2.2.1 pc = .ok (.astore i, 2)) (hi0 : Nat.blt i lv.length = true) (k : mj_J g Y d kc ks (pc + 2, mj_st1 lv i (.inr (.inr (.inr u))), st, M) Post) : mj_J g Y d kc ks (pc, lv, .inr (.inr (.inr u)) :: st, M) Post := by
  intro hG p e R s m args below meth c H ls locs cells slots hK
  have hi := Nat.blt_eq.mp hi0
  refine lv_astore hK.1.1 hK.1.2.1 hd (mj_has hK.2.2.2.2.1.1) hi rfl fun ls2 h2 => ?_
  exact k hG p e R s m args below meth c H ls2 locs cells slots (hK.loc (mj_ls_st1 hi h2) (mj_st1_len _ _ _))
theorem mj_r_astoreS_n {i : Fin 4} {u : Unit} (hd : decode Y.2.2.1 pc = .ok (.astore_n i, 1)) (hi0 : Nat.blt (i : Nat) lv.length = true) (k : mj_J g Y d kc ks (pc + 1, mj_st1 lv (i : Nat) (.inr (.inr (.inr u))), st, M) Post) : mj_J g Y d kc ks (pc, lv, .inr (.inr (.inr u)) :: st, M) Post := by
  intro hG p e R s m args below meth c H ls locs cells slots hK
  have hi := Nat.blt_eq.mp hi0
  refine lv_astore_n hK.1.1 hK.1.2.1 hd rfl (mj_has hK.2.2.2.2.1.1) hi rfl fun ls2 h2 => ?_
  exact k hG p e R s m args below meth c H ls2 locs cells slots (hK.loc (mj_ls_st1 hi h2) (mj_st1_len _ _ _))
theorem mj_r_iinc {i : Nat} {n x : Int} (hd : decode Y.2.2.1 pc = .ok (.iinc i n, 3)) (hl : lv[i]? = some (some (.inl x))) (k : mj_J g Y d kc ks (pc + 3, mj_st1 lv i (.inl (x + n)), st, M) Post) : mj_J g Y d kc ks (pc, lv, st, M) Post := by
  intro hG p e R s m args below meth c H ls locs cells slots hK
  have hi : i < lv.length := (List.getElem?_eq_some_iff.mp hl).1
  obtain ⟨j, hj⟩ := List.getElem?_of_mem (mj_pr_in (b := g.2.2.2.1) (z := g.2.2.1.heap.size) hl)
  refine lv_iinc hK.1.1 hK.1.2.1 hd (mj_has hK.2.2.2.2.1.1) hj (v := Int32.ofInt (x + n)) (by rw [Int32.ofInt_add]) hi rfl fun ls2 h2 => ?_
  exact k hG p e R s m args below meth c H ls2 locs cells slots (hK.loc (mj_ls_st1 (w := .inl (x + n)) hi h2) (mj_st1_len _ _ _))
theorem mj_r_iadd {x y : Int} (hd : decode Y.2.2.1 pc = .ok (.iadd, 1)) (k : mj_J g Y d kc ks (pc + 1, lv, .inl (x + y) :: st, M) Post) : mj_J g Y d kc ks (pc, lv, .inl y :: .inl x :: st, M) Post := by
  intro hG p e R s m args below meth c H ls locs cells slots hK
  have h := k hG p e R s m args below meth c H ls locs cells slots hK
  exact lv_iadd hK.1.1 hK.1.2.1 hd (by rw [← Int32.ofInt_add]; exact h)
theorem mj_r_isub {x y : Int} (hd : decode Y.2.2.1 pc = .ok (.isub, 1)) (k : mj_J g Y d kc ks (pc + 1, lv, .inl (x - y) :: st, M) Post) : mj_J g Y d kc ks (pc, lv, .inl y :: .inl x :: st, M) Post := by
  intro hG p e R s m args below meth c H ls locs cells slots hK
  have h := k hG p e R s m args below meth c H ls locs cells slots hK
  exact lv_isub hK.1.1 hK.1.2.1 hd (by rw [← Int32.ofInt_sub]; exact h)
theorem mj_r_imul {x y : Int} (hd : decode Y.2.2.1 pc = .ok (.imul, 1)) (k : mj_J g Y d kc ks (pc + 1, lv, .inl (x * y) :: st, M) Post) : mj_J g Y d kc ks (pc, lv, .inl y :: .inl x :: st, M) Post := by
  intro hG p e R s m args below meth c H ls locs cells slots hK
  have h := k hG p e R s m args below meth c H ls locs cells slots hK
  exact lv_imul hK.1.1 hK.1.2.1 hd (by rw [← Int32.ofInt_mul]; exact h)
theorem mj_r_ladd {x y : Int} (hd : decode Y.2.2.1 pc = .ok (.ladd, 1)) (k : mj_J g Y d kc ks (pc + 1, lv, .inr (.inl (x + y)) :: st, M) Post) : mj_J g Y d kc ks (pc, lv, .inr (.inl y) :: .inr (.inl x) :: st, M) Post := by
  intro hG p e R s m args below meth c H ls locs cells slots hK
  have h := k hG p e R s m args below meth c H ls locs cells slots hK
  exact lv_ladd hK.1.1 hK.1.2.1 hd (by rw [← Int64.ofInt_add]; exact h)
theorem mj_r_lsub {x y : Int} (hd : decode Y.2.2.1 pc = .ok (.lsub, 1)) (k : mj_J g Y d kc ks (pc + 1, lv, .inr (.inl (x - y)) :: st, M) Post) : mj_J g Y d kc ks (pc, lv, .inr (.inl y) :: .inr (.inl x) :: st, M) Post := by
  intro hG p e R s m args below meth c H ls locs cells slots hK
  have h := k hG p e R s m args below meth c H ls locs cells slots hK
  exact lv_lsub hK.1.1 hK.1.2.1 hd (by rw [← Int64.ofInt_sub]; exact h)
theorem mj_r_lmul {x y : Int} (hd : decode Y.2.2.1 pc = .ok (.lmul, 1)) (k : mj_J g Y d kc ks (pc + 1, lv, .inr (.inl (x * y)) :: st, M) Post) : mj_J g Y d kc ks (pc, lv, .inr (.inl y) :: .inr (.inl x) :: st, M) Post := by
  intro hG p e R s m args below meth c H ls locs cells slots hK
  have h := k hG p e R s m args below meth c H ls locs cells slots hK
  exact lv_lmul hK.1.1 hK.1.2.1 hd (by rw [← Int64.ofInt_mul]; exact h)
theorem mj_r_ishl {x y : Int} (hd : decode Y.2.2.1 pc = .ok (.ishl, 1)) (k : mj_J g Y d kc ks (pc + 1, lv, .inl (mj_shl x y) :: st, M) Post) : mj_J g Y d kc ks (pc, lv, .inl y :: .inl x :: st, M) Post := by
  intro hG p e R s m args below meth c H ls locs cells slots hK
  have h := k hG p e R s m args below meth c H ls locs cells slots hK
  have e1 : Int32.ofInt (mj_shl x y) = Int32.ofInt x <<< (Int32.ofInt y &&& 31) := Int32.ofInt_toInt _
  exact lv_ishl hK.1.1 hK.1.2.1 hd (by rw [← e1]; exact h)
theorem mj_r_ishr {x y : Int} (hd : decode Y.2.2.1 pc = .ok (.ishr, 1)) (k : mj_J g Y d kc ks (pc + 1, lv, .inl (mj_shr x y) :: st, M) Post) : mj_J g Y d kc ks (pc, lv, .inl y :: .inl x :: st, M) Post := by
  intro hG p e R s m args below meth c H ls locs cells slots hK
  have h := k hG p e R s m args below meth c H ls locs cells slots hK
  have e1 : Int32.ofInt (mj_shr x y) = Int32.ofInt x >>> (Int32.ofInt y &&& 31) := Int32.ofInt_toInt _
  exact lv_ishr hK.1.1 hK.1.2.1 hd (by rw [← e1]; exact h)
theorem mj_r_iand {x y : Int} (hd : decode Y.2.2.1 pc = .ok (.iand, 1)) (k : mj_J g Y d kc ks (pc + 1, lv, .inl (mj_and x y) :: st, M) Post) : mj_J g Y d kc ks (pc, lv, .inl y :: .inl x :: st, M) Post := by
  intro hG p e R s m args below meth c H ls locs cells slots hK
  have h := k hG p e R s m args below meth c H ls locs cells slots hK
  have e1 : Int32.ofInt (mj_and x y) = Int32.ofInt x &&& Int32.ofInt y := Int32.ofInt_toInt _
  exact lv_iand hK.1.1 hK.1.2.1 hd (by rw [← e1]; exact h)
theorem mj_r_ior {x y : Int} (hd : decode Y.2.2.1 pc = .ok (.ior, 1)) (k : mj_J g Y d kc ks (pc + 1, lv, .inl (mj_ior x y) :: st, M) Post) : mj_J g Y d kc ks (pc, lv, .inl y :: .inl x :: st, M) Post := by
  intro hG p e R s m args below meth c H ls locs cells slots hK
  have h := k hG p e R s m args below meth c H ls locs cells slots hK
  have e1 : Int32.ofInt (mj_ior x y) = Int32.ofInt x ||| Int32.ofInt y := Int32.ofInt_toInt _
  exact lv_ior hK.1.1 hK.1.2.1 hd (by rw [← e1]; exact h)
theorem mj_r_iushr {x y : Int} (hd : decode Y.2.2.1 pc = .ok (.iushr, 1)) (k : mj_J g Y d kc ks (pc + 1, lv, .inl (mj_ush x y) :: st, M) Post) : mj_J g Y d kc ks (pc, lv, .inl y :: .inl x :: st, M) Post := by
  intro hG p e R s m args below meth c H ls locs cells slots hK
  have h := k hG p e R s m args below meth c H ls locs cells slots hK
  exact lv_iushr hK.1.1 hK.1.2.1 hd (v := Int32.ofInt (mj_ush x y)) (by rw [mj_ush, Int32.ofInt_toInt]) h
theorem mj_r_land {x y : Int} (hd : decode Y.2.2.1 pc = .ok (.land, 1)) (k : mj_J g Y d kc ks (pc + 1, lv, .inr (.inl (mj_lan x y)) :: st, M) Post) : mj_J g Y d kc ks (pc, lv, .inr (.inl y) :: .inr (.inl x) :: st, M) Post := by
  intro hG p e R s m args below meth c H ls locs cells slots hK
  have h := k hG p e R s m args below meth c H ls locs cells slots hK
  have e1 : Int64.ofInt (mj_lan x y) = Int64.ofInt x &&& Int64.ofInt y := Int64.ofInt_toInt _
  exact lv_land hK.1.1 hK.1.2.1 hd (by rw [← e1]; exact h)
theorem mj_r_lor {x y : Int} (hd : decode Y.2.2.1 pc = .ok (.lor, 1)) (k : mj_J g Y d kc ks (pc + 1, lv, .inr (.inl (mj_lor x y)) :: st, M) Post) : mj_J g Y d kc ks (pc, lv, .inr (.inl y) :: .inr (.inl x) :: st, M) Post := by
  intro hG p e R s m args below meth c H ls locs cells slots hK
  have h := k hG p e R s m args below meth c H ls locs cells slots hK
  have e1 : Int64.ofInt (mj_lor x y) = Int64.ofInt x ||| Int64.ofInt y := Int64.ofInt_toInt _
  exact lv_lor hK.1.1 hK.1.2.1 hd (by rw [← e1]; exact h)
theorem mj_r_lshl {x y : Int} (hd : decode Y.2.2.1 pc = .ok (.lshl, 1)) (k : mj_J g Y d kc ks (pc + 1, lv, .inr (.inl (mj_lsh x y)) :: st, M) Post) : mj_J g Y d kc ks (pc, lv, .inl y :: .inr (.inl x) :: st, M) Post := by
  intro hG p e R s m args below meth c H ls locs cells slots hK
  have h := k hG p e R s m args below meth c H ls locs cells slots hK
  exact lv_lshl hK.1.1 hK.1.2.1 hd (v := Int64.ofInt (mj_lsh x y)) (by rw [mj_lsh, Int64.ofInt_toInt]) h
theorem mj_r_i2l {x : Int} (hd : decode Y.2.2.1 pc = .ok (.i2l, 1)) (hx : mj_i x) (k : mj_J g Y d kc ks (pc + 1, lv, .inr (.inl x) :: st, M) Post) : mj_J g Y d kc ks (pc, lv, .inl x :: st, M) Post := by
  intro hG p e R s m args below meth c H ls locs cells slots hK
  have h := k hG p e R s m args below meth c H ls locs cells slots hK
  exact lv_i2l hK.1.1 hK.1.2.1 hd (v := Int64.ofInt x) (by rw [← Int64.ofInt_toInt (Int32.ofInt x).toInt64, Int32.toInt_toInt64, mj_ti hx]) h
theorem mj_div {x y : Int} (hx : mj_i x) (hy : mj_i y) (h0 : 0 ≤ x) (h1 : 0 < y) : Int32.ofInt x / Int32.ofInt y = Int32.ofInt (x / y) := by
  rw [← Int32.toInt_inj, Int32.toInt_div_of_ne_right _ _ (fun q => by rw [← Int32.toInt_inj, mj_ti hy] at q; have : y = -1 := q; omega), mj_ti hx, mj_ti hy, Int.tdiv_eq_ediv_of_nonneg h0, mj_ti]
  have := Int.ediv_le_self y h0
  have := Int.ediv_nonneg h0 (Int.le_of_lt h1)
  unfold mj_i at *
  omega
theorem mj_rem {x y : Int} (hx : mj_i x) (hy : mj_i y) (h0 : 0 ≤ x) (h1 : 0 < y) : Int32.ofInt x - Int32.ofInt x / Int32.ofInt y * Int32.ofInt y = Int32.ofInt (x % y) := by
  rw [mj_div hx hy h0 h1, ← Int32.ofInt_mul, ← Int32.ofInt_sub]
  congr 1
  have := Int.emod_add_mul_ediv x y
  rw [Int.mul_comm] at this
  omega
theorem mj_ldiv {x y : Int} (hx : mj_l x) (hy : mj_l y) (h0 : 0 ≤ x) (h1 : 0 < y) : Int64.ofInt x / Int64.ofInt y = Int64.ofInt (x / y) := by
  rw [← Int64.toInt_inj, Int64.toInt_div_of_ne_right _ _ (fun q => by rw [← Int64.toInt_inj, mj_tl hy] at q; have : y = -1 := q; omega), mj_tl hx, mj_tl hy, Int.tdiv_eq_ediv_of_nonneg h0, mj_tl]
  have := Int.ediv_le_self y h0
  have := Int.ediv_nonneg h0 (Int.le_of_lt h1)
  unfold mj_l at *
  omega
theorem mj_lrem {x y : Int} (hx : mj_l x) (hy : mj_l y) (h0 : 0 ≤ x) (h1 : 0 < y) : Int64.ofInt x - Int64.ofInt x / Int64.ofInt y * Int64.ofInt y = Int64.ofInt (x % y) := by
  rw [mj_ldiv hx hy h0 h1, ← Int64.ofInt_mul, ← Int64.ofInt_sub]
  congr 1
  have := Int.emod_add_mul_ediv x y
  rw [Int.mul_comm] at this
  omega
theorem mj_ne0 {y : Int} (hy : mj_i y) (h : 0 < y) : ¬ Int32.ofInt y = 0 := fun q => by
  have q2 : Int32.ofInt y = Int32.ofInt 0 := q
  rw [mj_eq hy mj_i0] at q2
  omega
theorem mj_lne0 {y : Int} (hy : mj_l y) (h : 0 < y) : ¬ Int64.ofInt y = 0 := fun q => by
  rw [← Int64.toInt_inj, mj_tl hy] at q
  have : y = 0 := q
  omega
theorem mj_r_idiv {x y : Int} (hd : decode Y.2.2.1 pc = .ok (.idiv, 1)) (hx : mj_i x) (hy : mj_i y) (h0 : 0 ≤ x) (h1 : 0 < y) (k : mj_J g Y d kc ks (pc + 1, lv, .inl (x / y) :: st, M) Post) : mj_J g Y d kc ks (pc, lv, .inl y :: .inl x :: st, M) Post := by
  intro hG p e R s m args below meth c H ls locs cells slots hK
  have h := k hG p e R s m args below meth c H ls locs cells slots hK
  exact lv_idiv hK.1.1 hK.1.2.1 hd (mj_ne0 hy h1) (by rw [mj_div hx hy h0 h1]; exact h)
theorem mj_r_irem {x y : Int} (hd : decode Y.2.2.1 pc = .ok (.irem, 1)) (hx : mj_i x) (hy : mj_i y) (h0 : 0 ≤ x) (h1 : 0 < y) (k : mj_J g Y d kc ks (pc + 1, lv, .inl (x % y) :: st, M) Post) : mj_J g Y d kc ks (pc, lv, .inl y :: .inl x :: st, M) Post := by
  intro hG p e R s m args below meth c H ls locs cells slots hK
  have h := k hG p e R s m args below meth c H ls locs cells slots hK
  exact lv_irem hK.1.1 hK.1.2.1 hd (mj_ne0 hy h1) (by rw [mj_rem hx hy h0 h1]; exact h)
theorem mj_r_ldiv {x y : Int} (hd : decode Y.2.2.1 pc = .ok (.ldiv, 1)) (hx : mj_l x) (hy : mj_l y) (h0 : 0 ≤ x) (h1 : 0 < y) (k : mj_J g Y d kc ks (pc + 1, lv, .inr (.inl (x / y)) :: st, M) Post) : mj_J g Y d kc ks (pc, lv, .inr (.inl y) :: .inr (.inl x) :: st, M) Post := by
  intro hG p e R s m args below meth c H ls locs cells slots hK
  have h := k hG p e R s m args below meth c H ls locs cells slots hK
  exact lv_ldiv hK.1.1 hK.1.2.1 hd (mj_lne0 hy h1) (by rw [mj_ldiv hx hy h0 h1]; exact h)
theorem mj_r_lrem {x y : Int} (hd : decode Y.2.2.1 pc = .ok (.lrem, 1)) (hx : mj_l x) (hy : mj_l y) (h0 : 0 ≤ x) (h1 : 0 < y) (k : mj_J g Y d kc ks (pc + 1, lv, .inr (.inl (x % y)) :: st, M) Post) : mj_J g Y d kc ks (pc, lv, .inr (.inl y) :: .inr (.inl x) :: st, M) Post := by
  intro hG p e R s m args below meth c H ls locs cells slots hK
  have h := k hG p e R s m args below meth c H ls locs cells slots hK
  exact lv_lrem hK.1.1 hK.1.2.1 hd (mj_lne0 hy h1) (by rw [mj_lrem hx hy h0 h1]; exact h)
theorem mj_cmp_of {x y : Int} (hx : mj_l x) (hy : mj_l y) : lg_cmp (Int64.ofInt x) (Int64.ofInt y) = Int32.ofInt (mj_cmp x y) := by
  have e1 : (Int64.ofInt x > Int64.ofInt y) ↔ y < x := by rw [gt_iff_lt, Int64.lt_iff_toInt_lt, mj_tl hx, mj_tl hy]
  have e2 : (Int64.ofInt x = Int64.ofInt y) ↔ x = y := by rw [← Int64.toInt_inj, mj_tl hx, mj_tl hy]
  unfold lg_cmp mj_cmp
  simp only [e1, e2]
  split
  · rfl
  · split <;> rfl
theorem mj_r_lcmp {x y : Int} (hd : decode Y.2.2.1 pc = .ok (.lcmp, 1)) (hx : mj_l x) (hy : mj_l y) (k : mj_J g Y d kc ks (pc + 1, lv, .inl (mj_cmp x y) :: st, M) Post) : mj_J g Y d kc ks (pc, lv, .inr (.inl y) :: .inr (.inl x) :: st, M) Post := by
  intro hG p e R s m args below meth c H ls locs cells slots hK
  have h := k hG p e R s m args below meth c H ls locs cells slots hK
  exact W.lcmp hK.1.1 hK.1.2.1 hd (by rw [mj_cmp_of hx hy]; exact h)
theorem mj_r_dup {w : mj_V} (hd : decode Y.2.2.1 pc = .ok (.dup, 1)) (hc : mj_cat w = 1) (k : mj_J g Y d kc ks (pc + 1, lv, w :: w :: st, M) Post) : mj_J g Y d kc ks (pc, lv, w :: st, M) Post := by
  intro hG p e R s m args below meth c H ls locs cells slots hK
  have h := k hG p e R s m args below meth c H ls locs cells slots hK
  exact lv_dup hK.1.1 hK.1.2.1 hd (by rw [mj_tr_cat]; exact hc) h
theorem mj_r_dup2 {w v : mj_V} (hd : decode Y.2.2.1 pc = .ok (.dup2, 1)) (hc : mj_cat w = 1) (hv : mj_cat v = 1) (k : mj_J g Y d kc ks (pc + 1, lv, w :: v :: w :: v :: st, M) Post) : mj_J g Y d kc ks (pc, lv, w :: v :: st, M) Post := by
  intro hG p e R s m args below meth c H ls locs cells slots hK
  have h := k hG p e R s m args below meth c H ls locs cells slots hK
  exact lv_dup2_11 hK.1.1 hK.1.2.1 hd (by rw [mj_tr_cat]; exact hc) (by rw [mj_tr_cat]; exact hv) h
theorem mj_r_goto {off : Int} {tgt : Nat} (hd : decode Y.2.2.1 pc = .ok (.goto off, 3)) (ht : (pc : Int) + off = (tgt : Int)) (k : mj_J g Y d kc ks (tgt, lv, st, M) Post) : mj_J g Y d kc ks (pc, lv, st, M) Post := by
  intro hG p e R s m args below meth c H ls locs cells slots hK
  exact lv_goto hK.1.1 hK.1.2.1 hd ht (k hG p e R s m args below meth c H ls locs cells slots hK)
theorem mj_r_icmp_eq {x y : Int} {off : Int} {tgt : Nat} (hd : decode Y.2.2.1 pc = .ok (.if_icmp .eq off, 3)) (ht : (pc : Int) + off = (tgt : Int)) (hx : mj_i x) (hy : mj_i y) (k : mj_J g Y d kc ks (if x = y then tgt else pc + 3, lv, st, M) Post) : mj_J g Y d kc ks (pc, lv, .inl y :: .inl x :: st, M) Post := by
  intro hG p e R s m args below meth c H ls locs cells slots hK
  have h := k hG p e R s m args below meth c H ls locs cells slots hK
  exact lv_icmp_eq hK.1.1 hK.1.2.1 hd ht (fun q => by
    have q2 : (Int32.ofInt x = Int32.ofInt y) := q
    rw [mj_eq hx hy] at q2
    have q3 : (x = y) := by omega
    simp only [if_pos q3] at h
    exact h)
    (fun q => by
    have q2 : ¬ (Int32.ofInt x = Int32.ofInt y) := q
    rw [mj_eq hx hy] at q2
    have q3 : ¬ (x = y) := by omega
    simp only [if_neg q3] at h
    exact h)
theorem mj_r_if_eq {x : Int} {off : Int} {tgt : Nat} (hd : decode Y.2.2.1 pc = .ok (.ifCond .eq off, 3)) (ht : (pc : Int) + off = (tgt : Int)) (hx : mj_i x) (k : mj_J g Y d kc ks (if x = 0 then tgt else pc + 3, lv, st, M) Post) : mj_J g Y d kc ks (pc, lv, .inl x :: st, M) Post := by
  intro hG p e R s m args below meth c H ls locs cells slots hK
  have h := k hG p e R s m args below meth c H ls locs cells slots hK
  exact lv_if_eq hK.1.1 hK.1.2.1 hd ht (fun q => by
    have q2 : (Int32.ofInt x = Int32.ofInt 0) := q
    rw [mj_eq hx mj_i0] at q2
    have q3 : (x = 0) := by omega
    simp only [if_pos q3] at h
    exact h)
    (fun q => by
    have q2 : ¬ (Int32.ofInt x = Int32.ofInt 0) := q
    rw [mj_eq hx mj_i0] at q2
    have q3 : ¬ (x = 0) := by omega
    simp only [if_neg q3] at h
    exact h)
theorem mj_r_icmp_ne {x y : Int} {off : Int} {tgt : Nat} (hd : decode Y.2.2.1 pc = .ok (.if_icmp .ne off, 3)) (ht : (pc : Int) + off = (tgt : Int)) (hx : mj_i x) (hy : mj_i y) (k : mj_J g Y d kc ks (if x = y then pc + 3 else tgt, lv, st, M) Post) : mj_J g Y d kc ks (pc, lv, .inl y :: .inl x :: st, M) Post := by
  intro hG p e R s m args below meth c H ls locs cells slots hK
  have h := k hG p e R s m args below meth c H ls locs cells slots hK
  exact lv_icmp_ne hK.1.1 hK.1.2.1 hd ht (fun q => by
    have q2 : ¬ (Int32.ofInt x = Int32.ofInt y) := q
    rw [mj_eq hx hy] at q2
    have q3 : ¬ (x = y) := by omega
    simp only [if_neg q3] at h
    exact h)
    (fun q => by
    have q2 : (Int32.ofInt x = Int32.ofInt y) := q
    rw [mj_eq hx hy] at q2
    have q3 : (x = y) := by omega
    simp only [if_pos q3] at h
    exact h)
theorem mj_r_if_ne {x : Int} {off : Int} {tgt : Nat} (hd : decode Y.2.2.1 pc = .ok (.ifCond .ne off, 3)) (ht : (pc : Int) + off = (tgt : Int)) (hx : mj_i x) (k : mj_J g Y d kc ks (if x = 0 then pc + 3 else tgt, lv, st, M) Post) : mj_J g Y d kc ks (pc, lv, .inl x :: st, M) Post := by
  intro hG p e R s m args below meth c H ls locs cells slots hK
  have h := k hG p e R s m args below meth c H ls locs cells slots hK
  exact lv_if_ne hK.1.1 hK.1.2.1 hd ht (fun q => by
    have q2 : ¬ (Int32.ofInt x = Int32.ofInt 0) := q
    rw [mj_eq hx mj_i0] at q2
    have q3 : ¬ (x = 0) := by omega
    simp only [if_neg q3] at h
    exact h)
    (fun q => by
    have q2 : (Int32.ofInt x = Int32.ofInt 0) := q
    rw [mj_eq hx mj_i0] at q2
    have q3 : (x = 0) := by omega
    simp only [if_pos q3] at h
    exact h)
theorem mj_r_icmp_lt {x y : Int} {off : Int} {tgt : Nat} (hd : decode Y.2.2.1 pc = .ok (.if_icmp .lt off, 3)) (ht : (pc : Int) + off = (tgt : Int)) (hx : mj_i x) (hy : mj_i y) (k : mj_J g Y d kc ks (if x < y then tgt else pc + 3, lv, st, M) Post) : mj_J g Y d kc ks (pc, lv, .inl y :: .inl x :: st, M) Post := by
  intro hG p e R s m args below meth c H ls locs cells slots hK
  have h := k hG p e R s m args below meth c H ls locs cells slots hK
  exact lv_icmp_lt hK.1.1 hK.1.2.1 hd ht (fun q => by
    have q2 : (Int32.ofInt x < Int32.ofInt y) := q
    rw [mj_lt hx hy] at q2
    have q3 : (x < y) := by omega
    simp only [if_pos q3] at h
    exact h)
    (fun q => by
    have q2 : ¬ (Int32.ofInt x < Int32.ofInt y) := q
    rw [mj_lt hx hy] at q2
    have q3 : ¬ (x < y) := by omega
    simp only [if_neg q3] at h
    exact h)
theorem mj_r_if_lt {x : Int} {off : Int} {tgt : Nat} (hd : decode Y.2.2.1 pc = .ok (.ifCond .lt off, 3)) (ht : (pc : Int) + off = (tgt : Int)) (hx : mj_i x) (k : mj_J g Y d kc ks (if x < 0 then tgt else pc + 3, lv, st, M) Post) : mj_J g Y d kc ks (pc, lv, .inl x :: st, M) Post := by
  intro hG p e R s m args below meth c H ls locs cells slots hK
  have h := k hG p e R s m args below meth c H ls locs cells slots hK
  exact lv_if_lt hK.1.1 hK.1.2.1 hd ht (fun q => by
    have q2 : (Int32.ofInt x < Int32.ofInt 0) := q
    rw [mj_lt hx mj_i0] at q2
    have q3 : (x < 0) := by omega
    simp only [if_pos q3] at h
    exact h)
    (fun q => by
    have q2 : ¬ (Int32.ofInt x < Int32.ofInt 0) := q
    rw [mj_lt hx mj_i0] at q2
    have q3 : ¬ (x < 0) := by omega
    simp only [if_neg q3] at h
    exact h)
theorem mj_r_icmp_ge {x y : Int} {off : Int} {tgt : Nat} (hd : decode Y.2.2.1 pc = .ok (.if_icmp .ge off, 3)) (ht : (pc : Int) + off = (tgt : Int)) (hx : mj_i x) (hy : mj_i y) (k : mj_J g Y d kc ks (if x < y then pc + 3 else tgt, lv, st, M) Post) : mj_J g Y d kc ks (pc, lv, .inl y :: .inl x :: st, M) Post := by
  intro hG p e R s m args below meth c H ls locs cells slots hK
  have h := k hG p e R s m args below meth c H ls locs cells slots hK
  exact lv_icmp_ge hK.1.1 hK.1.2.1 hd ht (fun q => by
    have q2 : (Int32.ofInt y ≤ Int32.ofInt x) := q
    rw [mj_le hy hx] at q2
    have q3 : ¬ (x < y) := by omega
    simp only [if_neg q3] at h
    exact h)
    (fun q => by
    have q2 : ¬ (Int32.ofInt y ≤ Int32.ofInt x) := q
    rw [mj_le hy hx] at q2
    have q3 : (x < y) := by omega
    simp only [if_pos q3] at h
    exact h)
theorem mj_r_if_ge {x : Int} {off : Int} {tgt : Nat} (hd : decode Y.2.2.1 pc = .ok (.ifCond .ge off, 3)) (ht : (pc : Int) + off = (tgt : Int)) (hx : mj_i x) (k : mj_J g Y d kc ks (if x < 0 then pc + 3 else tgt, lv, st, M) Post) : mj_J g Y d kc ks (pc, lv, .inl x :: st, M) Post := by
  intro hG p e R s m args below meth c H ls locs cells slots hK
  have h := k hG p e R s m args below meth c H ls locs cells slots hK
  exact lv_if_ge hK.1.1 hK.1.2.1 hd ht (fun q => by
    have q2 : (Int32.ofInt 0 ≤ Int32.ofInt x) := q
    rw [mj_le mj_i0 hx] at q2
    have q3 : ¬ (x < 0) := by omega
    simp only [if_neg q3] at h
    exact h)
    (fun q => by
    have q2 : ¬ (Int32.ofInt 0 ≤ Int32.ofInt x) := q
    rw [mj_le mj_i0 hx] at q2
    have q3 : (x < 0) := by omega
    simp only [if_pos q3] at h
    exact h)
theorem mj_r_icmp_gt {x y : Int} {off : Int} {tgt : Nat} (hd : decode Y.2.2.1 pc = .ok (.if_icmp .gt off, 3)) (ht : (pc : Int) + off = (tgt : Int)) (hx : mj_i x) (hy : mj_i y) (k : mj_J g Y d kc ks (if y < x then tgt else pc + 3, lv, st, M) Post) : mj_J g Y d kc ks (pc, lv, .inl y :: .inl x :: st, M) Post := by
  intro hG p e R s m args below meth c H ls locs cells slots hK
  have h := k hG p e R s m args below meth c H ls locs cells slots hK
  exact lv_icmp_gt hK.1.1 hK.1.2.1 hd ht (fun q => by
    have q2 : (Int32.ofInt y < Int32.ofInt x) := q
    rw [mj_lt hy hx] at q2
    have q3 : (y < x) := by omega
    simp only [if_pos q3] at h
    exact h)
    (fun q => by
    have q2 : ¬ (Int32.ofInt y < Int32.ofInt x) := q
    rw [mj_lt hy hx] at q2
    have q3 : ¬ (y < x) := by omega
    simp only [if_neg q3] at h
    exact h)
theorem mj_r_if_gt {x : Int} {off : Int} {tgt : Nat} (hd : decode Y.2.2.1 pc = .ok (.ifCond .gt off, 3)) (ht : (pc : Int) + off = (tgt : Int)) (hx : mj_i x) (k : mj_J g Y d kc ks (if 0 < x then tgt else pc + 3, lv, st, M) Post) : mj_J g Y d kc ks (pc, lv, .inl x :: st, M) Post := by
  intro hG p e R s m args below meth c H ls locs cells slots hK
  have h := k hG p e R s m args below meth c H ls locs cells slots hK
  exact lv_if_gt hK.1.1 hK.1.2.1 hd ht (fun q => by
    have q2 : (Int32.ofInt 0 < Int32.ofInt x) := q
    rw [mj_lt mj_i0 hx] at q2
    have q3 : (0 < x) := by omega
    simp only [if_pos q3] at h
    exact h)
    (fun q => by
    have q2 : ¬ (Int32.ofInt 0 < Int32.ofInt x) := q
    rw [mj_lt mj_i0 hx] at q2
    have q3 : ¬ (0 < x) := by omega
    simp only [if_neg q3] at h
    exact h)
theorem mj_r_icmp_le {x y : Int} {off : Int} {tgt : Nat} (hd : decode Y.2.2.1 pc = .ok (.if_icmp .le off, 3)) (ht : (pc : Int) + off = (tgt : Int)) (hx : mj_i x) (hy : mj_i y) (k : mj_J g Y d kc ks (if y < x then pc + 3 else tgt, lv, st, M) Post) : mj_J g Y d kc ks (pc, lv, .inl y :: .inl x :: st, M) Post := by
  intro hG p e R s m args below meth c H ls locs cells slots hK
  have h := k hG p e R s m args below meth c H ls locs cells slots hK
  exact lv_icmp_le hK.1.1 hK.1.2.1 hd ht (fun q => by
    have q2 : (Int32.ofInt x ≤ Int32.ofInt y) := q
    rw [mj_le hx hy] at q2
    have q3 : ¬ (y < x) := by omega
    simp only [if_neg q3] at h
    exact h)
    (fun q => by
    have q2 : ¬ (Int32.ofInt x ≤ Int32.ofInt y) := q
    rw [mj_le hx hy] at q2
    have q3 : (y < x) := by omega
    simp only [if_pos q3] at h
    exact h)
theorem mj_r_if_le {x : Int} {off : Int} {tgt : Nat} (hd : decode Y.2.2.1 pc = .ok (.ifCond .le off, 3)) (ht : (pc : Int) + off = (tgt : Int)) (hx : mj_i x) (k : mj_J g Y d kc ks (if 0 < x then pc + 3 else tgt, lv, st, M) Post) : mj_J g Y d kc ks (pc, lv, .inl x :: st, M) Post := by
  intro hG p e R s m args below meth c H ls locs cells slots hK
  have h := k hG p e R s m args below meth c H ls locs cells slots hK
  exact lv_if_le hK.1.1 hK.1.2.1 hd ht (fun q => by
    have q2 : (Int32.ofInt x ≤ Int32.ofInt 0) := q
    rw [mj_le hx mj_i0] at q2
    have q3 : ¬ (0 < x) := by omega
    simp only [if_neg q3] at h
    exact h)
    (fun q => by
    have q2 : ¬ (Int32.ofInt x ≤ Int32.ofInt 0) := q
    rw [mj_le hx mj_i0] at q2
    have q3 : (0 < x) := by omega
    simp only [if_pos q3] at h
    exact h)
theorem mj_r_table {dflt lo hi : Int} {offs : Array Int} {len : Nat} {x : Int} {tg : Nat → Nat} {td : Nat} (hd : decode Y.2.2.1 pc = .ok (.tableswitch dflt lo hi offs, len)) (hx : mj_i x) (h1 : (pc : Int) + dflt = (td : Int)) (h2 : ∀ j : Nat, (j : Int) ≤ hi - lo → ∃ off, offs[j]? = some off ∧ (pc : Int) + off = (tg j : Int)) (k : mj_J g Y d kc ks (if x < lo ∨ hi < x then td else tg (x - lo).toNat, lv, st, M) Post) : mj_J g Y d kc ks (pc, lv, .inl x :: st, M) Post := by
  intro hG p e R s m args below meth c H ls locs cells slots hK
  have h := k hG p e R s m args below meth c H ls locs cells slots hK
  by_cases q : x < lo ∨ hi < x
  · simp only [if_pos q] at h
    exact lv_tableOut hK.1.1 hK.1.2.1 hd (by rw [mj_ti hx]; exact q) h1 h
  · simp only [if_neg q] at h
    obtain ⟨off, e1, e2⟩ := h2 (x - lo).toNat (by omega)
    exact lv_tableIn hK.1.1 hK.1.2.1 hd (by rw [mj_ti hx]; omega) (by rw [mj_ti hx]; omega) (by rw [mj_ti hx]; exact e1) e2 h
end MJ
