/-! ===== the small machine's memory: fields and elements ===== -/
theorem mj_arr.to {s0 : State} {H : Heap} {a : Nat} {ty : FieldType} {n : Nat} {f f' : Nat → Value} (h : mj_arr s0 H a ty n f) (e : ∀ j, j < n → f j = f' j) : mj_arr s0 H a ty n f' := by
  obtain ⟨c, h1, h2, h3, h4, h5⟩ := h
  exact ⟨c, h1, h2, h3, h4, fun j hj => by rw [← e j hj]; exact h5 j hj⟩
theorem mj_arr_set {s0 : State} {H1 : Heap} {a : Nat} {ty : FieldType} {n i : Nat} {f : Nat → Value} {c : Cell} (v : Value) (ha : s0.isArrayOf c ty) (hv : c.vm = .none) (hs : c.slots.size = n) (hf : ∀ j, j < n → c.slots[j]? = some (f j)) (h1 : H1[a]? = some (c.setSlot i v)) :
    mj_arr s0 H1 a ty n (fun j => if j = i then v else f j) := by
  refine ⟨_, h1, ha, hv, by rw [k2_slotsz]; exact hs, fun j hj => ?_⟩
  by_cases e : j = i
  · subst e
    rw [Cell.slots_setSlot_self _ (by rw [hs]; exact hj)]
    simp
  · rw [slot_ne _ _ (Ne.symm e), hf j hj]
    simp [e]
def mj_up (f : Nat → Int) (i : Nat) (v : Int) : Nat → Int := fun j => if j = i then v else f j
def mj_up2 (f : Nat → Nat → Int) (i j : Nat) (v : Int) : Nat → Nat → Int := fun a b => if a = i ∧ b = j then v else f a b
section MJM
variable {g : mj_G} {Y : mj_Y} {d kc ks pc : Nat} {lv : mj_L} {st : List mj_V} {M : mj_M} {Post : mj_O → mj_M → Prop}
/-- the same standing with one cell changed -/
theorem mj_K.mem {p : Program} {R : Room} {s : State} {m : MethodId} {args : Array Value} {meth : Method} {c : Code} {H H1 : Heap} {ls : Array Slot} {locs L : List Loc} {cells slots p0 : Nat} {c0 c1 : mj_C} (hK : mj_K g Y d kc ks lv M p R s m args meth c H ls locs cells slots) (hp : M[p0]? = some c0) (hz : H1.size = H.size)
    (ho : ∀ A : Nat, (A < g.2.2.1.heap.size + mj_o p0 ∨ g.2.2.1.heap.size + mj_o (p0 + 1) ≤ A) → H1[A]? = H[A]?) (hc : mj_cell g.2.1 g.2.2.1 g.2.2.2.1 g.2.2.1.heap.size p0 H1 c1) (hL : ∀ q ∈ L, g.2.2.1.heap.size ≤ q.base) : mj_K g Y d kc ks lv (M.set p0 c1) p R s m args meth c H1 ls (locs ++ L) cells slots := by
  refine ⟨hK.1, hK.2.1, hK.2.2.1.set hp hz ho hc, fun q hq => ?_, hK.2.2.2.2.1, fun q hq => ?_⟩
  · rw [ho q (Or.inl (by omega))]
    exact hK.2.2.2.1 q hq
  · rcases List.mem_append.mp hq with h | h
    · exact hK.2.2.2.2.2 q h
    · exact hL q h
theorem mj_cls_at {ci : Nat} {q : String × List (String × String × Bool)} (h : mj_cf[ci]? = some q) : mj_cls[ci]? = some (mj_tb q) := by
  rw [mj_cls, List.getElem?_map, h]
  rfl
theorem mj_tb_at {C : String} {fl : List (String × String × Bool)} {k : Nat} {f : String × String × Bool} (h : fl[k]? = some f) : (mj_tb (C, fl)).2.1 k = (C, f.1, f.2.1, f.2.2) := by
  simp [mj_tb, List.getD, h]
theorem mj_in {ci : Nat} {q : String × List (String × String × Bool)} (h : mj_cf[ci]? = some q) : ∀ w ∈ u_ws q.1 (mj_tb q).2.1 q.2.length, w ∈ mj_tbl := by
  intro w hw
  have h1 := List.all_eq_true.mp mj_cf_in q (List.mem_of_getElem? h)
  obtain ⟨h2, h3⟩ := Bool.and_eq_true_iff.mp (List.all_eq_true.mp h1 w hw)
  exact List.mem_filter.mpr ⟨of_decide_eq_true h2, h3⟩
theorem mj_ty_at {ci : Nat} {q : String × List (String × String × Bool)} (h : mj_cf[ci]? = some q) : ∀ k, k < q.2.length → parseFieldDescriptor ((mj_tb q).2.1 k).2.2.1 = some ((parseFieldDescriptor ((mj_tb q).2.1 k).2.2.1).getD .int) := by
  intro k hk
  have h1 := List.all_eq_true.mp mj_cf_ty q (List.mem_of_getElem? h)
  have h2 := List.all_eq_true.mp h1 k (List.mem_range.mpr hk)
  cases e : parseFieldDescriptor ((mj_tb q).2.1 k).2.2.1 with
  | none => rw [e] at h2; cases h2
  | some t => rfl
theorem mj_nm_at {ci : Nat} {q : String × List (String × String × Bool)} (h : mj_cf[ci]? = some q) : ∀ a, a < q.2.length → ∀ b, b < q.2.length → a ≠ b → ((mj_tb q).2.1 a).2.1 ≠ ((mj_tb q).2.1 b).2.1 := by
  intro a ha b hb hab
  have h1 := List.all_eq_true.mp mj_cf_nm q (List.mem_of_getElem? h)
  have h2 := List.all_eq_true.mp (List.all_eq_true.mp h1 a (List.mem_range.mpr ha)) b (List.mem_range.mpr hb)
  have h3 := of_decide_eq_true h2
  exact h3 hab
/-- what a standing knows of a field of one of the classes -/
theorem mj_field {p : Program} {R : Room} {s : State} {m : MethodId} {args : Array Value} {meth : Method} {c : Code} {H : Heap} {ls : Array Slot} {locs : List Loc} {cells slots : Nat} (hG : mj_F g) (hK : mj_K g Y d kc ks lv M p R s m args meth c H ls locs cells slots)
    {ci k p0 : Nat} {C : String} {fl : List (String × String × Bool)} {fd : String × String × Bool} {fs : List mj_V} (hc : mj_cf[ci]? = some (C, fl)) (hf : fl[k]? = some fd) (hM : M[p0]? = some (.inr (.inr (ci, fs)))) :
    ∃ (cell : Cell) (cf : Nat) (kf : Class) (fi : Nat) (f : Field) (kC : Class), H[g.2.2.1.heap.size + mj_o p0]? = some cell ∧ cell.cls = g.2.1.1 ci ∧ cell.vm = .none ∧ (∀ j, j < fl.length → cell.slots[g.2.1.2 ci j]? = some (mj_tr g.2.2.2.1 g.2.2.1.heap.size (fs.getD j (.inl 0)))) ∧
      s.fieldFound? C fd.1 fd.2.1 = some (cf, kf, fi, f) ∧ f.slot = g.2.1.2 ci k ∧ f.isStatic = false ∧ s.vm.findClass C = some (g.2.1.1 ci) ∧ s.vm.classes[g.2.1.1 ci]? = some kC ∧ kC.kind = .ordinary ∧
      (∀ x y, x < fl.length → y < fl.length → x ≠ y → g.2.1.2 ci x ≠ g.2.1.2 ci y) ∧ (u_lay C (mj_tb (C, fl)).2.1 k).before args s = true := by
  have hcl := mj_cls_at hc
  have hk : k < fl.length := (List.getElem?_eq_some_iff.mp hf).1
  have hT := mj_tb_at (C := C) hf
  obtain ⟨r, hr, cell, q1, q2, q3, q4⟩ := hK.2.2.1.2 p0 _ hM
  have hr2 : r = mj_tb (C, fl) := Option.some.inj (hr.symm.trans hcl)
  subst hr2
  have hKs : va_K g.2.1 mj_cls [] s := hG.1.moved hK.1.2.2.2.2.2.2.2.2.1
  obtain ⟨hS, hfc, kC, hkC, hkind⟩ := hKs.1 ci _ hcl
  obtain ⟨cf, kf, fi, f, hi, hsl⟩ := hS k hk
  have hts := hK.1.2.2.2.2.1
  have hlay := u_lays (T := (mj_tb (C, fl)).2.1) hts (mj_in hc) hk
  rw [hT] at hi hlay
  refine ⟨cell, cf, kf, fi, f, kC, q1, q2, q3, q4, hi, hsl, (u_facts hfc hkC hlay hi).1, hfc, hkC, hkind, ?_, hts _ (mj_in hc _ (u_in_lay hk))⟩
  exact va_apart (own := Y.1) hts (mj_in hc) _ (mj_ty_at hc) (mj_nm_at hc) hKs hcl
theorem mj_r_getf {ci k idx p0 : Nat} {C nm ds : String} {fin : Bool} {fl : List (String × String × Bool)} {fs : List mj_V} {w : mj_V} (hd : decode Y.2.2.1 pc = .ok (.getfield idx, 3)) (hc : mj_cf[ci]? = some (C, fl)) (hf : fl[k]? = some (nm, ds, fin))
    (hw : Cond.fieldLink Y.1 idx C nm ds ∈ mj_tbl ∨ Cond.fieldLinkNest Y.1 idx C nm ds "ChartForest" ∈ mj_tbl) (hM : M[p0]? = some (.inr (.inr (ci, fs)))) (hv : fs[k]? = some w) (kk : mj_J g Y d kc ks (pc + 3, lv, w :: st, M) Post) : mj_J g Y d kc ks (pc, lv, .inr (.inr (.inl (some (p0, 0)))) :: st, M) Post := by
  intro hG p e R s m args below meth c H ls locs cells slots hK
  have h := kk hG p e R s m args below meth c H ls locs cells slots hK
  obtain ⟨cell, cf, kf, fi, f, kC, q1, q2, q3, q4, hi, hsl, hst, -⟩ := mj_field hG hK hc hf hM
  have hk : k < fl.length := (List.getElem?_eq_some_iff.mp hf).1
  have hv' : cell.slots[f.slot]? = some (mj_tr g.2.2.2.1 g.2.2.1.heap.size w) := by
    rw [hsl, q4 k hk]
    simp [List.getD, hv]
  rcases hw with hw | hw
  · exact W.getf hK.1.1 hK.1.2.1 hK.1.2.2.2.1 (hK.1.2.2.2.2.1 _ hw) hi hst q1 (by rw [q3]; exact fun h => by cases h) hv' rfl rfl hd h
  · exact va_Wgetf hK.1.1 hK.1.2.1 hK.1.2.2.2.1 (hK.1.2.2.2.2.1 _ hw) hi hst q1 (by rw [q3]; exact fun h => by cases h) hv' rfl rfl hd h
/-- a value that may stand in a field of this descriptor -/
def mj_fits (b z : Nat) (ds : String) (w : mj_V) : Prop := ∃ ty : FieldType, parseFieldDescriptor ds = some ty ∧ narrow ty (mj_tr b z w) = mj_tr b z w ∧ fits ty (mj_tr b z w) = true
theorem mj_obj_set {H1 : Heap} {p0 ci k : Nat} {C : String} {fl : List (String × String × Bool)} {fs : List mj_V} {cell : Cell} {f : Field} (w : mj_V) (hc : mj_cf[ci]? = some (C, fl)) (hk : k < fl.length) (hkl : k < fs.length) (hsl : f.slot = g.2.1.2 ci k) (q2 : cell.cls = g.2.1.1 ci) (q3 : cell.vm = .none)
    (q4 : ∀ j, j < fl.length → cell.slots[g.2.1.2 ci j]? = some (mj_tr g.2.2.2.1 g.2.2.1.heap.size (fs.getD j (.inl 0)))) (hap : ∀ x y, x < fl.length → y < fl.length → x ≠ y → g.2.1.2 ci x ≠ g.2.1.2 ci y)
    (h1 : H1[g.2.2.1.heap.size + mj_o p0]? = some (cell.setSlot f.slot (mj_tr g.2.2.2.1 g.2.2.1.heap.size w))) : mj_cell g.2.1 g.2.2.1 g.2.2.2.1 g.2.2.1.heap.size p0 H1 (.inr (.inr (ci, fs.set k w))) := by
  refine ⟨_, mj_cls_at hc, _, h1, q2, q3, fun j hj => ?_⟩
  rw [hsl, t_set q4 hap hk _ j hj, updV]
  by_cases e : j = k
  · subst e
    simp [List.getD, hkl]
  · simp [List.getD, e, List.getElem?_set_ne (Ne.symm e)]
theorem mj_r_putf {ci k idx p0 : Nat} {C nm ds : String} {fl : List (String × String × Bool)} {fs : List mj_V} {w : mj_V} (hd : decode Y.2.2.1 pc = .ok (.putfield idx, 3)) (hc : mj_cf[ci]? = some (C, fl)) (hf : fl[k]? = some (nm, ds, false))
    (hw : Cond.fieldLink Y.1 idx C nm ds ∈ mj_tbl ∨ Cond.fieldLinkNest Y.1 idx C nm ds "ChartForest" ∈ mj_tbl) (hM : M[p0]? = some (.inr (.inr (ci, fs)))) (hkl : k < fs.length) (hft : ∀ b z, mj_fits b z ds w) (kk : mj_J g Y d kc ks (pc + 3, lv, st, M.set p0 (.inr (.inr (ci, fs.set k w)))) Post) : mj_J g Y d kc ks (pc, lv, w :: .inr (.inr (.inl (some (p0, 0)))) :: st, M) Post := by
  intro hG p e R s m args below meth c H ls locs cells slots hK
  obtain ⟨cell, cf, kf, fi, f, kC, q1, q2, q3, q4, hi, hsl, hst, hfc, hkC, hkind, hap, hlay⟩ := mj_field hG hK hc hf hM
  have hk : k < fl.length := (List.getElem?_eq_some_iff.mp hf).1
  have hT := mj_tb_at (C := C) hf
  have hl : (Cond.lays C C nm ds).before args s = true := by
    unfold u_lay at hlay
    rw [hT] at hlay
    exact hlay
  obtain ⟨ty, t1, t2, t3⟩ := hft g.2.2.2.1 g.2.2.1.heap.size
  have hS := u_store hfc hkC hkind hl hi t1 t2 t3
  rw [← q2] at hS
  have hlt : f.slot < cell.slots.size := by
    rw [hsl]
    exact k2_hasslot (q4 k hk)
  have fin : ∀ H' : Heap, H'[g.2.2.1.heap.size + mj_o p0]? = some (cell.setSlot f.slot (mj_tr g.2.2.2.1 g.2.2.1.heap.size w)) → H'.size = H.size → (∀ q, q ≠ g.2.2.1.heap.size + mj_o p0 → H'[q]? = H[q]?) →
      W p g.1 e R s m args below meth c H' (locs ++ [⟨g.2.2.1.heap.size + mj_o p0, f.slot⟩]) cells slots (mj_Z g Post below s (cells + kc) (slots + ks)) (F0 m (pc + 3) ls (st.map (mj_tr g.2.2.2.1 g.2.2.1.heap.size))) := by
    intro H' h1 h2 h3
    refine kk hG p e R s m args below meth c H' ls _ cells slots (hK.mem hM h2 (fun A hA => h3 A (by have := mj_o_s p0; omega)) (mj_obj_set w hc hk hkl hsl q2 q3 q4 hap h1) (fun q hq => ?_))
    rw [List.mem_singleton.mp hq]
    exact Nat.le_add_right _ _
  rcases hw with hw | hw
  · exact W.putK hK.1.1 hK.1.2.1 ⟨hK.1.2.2.2.1, hK.1.2.2.2.2.1 _ hw, ⟨cf, kf, fi, hi⟩, hst⟩ hS q1 q3 hlt rfl rfl hd fin
  · exact va_WputK hK.1.1 hK.1.2.1 hK.1.2.2.2.1 (hK.1.2.2.2.2.1 _ hw) hi hst hS q1 q3 hlt rfl rfl hd fin
theorem mj_r_putF {ci k idx p0 : Nat} {nm ds : String} {fl : List (String × String × Bool)} {fs : List mj_V} {w : mj_V} (hd : decode Y.2.2.1 pc = .ok (.putfield idx, 3)) (hc : mj_cf[ci]? = some (Y.1, fl)) (hf : fl[k]? = some (nm, ds, true)) (hi0 : Y.2.1.name = "<init>")
    (hw : Cond.fieldLink Y.1 idx Y.1 nm ds ∈ mj_tbl) (hM : M[p0]? = some (.inr (.inr (ci, fs)))) (hkl : k < fs.length) (hft : ∀ b z, mj_fits b z ds w) (kk : mj_J g Y d kc ks (pc + 3, lv, st, M.set p0 (.inr (.inr (ci, fs.set k w)))) Post) : mj_J g Y d kc ks (pc, lv, w :: .inr (.inr (.inl (some (p0, 0)))) :: st, M) Post := by
  intro hG p e R s m args below meth c H ls locs cells slots hK
  obtain ⟨cell, cf, kf, fi, f, kC, q1, q2, q3, q4, hi, hsl, hst, hfc, hkC, hkind, hap, hlay⟩ := mj_field hG hK hc hf hM
  have hk : k < fl.length := (List.getElem?_eq_some_iff.mp hf).1
  have hT := mj_tb_at (C := Y.1) hf
  have hl : (Cond.laysFinal Y.1 Y.1 nm ds).before args s = true := by
    unfold u_lay at hlay
    rw [hT] at hlay
    exact hlay
  obtain ⟨ty, t1, t2, t3⟩ := hft g.2.2.2.1 g.2.2.1.heap.size
  have hS := u_fits hfc hkC hkind (Or.inr hl) hi t1 t2 t3
  rw [← q2] at hS
  have hlt : f.slot < cell.slots.size := by
    rw [hsl]
    exact k2_hasslot (q4 k hk)
  have hown := hK.1.2.2.2.1
  have hcf : m.cls = cf := by
    obtain ⟨_, _, c', _, _, _, -, -, hf', -, -, -, hown2, -⟩ := Cond.laysFinal_spec hl
    have e1 : c' = cf := by have := hi.symm.trans hf'; simp at this; exact this.1.symm
    rw [← e1]; exact Option.some.inj (hown.symm.trans hown2)
  refine W.putFinK hK.1.1 hK.1.2.1 hown (hK.1.2.2.2.2.1 _ hw) hi hst hcf (hK.1.2.2.2.2.2.2.2.1.trans hi0) hS q1 q3 hlt rfl rfl hd ?_
  intro H' h1 h2 h3
  refine kk hG p e R s m args below meth c H' ls _ cells slots (hK.mem hM h2 (fun A hA => h3 A (show (A : Nat) ≠ g.2.2.1.heap.size + mj_o p0 by have := mj_o_s p0; omega)) (mj_obj_set w hc hk hkl hsl q2 q3 q4 hap h1) (fun q hq => ?_))
  rw [List.mem_singleton.mp hq]
  exact Nat.le_add_right _ _
theorem mj_r_iald {p0 n : Nat} {f : Nat → Int} {x : Int} (hd : decode Y.2.2.1 pc = .ok (.iaload, 1)) (hM : M[p0]? = some (.inl (0, n, f))) (hx : mj_i x) (h0 : 0 ≤ x) (h1 : x < n) (kk : mj_J g Y d kc ks (pc + 1, lv, .inl (f x.toNat) :: st, M) Post) : mj_J g Y d kc ks (pc, lv, .inl x :: .inr (.inr (.inl (some (p0, 0)))) :: st, M) Post := by
  intro hG p e R s m args below meth c H ls locs cells slots hK
  have h := kk hG p e R s m args below meth c H ls locs cells slots hK
  obtain ⟨cell, q1, q2, q3, q4, q5⟩ := hK.2.2.1.2 p0 _ hM
  exact W.iald hK.1.1 hK.1.2.1 q1 (State.isArrayOf_alike hK.1.2.2.2.2.2.2.2.2.1 q2) (by rw [q3]; exact fun h => by cases h) (by rw [q4]; exact mj_in_ h0 h1 hx) (by rw [mj_cl hx]; exact q5 _ (by omega)) rfl rfl hd h
theorem mj_r_zald {p0 n : Nat} {f : Nat → Int} {x : Int} (hd : decode Y.2.2.1 pc = .ok (.baload, 1)) (hM : M[p0]? = some (.inl (1, n, f))) (hx : mj_i x) (h0 : 0 ≤ x) (h1 : x < n) (kk : mj_J g Y d kc ks (pc + 1, lv, .inl (f x.toNat) :: st, M) Post) : mj_J g Y d kc ks (pc, lv, .inl x :: .inr (.inr (.inl (some (p0, 0)))) :: st, M) Post := by
  intro hG p e R s m args below meth c H ls locs cells slots hK
  have h := kk hG p e R s m args below meth c H ls locs cells slots hK
  obtain ⟨cell, q1, q2, q3, q4, q5⟩ := hK.2.2.1.2 p0 _ hM
  exact W.zald hK.1.1 hK.1.2.1 q1 (State.isArrayOf_alike hK.1.2.2.2.2.2.2.2.2.1 q2) (by rw [q3]; exact fun h => by cases h) (by rw [q4]; exact mj_in_ h0 h1 hx) (by rw [mj_cl hx]; exact q5 _ (by omega)) rfl rfl hd h
theorem mj_r_lald {p0 n : Nat} {f : Nat → Int} {x : Int} (hd : decode Y.2.2.1 pc = .ok (.laload, 1)) (hM : M[p0]? = some (.inl (2, n, f))) (hx : mj_i x) (h0 : 0 ≤ x) (h1 : x < n) (kk : mj_J g Y d kc ks (pc + 1, lv, .inr (.inl (f x.toNat)) :: st, M) Post) : mj_J g Y d kc ks (pc, lv, .inl x :: .inr (.inr (.inl (some (p0, 0)))) :: st, M) Post := by
  intro hG p e R s m args below meth c H ls locs cells slots hK
  have h := kk hG p e R s m args below meth c H ls locs cells slots hK
  obtain ⟨cell, q1, q2, q3, q4, q5⟩ := hK.2.2.1.2 p0 _ hM
  exact W.lald hK.1.1 hK.1.2.1 q1 (State.isArrayOf_alike hK.1.2.2.2.2.2.2.2.2.1 q2) (by rw [q3]; exact fun h => by cases h) (by rw [q4]; exact mj_in_ h0 h1 hx) (by rw [mj_cl hx]; exact q5 _ (by omega)) rfl rfl hd h
theorem mj_r_aald {p0 n k0 : Nat} {f : Nat → Nat → Int} {x : Int} (hd : decode Y.2.2.1 pc = .ok (.aaload, 1)) (hM : M[p0]? = some (.inr (.inl (n, k0, f)))) (hx : mj_i x) (h0 : 0 ≤ x) (h1 : x < n) (kk : mj_J g Y d kc ks (pc + 1, lv, .inr (.inr (.inl (some (p0, x.toNat + 1)))) :: st, M) Post) : mj_J g Y d kc ks (pc, lv, .inl x :: .inr (.inr (.inl (some (p0, 0)))) :: st, M) Post := by
  intro hG p e R s m args below meth c H ls locs cells slots hK
  have h := kk hG p e R s m args below meth c H ls locs cells slots hK
  obtain ⟨-, ⟨cell, q1, q2, q3, q4, q5⟩, -⟩ := hK.2.2.1.2 p0 _ hM
  exact W.aald hK.1.1 hK.1.2.1 q1 (State.isArrayOf_alike hK.1.2.2.2.2.2.2.2.2.1 q2) rfl (by rw [q3]; exact fun h => by cases h) (by rw [q4]; exact mj_in_ h0 h1 hx) (by rw [mj_cl hx]; exact q5 _ (by omega)) rfl rfl hd h
theorem mj_r_gald {p0 n k0 r : Nat} {f : Nat → Nat → Int} {x : Int} (hd : decode Y.2.2.1 pc = .ok (.iaload, 1)) (hM : M[p0]? = some (.inr (.inl (n, k0, f)))) (hr : r < n) (hx : mj_i x) (h0 : 0 ≤ x) (h1 : x < k0) (kk : mj_J g Y d kc ks (pc + 1, lv, .inl (f r x.toNat) :: st, M) Post) : mj_J g Y d kc ks (pc, lv, .inl x :: .inr (.inr (.inl (some (p0, r + 1)))) :: st, M) Post := by
  intro hG p e R s m args below meth c H ls locs cells slots hK
  have h := kk hG p e R s m args below meth c H ls locs cells slots hK
  obtain ⟨-, -, hrow⟩ := hK.2.2.1.2 p0 _ hM
  obtain ⟨cell, q1, q2, q3, q4, q5⟩ := hrow r hr
  exact W.iald hK.1.1 hK.1.2.1 q1 (State.isArrayOf_alike hK.1.2.2.2.2.2.2.2.2.1 q2) (by rw [q3]; exact fun h => by cases h) (by rw [q4]; exact mj_in_ h0 h1 hx) (by rw [mj_cl hx]; exact q5 _ (by omega)) rfl rfl hd h
theorem mj_r_iast {p0 n : Nat} {f : Nat → Int} {x y : Int} (hd : decode Y.2.2.1 pc = .ok (.iastore, 1)) (hM : M[p0]? = some (.inl (0, n, f))) (hx : mj_i x) (h0 : 0 ≤ x) (h1 : x < n) (kk : mj_J g Y d kc ks (pc + 1, lv, st, M.set p0 (.inl (0, n, mj_up f x.toNat y))) Post) : mj_J g Y d kc ks (pc, lv, .inl y :: .inl x :: .inr (.inr (.inl (some (p0, 0)))) :: st, M) Post := by
  intro hG p e R s m args below meth c H ls locs cells slots hK
  obtain ⟨cell, q1, q2, q3, q4, q5⟩ := hK.2.2.1.2 p0 _ hM
  refine W.iast hK.1.1 hK.1.2.1 q1 (State.isArrayOf_alike hK.1.2.2.2.2.2.2.2.2.1 q2) (by rw [q3]; exact fun h => by cases h) (by rw [q4]; exact mj_in_ h0 h1 hx) rfl rfl hd ?_
  intro H' e1 e2 e3
  rw [mj_cl hx] at e1
  refine kk hG p e R s m args below meth c H' ls _ cells slots (hK.mem hM e2 (fun A hA => e3 A (show (A : Nat) ≠ g.2.2.1.heap.size + mj_o p0 by have := mj_o_s p0; omega)) ?_ (fun q hq => ?_))
  · refine mj_arr.to (mj_arr_set _ q2 q3 q4 q5 e1) fun j hj => ?_
    unfold mj_up
    by_cases e : j = x.toNat
    · simp [e, mj_num]
    · simp [e]
  · rw [List.mem_singleton.mp hq]
    exact Nat.le_add_right _ _
theorem mj_nb {y : Int} (h : y = 0 ∨ y = 1) : narrow .boolean (.int (Int32.ofInt y)) = .int (Int32.ofInt y) := by
  rcases h with rfl | rfl <;> rfl
theorem mj_r_zast {p0 n : Nat} {f : Nat → Int} {x y : Int} (hd : decode Y.2.2.1 pc = .ok (.bastore, 1)) (hM : M[p0]? = some (.inl (1, n, f))) (hx : mj_i x) (h0 : 0 ≤ x) (h1 : x < n) (hy : y = 0 ∨ y = 1) (kk : mj_J g Y d kc ks (pc + 1, lv, st, M.set p0 (.inl (1, n, mj_up f x.toNat y))) Post) : mj_J g Y d kc ks (pc, lv, .inl y :: .inl x :: .inr (.inr (.inl (some (p0, 0)))) :: st, M) Post := by
  intro hG p e R s m args below meth c H ls locs cells slots hK
  obtain ⟨cell, q1, q2, q3, q4, q5⟩ := hK.2.2.1.2 p0 _ hM
  refine W.zast hK.1.1 hK.1.2.1 q1 (State.isArrayOf_alike hK.1.2.2.2.2.2.2.2.2.1 q2) (by rw [q3]; exact fun h => by cases h) (by rw [q4]; exact mj_in_ h0 h1 hx) rfl rfl hd ?_
  intro H' e1 e2 e3
  rw [mj_cl hx, mj_nb hy] at e1
  refine kk hG p e R s m args below meth c H' ls _ cells slots (hK.mem hM e2 (fun A hA => e3 A (show (A : Nat) ≠ g.2.2.1.heap.size + mj_o p0 by have := mj_o_s p0; omega)) ?_ (fun q hq => ?_))
  · refine mj_arr.to (mj_arr_set _ q2 q3 q4 q5 e1) fun j hj => ?_
    unfold mj_up
    by_cases e : j = x.toNat
    · simp [e, mj_num]
    · simp [e]
  · rw [List.mem_singleton.mp hq]
    exact Nat.le_add_right _ _
theorem mj_r_last {p0 n : Nat} {f : Nat → Int} {x y : Int} (hd : decode Y.2.2.1 pc = .ok (.lastore, 1)) (hM : M[p0]? = some (.inl (2, n, f))) (hx : mj_i x) (h0 : 0 ≤ x) (h1 : x < n) (kk : mj_J g Y d kc ks (pc + 1, lv, st, M.set p0 (.inl (2, n, mj_up f x.toNat y))) Post) : mj_J g Y d kc ks (pc, lv, .inr (.inl y) :: .inl x :: .inr (.inr (.inl (some (p0, 0)))) :: st, M) Post := by
  intro hG p e R s m args below meth c H ls locs cells slots hK
  obtain ⟨cell, q1, q2, q3, q4, q5⟩ := hK.2.2.1.2 p0 _ hM
  refine W.last hK.1.1 hK.1.2.1 q1 (State.isArrayOf_alike hK.1.2.2.2.2.2.2.2.2.1 q2) (by rw [q3]; exact fun h => by cases h) (by rw [q4]; exact mj_in_ h0 h1 hx) rfl rfl hd ?_
  intro H' e1 e2 e3
  rw [mj_cl hx] at e1
  refine kk hG p e R s m args below meth c H' ls _ cells slots (hK.mem hM e2 (fun A hA => e3 A (show (A : Nat) ≠ g.2.2.1.heap.size + mj_o p0 by have := mj_o_s p0; omega)) ?_ (fun q hq => ?_))
  · refine mj_arr.to (mj_arr_set _ q2 q3 q4 q5 e1) fun j hj => ?_
    unfold mj_up
    by_cases e : j = x.toNat
    · simp [e, mj_num]
    · simp [e]
  · rw [List.mem_singleton.mp hq]
    exact Nat.le_add_right _ _
theorem mj_r_gast {p0 n k0 r : Nat} {f : Nat → Nat → Int} {x y : Int} (hd : decode Y.2.2.1 pc = .ok (.iastore, 1)) (hM : M[p0]? = some (.inr (.inl (n, k0, f)))) (hr : r < n) (hx : mj_i x) (h0 : 0 ≤ x) (h1 : x < k0) (kk : mj_J g Y d kc ks (pc + 1, lv, st, M.set p0 (.inr (.inl (n, k0, mj_up2 f r x.toNat y)))) Post) : mj_J g Y d kc ks (pc, lv, .inl y :: .inl x :: .inr (.inr (.inl (some (p0, r + 1)))) :: st, M) Post := by
  intro hG p e R s m args below meth c H ls locs cells slots hK
  obtain ⟨hsz, hhd, hrow⟩ := hK.2.2.1.2 p0 _ hM
  obtain ⟨cell, q1, q2, q3, q4, q5⟩ := hrow r hr
  refine W.iast hK.1.1 hK.1.2.1 q1 (State.isArrayOf_alike hK.1.2.2.2.2.2.2.2.2.1 q2) (by rw [q3]; exact fun h => by cases h) (by rw [q4]; exact mj_in_ h0 h1 hx) rfl rfl hd ?_
  intro H' e1 e2 e3
  rw [mj_cl hx] at e1
  refine kk hG p e R s m args below meth c H' ls _ cells slots (hK.mem hM e2 (fun A hA => e3 A (show (A : Nat) ≠ g.2.2.1.heap.size + mj_o p0 + (r + 1) by have := mj_o_s p0; omega)) ⟨hsz, hhd.kept (e3 (g.2.2.1.heap.size + mj_o p0) (show (g.2.2.1.heap.size + mj_o p0 : Nat) ≠ g.2.2.1.heap.size + mj_o p0 + (r + 1) by omega)), fun i hi => ?_⟩ (fun q hq => ?_))
  · by_cases e : i = r
    · subst e
      refine mj_arr.to (mj_arr_set _ q2 q3 q4 q5 e1) fun j hj => ?_
      unfold mj_up2
      by_cases e : j = x.toNat
      · simp [e]
      · simp [e]
    · refine mj_arr.to ((hrow i hi).kept (e3 (g.2.2.1.heap.size + mj_o p0 + (i + 1)) (show (g.2.2.1.heap.size + mj_o p0 + (i + 1) : Nat) ≠ g.2.2.1.heap.size + mj_o p0 + (r + 1) by omega))) fun j hj => ?_
      unfold mj_up2
      simp [e]
  · rw [List.mem_singleton.mp hq]
    show _ ≤ _ + _ + _
    omega
theorem mj_len {n : Nat} (h : n < 2147483648) : n.toInt32 = Int32.ofInt (n : Int) := by
  rw [← Int32.toInt_inj, mj_ti ⟨by omega, by omega⟩]
  exact Int32.toInt_ofNat_of_lt h
theorem mj_r_alen {p0 n k0 : Nat} {f : Nat → Int} (hd : decode Y.2.2.1 pc = .ok (.arraylength, 1)) (hM : M[p0]? = some (.inl (k0, n, f))) (hn : n < 2147483648) (kk : mj_J g Y d kc ks (pc + 1, lv, .inl (n : Int) :: st, M) Post) : mj_J g Y d kc ks (pc, lv, .inr (.inr (.inl (some (p0, 0)))) :: st, M) Post := by
  intro hG p e R s m args below meth c H ls locs cells slots hK
  have h := kk hG p e R s m args below meth c H ls locs cells slots hK
  obtain ⟨cell, q1, q2, q3, q4, q5⟩ := hK.2.2.1.2 p0 _ hM
  exact W.alen hK.1.1 hK.1.2.1 q1 (State.isArrayOf_alike hK.1.2.2.2.2.2.2.2.2.1 q2) (by rw [q4]; exact mj_len hn) rfl rfl hd h
theorem mj_r_slen {u : Unit} (hd : decode Y.2.2.1 pc = .ok (.arraylength, 1)) (kk : mj_J g Y d kc ks (pc + 1, lv, .inl (g.2.2.2.2.1 : Int) :: st, M) Post) : mj_J g Y d kc ks (pc, lv, .inr (.inr (.inr u)) :: st, M) Post := by
  intro hG p e R s m args below meth c H ls locs cells slots hK
  have h := kk hG p e R s m args below meth c H ls locs cells slots hK
  obtain ⟨-, ⟨scr, q1, q2, q3, q4, q5⟩, hb, hl, -⟩ := hG
  exact W.alen hK.1.1 hK.1.2.1 (by rw [hK.2.2.2.1 _ hb]; exact q1) (State.isArrayOf_alike hK.1.2.2.2.2.2.2.2.2.1 q2) (by rw [q4]; exact mj_len (by omega)) rfl rfl hd h
theorem mj_r_sald {u : Unit} {x : Int} (hd : decode Y.2.2.1 pc = .ok (.iaload, 1)) (hx : mj_i x) (h0 : 0 ≤ x) (h1 : x < g.2.2.2.2.1) (kk : mj_J g Y d kc ks (pc + 1, lv, .inl (g.2.2.2.2.2 x.toNat).toInt :: st, M) Post) : mj_J g Y d kc ks (pc, lv, .inl x :: .inr (.inr (.inr u)) :: st, M) Post := by
  intro hG p e R s m args below meth c H ls locs cells slots hK
  have h := kk hG p e R s m args below meth c H ls locs cells slots hK
  obtain ⟨-, ⟨scr, q1, q2, q3, q4, q5⟩, hb, hl, -⟩ := hG
  refine W.iald (v := .int (g.2.2.2.2.2 x.toNat)) hK.1.1 hK.1.2.1 (by rw [hK.2.2.2.1 _ hb]; exact q1) (State.isArrayOf_alike hK.1.2.2.2.2.2.2.2.2.1 q2) q3 (by rw [q4]; exact mj_in_ h0 h1 hx) (by rw [mj_cl hx]; exact q5 _ (by omega)) rfl rfl hd ?_
  have e1 : Value.int (g.2.2.2.2.2 x.toNat) = mj_tr g.2.2.2.1 g.2.2.1.heap.size (.inl (g.2.2.2.2.2 x.toNat).toInt) := by
    show _ = Value.int (Int32.ofInt _)
    rw [Int32.ofInt_toInt]
  rw [e1]
  exact h
end MJM
