/-! ===== the small machine: making cells ===== -/
def mj_dv (f : String × String × Bool) : mj_V := if f.2.1 = "I" ∨ f.2.1 = "Z" then .inl 0 else .inr (.inr (.inl none))
theorem mj_cf_dv : mj_cf.all (fun q => q.2.all (fun f => decide (defaultValue ((parseFieldDescriptor f.2.1).getD .int) = (if f.2.1 = "I" ∨ f.2.1 = "Z" then .int 0 else .null)))) = true := by decide +kernel
theorem mj_W.push {D : va_G} {s0 : State} {b : Nat} {M : mj_M} {H H1 : Heap} {c : mj_C} (h : mj_W D s0 b M H) (hsz : H1.size = s0.heap.size + mj_o (M.length + 1)) (hold : ∀ q, q < H.size → H1[q]? = H[q]?) (hc : mj_cell D s0 b s0.heap.size M.length H1 c) : mj_W D s0 b (M ++ [c]) H1 := by
  refine ⟨by rw [hsz, List.length_append]; rfl, fun q c0 hq => ?_⟩
  by_cases hq1 : q < M.length
  · rw [List.getElem?_append_left hq1] at hq
    refine (h.2 q c0 hq).kept fun A _ hA => hold A ?_
    have := mj_o_lt hq1
    have h1 := h.1
    have h2 : mj_o (q + 1) ≤ mj_o M.length := this
    omega
  · have hq2 : q = M.length := by
      have h1 := (List.getElem?_eq_some_iff.mp hq).1
      rw [List.length_append] at h1
      have : [c].length = 1 := rfl
      omega
    subst hq2
    rw [List.getElem?_append_right (Nat.le_refl _), Nat.sub_self] at hq
    cases hq
    exact hc
section MJA
variable {g : mj_G} {Y : mj_Y} {d kc ks pc : Nat} {lv : mj_L} {st : List mj_V} {M : mj_M} {Post : mj_O → mj_M → Prop}
theorem mj_K.push {a b : Nat} {p : Program} {R : Room} {s : State} {m : MethodId} {args : Array Value} {meth : Method} {c : Code} {H H1 : Heap} {ls : Array Slot} {locs : List Loc} {cells slots : Nat} {c1 : mj_C} (hK : mj_K g Y d (a + kc) (b + ks) lv M p R s m args meth c H ls locs cells slots) (hsz : H1.size = g.2.2.1.heap.size + mj_o (M.length + 1)) (hold : ∀ q, q < H.size → H1[q]? = H[q]?) (hc : mj_cell g.2.1 g.2.2.1 g.2.2.2.1 g.2.2.1.heap.size M.length H1 c1) :
    mj_K g Y d kc ks lv (M ++ [c1]) p R s m args meth c H1 ls locs (cells + a) (slots + b) := by
  have hz : g.2.2.1.heap.size ≤ H.size := by rw [hK.2.2.1.1]; exact Nat.le_add_right _ _
  exact ⟨hK.1, ⟨hK.2.1.1, hK.2.1.2.1, by have := hK.2.1.2.2.1; omega, by have := hK.2.1.2.2.2; omega⟩, hK.2.2.1.push hsz hold hc, fun q hq => by rw [hold q (by omega)]; exact hK.2.2.2.1 q hq, hK.2.2.2.2.1, hK.2.2.2.2.2⟩
theorem mj_r_new {ci idx n : Nat} {C : String} {fl : List (String × String × Bool)} (hd : decode Y.2.2.1 pc = .ok (.new idx, 3)) (hc : mj_cf[ci]? = some (C, fl)) (hcl : Cond.classLink Y.1 idx C ∈ mj_tbl) (hin : Cond.instantiable C n ∈ mj_tbl) (hini : Cond.initialized C ∈ mj_tbl) (ho : mj_o (M.length + 1) = mj_o M.length + 1)
    (k : mj_J g Y d kc ks (pc + 3, lv, .inr (.inr (.inl (some (M.length, 0)))) :: st, M ++ [.inr (.inr (ci, fl.map mj_dv))]) Post) : mj_J g Y d (1 + kc) (n + ks) (pc, lv, st, M) Post := by
  intro hG p e R s m args below meth c H ls locs cells slots hK
  have hts := hK.1.2.2.2.2.1
  have hcl2 := mj_cls_at hc
  have hKs : va_K g.2.1 mj_cls [] s := hG.1.moved hK.1.2.2.2.2.2.2.2.2.1
  have hu := hKs.1 ci _ hcl2
  have hfc : s.vm.findClass C = some (g.2.1.1 ci) := hu.2.1
  have hsz : H.size = g.2.2.1.heap.size + mj_o M.length := hK.2.2.1.1
  refine W.newcK hK.1.1 hK.1.2.1 hK.1.2.2.2.1 (hts _ hcl) (hts _ hin) (hts _ hini) rfl hd (by have := hK.2.1.2.2.1; omega) (by have := hK.2.1.2.2.2; omega) hfc rfl fun H1 kC hkC hc1 hsz1 hold1 => ?_
  have hb := u_born (fun k => (parseFieldDescriptor ((mj_tb (C, fl)).2.1 k).2.2.1).getD .int) hts (mj_in hc) hu hkC hc1 (mj_ty_at hc)
  have hcell : mj_cell g.2.1 g.2.2.1 g.2.2.2.1 g.2.2.1.heap.size M.length H1 (.inr (.inr (ci, fl.map mj_dv))) := by
    refine ⟨_, hcl2, ?_⟩
    rw [← hsz]
    refine t_OB.to hb fun j hj => ?_
    have hj' : j < fl.length := hj
    obtain ⟨f, hf⟩ : ∃ f, fl[j]? = some f := ⟨_, List.getElem?_eq_getElem hj'⟩
    have h1 := List.all_eq_true.mp mj_cf_dv _ (List.mem_of_getElem? hc)
    have h2 := of_decide_eq_true (List.all_eq_true.mp h1 f (List.mem_of_getElem? hf))
    rw [mj_tb_at hf, h2]
    have e1 : (fl.map mj_dv).getD j (.inl 0) = mj_dv f := by simp [List.getD, hf]
    rw [e1]
    unfold mj_dv
    split <;> rfl
  have h := k hG p e R s m args below meth c H1 ls locs (cells + 1) (slots + n) (hK.push (by rw [hsz1, hsz, ho]; omega) hold1 hcell)
  rw [Nat.add_assoc, Nat.add_assoc] at h
  rw [hsz] at *
  exact h
theorem mj_r_newarray {kd n : Nat} {at_ : ArrayType} {x : Int} (hd : decode Y.2.2.1 pc = .ok (.newarray at_, 2)) (hty : newarray.typeOf at_ = mj_ty kd) (hkd : kd < 3) (harr : Cond.arrayClass (newarray.typeOf at_) ∈ mj_tbl) (hx : x = (n : Int)) (hn : n < 100000) (ho : mj_o (M.length + 1) = mj_o M.length + 1)
    (k : mj_J g Y d kc ks (pc + 2, lv, .inr (.inr (.inl (some (M.length, 0)))) :: st, M ++ [.inl (kd, n, fun _ => 0)]) Post) : mj_J g Y d (1 + kc) (n + ks) (pc, lv, .inl x :: st, M) Post := by
  intro hG p e R s m args below meth c H ls locs cells slots hK
  subst hx
  have hts := hK.1.2.2.2.2.1
  have hi : mj_i (n : Int) := ⟨by omega, by omega⟩
  have hsz : H.size = g.2.2.1.heap.size + mj_o M.length := hK.2.2.1.1
  have hcb : componentBytes (newarray.typeOf at_) ≤ 8 := by cases at_ <;> decide
  have hpos : ¬ Int32.ofInt (n : Int) < 0 := by
    intro q
    have q2 : Int32.ofInt (n : Int) < Int32.ofInt 0 := q
    rw [mj_lt hi mj_i0] at q2
    omega
  refine W.newaK (N := n) hK.1.1 hK.1.2.1 (hts _ harr) rfl hd rfl hpos (by rw [mj_cl hi]; exact Int.toNat_natCast n) (by have := Nat.mul_le_mul (Nat.le_of_lt hn) hcb; omega) (by have := hK.2.1.2.2.1; omega) (by have := hK.2.1.2.2.2; omega) rfl fun H1 cA hc1 hsz1 hold1 hAr => ?_
  have hcell : mj_cell g.2.1 g.2.2.1 g.2.2.2.1 g.2.2.1.heap.size M.length H1 (.inl (kd, n, fun _ => 0)) := by
    have h1 := State.isArrayOf_alike hK.1.2.2.2.2.2.2.2.2.1.symm (hAr n (fun _ => defaultValue (newarray.typeOf at_)))
    rw [hty] at h1
    refine ⟨_, by rw [← hsz]; exact hc1, ?_, rfl, arrV_size _ _ _, fun j hj => ?_⟩
    · rw [hty]; exact h1
    · rw [arrV_read _ _ hj, hty]
      unfold mj_ty mj_num
      by_cases e0 : kd = 0
      · subst e0; rfl
      · by_cases e1 : kd = 1
        · subst e1; rfl
        · rw [if_neg e0, if_neg e1]
          by_cases e2 : kd = 2
          · subst e2; rfl
          · omega
  have h := k hG p e R s m args below meth c H1 ls locs (cells + 1) (slots + n) (hK.push (by rw [hsz1, hsz, ho]; omega) hold1 hcell)
  rw [Nat.add_assoc, Nat.add_assoc] at h
  rw [hsz] at *
  exact h
theorem mj_r_objInit {idx : Nat} {r : Nat × Nat} (hd : decode Y.2.2.1 pc = .ok (.invokespecial idx, 3)) (hl : Cond.methodLink Y.1 idx Lib.objectInit ∈ mj_tbl) (hi : Cond.instanceMethod Lib.objectInit ∈ mj_tbl) (hc : Cond.code Lib.objectInit ⟨#[0xb1]⟩ 1 none ∈ mj_tbl) (hst : Nat.ble (st.map mj_cat).sum 8 = true)
    (k : mj_J g Y (d + 1) kc ks (pc + 3, lv, st, M) Post) : mj_J g Y (d + 1) kc ks (pc, lv, .inr (.inr (.inl (some r))) :: st, M) Post := by
  intro hG p e R s m args below meth c H ls locs cells slots hK
  have h := k hG p e R s m args below meth c H ls locs cells slots hK
  have hts := hK.1.2.2.2.2.1
  have hst2 := Nat.le_of_ble_eq_true hst
  have hrm := hK.2.1
  refine W.objInit hK.1.1 hK.1.2.1 hK.1.2.2.2.1 (hts _ hl) (hts _ hi) (hts _ hc) rfl (hK.2.2.2.2.1.1.1.trans (hK.2.2.2.2.1.2.trans hK.1.2.2.1.symm)) rfl hd (by omega) ?_ h
  have h1 := lv_room (m := m) (pc := pc) (ls := ls) (rest := (.inr (.inr (.inl (some r))) :: st : List mj_V).map (mj_tr g.2.2.2.1 g.2.2.1.heap.size)) (st := st.map (mj_tr g.2.2.2.1 g.2.2.1.heap.size)) (by rw [mj_cats]; exact hst2)
  have h2 : 2 * (F0 m pc ls ((.inr (.inr (.inl (some r))) :: st : List mj_V).map (mj_tr g.2.2.2.1 g.2.2.1.heap.size))).monitorRoom + ((st.map (mj_tr g.2.2.2.1 g.2.2.1.heap.size)).map fun v => v.category).sum + 12 ≤ R.locals := by omega
  exact h2
theorem mj_outer (c : ClassId) (N h0 : Nat) : ∀ i : Nat, Jvm.Free.Multi.outerC c N h0 i = arrV c N (fun j => if j < i then .ref (h0 + 1 + j) else .null)
  | 0 => by
    show ({ cls := c, slots := Array.replicate N .null, vm := .none } : Cell) = _
    rw [arrV_new]
    refine congrArg (arrV c N) (funext fun j => ?_)
    simp
  | i + 1 => by
    show (Jvm.Free.Multi.outerC c N h0 i).setSlot i (.ref (h0 + 1 + i)) = _
    rw [mj_outer c N h0 i, arrV_store]
    refine congrArg (arrV c N) (funext fun j => ?_)
    by_cases e : j = i
    · subst e
      simp [updV]
    · by_cases h : j < i
      · simp [updV, e, h, Nat.lt_succ_of_lt h]
      · simp [updV, e, h, show ¬ j < i + 1 by omega]
theorem mj_r_multi {idx n q : Nat} {x y : Int} (hd : decode Y.2.2.1 pc = .ok (.multianewarray idx 2, 4)) (hcl : Cond.classLink Y.1 idx "[[I" ∈ mj_tbl) (hov : Cond.arrayOver (.array .int) ∈ mj_tbl) (harr : Cond.arrayClass .int ∈ mj_tbl) (hx : x = (n : Int)) (hy : y = (q : Int)) (hn : n < 100000) (hq : q < 100000) (ho : mj_o (M.length + 1) = mj_o M.length + (1 + n))
    (k : mj_J g Y d kc ks (pc + 4, lv, .inr (.inr (.inl (some (M.length, 0)))) :: st, M ++ [.inr (.inl (n, q, fun _ _ => 0))]) Post) : mj_J g Y d ((1 + n) + kc) ((n + n * q) + ks) (pc, lv, .inl y :: .inl x :: st, M) Post := by
  intro hG p e R s m args below meth c H ls locs cells slots hK
  subst hx hy
  have hts := hK.1.2.2.2.2.1
  have hin : mj_i (n : Int) := ⟨by omega, by omega⟩
  have hiq : mj_i (q : Int) := ⟨by omega, by omega⟩
  have hsz : H.size = g.2.2.1.heap.size + mj_o M.length := hK.2.2.1.1
  have hp : ∀ {a : Nat}, mj_i (a : Int) → ¬ Int32.ofInt (a : Int) < 0 := by
    intro a ha q1
    have q2 : Int32.ofInt (a : Int) < Int32.ofInt 0 := q1
    rw [mj_lt ha mj_i0] at q2
    omega
  have cn : (Int32.ofInt (n : Int)).toNatClampNeg = n := by rw [mj_cl hin]; exact Int.toNat_natCast n
  have cq : (Int32.ofInt (q : Int)).toNatClampNeg = q := by rw [mj_cl hiq]; exact Int.toNat_natCast q
  intro T hT X
  obtain ⟨vm₁, cA, comp, -, fA, fC, hO, hI, X', step⟩ := X.multianewarray2F hK.1.1 (ty := .int) hK.1.2.2.2.1 (hts _ hcl) (hts _ hov) (hts _ harr) (g := F0 m pc ls ((.inl (q : Int) :: .inl (n : Int) :: st : List mj_V).map (mj_tr g.2.2.2.1 g.2.2.1.heap.size))) rfl (by rw [hK.1.2.1]; exact hd) rfl (hp hin) (hp hiq) (by rw [cn]; omega) (by rw [cq]; show q * 4 ≤ _; omega) (by rw [cq]; omega) rfl rfl
    (by rw [cn]; have := hK.2.1.2.2.1; omega) (by rw [cn, cq]; have := hK.2.1.2.2.2; omega)
  rw [cn, cq] at X' step
  obtain ⟨f1, f2, -, -⟩ := Jvm.Free.Multi.fill_facts (T.setVm vm₁) cA comp n q (defaultValue .int) n
  have f3 : ∀ x : Nat, x < H.size → (Jvm.Free.Multi.fill (T.setVm vm₁) cA comp n q (defaultValue .int) n).heap[x]? = H[x]? := fun x hx => by
    have h1 := Jvm.Free.Multi.fill_old (T.setVm vm₁) cA comp n q (defaultValue .int) (a := x) (by show x < T.heap.size; rw [hT]; exact hx) n
    rw [h1]
    show T.heap[x]? = _
    rw [hT]
  have f4 : ∀ j : Nat, j < n → (Jvm.Free.Multi.fill (T.setVm vm₁) cA comp n q (defaultValue .int) n).heap[H.size + 1 + j]? = some (Jvm.Free.Multi.innerC comp q (defaultValue .int)) := fun j hj => by
    have h1 := Jvm.Free.Multi.fill_inner (T.setVm vm₁) cA comp n q (defaultValue .int) n j hj
    have e1 : (T.setVm vm₁).heap.size = H.size := by show T.heap.size = _; rw [hT]
    rw [e1] at h1
    exact h1
  have e1 : (T.setVm vm₁).heap.size = H.size := by show T.heap.size = _; rw [hT]
  rw [e1] at f1 f2
  generalize Jvm.Free.Multi.fill (T.setVm vm₁) cA comp n q (defaultValue .int) n = F at X' step f1 f2 f3 f4
  have hal := hK.1.2.2.2.2.2.2.2.2.1
  have hcell : mj_cell g.2.1 g.2.2.1 g.2.2.2.1 g.2.2.1.heap.size M.length F.heap (.inr (.inl (n, q, fun _ _ => 0))) := by
    refine ⟨by omega, ?_, fun i hi => ?_⟩
    · have h1 := State.isArrayOf_alike hal.symm (hO n H.size n).1
      rw [mj_outer] at f2 h1
      refine ⟨_, by rw [← hsz]; exact f2, h1, rfl, arrV_size _ _ _, fun j hj => ?_⟩
      have e7 : H.size + 1 + j = g.2.2.1.heap.size + mj_o M.length + (j + 1) := by omega
      rw [arrV_read _ _ hj, if_pos hj, e7]
    · have h1 := State.isArrayOf_alike hal.symm (hI q (defaultValue .int)).1
      refine ⟨_, by rw [← hsz, ← Nat.add_assoc, Nat.add_right_comm]; exact f4 i hi, h1, rfl, by simp [Jvm.Free.Multi.innerC], fun j hj => ?_⟩
      simp [Jvm.Free.Multi.innerC, hj]
      rfl
  have h := k hG p e R s m args below meth c F.heap ls locs (cells + (1 + n)) (slots + (n + n * q)) (hK.push (by rw [f1, hsz, ho]; omega) f3 hcell)
  obtain ⟨t, a1, b1⟩ := h F rfl (by
    have e2 : cells + 1 + n = cells + (1 + n) := by omega
    have e3 : slots + n + n * q = slots + (n + n * q) := by omega
    rw [e2, e3] at X'
    exact X')
  refine ⟨t, step t ?_, ?_⟩
  · have e5 : T.heap.size = g.2.2.1.heap.size + mj_o M.length := by rw [hT]; exact hsz
    rw [e5]
    exact a1
  · rw [Nat.add_assoc cells, Nat.add_assoc slots] at b1
    exact b1
end MJA
