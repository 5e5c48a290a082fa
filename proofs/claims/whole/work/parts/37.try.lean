/-! ===== calls that may throw, and their handlers ===== -/
theorem mj_metT {g : mj_G} {Y : mj_Y} {d kc ks : Nat} {M : mj_M} {Post : mj_O → mj_M → Prop} (hG : mj_F g) {vs : List mj_V} (w0 : Cond) (his : ∀ (args : Array Value) (s : State) (m : MethodId), w0.before args s = true → s.methodNamed? Y.2.1 = some m → ∃ meth c, s.vm.method? m = some meth ∧ meth.code = some c ∧ c.code = Y.2.2.1 ∧ c.maxLocals = Y.2.2.2.1 ∧ meth.sig.returnType = Y.2.2.2.2 ∧ meth.locks = false)
    (hY : Y.2.1.cls = Y.1) (hpl : plainName Y.1 = true) (hn : (mj_e1 vs).length ≤ Y.2.2.2.1) (k : mj_J g Y d kc ks (0, mj_ent vs Y.2.2.2.1, [], M) Post) :
    MetFree g.1 Y.2.1 (headSpec (w0 :: mj_tbl) (mj_rm d kc ks)) (mj_Pc g M vs) (fun _ _ _ _ _ => True) (fun _ st o t => mj_Q g Post o t ∧ ∃ L, mj_FE st t L kc ks ∧ ∀ q ∈ L, g.2.2.1.heap.size ≤ q.base) := by
  refine MetFree.of_bodyS (code := Y.2.2.1) (maxLocals := Y.2.2.2.1) (ret := Y.2.2.2.2) (by rw [hY]; exact hpl) ?_ ?_
  · intro args s m h hnm
    exact his args s m (atoms_spec (ws := w0 :: mj_tbl) h _ List.mem_cons_self) hnm
  · intro p e s m args below meth c s₁ B hml hv _
    obtain ⟨ha, hal, hsz, hW, hold⟩ := hv
    have hts := atoms_spec (ws := w0 :: mj_tbl) B.pre
    have hown : s.vm.findClass Y.1 = some m.cls := by rw [← hY]; exact findClass_of_methodNamed B.named
    have hin := (name_of_methodNamed B.named B.method).1
    have hh0 : s₁.heap = s.heap := by rw [B.state]; rfl
    have hK : mj_K g Y d kc ks (mj_ent vs Y.2.2.2.1) M p (mj_rm d kc ks) s m args meth c s.heap ((lg_sl (vs.map (mj_tr g.2.2.2.1 g.2.2.1.heap.size)) ++ List.replicate (Y.2.2.2.1 - (lg_sl (vs.map (mj_tr g.2.2.2.1 g.2.2.1.heap.size))).length) Slot.unset).toArray) [] 0 0 :=
      ⟨⟨B.exec, B.bytes, hml, hown, fun w hw => hts w (List.mem_cons_of_mem _ hw), B.notSynchronized, B.returns, hin, hal, hsz, B.named⟩, ⟨Nat.le_refl _, Nat.le_refl _, by rw [Nat.zero_add]; exact Nat.le_refl _, by rw [Nat.zero_add]; exact Nat.le_refl _⟩, hW, hold, ⟨mj_ent_ls hn, by
        rw [mj_ent, List.length_append, List.length_replicate]
        omega⟩, fun q hq => by cases hq⟩
    have hw := k hG p e _ s m _ below meth c s.heap _ [] 0 0 hK
    obtain ⟨t, a1, o, h1, h2, h3, h4, L, h5, h6⟩ := hw s₁ hh0 (Stand.of_body B)
    rw [Nat.zero_add, Nat.zero_add] at h5
    refine ⟨t, o, ?_, h1, h2, h3, L, ⟨h4, h5⟩, h6⟩
    rw [ha, lg_entry_eq]
    exact a1
/-- which handler takes an exception of class X at pc -/
def mj_hf (own : String) (pc : Nat) (X : String) (hpc : Nat) : List (Nat × Nat × Nat × Nat) → Prop
  | [] => False
  | h :: t => (h.1 ≤ pc ∧ pc < h.2.1 ∧ h.2.2.2 ≠ 0) ∧ ∃ C, Cond.classLink own h.2.2.2 C ∈ mj_tbl ∧ ((C = X ∧ Cond.castable X X ∈ mj_tbl ∧ hpc = h.2.2.1) ∨ ((∀ (a : Array Value) (s : State), (Cond.and given_1 narrow_1).before a s = true → (Cond.not (Cond.castable X C)).before a s = true) ∧ mj_hf own pc X hpc t))
theorem mj_notcast {A B : String} {a : Array Value} {s : State} (h : (Cond.not (Cond.castable A B)).before a s = true) : ∃ x y, s.vm.findClass A = some x ∧ s.vm.findClass B = some y ∧ s.vm.assignable x y = false := by
  simp only [Cond.before, Cond.holds, Cond.value] at h
  cases ha : s.vm.findClass A with
  | none => simp [ha] at h
  | some x =>
    cases hb : s.vm.findClass B with
    | none => simp [ha, hb] at h
    | some y =>
      refine ⟨x, y, rfl, rfl, ?_⟩
      simp [ha, hb] at h
      exact h
theorem mj_find {g : mj_G} {e : Env} {s : State} {args : Array Value} {f : JFrame} {a : Addr} {own X : String} {hpc : Nat} {cell : Cell} (hpl : e.platform.magicAccessors = ({} : Platform).magicAccessors) (hown : s.vm.findClass own = some f.method.cls) (hts : ∀ w ∈ mj_tbl, w.before args s = true) (hal : g.2.2.1.vm.Alike s.vm)
    (hnar : (Cond.and given_1 narrow_1).before #[Value.ref g.2.2.2.1] g.2.2.1 = true) (hcls : s.vm.findClass X = some cell.cls) (hvm : cell.vm = .none) :
    ∀ (entries : List ExceptionTableEntry), mj_hf own f.pc X hpc (entries.map fun h => (h.startPc, h.endPc, h.handlerPc, h.catchType)) → ∀ S : State, s.WarmedH S.vm → S.heap[a]? = some cell →
      ∃ vm', s.WarmedH vm' ∧ ∀ (Q : Handler → Pre) (E : CtlPost) (d : Bool) (acts : List Action), Q (.found hpc) d acts (S.setVm vm') → wp (findHandler.go f a entries) Q E e d acts S := by
  intro entries
  induction entries with
  | nil => intro h; exact h.elim
  | cons x t ih =>
    intro h S hW hcell
    obtain ⟨⟨h1, h2, h3⟩, C, hcl, h4⟩ := h
    obtain ⟨c, hfc, hlk⟩ := Cond.classLink_spec hown (hts _ hcl) e.platform hpl
    have hlkS := hW.classLinks hlk
    have hg := resolveClass_links e.toSetting hlkS
    have hW' : s.WarmedH (S.vm.noted f.method.cls x.catchType (.cls c)) := by
      obtain ⟨dk, cf, name, ck, hd, -, -, -, -, -, -, hres⟩ := hlk.here
      exact hW.noted hd hres (State.rightAt_cls hlk)
    have hcov : covers x f.pc = true := by
      simp only [covers]
      simp only at h1 h2
      simp [h1, h2]
    have hal' := hW'.alike
    have hk' : ∃ k, (S.vm.noted f.method.cls x.catchType (.cls c)).classes[cell.cls]? = some k := Vm.classAt_of_findClass (name := X) (by rw [hal'.findClass]; exact hcls)
    have hc' : ∃ k, (S.vm.noted f.method.cls x.catchType (.cls c)).classes[c]? = some k := Vm.classAt_of_findClass (name := C) (by rw [hal'.findClass]; exact hfc)
    have hasg : (S.vm.noted f.method.cls x.catchType (.cls c)).assignable cell.cls c = s.vm.assignable cell.cls c := hal'.assignable _ _
    have step : ∀ (Q : Handler → Pre) (E : CtlPost) (d : Bool) (acts : List Action), _ := fun Q E d acts => mj_go_class (t := t) (E := E) (Q := Q) (d := d) (acts := acts) hcov h3 hg (by rw [Vm.size_noted]; exact Nat.le_refl _) hcell (by rw [hvm]; exact fun k q => by cases q) hk' hc'
    rcases h4 with ⟨rfl, hcast, rfl⟩ | ⟨hnc, hrec⟩
    · refine ⟨_, hW', fun Q E d acts hq => ?_⟩
      rw [step]
      obtain ⟨c3, c4, q3, q4, q5⟩ := Cond.castable_spec (hts _ hcast)
      cases hcls.symm.trans q3
      cases hfc.symm.trans q4
      rw [hasg, if_pos q5]
      exact hq
    · obtain ⟨vm2, hW2, hgo⟩ := ih hrec (S.setVm (S.vm.noted f.method.cls x.catchType (.cls c))) hW' hcell
      refine ⟨vm2, hW2, fun Q E d acts hq => ?_⟩
      rw [step]
      obtain ⟨x1, y1, q1, q2, q3⟩ := mj_notcast (hnc _ _ hnar)
      have e1 : x1 = cell.cls := by
        have := hal.findClass X none
        rw [q1] at this
        exact Option.some.inj (this.symm.trans hcls)
      have e2 : y1 = c := by
        have := hal.findClass C none
        rw [q2] at this
        exact Option.some.inj (this.symm.trans hfc)
      subst e1
      subst e2
      have e3 : s.vm.assignable cell.cls y1 = false := by rw [hal.assignable]; exact q3
      rw [hasg, e3, if_neg (by decide)]
      exact hgo Q E d acts hq
section MJH
variable {g : mj_G} {Y Y' : mj_Y} {d kc ks pc : Nat} {lv : mj_L} {st : List mj_V} {M : mj_M} {Post : mj_O → mj_M → Prop}
set_option maxHeartbeats 2000000 in
theorem mj_callVT {d' kc' ks' kc2 ks2 idx n p0 ci : Nat} {vs stk : List mj_V} {fl : List (String × String × Bool)} {fs : List mj_V} {hs0 : List (Nat × Nat × Nat × Nat)} (hd : decode Y.2.2.1 pc = .ok (.invokevirtual idx, 3)) (hy : mj_yk Y' n) (hl : Cond.methodLink Y.1 idx Y'.2.1 ∈ mj_tbl) (hs : Cond.instanceMethod Y'.2.1 ∈ mj_tbl) (hse : Cond.selects Y'.1 Y'.2.1 Y'.2.1 ∈ mj_tbl)
    (hcw : Cond.codeWith Y.2.1 Y.2.2.1 Y.2.2.2.1 Y.2.2.2.2 hs0 ∈ mj_tbl) (hc : mj_cf[ci]? = some (Y'.1, fl)) (hM0 : M[p0]? = some (.inr (.inr (ci, fs)))) (hstk : stk = vs.reverse ++ .inr (.inr (.inl (some (p0, 0)))) :: st) (hn : vs.length = n) (he : (mj_e1 (.inr (.inr (.inl (some (p0, 0)))) :: vs)).length ≤ Y'.2.2.2.1) (hst : (st.map mj_cat).sum ≤ 8)
    (k : mj_J g Y' d' kc' ks' (0, mj_ent (.inr (.inr (.inl (some (p0, 0)))) :: vs) Y'.2.2.2.1, [], M) (fun r M1 => (∃ v, r = .inl v ∧ mj_J g Y (d' + 1) kc2 ks2 (pc + 3, lv, v.toList ++ st, M1) Post) ∨ ∃ (q cx hpc : Nat) (X : String) (fx : List mj_V), r = .inr q ∧ M1[q]? = some (.inr (.inr (cx, fx))) ∧ mj_cf[cx]? = some (X, []) ∧ mj_hf Y.1 pc X hpc hs0 ∧ mj_J g Y (d' + 1) kc2 ks2 (hpc, lv, [.inr (.inr (.inl (some (q, 0))))], M1) Post)) : mj_J g Y (d' + 1) (kc' + kc2) (ks' + ks2) (pc, lv, stk, M) Post := by
  intro hG p e R s m args below meth c H ls locs cells slots hK
  subst hstk
  obtain ⟨hr, hr1, hr2, hr3, hr4⟩ := mj_room (kc' := kc') (ks' := ks') hK hy
  have hts := hK.1.2.2.2.2.1
  have hM := mj_metT hG (Cond.code Y'.2.1 Y'.2.2.1 Y'.2.2.2.1 Y'.2.2.2.2) (fun a s1 m1 h1 h2 => by
    obtain ⟨meth, c, q1, q2, q3, q4, q5, q6, -, -⟩ := Cond.code_spec h2 h1
    exact ⟨meth, c, q1, q2, q3, q4, q5, q6⟩) hy.2.2.1.1 hy.2.2.1.2.1 he k
  have hz : g.2.2.1.heap.size ≤ H.size := by rw [hK.2.2.1.1]; exact Nat.le_add_right _ _
  have hKs : va_K g.2.1 mj_cls [] s := hG.1.moved hK.1.2.2.2.2.2.2.2.2.1
  obtain ⟨-, hfc, -⟩ := hKs.1 ci _ (mj_cls_at hc)
  have hfc' : s.vm.findClass Y'.1 = some (g.2.1.1 ci) := hfc
  obtain ⟨r0, hr0, cell, q1, q2, q3, q4⟩ := hK.2.2.1.2 p0 _ hM0
  intro T hT X
  obtain ⟨mk, methM, hnamed, hmethM, hstM, habM⟩ := Cond.instanceMethod_spec (hts _ hs)
  obtain ⟨methM', cM, hmethM', hcM, -, hlM, -, -, -, hsigM⟩ := Cond.code_spec hnamed hr1
  cases hmethM.symm.trans hmethM'
  obtain ⟨c2, r2, m2, w1, w2, w3, w4, kP, hkP, hkPi⟩ := Cond.selects_spec (hts _ hse)
  cases (hfc'.symm.trans w1)
  cases (State.methodFound?_of_named hnamed hr3).symm.trans w2
  cases hnamed.symm.trans w3
  have hselP : selectMethod e.platform s.vm cell.cls mk = .method mk := by rw [Launch.admits_selectMethod X.admits, q2]; exact w4
  have hstack : (F0 m pc ls ((vs.reverse ++ .inr (.inr (.inl (some (p0, 0)))) :: st).map (mj_tr g.2.2.2.1 g.2.2.1.heap.size))).stack = (vs.map (mj_tr g.2.2.2.1 g.2.2.1.heap.size)).reverse ++ .ref (g.2.2.1.heap.size + mj_o p0) :: st.map (mj_tr g.2.2.2.1 g.2.2.1.heap.size) := by
    show (vs.reverse ++ .inr (.inr (.inl (some (p0, 0)))) :: st).map _ = _
    rw [List.map_append, List.map_reverse]
    rfl
  have hcB : T.heap[g.2.2.1.heap.size + mj_o p0]? = some cell := by rw [hT]; exact q1
  have hdg : decode c.code pc = .ok (.invokevirtual idx, 3) := by rw [hK.1.2.1]; exact hd
  obtain ⟨vm₁, X₁, hstep₁⟩ := X.invokevirtual hK.1.1 hK.1.2.2.2.1 (hts _ hl) hnamed hmethM hstM hkP hkPi hr3 (a := g.2.2.1.heap.size + mj_o p0) (cell := cell) hcB (fun z h => by rw [q3] at h; cases h) hselP hmethM habM hkP hkPi
    (g := F0 m pc ls ((vs.reverse ++ .inr (.inr (.inl (some (p0, 0)))) :: st).map (mj_tr g.2.2.2.1 g.2.2.1.heap.size))) rfl (argsL := vs.map (mj_tr g.2.2.2.1 g.2.2.1.heap.size)) (rest := st.map (mj_tr g.2.2.2.1 g.2.2.1.heap.size)) (by rw [List.length_map, hn]; exact hr4 _ hsigM) hstack hdg
  have hnU := X₁.named hnamed
  obtain ⟨kY, hkY, -⟩ := className_of_methodNamed hnU
  have hU := X₁.warmed
  have hinit : kY.init = .initialized := Cond.initialized_spec (args := args) (findClass_of_methodNamed hnU) hkY (by
    have h1 := mj_warm (a' := args) (U := T.setVm vm₁) hy.2.1 (hts _ hy.2.1) hU
    rw [hy.2.2.1.1]; exact h1)
  obtain ⟨o, s₂, hsteps, ⟨hq, L, hfe, hL⟩, hB⟩ := mj_back (W := 8) (ig := .invokevirtual idx) (g := F0 m pc ls (st.map (mj_tr g.2.2.2.1 g.2.2.1.heap.size))) (a := (Value.ref (g.2.2.1.heap.size + mj_o p0) :: vs.map (mj_tr g.2.2.2.1 g.2.2.1.heap.size)).toArray) X₁ hM rfl (hK.2.2.2.2.1.1.1.trans (hK.2.2.2.2.1.2.trans hK.1.2.2.1.symm)) hdg
    (lv_room (by rw [mj_cats]; exact hst)) hnU hr.2.2.1 (by show 8 + (cM.maxLocals + 11) + _ ≤ _; rw [hlM]; exact hr.2.2.2.1) (by have := hK.2.1.2.2.1; show cells + kc' ≤ R.cells; omega) (by have := hK.2.1.2.2.2; show slots + ks' ≤ R.slots; omega)
    (by rw [hU.alike.method?]; exact hmethM) hcM rfl hkY hinit (atoms_intro (fun w hw => hr.2.2.2.2.1 w hw _ _ hU)) (mj_Pc_blind _ _ _ _ _ _ _ (mj_pre hK (.inr (.inr (.inl (some (p0, 0)))) :: vs) hz (T.setVm vm₁) hT hU))
  obtain ⟨B, hBh, hBv, XB, hBr, hBt⟩ := hB L kc' ks' hfe
  obtain ⟨r, M1, hp, hm, hw1, hold⟩ := hq
  have hK' : ∀ B' : State, B'.heap = B.heap → mj_K g Y (d' + 1) kc2 ks2 lv M1 p R s m args meth c B'.heap ls (locs ++ L) (cells + kc') (slots + ks') := fun B' hB' =>
    ⟨hK.1, ⟨hK.2.1.1, hK.2.1.2.1, by have := hK.2.1.2.2.1; omega, by have := hK.2.1.2.2.2; omega⟩, by rw [hB', hBh]; exact hw1, fun q hq => by rw [hB', hBh]; exact hold q hq, hK.2.2.2.2.1, fun q hq => (List.mem_append.mp hq).elim (hK.2.2.2.2.2 q) (hL q)⟩
  rcases hp with ⟨v', rfl, hJ⟩ | ⟨q, cx, hpc, X0, fx, rfl, hMq, hcx, hhf, hJ⟩
  · have hs2 := hBr _ hm
    obtain ⟨t2, a1, b1⟩ := hJ hG p e R s m args below meth c B.heap ls _ _ _ (hK' B rfl) B rfl XB
    refine ⟨t2, hstep₁ _ fun acts => ?_, ?_⟩
    · rw [doInvoke_state]
      refine hsteps.trans ?_
      rw [hs2]
      have e3 : (v'.toList ++ st).map (mj_tr g.2.2.2.1 g.2.2.1.heap.size) = (v'.map (mj_tr g.2.2.2.1 g.2.2.1.heap.size)).toList ++ st.map (mj_tr g.2.2.2.1 g.2.2.1.heap.size) := by cases v' <;> rfl
      show Steps p.tables e below (B.setTop (F0 m (pc + 3) ls ((v'.map (mj_tr g.2.2.2.1 g.2.2.1.heap.size)).toList ++ st.map (mj_tr g.2.2.2.1 g.2.2.1.heap.size)))) t2
      rw [← e3]
      exact a1
    · rw [← Nat.add_assoc, ← Nat.add_assoc]
      exact b1
  · have hs2 := hBt _ hm
    obtain ⟨rx, hrx, cellX, x1, x2, x3, x4⟩ := hw1.2 q _ hMq
    obtain ⟨-, hfx, -⟩ := hKs.1 cx _ (mj_cls_at hcx)
    have hfx' : s.vm.findClass X0 = some cellX.cls := by rw [x2]; exact hfx
    obtain ⟨m3, meth3, c3, n1, n2, n3, n4, n5, n6, -⟩ := Cond.codeWith_spec (hts _ hcw)
    cases hK.1.2.2.2.2.2.2.2.2.2.2.symm.trans n1
    cases X.method.symm.trans n2
    cases X.code.symm.trans n3
    have hpl : e.platform.magicAccessors = ({} : Platform).magicAccessors := by rw [X.admits.platform]
    rw [← n6] at hhf
    obtain ⟨vm', hWv, hgo⟩ := mj_find (g := g) (e := e) (s := s) (args := args) (f := F0 m pc ls (st.map (mj_tr g.2.2.2.1 g.2.2.1.heap.size))) (a := g.2.2.1.heap.size + mj_o q) (own := Y.1) (hpc := hpc) hpl hK.1.2.2.2.1 hts hK.1.2.2.2.2.2.2.2.2.1 hG.2.2.2.2.2.2 hfx' x3 c.exceptionTable.toList hhf
      ((B.setTop (F0 m pc ls (st.map (mj_tr g.2.2.2.1 g.2.2.1.heap.size)))).pushFrame (.throwing (g.2.2.1.heap.size + mj_o q))) (by rw [Stand.throwing_vm]; exact XB.warmed) (by rw [Stand.throwing_heap, hBh]; exact x1)
    have hfind : mj_Fv e ((B.setTop (F0 m pc ls (st.map (mj_tr g.2.2.2.1 g.2.2.1.heap.size)))).pushFrame (.throwing (g.2.2.1.heap.size + mj_o q))) (F0 m pc ls (st.map (mj_tr g.2.2.2.1 g.2.2.1.heap.size))) (g.2.2.1.heap.size + mj_o q) hpc vm' := by
      intro Q E d acts hq
      rw [W.findHandler_eq (meth := meth) (code := c) (by rw [Stand.throwing_vm]; exact XB.method') XB.code]
      exact hgo Q E d acts hq
    have XC := XB.noted hWv
    obtain ⟨t2, a1, b1⟩ := hJ hG p e R s m args below meth c (B.setVm vm').heap ls _ _ _ (hK' (B.setVm vm') rfl) (B.setVm vm') rfl XC
    refine ⟨t2, hstep₁ _ fun acts => ?_, ?_⟩
    · rw [doInvoke_state]
      refine hsteps.trans ?_
      rw [hs2]
      exact mj_caught (g := F0 m pc ls (st.map (mj_tr g.2.2.2.1 g.2.2.1.heap.size))) XB.here hfind a1
    · rw [← Nat.add_assoc, ← Nat.add_assoc]
      exact b1
end MJH
