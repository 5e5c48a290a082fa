/-! ===== a static method with handlers is called ===== -/
def mj_yw (Y : mj_Y) (n : Nat) (hs0 : List (Nat × Nat × Nat × Nat)) : Prop := Cond.codeWith Y.2.1 Y.2.2.1 Y.2.2.2.1 Y.2.2.2.2 hs0 ∈ mj_tbl ∧ Cond.initialized Y.1 ∈ mj_tbl ∧ (Y.2.1.cls = Y.1 ∧ plainName Y.1 = true ∧ Y.1 ≠ "java/lang/invoke/MethodHandle" ∧ Y.1 ≠ "java/lang/invoke/VarHandle") ∧ Y.2.2.2.1 ≤ 21 ∧ (parseMethodDescriptor Y.2.1.desc).map (fun q => q.parameters.length) = some n
section MJI
variable {g : mj_G} {Y Y' : mj_Y} {d kc ks pc : Nat} {lv : mj_L} {st : List mj_V} {M : mj_M} {Post : mj_O → mj_M → Prop}
set_option maxHeartbeats 2000000 in
theorem mj_callSW {d' kc' ks' kc2 ks2 idx n : Nat} {vs stk : List mj_V} {hs0 : List (Nat × Nat × Nat × Nat)} (hd : decode Y.2.2.1 pc = .ok (.invokestatic idx, 3)) (hy : mj_yw Y' n hs0) (hl : Cond.methodLink Y.1 idx Y'.2.1 ∈ mj_tbl) (hs : Cond.static Y'.2.1 ∈ mj_tbl)
    (hstk : stk = vs.reverse ++ st) (hn : vs.length = n) (he : (mj_e1 vs).length ≤ Y'.2.2.2.1) (hst : (st.map mj_cat).sum ≤ 8)
    (k : mj_J g Y' d' kc' ks' (0, mj_ent vs Y'.2.2.2.1, [], M) (fun r M1 => ∃ v, r = .inl v ∧ mj_J g Y (d' + 1) kc2 ks2 (pc + 3, lv, v.toList ++ st, M1) Post)) : mj_J g Y (d' + 1) (kc' + kc2) (ks' + ks2) (pc, lv, stk, M) Post := by
  intro hG p e R s m args below meth c H ls locs cells slots hK
  subst hstk
  have hts := hK.1.2.2.2.2.1
  obtain ⟨y1, y2, ⟨y3, y4, y5, y6⟩, y7, y8⟩ := hy
  have hM := mj_metT hG (Cond.codeWith Y'.2.1 Y'.2.2.1 Y'.2.2.2.1 Y'.2.2.2.2 hs0) (fun a s1 m1 h1 h2 => by
    obtain ⟨m2, meth, c, q0, q1, q2, q3, q4, -, q5, q6, -⟩ := Cond.codeWith_spec h1
    cases h2.symm.trans q0
    exact ⟨meth, c, q1, q2, q3, q4, q5, q6⟩) y3 y4 he k
  have hz : g.2.2.1.heap.size ≤ H.size := by rw [hK.2.2.1.1]; exact Nat.le_add_right _ _
  have hyy : Y'.2.1.cls ≠ "java/lang/invoke/MethodHandle" ∧ Y'.2.1.cls ≠ "java/lang/invoke/VarHandle" := by rw [y3]; exact ⟨y5, y6⟩
  intro T hT X
  obtain ⟨mk, methM, cM, hnamed, hmethM, hcM, -, hlM, -, -, -, hsigM⟩ := Cond.codeWith_spec (hts _ y1)
  have hstatic : methM.isStatic = true := Cond.static_spec hnamed hmethM (hts _ hs)
  obtain ⟨kP, hkP, -⟩ := className_of_methodNamed hnamed
  have hinitP : kP.init = .initialized := Cond.initialized_spec (args := args) (findClass_of_methodNamed hnamed) hkP (by rw [y3]; exact hts _ y2)
  have hstack : (F0 m pc ls ((vs.reverse ++ st).map (mj_tr g.2.2.2.1 g.2.2.1.heap.size))).stack = (vs.map (mj_tr g.2.2.2.1 g.2.2.1.heap.size)).reverse ++ st.map (mj_tr g.2.2.2.1 g.2.2.1.heap.size) := by
    show (vs.reverse ++ st).map _ = _
    rw [List.map_append, List.map_reverse]
  have hdg : decode c.code pc = .ok (.invokestatic idx, 3) := by rw [hK.1.2.1]; exact hd
  have hlen : vs.length = methM.sig.parameters.length := by
    rw [hn]
    rw [hsigM] at y8
    exact (Option.some.inj y8).symm
  obtain ⟨vm₁, X₁, hstep₁⟩ := X.invokestatic hK.1.1 hK.1.2.2.2.1 (hts _ hl) hnamed hmethM hstatic hkP hinitP hyy
    (g := F0 m pc ls ((vs.reverse ++ st).map (mj_tr g.2.2.2.1 g.2.2.1.heap.size))) rfl (argsL := vs.map (mj_tr g.2.2.2.1 g.2.2.1.heap.size)) (rest := st.map (mj_tr g.2.2.2.1 g.2.2.1.heap.size)) (by rw [List.length_map]; exact hlen) hstack hdg
  have hnU := X₁.named hnamed
  obtain ⟨kY, hkY, -⟩ := className_of_methodNamed hnU
  have hU := X₁.warmed
  have hinit : kY.init = .initialized := Cond.initialized_spec (args := args) (findClass_of_methodNamed hnU) hkY (by
    have h1 := mj_warm (a' := args) (U := T.setVm vm₁) y2 (hts _ y2) hU
    rw [y3]; exact h1)
  have hrm := hK.2.1
  obtain ⟨o, s₂, hsteps, ⟨hq, L, hfe, hL⟩, hB⟩ := mj_back (W := 8) (ig := .invokestatic idx) (g := F0 m pc ls (st.map (mj_tr g.2.2.2.1 g.2.2.1.heap.size))) (a := (vs.map (mj_tr g.2.2.2.1 g.2.2.1.heap.size)).toArray) X₁ hM rfl (hK.2.2.2.2.1.1.1.trans (hK.2.2.2.2.1.2.trans hK.1.2.2.1.symm)) hdg
    (lv_room (by rw [mj_cats]; exact hst)) hnU (by show d' + 1 ≤ R.frames; exact hrm.1) (by show 8 + (cM.maxLocals + 11) + 40 * d' ≤ R.locals; rw [hlM]; have := hrm.2.1; omega) (by have := hrm.2.2.1; show cells + kc' ≤ R.cells; omega) (by have := hrm.2.2.2; show slots + ks' ≤ R.slots; omega)
    (by rw [hU.alike.method?]; exact hmethM) hcM rfl hkY hinit (atoms_intro (fun w hw => (List.mem_cons.mp hw).elim (fun q => by rw [q]; exact mj_warm y1 (hts _ y1) hU) (fun q => mj_warm q (hts _ q) hU))) (mj_Pc_blind _ _ _ _ _ _ _ (mj_pre hK vs hz (T.setVm vm₁) hT hU))
  obtain ⟨B, hBh, hBv, XB, hBr, hBt⟩ := hB L kc' ks' hfe
  obtain ⟨r, M1, hp, hm, hw1, hold⟩ := hq
  have hK' : mj_K g Y (d' + 1) kc2 ks2 lv M1 p R s m args meth c B.heap ls (locs ++ L) (cells + kc') (slots + ks') :=
    ⟨hK.1, ⟨hK.2.1.1, hK.2.1.2.1, by have := hK.2.1.2.2.1; omega, by have := hK.2.1.2.2.2; omega⟩, by rw [hBh]; exact hw1, fun q hq => by rw [hBh]; exact hold q hq, hK.2.2.2.2.1, fun q hq => (List.mem_append.mp hq).elim (hK.2.2.2.2.2 q) (hL q)⟩
  obtain ⟨v', rfl, hJ⟩ := hp
  have hs2 := hBr _ hm
  obtain ⟨t2, a1, b1⟩ := hJ hG p e R s m args below meth c B.heap ls _ _ _ hK' B rfl XB
  refine ⟨t2, hstep₁ _ fun acts => ?_, ?_⟩
  · rw [doInvoke_state]
    refine hsteps.trans ?_
    rw [hs2]
    have e3 : (v'.toList ++ st).map (mj_tr g.2.2.2.1 g.2.2.1.heap.size) = (v'.map (mj_tr g.2.2.2.1 g.2.2.1.heap.size)).toList ++ st.map (mj_tr g.2.2.2.1 g.2.2.1.heap.size) := by cases v' <;> rfl
    show Steps p.tables e below (B.setTop (F0 m (pc + 3) ls ((v'.map (mj_tr g.2.2.2.1 g.2.2.1.heap.size)).toList ++ st.map (mj_tr g.2.2.2.1 g.2.2.1.heap.size)))) t2
    rw [← e3]
    exact a1
  · rw [← Nat.add_assoc, ← Nat.add_assoc]
    exact b1
end MJI
