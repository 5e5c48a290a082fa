/-! ===== the small machine: a new exception is thrown ===== -/
def mj_tN : String := "java/lang/Throwable"
def mj_sta : List Cond := [.laysStatic "java/lang/Throwable" "UNASSIGNED_STACK" "[Ljava/lang/StackTraceElement;", .laysStatic "java/lang/Throwable" "SUPPRESSED_SENTINEL" "Ljava/util/List;", .isRef (.static "java/lang/Throwable" "UNASSIGNED_STACK" "[Ljava/lang/StackTraceElement;"), .isRef (.static "java/lang/Throwable" "SUPPRESSED_SENTINEL" "Ljava/util/List;")]
theorem mj_isRef_moved {C f d : String} {a a' : Array Value} {u U : State} (hvm : u.vm.Alike U.vm) (ho : ∀ q, q < u.heap.size → U.heap[q]? = u.heap[q]?) (h : (Cond.isRef (.static C f d)).before a u = true) : (Cond.isRef (.static C f d)).before a' U = true := by
  obtain ⟨v, hv, hr⟩ := Cond.isRef_spec h
  simp only [Term.eval, State.fieldNamed?, Option.bind_eq_bind, Option.bind_eq_some_iff, Option.pure_def] at hv
  obtain ⟨⟨c0, k0, s0⟩, ⟨⟨c1, k1, i1, f1⟩, hf, h2⟩, ad, had, cell, hcell, h4⟩ := hv
  obtain ⟨k', hf', he⟩ := State.fieldFound?_setVm (s := u) hvm hf
  have hf2 : U.fieldFound? C f d = some (c1, k', i1, f1) := by simpa only [State.fieldFound?, State.vm_setVm] using hf'
  simp only at h2 had h4
  split at h2
  · rename_i hst
    cases h2
    have hk : k'.statics = some ad := by rw [he]; exact had
    have hlt : ad < u.heap.size := (Array.getElem?_eq_some_iff.mp hcell).1
    have e : (Term.static C f d).eval a' U none [] U = some v := by
      simp only [Term.eval, State.fieldNamed?, Option.bind_eq_bind, hf2, Option.bind_some, hst, if_true, Option.pure_def, hk, ho ad hlt, hcell]
      exact h4
    simp only [Cond.before, Cond.holds, Cond.value, e]
    cases v <;> first | rfl | (simp [Value.isRef] at hr)
  · cases h2
theorem mj_laysStatic_moved {C f d : String} {a a' : Array Value} {u U : State} (hvm : u.vm.Alike U.vm) (ho : ∀ q, q < u.heap.size → U.heap[q]? = u.heap[q]?) (h : (Cond.laysStatic C f d).before a u = true) : (Cond.laysStatic C f d).before a' U = true := by
  obtain ⟨c, k, i, fd, ad, cell, hc, hi, hst, ha, hcell, hs, hcls, hlt, hty⟩ := Cond.laysStatic_spec h
  obtain ⟨k', hi', hek⟩ := State.fieldFound?_setVm (s := u) hvm hi
  have hi2 : U.fieldFound? C f d = some (c, k', i, fd) := by simpa only [State.fieldFound?, State.vm_setVm] using hi'
  exact Cond.laysStatic_of (s := U) (by rw [hvm.findClass]; exact hc) hi2 hst (by rw [hek]; exact ha) (by rw [ho ad (Array.getElem?_eq_some_iff.mp hcell).1]; exact hcell) hs hcls hlt (by rw [hek]; exact hty)
theorem mj_same_base {T u : State} {F : List Frame} {L : List Loc} {c n : Nat} (h : (T.setFrames F).sameButNew u L c n) : T.sameButNew u L c n := by
  obtain ⟨h1, h2⟩ := h
  rw [State.setFrames_setFrames] at h1
  exact ⟨h1, h2⟩
section MJT
variable {p : Program} {l : Launch} {e : Env} {R R' : Room} {s : State} {m : MethodId} {args : Array Value} {below : List Frame} {meth : Method} {c : Code} {T : State} {locs : List Loc} {cells slots : Nat}
/-- the walk seen from here on: what was written before is old -/
theorem mj_rebase (X : Stand p l e R s m args below meth c T locs cells slots) (h1 : R'.frames ≤ R.frames) (h2 : R'.locals ≤ R.locals) (h3 : cells + R'.cells ≤ R.cells) (h4 : slots + R'.slots ≤ R.slots) :
    Stand p l e R' (T.setFrames (.invoking m args :: below)) m args below meth c T [] 0 0 := by
  obtain ⟨g₀, hfr⟩ := X.frames_eq
  have hcur : T.cur < T.threads.size := State.cur_lt_of_frames hfr
  have hfs : (T.setFrames (.invoking m args :: below)).frames = .invoking m args :: below := State.frames_setFrames _ hcur
  obtain ⟨t, ht, -⟩ := State.frames_cons hfs
  have hvm : (T.setFrames (.invoking m args :: below)).vm = T.vm := rfl
  have hal := X.warmed.alike
  have hin : (T.setFrames (.invoking m args :: below)).localsInUse = s.localsInUse := by
    unfold State.localsInUse
    rw [hfs, X.frames]
    simp only [hvm, X.method', X.method]
  refine ⟨X.admits, X.cas, X.clock, hfs, ?_, ?_, X.method', X.code, X.here, X.tail, State.WarmedH.refl _, ?_, ?_, ?_⟩
  · have h := X.room
    have h5 := X.heapSize
    have h6 := X.used
    have h7 := X.book
    have hb := X.bytes
    have hlim := X.limits
    simp only [State.hasRoom, Bool.and_eq_true, decide_eq_true_eq] at h ⊢
    rw [hin, hfs, State.stackLimits_setFrames, State.stackBytes_setFrames, hlim, hb]
    rw [X.frames] at h
    refine ⟨⟨⟨⟨by omega, by omega, by omega, by omega, by omega, h.1.1.1.2.2.2.2.2⟩, ?_⟩, ?_⟩, h7⟩
    · show T.heap.size + R'.cells ≤ _
      omega
    · show T.slotsUsed + R'.slots ≤ _
      omega
  · have h := X.hears
    unfold State.hears at h ⊢
    split
    · rename_i g r
      have e1 : (T.setFrames (.invoking m args :: .java g :: r)).code? g.method = s.code? g.method := by
        rw [State.code?_eq, State.code?_eq]
        show (T.vm.method? g.method).bind _ = _
        rw [hal.method?]
      rw [e1]
      exact h
    · rfl
    · rfl
    · rename_i n1 n2 n3
      show (T.vm.method? m).any _ = true
      rw [hal.method?]
      split at h
      · exact absurd rfl (n1 _ _)
      · exact absurd rfl (n2 _ _)
      · exact absurd rfl (n3 _ _)
      · exact h
  · rw [State.stackLimits_setFrames]
  · rw [State.stackBytes_setFrames]
  · have h := (State.sameButNew.refl (T.setFrames (.invoking m args :: below)) ht).setFrames (.java g₀ :: below) (State.cur_lt_of_frames hfs)
    rw [State.setFrames_setFrames] at h
    have e1 : T.setFrames (.java g₀ :: below) = T := by
      obtain ⟨t', ht', -⟩ := State.frames_cons hfr
      rw [← hfr]
      exact State.setFrames_self ht'
    rw [e1] at h
    exact h
end MJT
theorem mj_o_succ {p : Nat} (h : 9 < p) : mj_o (p + 1) = mj_o p + 1 := by
  have h1 : 7 < p + 1 := by omega
  have h2 : 9 < p + 1 := by omega
  have h3 : 7 < p := by omega
  unfold mj_o
  rw [if_pos h1, if_pos h2, if_pos h3, if_pos h]
section MJX
variable {g : mj_G} {Y : mj_Y} {d kc ks pc : Nat} {lv : mj_L} {st : List mj_V} {M : mj_M} {Post : mj_O → mj_M → Prop}
set_option maxHeartbeats 2000000 in
theorem mj_r_throw {ci idx ic : Nat} {X : String} {names : List String} (hd0 : decode Y.2.2.1 pc = .ok (.new idx, 3)) (hd1 : decode Y.2.2.1 (pc + 3) = .ok (.dup, 1)) (hd2 : decode Y.2.2.1 (pc + 3 + 1) = .ok (.invokespecial ic, 3)) (hd3 : decode Y.2.2.1 (pc + 3 + 1 + 3) = .ok (.athrow, 1))
    (hc : mj_cf[ci]? = some (X, [])) (hcl : Cond.classLink Y.1 idx X ∈ mj_tbl) (hin : Cond.instantiable X 6 ∈ mj_tbl) (hini : Cond.initialized X ∈ mj_tbl) (hfit : Bundle.fit X = true) (hfn : ∀ n ∈ names, Bundle.fit n = true)
    (hat : ∀ a ∈ Bundle.ownAtoms0 Y.1 ic X names, a ∈ mj_tbl ∨ a ∈ mj_sta) (hcode : Cond.code Y.2.1 Y.2.2.1 Y.2.2.2.1 Y.2.2.2.2 ∈ mj_tbl) (hlen : names.length + 4 ≤ d) (hkc : 1 ≤ kc) (hks : 6 ≤ ks) (hst : (st.map mj_cat).sum ≤ 8) (h9 : 9 < M.length)
    (hp : Post (.inr M.length) (M ++ [.inr (.inr (ci, []))])) : mj_J g Y d kc ks (pc, lv, st, M) Post := by
  intro hG p e R s m args below meth c H ls locs cells slots hK
  intro T hT XT
  have hts := hK.1.2.2.2.2.1
  have hrm := hK.2.1
  obtain ⟨R', hR'⟩ : ∃ R' : Room, R' = { frames := R.frames, locals := R.locals, cells := 1, slots := 6 } := ⟨_, rfl⟩
  have XB := mj_rebase (R' := R') XT (by rw [hR']; exact Nat.le_refl _) (by rw [hR']; exact Nat.le_refl _) (by rw [hR']; show cells + 1 ≤ R.cells; omega) (by rw [hR']; show slots + 6 ≤ R.slots; omega)
  obtain ⟨s', hs'⟩ : ∃ s' : State, s' = T.setFrames (.invoking m args :: below) := ⟨_, rfl⟩
  rw [← hs'] at XB
  have hvm' : s'.vm = T.vm := by rw [hs']; rfl
  have hheap' : s'.heap = T.heap := by rw [hs']; rfl
  have hW0 : s.WarmedH s'.vm := by rw [hvm']; exact XT.warmed
  have hts' : ∀ w ∈ mj_tbl, w.before args s' = true := fun w hw => mj_warm hw (hts w hw) hW0
  have hal' : g.2.2.1.vm.Alike s'.vm := hK.1.2.2.2.2.2.2.2.2.1.trans hW0.alike
  have hold' : ∀ q, q < g.2.2.1.heap.size → s'.heap[q]? = g.2.2.1.heap[q]? := fun q hq => by rw [hheap', hT]; exact hK.2.2.2.1 q hq
  have hown' : s'.vm.findClass Y.1 = some m.cls := by rw [hW0.alike.findClass]; exact hK.1.2.2.2.1
  have hKs : va_K g.2.1 mj_cls [] s' := hG.1.moved hal'
  obtain ⟨-, hfc, -⟩ := hKs.1 ci _ (mj_cls_at hc)
  have hfc' : s'.vm.findClass X = some (g.2.1.1 ci) := hfc
  have hsta : ∀ w ∈ mj_sta, w.before args s' = true := by
    have hfl := flat_of_before _ hG.2.2.2.2.2.2
    have hw0 := hG.2.2.2.2.1
    intro w hw
    simp only [mj_sta, List.mem_cons, List.not_mem_nil, or_false] at hw
    rcases hw with rfl | rfl | rfl | rfl
    · exact mj_laysStatic_moved hal' hold' (hw0 _ (by decide +kernel))
    · exact mj_laysStatic_moved hal' hold' (hw0 _ (by decide +kernel))
    · exact mj_isRef_moved hal' hold' (hfl _ (by decide +kernel))
    · exact mj_isRef_moved hal' hold' (hfl _ (by decide +kernel))
  have hatoms : ∀ a ∈ Bundle.ownAtoms0 Y.1 ic X names, a.before args s' = true := fun a ha => (hat a ha).elim (hts' a) (hsta a)
  have htr : e.platform.stackTraces = false := by rw [XT.admits.platform]; exact hG.2.2.2.2.2.1
  have hout : ∀ x ∈ c.exceptionTable.toList, covers x (pc + 3 + 1 + 3) = false := by
    obtain ⟨meth', c', h1, h2, -, -, -, -, h3, -⟩ := Cond.code_spec hK.1.2.2.2.2.2.2.2.2.2.2 (hts _ hcode)
    cases XT.method.symm.trans h1
    cases XT.code.symm.trans h2
    exact covers_of_empty h3 _
  have hsz : s'.heap.size = g.2.2.1.heap.size + mj_o M.length := by rw [hheap', hT]; exact hK.2.2.1.1
  have key : W p g.1 e R' s' m args below meth c s'.heap [] 0 0 (mj_Z g Post below s (cells + kc) (slots + ks)) (F0 m pc ls (st.map (mj_tr g.2.2.2.1 g.2.2.1.heap.size))) := by
    refine W.newcK hK.1.1 hK.1.2.1 hown' (hts' _ hcl) (hts' _ hin) (hts' _ hini) rfl hd0 (by rw [hR']; exact Nat.le_refl _) (by rw [hR']; exact Nat.le_refl _) hfc' rfl fun H1 kC hkC hc1 hsz1 hold1 => ?_
    refine lv_dup hK.1.1 hK.1.2.1 hd1 rfl ?_
    intro T1 hT1 X1
    obtain ⟨U, hsteps, hrun, hend, hW, hsame, ce, hce, K⟩ := X1.ctorThrow0 hK.1.1 htr (own := Y.1) (cls := X) (names := names) (ic := ic) hown' hfit hfn hatoms (fun x hx => by cases hx) hfc' hkC (by rw [hT1]; exact hc1) (Nat.le_refl _)
      (g := F0 m (pc + 3 + 1) ls (.ref s'.heap.size :: .ref s'.heap.size :: st.map (mj_tr g.2.2.2.1 g.2.2.1.heap.size))) rfl (hK.2.2.2.2.1.1.1.trans (hK.2.2.2.2.1.2.trans hK.1.2.2.1.symm)) rfl rfl (rest := st.map (mj_tr g.2.2.2.1 g.2.2.1.heap.size)) rfl
      (by rw [hK.1.2.1]; exact hd2) (by rw [hK.1.2.1]; exact hd3) hout (by rw [hR']; show names.length + 3 < R.frames; omega) (by
        rw [hR']
        show 2 * (F0 m (pc + 3 + 1) ls _).monitorRoom + _ + _ ≤ R.locals
        have e0 : (F0 m (pc + 3 + 1) ls (.ref s'.heap.size :: .ref s'.heap.size :: st.map (mj_tr g.2.2.2.1 g.2.2.1.heap.size))).monitorRoom = 0 := rfl
        rw [e0, List.map_cons, List.sum_cons, mj_cats]
        show 2 * 0 + (1 + _) + _ ≤ R.locals
        omega) hK.1.2.2.2.2.2.1
    refine ⟨U, hsteps, .threw s'.heap.size, hrun, hend, ?_, State.WarmedH.trans (t := s') hW0 hW, locs, ?_, hK.2.2.2.2.2⟩
    · have hUsz : U.heap.size = s'.heap.size + 1 := by
        have h1 : U.heap.size ≤ s'.heap.size + (0 + 1) := hsame.2.2.1
        have h2 : s'.heap.size < U.heap.size := (Array.getElem?_eq_some_iff.mp hce).1
        omega
      have hkept : ∀ A : Nat, A < s'.heap.size → U.heap[A]? = T.heap[A]? := by
        intro A hA
        obtain ⟨cA, hcA⟩ : ∃ cA, s'.heap[A]? = some cA := ⟨_, Array.getElem?_eq_getElem hA⟩
        obtain ⟨c', h1, h2, h3, h4⟩ := hsame.2.2.2.2.2 A cA hcA
        have h5 : U.heap[A]? = some c' := h1
        have h6 : c'.slots = cA.slots := Array.ext_getElem? (fun i => h4 i (fun q => by cases q))
        rw [h5, h2, h6, ← hheap', hcA]
      refine ⟨.inr M.length, _, hp, by rw [hsz], ?_, fun q hq => ?_⟩
      · refine ⟨by rw [hUsz, hsz, List.length_append]; show _ = _ + mj_o (M.length + 1); rw [mj_o_succ h9]; omega, fun q c0 hq => ?_⟩
        by_cases hq1 : q < M.length
        · rw [List.getElem?_append_left hq1] at hq
          have h1 := hK.2.2.1.2 q c0 hq
          rw [← hT] at h1
          refine h1.kept fun A hA1 hA2 => hkept A ?_
          have := mj_o_lt hq1
          omega
        · have hq2 : q = M.length := by
            have h1 := (List.getElem?_eq_some_iff.mp hq).1
            rw [List.length_append] at h1
            have : [(.inr (.inr (ci, [])) : mj_C)].length = 1 := rfl
            omega
          subst hq2
          rw [List.getElem?_append_right (Nat.le_refl _), Nat.sub_self] at hq
          cases hq
          refine ⟨_, mj_cls_at hc, ce, by rw [← hsz]; exact hce, ?_, K.vm, fun k hk => absurd hk (Nat.not_lt_zero k)⟩
          exact Option.some.inj (K.cls.symm.trans hfc')
      · rw [hkept q (by omega), ← hheap']
        exact hold' q hq
    · have h1 := hsame.setVm s.vm
      rw [hs'] at h1
      have h2 : (T.setVm s.vm).sameButNew ({ U with vm := s.vm } : State) [] (0 + 1) (0 + 6) := mj_same_base (F := .invoking m args :: below) h1
      have h3 := XT.same.trans h2
      rw [List.append_nil] at h3
      exact h3.mono (by omega) (by omega)
  have hTs : T.heap = s'.heap := hheap'.symm
  obtain ⟨t, a1, b1⟩ := key T hTs XB
  exact ⟨t, a1, b1⟩
end MJX
