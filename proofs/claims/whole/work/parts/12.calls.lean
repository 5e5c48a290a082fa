/-! ===== the small machine: ends and calls ===== -/
theorem mj_mono {p : Program} {l : Launch} {e : Env} {R : Room} {s : State} {m : MethodId} {args : Array Value} {below : List Frame} {meth : Method} {c : Code} {H : Heap} {locs : List Loc} {cells slots : Nat} {Q Q' : State → Prop} {g : JFrame} (h : ∀ t, Q t → Q' t) (k : W p l e R s m args below meth c H locs cells slots Q g) : W p l e R s m args below meth c H locs cells slots Q' g := by
  intro T hT X
  obtain ⟨t, a, b⟩ := k T hT X
  exact ⟨t, a, h t b⟩
theorem mj_MQ_Z {g : mj_G} {Post : mj_O → mj_M → Prop} {below : List Frame} {s : State} {args : Array Value} {kc ks : Nat} {t : State} (h : MQ below (fun _ _ o t => mj_Q g Post o t) args s kc ks (fun q => g.2.2.1.heap.size ≤ q) t) : mj_Z g Post below s kc ks t := by
  obtain ⟨o, h1, h2, h3, L, ⟨-, h4, h5⟩, h6⟩ := h
  exact ⟨o, h1, h2, h3, h4, L, h5, h6⟩
section MJE
variable {g : mj_G} {Y : mj_Y} {d kc ks pc : Nat} {lv : mj_L} {st : List mj_V} {M : mj_M} {Post : mj_O → mj_M → Prop}
theorem mj_Q_of {p : Program} {R : Room} {s : State} {m : MethodId} {args : Array Value} {meth : Method} {c : Code} {H : Heap} {ls : Array Slot} {locs : List Loc} {cells slots : Nat} (hK : mj_K g Y d kc ks lv M p R s m args meth c H ls locs cells slots) {v : Option mj_V} (hp : Post (.inl v) M) {t : State} (ht : t.heap = H) : mj_Q g Post (.returned (v.map (mj_tr g.2.2.2.1 g.2.2.1.heap.size))) t :=
  ⟨.inl v, M, hp, rfl, by rw [ht]; exact hK.2.2.1, fun q hq => by rw [ht]; exact hK.2.2.2.1 q hq⟩
theorem mj_r_iret {x : Int} (hd : decode Y.2.2.1 pc = .ok (.ireturn, 1)) (hr : Y.2.2.2.2 = some .int) (hp : Post (.inl (some (.inl x))) M) : mj_J g Y d kc ks (pc, lv, [.inl x], M) Post := by
  intro hG p e R s m args below meth c H ls locs cells slots hK
  refine W.widen (k := cells + kc) (n := slots + ks) (Nat.le_add_right _ _) (Nat.le_add_right _ _) (mj_mono (fun t h => mj_MQ_Z (args := args) h) ?_)
  exact W.iret hK.1.1 hK.1.2.1 (hK.1.2.2.2.2.2.2.1.trans hr) (fun t ht _ => mj_Q_of (v := some (.inl x)) hK hp ht) hK.2.2.2.2.2 hd hK.1.2.2.2.2.2.1
theorem mj_r_zret {x : Int} (hd : decode Y.2.2.1 pc = .ok (.ireturn, 1)) (hr : Y.2.2.2.2 = some .boolean) (hx : x = 0 ∨ x = 1) (hp : Post (.inl (some (.inl x))) M) : mj_J g Y d kc ks (pc, lv, [.inl x], M) Post := by
  intro hG p e R s m args below meth c H ls locs cells slots hK
  refine W.widen (k := cells + kc) (n := slots + ks) (Nat.le_add_right _ _) (Nat.le_add_right _ _) (mj_mono (fun t h => mj_MQ_Z (args := args) h) ?_)
  exact W.zret hK.1.1 hK.1.2.1 (hK.1.2.2.2.2.2.2.1.trans hr) (mj_nb hx) (fun t ht _ => mj_Q_of (v := some (.inl x)) hK hp ht) hK.2.2.2.2.2 hd hK.1.2.2.2.2.2.1
theorem mj_r_lret {x : Int} (hd : decode Y.2.2.1 pc = .ok (.lreturn, 1)) (hr : Y.2.2.2.2 = some .long) (hp : Post (.inl (some (.inr (.inl x)))) M) : mj_J g Y d kc ks (pc, lv, [.inr (.inl x)], M) Post := by
  intro hG p e R s m args below meth c H ls locs cells slots hK
  refine W.widen (k := cells + kc) (n := slots + ks) (Nat.le_add_right _ _) (Nat.le_add_right _ _) (mj_mono (fun t h => mj_MQ_Z (args := args) h) ?_)
  exact W.lret hK.1.1 hK.1.2.1 (hK.1.2.2.2.2.2.2.1.trans hr) (fun t ht _ => mj_Q_of (v := some (.inr (.inl x))) hK hp ht) hK.2.2.2.2.2 hd hK.1.2.2.2.2.2.1
theorem mj_r_vret (hd : decode Y.2.2.1 pc = .ok (.return_, 1)) (hr : Y.2.2.2.2 = none) (hp : Post (.inl none) M) : mj_J g Y d kc ks (pc, lv, [], M) Post := by
  intro hG p e R s m args below meth c H ls locs cells slots hK
  refine W.widen (k := cells + kc) (n := slots + ks) (Nat.le_add_right _ _) (Nat.le_add_right _ _) (mj_mono (fun t h => mj_MQ_Z (args := args) h) ?_)
  exact W.vret hK.1.1 hK.1.2.1 (hK.1.2.2.2.2.2.2.1.trans hr) (fun t ht _ => mj_Q_of (v := none) hK hp ht) hK.2.2.2.2.2 hd hK.1.2.2.2.2.2.1
/-- fewer known locals -/
theorem mj_r_less {lv' : mj_L} (hl : lv'.length = lv.length) (h : ∀ (i : Nat) (w : mj_V), lv'[i]? = some (some w) → lv[i]? = some (some w)) (k : mj_J g Y d kc ks (pc, lv', st, M) Post) : mj_J g Y d kc ks (pc, lv, st, M) Post := by
  intro hG p e R s m args below meth c H ls locs cells slots hK
  have h1 := hK.2.2.2.2.1.1
  exact k hG p e R s m args below meth c H ls locs cells slots (hK.loc ⟨h1.1.trans hl.symm, h1.2.1, fun i w hw => h1.2.2 i w (h i w hw)⟩ hl)
theorem mj_J.weaken {S : mj_S} {Post' : mj_O → mj_M → Prop} (h : ∀ o M, Post' o M → Post o M) (k : mj_J g Y d kc ks S Post') : mj_J g Y d kc ks S Post := by
  intro hG p e R s m args below meth c H ls locs cells slots hK
  refine mj_mono ?_ (k hG p e R s m args below meth c H ls locs cells slots hK)
  rintro t ⟨o, h1, h2, ⟨r, M', h3, h4⟩, h5⟩
  exact ⟨o, h1, h2, ⟨r, M', h _ _ h3, h4⟩, h5⟩
end MJE
/-! ===== the words travel ===== -/
theorem mj_warm {w : Cond} (hw : w ∈ mj_tbl) {args a' : Array Value} {s U : State} (hb : w.before args s = true) (hW : s.WarmedH U.vm) : w.before a' U = true := by
  have h := (List.mem_filter.mp hw).2
  unfold mj_gw at h
  rcases Bool.or_eq_true_iff.mp h with h1 | h1
  · exact word_at hW (good_of_word h1) hb
  · rcases Bool.or_eq_true_iff.mp h1 with h2 | h2
    · obtain ⟨h3, h4⟩ := Bool.and_eq_true_iff.mp h2
      have h5 := Cond.faceAtom_setVm (args := args) hW.alike w h3 hb
      have h6 := Cond.onTables_vm (A := args) (A' := a') (U := s) (U' := U) U.vm w h4
      rw [h6] at h5
      exact h5
    · split at h2
      · exact va_Nw.use rfl (va_Nw.warmF hW (va_Nw.of rfl hb))
      · exact va_Nw.use rfl (va_Nw.warmM hW (va_Nw.of rfl hb))
      · exact over_moved hW.alike hb
      · cases h2
/-! ===== a method's entry ===== -/
def mj_e1 (vs : List mj_V) : mj_L := vs.flatMap fun w => if mj_cat w = 2 then [some w, none] else [some w]
def mj_ent (vs : List mj_V) (n : Nat) : mj_L := mj_e1 vs ++ List.replicate (n - (mj_e1 vs).length) none
def mj_ps (b z : Nat) : Option mj_V → Slot
  | some w => .val (mj_tr b z w)
  | none => .second
theorem mj_sl (b z : Nat) (vs : List mj_V) : lg_sl (vs.map (mj_tr b z)) = (mj_e1 vs).map (mj_ps b z) := by
  induction vs with
  | nil => rfl
  | cons w vs ih =>
    simp only [lg_sl, mj_e1, List.map_cons, List.flatMap_cons, List.map_append, mj_tr_cat] at ih ⊢
    rw [ih]
    congr 1
    split <;> rfl
theorem mj_ent_ls {b z n : Nat} {vs : List mj_V} (h : (mj_e1 vs).length ≤ n) : mj_ls b z ((lg_sl (vs.map (mj_tr b z)) ++ List.replicate (n - (lg_sl (vs.map (mj_tr b z))).length) Slot.unset).toArray) (mj_ent vs n) := by
  have h0 : (lg_sl (vs.map (mj_tr b z))).length ≤ n := by rw [mj_sl, List.length_map]; exact h
  have h1 := lv_entry (vs.map (mj_tr b z)) h0
  refine ⟨?_, h1.2.1, fun i w hw => ?_⟩
  · rw [h1.1, mj_ent, List.length_append, List.length_replicate]
    omega
  · unfold mj_ent at hw
    rw [List.getElem?_append] at hw
    rw [mj_sl]
    simp only [List.getElem?_toArray]
    split at hw
    · rename_i hi
      rw [List.getElem?_append_left (by rw [List.length_map]; exact hi), List.getElem?_map, hw]
      rfl
    · rw [List.getElem?_replicate] at hw
      split at hw <;> cases hw
def mj_ws (Y : mj_Y) : List Cond := Cond.code Y.2.1 Y.2.2.1 Y.2.2.2.1 Y.2.2.2.2 :: mj_tbl
def mj_Pc (g : mj_G) (M : mj_M) (vs : List mj_V) : Array Value → State → Prop := fun a U =>
  a = (vs.map (mj_tr g.2.2.2.1 g.2.2.1.heap.size)).toArray ∧ g.2.2.1.vm.Alike U.vm ∧ g.2.2.1.heap.size ≤ U.heap.size ∧ mj_W g.2.1 g.2.2.1 g.2.2.2.1 M U.heap ∧ ∀ q, q < g.2.2.1.heap.size → U.heap[q]? = g.2.2.1.heap[q]?
theorem mj_Pc_blind (g : mj_G) (M : mj_M) (vs : List mj_V) : FrameBlind (mj_Pc g M vs) := fun a U f mk h => h
def mj_rm (d kc ks : Nat) : Room := { frames := d, cells := kc, slots := ks, locals := 40 * d }
section MJC
variable {g : mj_G} {Y Y' : mj_Y} {d kc ks pc : Nat} {lv : mj_L} {st : List mj_V} {M : mj_M} {Post : mj_O → mj_M → Prop}
theorem mj_met (hG : mj_F g) {vs : List mj_V} (hY : Y.2.1.cls = Y.1) (hpl : plainName Y.1 = true) (hn : (mj_e1 vs).length ≤ Y.2.2.2.1) (k : mj_J g Y d kc ks (0, mj_ent vs Y.2.2.2.1, [], M) Post) (hnt : ∀ q M', ¬ Post (.inr q) M') :
    Met g.1 Y.2.1 (mj_ws Y) (mj_rm d kc ks) (mj_Pc g M vs) (fun _ _ o t => mj_Q g Post o t) kc ks (fun q => g.2.2.1.heap.size ≤ q) := by
  refine Met.ofW (cc := Y.2.2.1) (maxL := Y.2.2.2.1) (ret := Y.2.2.2.2) (by rw [hY]; exact hpl) rfl ?_
  intro p e s m args below meth c s₁ B hml hv
  obtain ⟨ha, hal, hsz, hW, hold⟩ := hv
  have hts := atoms_spec (ws := mj_ws Y) B.pre
  have hown : s.vm.findClass Y.1 = some m.cls := by rw [← hY]; exact findClass_of_methodNamed B.named
  have hin := (name_of_methodNamed B.named B.method).1
  have hx := B.exec
  have hb := B.bytes
  have hr := B.returns
  have hlk := B.notSynchronized
  have hnd := B.named
  clear B
  subst ha
  rw [lg_entry_eq]
  have hK : mj_K g Y d kc ks (mj_ent vs Y.2.2.2.1) M p (mj_rm d kc ks) s m (vs.map (mj_tr g.2.2.2.1 g.2.2.1.heap.size)).toArray meth c s.heap _ [] 0 0 :=
    ⟨⟨hx, hb, hml, hown, fun w hw => hts w (List.mem_cons_of_mem _ hw), hlk, hr, hin, hal, hsz, hnd⟩, ⟨Nat.le_refl _, Nat.le_refl _, by rw [Nat.zero_add]; exact Nat.le_refl _, by rw [Nat.zero_add]; exact Nat.le_refl _⟩, hW, hold, ⟨mj_ent_ls hn, by
      rw [mj_ent, List.length_append, List.length_replicate]
      omega⟩, fun q hq => by cases hq⟩
  refine mj_mono ?_ (k hG p e _ s m _ below meth c s.heap _ [] 0 0 hK)
  rintro t ⟨o, h1, h2, h3, h4, L, h5, h6⟩
  refine ⟨o, h1, h2, h3, L, ⟨?_, h4, ?_⟩, h6⟩
  · obtain ⟨r, M', hp, hm, -⟩ := h3
    cases r with
    | inl v => exact ⟨_, hm⟩
    | inr q => exact absurd hp (hnt _ _)
  · rw [Nat.zero_add, Nat.zero_add] at h5
    exact h5
/-- behind a call -/
theorem mj_after {kc' ks' kc2 ks2 : Nat} {Post' : mj_O → mj_M → Prop} (hG : mj_F g) {p : Program} {e : Env} {R : Room} {s : State} {m : MethodId} {args : Array Value} {below : List Frame} {meth : Method} {c : Code} {H : Heap} {ls : Array Slot} {locs : List Loc} {cells slots : Nat} {top : List Value}
    (hK : mj_K g Y d (kc' + kc2) (ks' + ks2) lv M p R s m args meth c H ls locs cells slots) (run : va_Run p g.1 e R s m args below meth c H locs cells slots kc' ks' (F0 m pc ls top) (st.map (mj_tr g.2.2.2.1 g.2.2.1.heap.size)) (fun _ o t => mj_Q g Post' o t) (fun q => g.2.2.1.heap.size ≤ q))
    (hP : ∀ r M1, Post' r M1 → ∃ v, r = .inl v ∧ mj_J g Y d kc2 ks2 (pc + 3, lv, v.toList ++ st, M1) Post) : W p g.1 e R s m args below meth c H locs cells slots (mj_Z g Post below s (cells + (kc' + kc2)) (slots + (ks' + ks2))) (F0 m pc ls top) := by
  intro T hT X
  obtain ⟨v, st₀, t, T', L, h0, X', hL, e1, e2, ⟨r, M1, hp, hm, hw1, hold⟩, stp⟩ := run T hT X
  obtain ⟨v', rfl, hJ⟩ := hP r M1 hp
  have hv : v = v'.map (mj_tr g.2.2.2.1 g.2.2.1.heap.size) := Outcome.returned.inj hm
  subst hv
  have hK' : mj_K g Y d kc2 ks2 lv M1 p R s m args meth c T'.heap ls (locs ++ L) (cells + kc') (slots + ks') :=
    ⟨hK.1, ⟨hK.2.1.1, hK.2.1.2.1, by have := hK.2.1.2.2.1; omega, by have := hK.2.1.2.2.2; omega⟩, by rw [e1]; exact hw1, fun q hq => by rw [e1]; exact hold q hq, hK.2.2.2.2.1, fun q hq => (List.mem_append.mp hq).elim (hK.2.2.2.2.2 q) (hL q)⟩
  obtain ⟨t2, a1, b1⟩ := hJ hG p e R s m args below meth c T'.heap ls _ _ _ hK' T' rfl X'
  refine ⟨t2, stp t2 ?_, ?_⟩
  · have e3 : (v'.toList ++ st).map (mj_tr g.2.2.2.1 g.2.2.1.heap.size) = (v'.map (mj_tr g.2.2.2.1 g.2.2.1.heap.size)).toList ++ st.map (mj_tr g.2.2.2.1 g.2.2.1.heap.size) := by cases v' <;> rfl
    rw [← e3]
    exact a1
  · rw [← Nat.add_assoc, ← Nat.add_assoc]
    exact b1
/-- what is known of a method that is called -/
def mj_yk (Y : mj_Y) (n : Nat) : Prop := Cond.code Y.2.1 Y.2.2.1 Y.2.2.2.1 Y.2.2.2.2 ∈ mj_tbl ∧ Cond.initialized Y.1 ∈ mj_tbl ∧ (Y.2.1.cls = Y.1 ∧ plainName Y.1 = true ∧ Y.1 ≠ "java/lang/invoke/MethodHandle" ∧ Y.1 ≠ "java/lang/invoke/VarHandle") ∧ Y.2.2.2.1 ≤ 21 ∧ (parseMethodDescriptor Y.2.1.desc).map (fun q => q.parameters.length) = some n
theorem mj_room {d' kc' ks' kc2 ks2 : Nat} {p : Program} {R : Room} {s : State} {m : MethodId} {args : Array Value} {meth : Method} {c : Code} {H : Heap} {ls : Array Slot} {locs : List Loc} {cells slots n : Nat} (hK : mj_K g Y (d' + 1) (kc' + kc2) (ks' + ks2) lv M p R s m args meth c H ls locs cells slots) (hy : mj_yk Y' n) :
    ((mj_rm d' kc' ks').cells = kc' ∧ (mj_rm d' kc' ks').slots = ks' ∧ (mj_rm d' kc' ks').frames + 1 ≤ R.frames ∧ 8 + (Y'.2.2.2.1 + 11) + (mj_rm d' kc' ks').locals ≤ R.locals ∧ (∀ w ∈ mj_ws Y', ∀ (a' : Array Value) (U : State), s.WarmedH U.vm → w.before a' U = true) ∧ Cond.code Y'.2.1 Y'.2.2.1 Y'.2.2.2.1 Y'.2.2.2.2 ∈ mj_ws Y') ∧
      (Cond.code Y'.2.1 Y'.2.2.1 Y'.2.2.2.1 Y'.2.2.2.2).before args s = true ∧ (Cond.initialized Y'.2.1.cls).before args s = true ∧ (Y'.2.1.cls ≠ "java/lang/invoke/MethodHandle" ∧ Y'.2.1.cls ≠ "java/lang/invoke/VarHandle") ∧ (∀ sig, parseMethodDescriptor Y'.2.1.desc = some sig → n = sig.parameters.length) := by
  obtain ⟨h1, h2, ⟨h3, h4, h5, h6⟩, h7, h8⟩ := hy
  have hts := hK.1.2.2.2.2.1
  have hr := hK.2.1
  refine ⟨⟨rfl, rfl, hr.1, ?_, ?_, List.mem_cons_self⟩, hts _ h1, ?_, ⟨?_, ?_⟩, ?_⟩
  · have h9 := hr.2.1
    show 8 + (Y'.2.2.2.1 + 11) + 40 * d' ≤ R.locals
    omega
  · intro w hw a' U hU
    rcases List.mem_cons.mp hw with rfl | hw
    · exact mj_warm h1 (hts _ h1) hU
    · exact mj_warm hw (hts _ hw) hU
  · rw [h3]; exact hts _ h2
  · rw [h3]; exact h5
  · rw [h3]; exact h6
  · intro sig h
    rw [h] at h8
    exact (Option.some.inj h8).symm
theorem mj_pre {p : Program} {R : Room} {s : State} {m : MethodId} {args : Array Value} {meth : Method} {c : Code} {H : Heap} {ls : Array Slot} {locs : List Loc} {cells slots : Nat} (hK : mj_K g Y d kc ks lv M p R s m args meth c H ls locs cells slots) (vs : List mj_V) (hz : g.2.2.1.heap.size ≤ H.size) :
    ∀ U : State, U.heap = H → s.WarmedH U.vm → mj_Pc g M vs (vs.map (mj_tr g.2.2.2.1 g.2.2.1.heap.size)).toArray U := by
  intro U hU hW
  exact ⟨rfl, hK.1.2.2.2.2.2.2.2.2.1.trans hW.alike, by rw [hU]; exact hz, by rw [hU]; exact hK.2.2.1, fun q hq => by rw [hU]; exact hK.2.2.2.1 q hq⟩
theorem mj_callS {d' kc' ks' kc2 ks2 idx n : Nat} {vs stk : List mj_V} (hd : decode Y.2.2.1 pc = .ok (.invokestatic idx, 3)) (hy : mj_yk Y' n) (hl : Cond.methodLink Y.1 idx Y'.2.1 ∈ mj_tbl ∨ Cond.methodLinkNest Y.1 idx Y'.2.1 "ChartForest" ∈ mj_tbl) (hs : Cond.static Y'.2.1 ∈ mj_tbl)
    (hstk : stk = vs.reverse ++ st) (hn : vs.length = n) (he : (mj_e1 vs).length ≤ Y'.2.2.2.1) (hst : (st.map mj_cat).sum ≤ 8)
    (k : mj_J g Y' d' kc' ks' (0, mj_ent vs Y'.2.2.2.1, [], M) (fun r M1 => ∃ v, r = .inl v ∧ mj_J g Y (d' + 1) kc2 ks2 (pc + 3, lv, v.toList ++ st, M1) Post)) : mj_J g Y (d' + 1) (kc' + kc2) (ks' + ks2) (pc, lv, stk, M) Post := by
  intro hG p e R s m args below meth c H ls locs cells slots hK
  subst hstk
  obtain ⟨hr, hr1, hr2, hr3, hr4⟩ := mj_room (kc' := kc') (ks' := ks') hK hy
  have hts := hK.1.2.2.2.2.1
  have hM := mj_met hG hy.2.2.1.1 hy.2.2.1.2.1 he k (fun q M' h => by obtain ⟨v, h, -⟩ := h; cases h)
  have hz : g.2.2.1.heap.size ≤ H.size := by rw [hK.2.2.1.1]; exact Nat.le_add_right _ _
  have hf : cells + kc' ≤ R.cells ∧ slots + ks' ≤ R.slots := ⟨by have := hK.2.1.2.2.1; omega, by have := hK.2.1.2.2.2; omega⟩
  have S : CallFix p m c Y.2.2.1 Y.2.2.2.1 s args mj_tbl Y.1 := ⟨hK.1.1, hK.1.2.1, hK.1.2.2.1, hK.1.2.2.2.1, hts⟩
  have hroom : 2 * (F0 m pc ls ((vs.reverse ++ st).map (mj_tr g.2.2.2.1 g.2.2.1.heap.size))).monitorRoom + ((st.map (mj_tr g.2.2.2.1 g.2.2.1.heap.size)).map fun v => v.category).sum ≤ 8 := by
    refine lv_room ?_
    rw [List.map_map]
    have e1 : ((fun v : Value => v.category) ∘ mj_tr g.2.2.2.1 g.2.2.1.heap.size) = mj_cat := funext fun w => mj_tr_cat _ _ w
    rw [e1]; exact hst
  have hstack : (F0 m pc ls ((vs.reverse ++ st).map (mj_tr g.2.2.2.1 g.2.2.1.heap.size))).stack = (vs.map (mj_tr g.2.2.2.1 g.2.2.1.heap.size)).reverse ++ st.map (mj_tr g.2.2.2.1 g.2.2.1.heap.size) := by
    show (vs.reverse ++ st).map _ = _
    rw [List.map_append, List.map_reverse]
  have hsize : (F0 m pc ls ((vs.reverse ++ st).map (mj_tr g.2.2.2.1 g.2.2.1.heap.size))).locals.size = Y.2.2.2.1 := hK.2.2.2.2.1.1.1.trans hK.2.2.2.2.1.2
  have hp : PreS s H (mj_Pc g M vs) (vs.map (mj_tr g.2.2.2.1 g.2.2.1.heap.size)) := ⟨mj_Pc_blind g M vs, mj_pre hK vs hz⟩
  rcases hl with hl | hl
  · exact mj_after hG hK (va_runS S hM ⟨⟨hr.1, hr.2.1, hr.2.2.1, hr.2.2.2.1, hr.2.2.2.2.1, hr.2.2.2.2.2, hr1, hr2, hr3, hr4, hts _ hl⟩, hts _ hs⟩ hp rfl (by rw [List.length_map]; exact hn) hsize hstack hroom hd hf) (fun r M1 h => h)
  · exact mj_after hG hK (va_runSN S hM ⟨⟨hr, hr1, hr2, hr3, hr4, hts _ hl⟩, hts _ hs, trivial⟩ hp rfl (by rw [List.length_map]; exact hn) hsize hstack hroom hd hf) (fun r M1 h => h)
theorem mj_callV {d' kc' ks' kc2 ks2 idx n p0 ci : Nat} {vs stk : List mj_V} {fl : List (String × String × Bool)} {fs : List mj_V} (hd : decode Y.2.2.1 pc = .ok (.invokevirtual idx, 3)) (hy : mj_yk Y' n) (hl : Cond.methodLink Y.1 idx Y'.2.1 ∈ mj_tbl ∨ Cond.methodLinkNest Y.1 idx Y'.2.1 "ChartForest" ∈ mj_tbl) (hs : Cond.instanceMethod Y'.2.1 ∈ mj_tbl) (hse : Cond.selects Y'.1 Y'.2.1 Y'.2.1 ∈ mj_tbl)
    (hc : mj_cf[ci]? = some (Y'.1, fl)) (hM0 : M[p0]? = some (.inr (.inr (ci, fs)))) (hstk : stk = vs.reverse ++ .inr (.inr (.inl (some (p0, 0)))) :: st) (hn : vs.length = n) (he : (mj_e1 (.inr (.inr (.inl (some (p0, 0)))) :: vs)).length ≤ Y'.2.2.2.1) (hst : (st.map mj_cat).sum ≤ 8)
    (k : mj_J g Y' d' kc' ks' (0, mj_ent (.inr (.inr (.inl (some (p0, 0)))) :: vs) Y'.2.2.2.1, [], M) (fun r M1 => ∃ v, r = .inl v ∧ mj_J g Y (d' + 1) kc2 ks2 (pc + 3, lv, v.toList ++ st, M1) Post)) : mj_J g Y (d' + 1) (kc' + kc2) (ks' + ks2) (pc, lv, stk, M) Post := by
  intro hG p e R s m args below meth c H ls locs cells slots hK
  subst hstk
  obtain ⟨hr, hr1, hr2, hr3, hr4⟩ := mj_room (kc' := kc') (ks' := ks') hK hy
  have hts := hK.1.2.2.2.2.1
  have hM := mj_met hG hy.2.2.1.1 hy.2.2.1.2.1 he k (fun q M' h => by obtain ⟨v, h, -⟩ := h; cases h)
  have hz : g.2.2.1.heap.size ≤ H.size := by rw [hK.2.2.1.1]; exact Nat.le_add_right _ _
  have hf : cells + kc' ≤ R.cells ∧ slots + ks' ≤ R.slots := ⟨by have := hK.2.1.2.2.1; omega, by have := hK.2.1.2.2.2; omega⟩
  have S : CallFix p m c Y.2.2.1 Y.2.2.2.1 s args mj_tbl Y.1 := ⟨hK.1.1, hK.1.2.1, hK.1.2.2.1, hK.1.2.2.2.1, hts⟩
  have hroom : 2 * (F0 m pc ls ((vs.reverse ++ .inr (.inr (.inl (some (p0, 0)))) :: st).map (mj_tr g.2.2.2.1 g.2.2.1.heap.size))).monitorRoom + ((st.map (mj_tr g.2.2.2.1 g.2.2.1.heap.size)).map fun v => v.category).sum ≤ 8 := by
    refine lv_room ?_
    rw [List.map_map]
    have e1 : ((fun v : Value => v.category) ∘ mj_tr g.2.2.2.1 g.2.2.1.heap.size) = mj_cat := funext fun w => mj_tr_cat _ _ w
    rw [e1]; exact hst
  have hstack : (F0 m pc ls ((vs.reverse ++ .inr (.inr (.inl (some (p0, 0)))) :: st).map (mj_tr g.2.2.2.1 g.2.2.1.heap.size))).stack = (vs.map (mj_tr g.2.2.2.1 g.2.2.1.heap.size)).reverse ++ .ref (g.2.2.1.heap.size + mj_o p0) :: st.map (mj_tr g.2.2.2.1 g.2.2.1.heap.size) := by
    show (vs.reverse ++ .inr (.inr (.inl (some (p0, 0)))) :: st).map _ = _
    rw [List.map_append, List.map_reverse]
    rfl
  have hsize : (F0 m pc ls ((vs.reverse ++ .inr (.inr (.inl (some (p0, 0)))) :: st).map (mj_tr g.2.2.2.1 g.2.2.1.heap.size))).locals.size = Y.2.2.2.1 := hK.2.2.2.2.1.1.1.trans hK.2.2.2.2.1.2
  have hcl := mj_cls_at hc
  obtain ⟨r, hr0, cell, q1, q2, q3, q4⟩ := hK.2.2.1.2 p0 _ hM0
  have hKs : va_K g.2.1 mj_cls [] s := hG.1.moved hK.1.2.2.2.2.2.2.2.2.1
  obtain ⟨-, hfc, -⟩ := hKs.1 ci _ hcl
  have hp : PreV s H Y'.1 (g.2.2.1.heap.size + mj_o p0) (mj_Pc g M (.inr (.inr (.inl (some (p0, 0)))) :: vs)) (vs.map (mj_tr g.2.2.2.1 g.2.2.1.heap.size)) := ⟨mj_Pc_blind _ _ _, ⟨cell, q1, by rw [q3]; rfl, by rw [q2]; exact hfc⟩, mj_pre hK (.inr (.inr (.inl (some (p0, 0)))) :: vs) hz⟩
  rcases hl with hl | hl
  · exact mj_after hG hK (va_runV S hM ⟨⟨hr.1, hr.2.1, hr.2.2.1, hr.2.2.2.1, hr.2.2.2.2.1, hr.2.2.2.2.2, hr1, hr2, hr3, hr4, hts _ hl⟩, hts _ hs, hts _ hse⟩ hp rfl (by rw [List.length_map]; exact hn) hsize hstack hroom hd hf) (fun r M1 h => h)
  · exact mj_after hG hK (va_runVN S hM ⟨⟨hr, hr1, hr2, hr3, hr4, hts _ hl⟩, hts _ hs, hts _ hse⟩ hp rfl (by rw [List.length_map]; exact hn) hsize hstack hroom hd hf) (fun r M1 h => h)
theorem mj_callI {d' kc' ks' kc2 ks2 idx n : Nat} {r0 : Nat × Nat} {vs stk : List mj_V} (hd : decode Y.2.2.1 pc = .ok (.invokespecial idx, 3)) (hy : mj_yk Y' n) (hret : Y'.2.2.2.2 = none) (hnm : Y'.2.1.name = "<init>") (hl : Cond.methodLink Y.1 idx Y'.2.1 ∈ mj_tbl ∨ Cond.methodLinkNest Y.1 idx Y'.2.1 "ChartForest" ∈ mj_tbl) (hs : Cond.instanceMethod Y'.2.1 ∈ mj_tbl)
    (hstk : stk = vs.reverse ++ .inr (.inr (.inl (some r0))) :: st) (hn : vs.length = n) (he : (mj_e1 (.inr (.inr (.inl (some r0))) :: vs)).length ≤ Y'.2.2.2.1) (hst : (st.map mj_cat).sum ≤ 8)
    (k : mj_J g Y' d' kc' ks' (0, mj_ent (.inr (.inr (.inl (some r0))) :: vs) Y'.2.2.2.1, [], M) (fun r M1 => ∃ v, r = .inl v ∧ mj_J g Y (d' + 1) kc2 ks2 (pc + 3, lv, v.toList ++ st, M1) Post)) : mj_J g Y (d' + 1) (kc' + kc2) (ks' + ks2) (pc, lv, stk, M) Post := by
  intro hG p e R s m args below meth c H ls locs cells slots hK
  subst hstk
  obtain ⟨hr, hr1, hr2, hr3, hr4⟩ := mj_room (kc' := kc') (ks' := ks') hK hy
  have hts := hK.1.2.2.2.2.1
  have hM := mj_met hG hy.2.2.1.1 hy.2.2.1.2.1 he k (fun q M' h => by obtain ⟨v, h, -⟩ := h; cases h)
  have hz : g.2.2.1.heap.size ≤ H.size := by rw [hK.2.2.1.1]; exact Nat.le_add_right _ _
  have hf : cells + kc' ≤ R.cells ∧ slots + ks' ≤ R.slots := ⟨by have := hK.2.1.2.2.1; omega, by have := hK.2.1.2.2.2; omega⟩
  have S : CallFix p m c Y.2.2.1 Y.2.2.2.1 s args mj_tbl Y.1 := ⟨hK.1.1, hK.1.2.1, hK.1.2.2.1, hK.1.2.2.2.1, hts⟩
  have hroom : 2 * (F0 m pc ls ((vs.reverse ++ .inr (.inr (.inl (some r0))) :: st).map (mj_tr g.2.2.2.1 g.2.2.1.heap.size))).monitorRoom + ((st.map (mj_tr g.2.2.2.1 g.2.2.1.heap.size)).map fun v => v.category).sum ≤ 8 := by
    refine lv_room ?_
    rw [List.map_map]
    have e1 : ((fun v : Value => v.category) ∘ mj_tr g.2.2.2.1 g.2.2.1.heap.size) = mj_cat := funext fun w => mj_tr_cat _ _ w
    rw [e1]; exact hst
  have hstack : (F0 m pc ls ((vs.reverse ++ .inr (.inr (.inl (some r0))) :: st).map (mj_tr g.2.2.2.1 g.2.2.1.heap.size))).stack = (vs.map (mj_tr g.2.2.2.1 g.2.2.1.heap.size)).reverse ++ .ref (g.2.2.1.heap.size + mj_o r0.1 + r0.2) :: st.map (mj_tr g.2.2.2.1 g.2.2.1.heap.size) := by
    show (vs.reverse ++ .inr (.inr (.inl (some r0))) :: st).map _ = _
    rw [List.map_append, List.map_reverse]
    rfl
  have hsize : (F0 m pc ls ((vs.reverse ++ .inr (.inr (.inl (some r0))) :: st).map (mj_tr g.2.2.2.1 g.2.2.1.heap.size))).locals.size = Y.2.2.2.1 := hK.2.2.2.2.1.1.1.trans hK.2.2.2.2.1.2
  have hp : PreS s H (mj_Pc g M (.inr (.inr (.inl (some r0))) :: vs)) (.ref (g.2.2.1.heap.size + mj_o r0.1 + r0.2) :: vs.map (mj_tr g.2.2.2.1 g.2.2.1.heap.size)) := ⟨mj_Pc_blind _ _ _, mj_pre hK (.inr (.inr (.inl (some r0))) :: vs) hz⟩
  rw [hret] at hr hr1
  rcases hl with hl | hl
  · exact mj_after hG hK (va_runI S hM ⟨⟨hr.1, hr.2.1, hr.2.2.1, hr.2.2.2.1, hr.2.2.2.2.1, hr.2.2.2.2.2, hr1, hr2, hr3, hr4, hts _ hl⟩, hnm, hts _ hs⟩ hp rfl (by rw [List.length_map]; exact hn) hsize hstack hroom hd hf) (fun r M1 h => h)
  · exact mj_after hG hK (va_runIN S hM ⟨⟨hr, hr1, hr2, hr3, hr4, hts _ hl⟩, hnm, hts _ hs⟩ hp rfl (by rw [List.length_map]; exact hn) hsize hstack hroom hd hf) (fun r M1 h => h)
end MJC
