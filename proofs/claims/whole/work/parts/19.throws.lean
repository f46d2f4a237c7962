/-! THROWING, over the world (layout, memory): contracts ct of methods that throw an exception of a known class and change nothing -/
def xA : String := "java/lang/IllegalArgumentException"
def xB : String := "java/lang/IndexOutOfBoundsException"
def xS : String := "java/lang/IllegalStateException"
def xU : String := "java/lang/UnsupportedOperationException"
def x2 : List String := ["java/lang/RuntimeException", "java/lang/Exception"]
/-- the words of a throw that stay true where the tables are alike -/
def fw : List Cond := [.declares (Bundle.initS "java/lang/RuntimeException"), .declares (Bundle.initS "java/lang/Exception"), .declares (Bundle.initS "java/lang/Throwable"), .castable xA xA, .castable xB xB, .castable xS xS, .castable xU xU]
def ncs : List (String × String) := [(xB, xA), (xU, xA), (xU, xB), (xS, xA), (xU, xS)]
def txs : List (Nat × String) := [(128, "no client"), (40, "no letter"), (51, "no place to insert at"), (56, "the text is full"), (139, "too many changes are open"), (132, "no letter there"), (136, "no message waits"), (86, "too much is open towards another client"), (109, "no such open change"), (130, "no site")]
theorem fw_face : ∀ w ∈ fw, w.faceAtom = true ∧ w.onTables = true := by decide +kernel
theorem fw_at {a a' : Array Value} {s U : State} (hvm : s.vm.Alike U.vm) {w : Cond} (hw : w ∈ fw) (h : w.before a s = true) : w.before a' U = true :=
  va_tabs (u := s.setVm U.vm) (fw_face w hw).2 rfl (Cond.faceAtom_setVm hvm w (fw_face w hw).1 h)
/-- where a static field of Throwable lies, apart from the world, and that it holds a reference -/
def tz (n d : String) (La : la_L) (U : State) (H : Heap) : Prop := ∃ (c : ClassId) (k : Class) (i : Nat) (f : Field) (a : Nat) (cell : Cell) (v : Value), U.vm.findClass Bundle.tN = some c ∧ U.fieldFound? Bundle.tN n d = some (c, k, i, f) ∧ f.isStatic = true ∧ k.statics = some a ∧ H[a]? = some cell ∧ cell.vm.isStatics = true ∧ cell.cls = c ∧ f.slot < cell.slots.size ∧ k.staticTypes[f.slot]? = some f.type ∧ cell.slots[f.slot]? = some v ∧ v.isRef = true ∧ ¬ la_A La a
theorem tz.moved {n d : String} {La : la_L} {u U : State} {H : Heap} (hvm : u.vm.Alike U.vm) (h : tz n d La u H) : tz n d La U H := by
  obtain ⟨c, k, i, f, a, cell, v, h1, h2, h3, h4, h5, h6, h7, h8, h9, h10⟩ := h
  obtain ⟨k', hi', he⟩ := State.fieldFound?_setVm hvm h2
  exact ⟨c, k', i, f, a, cell, v, by rw [hvm.findClass]; exact h1, hi', h3, by rw [he]; exact h4, h5, h6, h7, h8, by rw [he]; exact h9, h10⟩
theorem tz.kept {n d : String} {La : la_L} {U : State} {H H1 : Heap} (h : tz n d La U H) (hq : ∀ a : Nat, a < H.size → ¬ la_A La a → H1[a]? = H[a]?) : tz n d La U H1 := by
  obtain ⟨c, k, i, f, a, cell, v, h1, h2, h3, h4, h5, h6, h7, h8, h9, h10, h11, h12⟩ := h
  exact ⟨c, k, i, f, a, cell, v, h1, h2, h3, h4, by rw [hq a (Array.getElem?_eq_some_iff.mp h5).1 h12]; exact h5, h6, h7, h8, h9, h10, h11, h12⟩
theorem tz.lays {n d : String} {La : la_L} {s : State} {args : Array Value} (h : tz n d La s s.heap) : (Cond.laysStatic Bundle.tN n d).before args s = true := by
  obtain ⟨c, k, i, f, a, cell, v, h1, h2, h3, h4, h5, h6, h7, h8, h9, -⟩ := h
  show (Cond.laysStatic Bundle.tN n d).holds args s none s [] = true
  exact Cond.laysStatic_of h1 h2 h3 h4 h5 h6 h7 h8 h9
theorem tz.ref {n d : String} {La : la_L} {s : State} {args : Array Value} (h : tz n d La s s.heap) : (Cond.isRef (.static Bundle.tN n d)).before args s = true := by
  obtain ⟨c, k, i, f, a, cell, v, h1, h2, h3, h4, h5, h6, h7, h8, h9, h10, h11, -⟩ := h
  have he : (Term.static Bundle.tN n d).eval args s none [] s = some v := by
    simp [Term.eval, State.fieldNamed?, h2, h3, h4, h5, h6, h10]
  simp only [Cond.before, Cond.holds, Cond.value, he]
  cases v <;> simp_all [Value.isRef]
/-- what a throwing method knows of the machine -/
def tk (La : la_L) (U : State) (H : Heap) : Prop := (∀ w ∈ fw, w.before #[] U = true) ∧ tz "UNASSIGNED_STACK" Bundle.steD La U H ∧ tz "SUPPRESSED_SENTINEL" Bundle.listD La U H ∧ (∀ q ∈ ncs, va_Nc q.1 q.2 U) ∧ ∀ q ∈ txs, ∃ sa, vk_R R_Er q.1 q.2 sa U
theorem tk.moved {La : la_L} {s U : State} {H : Heap} (hW : s.WarmedH U.vm) (h : tk La s H) : tk La U H :=
  ⟨fun w hw => fw_at hW.alike hw (h.1 w hw), h.2.1.moved hW.alike, h.2.2.1.moved hW.alike, fun q hq => va_Nc.moved hW.alike (h.2.2.2.1 q hq), fun q hq => (h.2.2.2.2 q hq).elim fun sa hs => ⟨sa, vk_R.warm hW hs⟩⟩
theorem tk.kept {La : la_L} {U : State} {H H1 : Heap} (h : tk La U H) (hq : ∀ a : Nat, a < H.size → ¬ la_A La a → H1[a]? = H[a]?) : tk La U H1 := ⟨h.1, h.2.1.kept hq, h.2.2.1.kept hq, h.2.2.2⟩
def rmx (fr lo : Nat) : Room := { frames := fr, cells := 1, slots := 6, locals := lo }
/-- the method throws an exception of the class X and changes nothing -/
def ct (l : Launch) (y : MethodName) (cd : ByteArray) (n : Nat) (ret : Option FieldType) (fr lo : Nat) (D : va_G) (E : Nat → ClassId) (La : la_L) (av : List Value) (mu : la_M) (X : String) : Prop :=
  tx_Met l y (.code y cd n ret :: gw) (rmx fr lo) (va_Pc av (fun U => la_P D cls5 La mu U.heap ∧ ki D E U ∧ tk La U U.heap)) X
def tq (below : List Frame) (X : String) (s : State) : State → Prop := fun t => ∃ o, t.status = .running ∧ Ended t below o ∧ tx_E X s o t
theorem ct_begin {l : Launch} {y : MethodName} {cd : ByteArray} {n : Nat} {ret : Option FieldType} {fr lo : Nat} {D : va_G} {E : Nat → ClassId} {La : la_L} {av : List Value} {mu : la_M} {X : String} (own : String) (hy : plainName y.cls = true) (ho : y.cls = own) (hn : (lg_sl av).length ≤ n)
    (body : ∀ (p : Program) (e : Env) (s : State) (m : MethodId) (below : List Frame) (meth : Method) (c : Code) (ls : Array Slot), zz own cd n D E p s m c av.toArray → meth.locks = false → c.exceptionTable.isEmpty = true → la_P D cls5 La mu s.heap → tk La s s.heap → lv_has ls n (lv_args 0 av) →
      W p l e (rmx fr lo) s m av.toArray below meth c s.heap [] 0 0 (tq below X s) (F0 m 0 ls [])) : ct l y cd n ret fr lo D E La av mu X := by
  refine MetFree.of_bodyS (code := cd) (maxLocals := n) (ret := ret) hy ?_ ?_
  · intro args s m h hnm
    obtain ⟨meth, c, h1, h2, h3, h4, h5, h6, -, -⟩ := Cond.code_spec hnm (atoms_spec (ws := .code y cd n ret :: gw) h _ List.mem_cons_self)
    exact ⟨meth, c, h1, h2, h3, h4, h5, h6⟩
  · intro p e s m args below meth c s₁ B hml hv _
    obtain ⟨rfl, hP, hK, hk⟩ := hv
    have hts := atoms_spec (ws := .code y cd n ret :: gw) B.pre
    have hown : s.vm.findClass y.cls = some m.cls := findClass_of_methodNamed B.named
    rw [ho] at hown
    have X0 := Stand.of_body B
    obtain ⟨meth', c', h1, h2, -, -, -, -, h7, -⟩ := Cond.code_spec B.named (hts _ List.mem_cons_self)
    cases h1.symm.trans B.method
    cases h2.symm.trans X0.code
    have hl := lv_entry av hn
    have hh0 : s₁.heap = s.heap := by rw [B.state]; rfl
    have K := body p e s m below meth c _ ⟨B.exec, B.bytes, hml, hown, fun w h => hts w (List.mem_cons_of_mem _ h), hK⟩ B.notSynchronized h7 hP hk hl
    rw [← lg_entry_eq] at K
    obtain ⟨t, a1, o, b1, b2, b3⟩ := K s₁ hh0 X0
    exact ⟨t, o, a1, b1, b2, b3⟩
theorem ct_emp {c : Code} (h : c.exceptionTable.isEmpty = true) (pc : Nat) : ∀ x ∈ c.exceptionTable.toList, covers x pc = false := by
  intro x hx
  have h9 : c.exceptionTable = #[] := by simpa using h
  rw [h9] at hx
  exact absurd hx (by simp)
/-- the static facts of a 'throw new X("text")' in the class own -/
def kx (own : String) (ik ic is : Nat) (X text : String) : Prop :=
  Cond.classLink own ik X ∈ gw ∧ Cond.initialized X ∈ gw ∧ (∀ w ∈ Bundle.ownAtoms own ic X x2, w ∈ gw ∨ w ∈ fw ∨ w = .laysStatic Bundle.tN "UNASSIGNED_STACK" Bundle.steD ∨ w = .laysStatic Bundle.tN "SUPPRESSED_SENTINEL" Bundle.listD ∨ w = .isRef (.static Bundle.tN "UNASSIGNED_STACK" Bundle.steD) ∨ w = .isRef (.static Bundle.tN "SUPPRESSED_SENTINEL" Bundle.listD)) ∧ Bundle.fit X = true ∧ (is, text) ∈ txs
def kx_at (w : Cond) : Bool := (goodWord w && decide (w ∈ tables_1)) || decide (w ∈ k2_sels lw_privs) || decide (w ∈ fw) || decide (w = .laysStatic Bundle.tN "UNASSIGNED_STACK" Bundle.steD) || decide (w = .laysStatic Bundle.tN "SUPPRESSED_SENTINEL" Bundle.listD) || decide (w = .isRef (.static Bundle.tN "UNASSIGNED_STACK" Bundle.steD)) || decide (w = .isRef (.static Bundle.tN "SUPPRESSED_SENTINEL" Bundle.listD))
theorem kx_of {L : List Cond} (h : L.all kx_at = true) : ∀ w ∈ L, w ∈ gw ∨ w ∈ fw ∨ w = .laysStatic Bundle.tN "UNASSIGNED_STACK" Bundle.steD ∨ w = .laysStatic Bundle.tN "SUPPRESSED_SENTINEL" Bundle.listD ∨ w = .isRef (.static Bundle.tN "UNASSIGNED_STACK" Bundle.steD) ∨ w = .isRef (.static Bundle.tN "SUPPRESSED_SENTINEL" Bundle.listD) := by
  intro w hw
  have h1 := List.all_eq_true.mp h w hw
  unfold kx_at at h1
  simp only [Bool.or_eq_true, Bool.and_eq_true, decide_eq_true_eq] at h1
  rcases h1 with (((((⟨g, h⟩ | h) | h) | h) | h) | h) | h
  · exact Or.inl (List.mem_filter.mpr ⟨List.mem_append_right _ h, g⟩)
  · refine Or.inl (List.mem_filter.mpr ⟨List.mem_append_left _ h, ?_⟩)
    obtain ⟨q, -, rfl⟩ := List.mem_map.mp h
    rfl
  · exact Or.inr (Or.inl h)
  · exact Or.inr (Or.inr (Or.inl h))
  · exact Or.inr (Or.inr (Or.inr (Or.inl h)))
  · exact Or.inr (Or.inr (Or.inr (Or.inr (Or.inl h))))
  · exact Or.inr (Or.inr (Or.inr (Or.inr (Or.inr h))))
section TXC
variable {p : Program} {l : Launch} {e : Env} {R : Room} {s : State} {m : MethodId} {args : Array Value} {below : List Frame} {meth : Method} {c : Code} {H : Heap} {locs : List Loc} {cells slots : Nat} {Q : State → Prop}
variable {cc : ByteArray} {nL pc : Nat} {ls : Array Slot} {D : va_G} {E : Nat → ClassId} {La : la_L} {mu : la_M} {own C : String} {index n maxL fr lo : Nat} {y : MethodName} {bytes : ByteArray} {ret : Option FieldType} {As rest st0 : List Value} {b : Nat} {X : String}
/-- 'throw new X("text")' -/
theorem ct_throw (Z : zz own cc nL D E p s m c args) (ho : own = R_Er) (hlt : l.stackTraces = false) (hemp : c.exceptionTable.isEmpty = true) (hlocks : meth.locks = false) {ik ic is : Nat} {text : String} (K : kx own ik ic is X text) (hk : tk La s s.heap) (hsize : ls.size = nL)
    (d0 : decode cc pc = .ok (.new ik, 3)) (d3 : decode cc (pc + 3) = .ok (.dup, 1)) (d4 : decode cc (pc + 4) = .ok (.ldc is, 2)) (d6 : decode cc (pc + 6) = .ok (.invokespecial ic, 3)) (d9 : decode cc (pc + 9) = .ok (.athrow, 1))
    (hR : 6 ≤ R.frames ∧ 90 ≤ R.locals) (hcs : 1 ≤ R.cells ∧ 6 ≤ R.slots) : W p l e R s m args below meth c s.heap [] 0 0 (tq below X s) (F0 m pc ls []) := by
  subst ho
  obtain ⟨hexec, hb, hml, hown, hts, hK⟩ := Z
  obtain ⟨k1, k2, k3, k4, k5⟩ := K
  obtain ⟨sa, hstr⟩ := hk.2.2.2.2 _ k5
  intro T hT Y
  have htr : e.platform.stackTraces = false := (show e.platform.stackTraces = l.stackTraces by rw [Y.admits.platform]).trans hlt
  have h : ∀ w ∈ Bundle.ownAtoms R_Er ic X x2, w.before args s = true := by
    intro w hw
    rcases k3 w hw with h | h | h | h | h | h
    · exact hts w h
    · exact fw_at (Vm.Alike.refl s.vm) h (hk.1 w h)
    · rw [h]; exact hk.2.1.lays
    · rw [h]; exact hk.2.2.1.lays
    · rw [h]; exact hk.2.1.ref
    · rw [h]; exact hk.2.2.1.ref
  have hins : (Cond.instantiable X 6).before args s = true := h _ (by simp [Bundle.ownAtoms])
  obtain ⟨vm₁, cX, kX, hfX, hkX, -, -, X₁, st1⟩ := Y.newCold hexec (own := R_Er) (C := X) (index := ik) (n := 6) hown (hts _ k1) hins (hts _ k2)
    (g := F0 m pc ls []) rfl (by rw [hb]; exact d0) (by omega) (by omega)
  generalize hT1 : (T.setVm vm₁).pushCell { cls := cX, slots := kX.instanceTypes.map defaultValue, vm := .none } = T1 at X₁ st1
  have hcellA : T1.heap[T.heap.size]? = some (freshCell cX kX) := by rw [← hT1]; exact State.heap_pushCell_size _ _
  have d3' : decode c.code (pc + 3) = .ok (.dup, 1) := by rw [hb]; exact d3
  have d4' : decode c.code (pc + 4) = .ok (.ldc is, 2) := by rw [hb]; exact d4
  obtain ⟨U, hsteps, hrun, hend, hW, hsame, ce, hce, hO⟩ := X₁.ctorThrowS hexec htr (own := R_Er) (cls := X) (names := x2) (ic := ic) hown k4 (by decide +kernel) h (fun x hx => nomatch hx) hfX hkX hcellA (by rw [hT]; exact Nat.le_refl _) (msg := .ref sa) rfl
    (g := { method := m, pc := pc + 6, locals := ls, stack := .ref sa :: .ref T.heap.size :: .ref T.heap.size :: [], locked := none }) rfl (hsize.trans hml.symm) rfl rfl (rest := []) rfl
    (by rw [hb]; exact d6) (by rw [hb]; exact d9) (ct_emp hemp _) (by show 2 + 3 < _; omega) (by show 2 * 0 + (1 + 0) + (13 * (2 + 1) + 42) ≤ _; omega) hlocks
  refine ⟨U, ?_, .threw T.heap.size, hrun, hend, T.heap.size, ce, rfl, hce, hO.vm, hO.cls, hW, hsame⟩
  refine st1 _ ?_
  show Steps p.tables e below (T1.setTop { method := m, pc := pc + 3, locals := ls, stack := .ref T.heap.size :: [], locked := none }) _
  jvm_step X₁.here [X₁.here.top, hexec, d3', Value.category]
  exact X₁.ldcString hexec (own := R_Er) (text := text) (index := is) (a := sa) hown hstr.1 hstr.2
    (g := { method := m, pc := pc + 4, locals := ls, stack := .ref T.heap.size :: .ref T.heap.size :: [], locked := none }) rfl d4' _ hsteps
/-- a note lies over the frame g -/
def WX (p : Program) (l : Launch) (e : Env) (R : Room) (s : State) (m : MethodId) (args : Array Value) (below : List Frame) (meth : Method) (c : Code) (H : Heap) (locs : List Loc) (cells slots : Nat) (Q : State → Prop) (g : JFrame) (q : Addr) : Prop :=
  ∀ T : State, T.heap = H → Stand p l e R s m args below meth c T locs cells slots → ∃ t, Steps p.tables e below ((T.setTop g).pushFrame (.throwing q)) t ∧ Q t
theorem tc_blind {av : List Value} : FrameBlind (va_Pc av (fun U => la_P D cls5 La mu U.heap ∧ ki D E U ∧ tk La U U.heap)) := fun a U g mk q => ⟨q.1, q.2.1, va_K.moved (u := U) (U := U.calling g mk a) (Vm.Alike.refl U.vm) q.2.2.1, tk.moved (s := U) (U := U.calling g mk a) (State.WarmedH.refl U) q.2.2.2⟩
theorem tc_here {av : List Value} (hK : ki D E s) (hk : tk La s H) (hP : la_P D cls5 La mu H) (U : State) (hU : U.heap = H) (hW : s.WarmedH U.vm) : va_Pc av (fun U => la_P D cls5 La mu U.heap ∧ ki D E U ∧ tk La U U.heap) av.toArray U := ⟨rfl, by rw [hU]; exact hP, ki.moved hW.alike hK, by rw [hU]; exact hk.moved hW⟩
theorem tc_cls {T : State} {vm₁ : Vm} {k : ClassId} (hW : s.WarmedH vm₁) (h : (T.setVm vm₁).vm.findClass X = some k) : s.vm.findClass X = some k := by
  rw [← hW.alike.findClass]
  exact h
/-- a virtual call of a method that throws -/
theorem tc_V (Z : zz own cc nL D E p s m c args) (K : kv own index y C bytes maxL ret n) (hM : ct l y bytes maxL ret fr lo D E La (.ref b :: As) mu X) (hP : la_P D cls5 La mu H) (hk : tk La s H) (hrc : ∃ cell : Cell, H[b]? = some cell ∧ cell.vm.isStatics = false ∧ s.vm.findClass C = some cell.cls)
    (rest : List Value) (hst : st0 = As.reverse ++ .ref b :: rest) (hn : As.length = n) (hsize : ls.size = nL) (hW : (rest.map fun v => v.category).sum ≤ 8) (hR : fr + 1 ≤ R.frames ∧ 8 + (maxL + 11) + lo ≤ R.locals) (hcs : cells + 1 ≤ R.cells ∧ slots + 6 ≤ R.slots) (hdg : decode cc pc = .ok (.invokevirtual index, 3))
    (kx : ∀ (H1 : Heap) (q : Addr) (ce : Cell), H.size ≤ H1.size → (∀ z : Nat, z < H.size → H1[z]? = H[z]?) → H1[q]? = some ce → ce.vm = .none → s.vm.findClass X = some ce.cls → WX p l e R s m args below meth c H1 locs (cells + 1) (slots + 6) Q (F0 m pc ls rest) q) : W p l e R s m args below meth c H locs cells slots Q (F0 m pc ls st0) := by
  intro T hT Y
  obtain ⟨hexec, hb, hml, hown, hts, hK⟩ := Z
  obtain ⟨k1, k2, k3, k4, k5, hyC, hy1, hy2, hd⟩ := K
  obtain ⟨cellB, hcell, hobj, hcls⟩ := hrc
  obtain ⟨mk, methM, hnamed, hmethM, hstM, habM⟩ := Cond.instanceMethod_spec (hts _ k2)
  obtain ⟨methM', cM, hmethM', -, -, -, -, -, -, hsigM⟩ := Cond.code_spec hnamed (hts _ k5)
  cases hmethM.symm.trans hmethM'
  obtain ⟨c2, r2, m2, q1, q2, q3, q4, kP, hkP, hkPi⟩ := Cond.selects_spec (hts _ k3)
  cases hcls.symm.trans q1
  cases (State.methodFound?_of_named hnamed ⟨hy1, hy2⟩).symm.trans q2
  cases hnamed.symm.trans q3
  have hselP : selectMethod e.platform s.vm cellB.cls mk = .method mk := by rw [Launch.admits_selectMethod Y.admits]; exact q4
  have hlen : ∀ sig, parseMethodDescriptor y.desc = some sig → As.length = sig.parameters.length := fun sig h => by
    rw [h] at hd
    exact hn.trans (Option.some.inj hd).symm
  obtain ⟨vm₁, X₁, hstep₁⟩ := Y.invokevirtual hexec hown (hts _ k1) hnamed hmethM hstM hkP hkPi ⟨hy1, hy2⟩ (a := b) (cell := cellB) (by rw [hT]; exact hcell)
    (fun z h => by rw [h] at hobj; cases hobj) hselP hmethM habM hkP hkPi (g := F0 m pc ls st0) rfl (argsL := As) (rest := rest) (hlen _ hsigM) hst (by rw [hb]; exact hdg)
  obtain ⟨q, ce, U, XU, g1, g2, g3, g4, g5, hsteps⟩ := tx_inv (bytes := bytes) (maxL := maxL) (ret := ret) hM tc_blind rfl rfl hR.1 hR.2 (fun w hw a' U hWU => by
      rcases List.mem_cons.mp hw with rfl | hw
      · exact word_at hWU (good_of_word (gw_good _ k5)) (hts _ k5)
      · exact word_at hWU (good_of_word (gw_good _ hw)) (hts _ hw)) List.mem_cons_self (fun a' U hWU => by rw [hyC]; exact word_at hWU (good_of_word (gw_good _ k4)) (hts _ k4))
    X₁ (g := F0 m pc ls rest) (ig := .invokevirtual index) (mk := mk) (a := (Value.ref b :: As).toArray) rfl (hsize.trans hml.symm) (by rw [hb]; exact hdg) (lv_room hW) (X₁.named hnamed) hcs.1 hcs.2 (tc_here hK hk hP _ hT X₁.warmed)
  obtain ⟨t, a1, b1⟩ := kx U.heap q ce (by rw [← hT]; exact g4) (fun z hz => by rw [← hT]; exact g5 z (by rw [← hT] at hz; exact hz)) g1 g2 g3 U rfl XU
  exact ⟨t, (hstep₁ _ fun acts => by rw [doInvoke_state]; exact hsteps).trans a1, b1⟩
/-- a static call of a method that throws -/
theorem tc_S (Z : zz own cc nL D E p s m c args) (K : ks own index y bytes maxL ret n) (hM : ct l y bytes maxL ret fr lo D E La As mu X) (hP : la_P D cls5 La mu H) (hk : tk La s H)
    (rest : List Value) (hst : st0 = As.reverse ++ rest) (hn : As.length = n) (hsize : ls.size = nL) (hW : (rest.map fun v => v.category).sum ≤ 8) (hR : fr + 1 ≤ R.frames ∧ 8 + (maxL + 11) + lo ≤ R.locals) (hcs : cells + 1 ≤ R.cells ∧ slots + 6 ≤ R.slots) (hdg : decode cc pc = .ok (.invokestatic index, 3))
    (kx : ∀ (H1 : Heap) (q : Addr) (ce : Cell), H.size ≤ H1.size → (∀ z : Nat, z < H.size → H1[z]? = H[z]?) → H1[q]? = some ce → ce.vm = .none → s.vm.findClass X = some ce.cls → WX p l e R s m args below meth c H1 locs (cells + 1) (slots + 6) Q (F0 m pc ls rest) q) : W p l e R s m args below meth c H locs cells slots Q (F0 m pc ls st0) := by
  intro T hT Y
  obtain ⟨hexec, hb, hml, hown, hts, hK⟩ := Z
  obtain ⟨k1, k2, k3, k4, hy1, hy2, hd⟩ := K
  obtain ⟨mk, hnamed⟩ := Cond.code_named (hts _ k4)
  obtain ⟨methM, cM, hmethM, -, -, -, -, -, -, hsigM⟩ := Cond.code_spec hnamed (hts _ k4)
  have hstatic : methM.isStatic = true := Cond.static_spec hnamed hmethM (hts _ k2)
  obtain ⟨kP, hkP, -⟩ := className_of_methodNamed hnamed
  have hinitP : kP.init = .initialized := Cond.initialized_spec (findClass_of_methodNamed hnamed) hkP (hts _ k3)
  have hlen : ∀ sig, parseMethodDescriptor y.desc = some sig → As.length = sig.parameters.length := fun sig h => by
    rw [h] at hd
    exact hn.trans (Option.some.inj hd).symm
  obtain ⟨vm₁, X₁, hstep₁⟩ := Y.invokestatic hexec hown (hts _ k1) hnamed hmethM hstatic hkP hinitP ⟨hy1, hy2⟩ (g := F0 m pc ls st0) rfl (argsL := As) (rest := rest) (hlen _ hsigM) hst (by rw [hb]; exact hdg)
  obtain ⟨q, ce, U, XU, g1, g2, g3, g4, g5, hsteps⟩ := tx_inv (bytes := bytes) (maxL := maxL) (ret := ret) hM tc_blind rfl rfl hR.1 hR.2 (fun w hw a' U hWU => by
      rcases List.mem_cons.mp hw with rfl | hw
      · exact word_at hWU (good_of_word (gw_good _ k4)) (hts _ k4)
      · exact word_at hWU (good_of_word (gw_good _ hw)) (hts _ hw)) List.mem_cons_self (fun a' U hWU => word_at hWU (good_of_word (gw_good _ k3)) (hts _ k3))
    X₁ (g := F0 m pc ls rest) (ig := .invokestatic index) (mk := mk) (a := As.toArray) rfl (hsize.trans hml.symm) (by rw [hb]; exact hdg) (lv_room hW) (X₁.named hnamed) hcs.1 hcs.2 (tc_here hK hk hP _ hT X₁.warmed)
  obtain ⟨t, a1, b1⟩ := kx U.heap q ce (by rw [← hT]; exact g4) (fun z hz => by rw [← hT]; exact g5 z (by rw [← hT] at hz; exact hz)) g1 g2 g3 U rfl XU
  exact ⟨t, (hstep₁ _ fun acts => by rw [doInvoke_state]; exact hsteps).trans a1, b1⟩
/-- not caught here: it goes on to the caller -/
theorem tc_out (hemp : c.exceptionTable.isEmpty = true) (hlocks : meth.locks = false) {q : Addr} {ce : Cell} (hcell : H[q]? = some ce) (hv : ce.vm = .none) (hcl : s.vm.findClass X = some ce.cls) : WX p l e R s m args below meth c H [] (0 + 1) (0 + 6) (tq below X s) (F0 m pc ls rest) q := by
  intro T hT Y
  obtain ⟨st1, hrun, hend, hW, hsm⟩ := Y.leaveThrown q (g := F0 m pc ls rest) rfl rfl rfl (ct_emp hemp _) hlocks
  exact ⟨_, st1, .threw q, hrun, hend, q, ce, rfl, (by show T.heap[q]? = some ce; rw [hT]; exact hcell), hv, hcl, hW, hsm⟩
/-- caught by the row x of this method's table; the rows ahead don't take it -/
theorem tc_catch {q : Addr} {ce : Cell} (hown : s.vm.findClass own = some m.cls) (pre : List ExceptionTableEntry) (x : ExceptionTableEntry) (suf : List ExceptionTableEntry) (hsplit : c.exceptionTable.toList = pre ++ x :: suf) {name : String}
    (hpass : ∀ z ∈ pre, z.catchType ≠ 0 ∧ ∃ nm : String, (Cond.classLink own z.catchType nm).before args s = true ∧ va_Nc X nm s) (hx : covers x pc = true) (h0 : x.catchType ≠ 0)
    (hlink : (Cond.classLink own x.catchType name).before args s = true) (hcast : (Cond.castable X name).before args s = true) (hcell : H[q]? = some ce) (hv : ce.vm = .none) (hcl : s.vm.findClass X = some ce.cls)
    (kk : W p l e R s m args below meth c H locs cells slots Q (F0 m x.handlerPc ls [.ref q])) : WX p l e R s m args below meth c H locs cells slots Q (F0 m pc ls rest) q := by
  intro T hT Y
  have hpl : e.platform.magicAccessors = ({} : Platform).magicAccessors := by rw [Y.admits.platform]
  obtain ⟨c3, c4, hc3, hc4, hasg⟩ := Cond.castable_spec hcast
  cases Option.some.inj (hc3.symm.trans hcl)
  obtain ⟨c5, hc5, hcl5⟩ := Cond.classLink_spec hown hlink e.platform hpl
  cases Option.some.inj (hc4.symm.trans hc5)
  obtain ⟨vm', X', st⟩ := Y.thenCaughtThrough q (g := F0 m pc ls rest) rfl (Steps.refl _) (by rw [hT]; exact hcell) (by rw [hv]; rfl) (by obtain ⟨k9, h9, -⟩ := Vm.findClass_spec hcl; exact ⟨k9, h9⟩) pre x suf hsplit
    (fun z hz => by
      obtain ⟨hz0, nm, hl1, hn1⟩ := hpass z hz
      obtain ⟨c6, hc6, hcl6⟩ := Cond.classLink_spec hown hl1 e.platform hpl
      obtain ⟨a8, b8, h1, h2, h3⟩ := hn1
      cases Option.some.inj (h1.symm.trans hcl)
      cases Option.some.inj (h2.symm.trans hc6)
      exact Or.inr ⟨hz0, _, hcl6, h3⟩) hx (Or.inr ⟨h0, c4, hcl5, hasg⟩)
  obtain ⟨t, a1, b1⟩ := kk (T.setVm vm') hT X'
  exact ⟨t, st.trans a1, b1⟩
end TXC
