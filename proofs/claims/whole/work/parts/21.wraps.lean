/-! The law's methods that call the class and catch what it throws (written by wip/whole/p21.py) -/
/-- the law's array of one long -/
def ob (E : Nat → ClassId) (o0 : Nat) (v : Int64) (H : Heap) : Prop := H[o0]? = some (vp_cell (E 2) (1, .inr (.inl (fun _ => v))))
def wA (La : la_L) (o0 : Nat) : Nat → Prop := fun q => la_A La q ∨ q = o0
/-- the method returns k; the memory mu becomes mu1, the long v0 becomes v1; at most one cell is made -/
def cl (l : Launch) (y : MethodName) (cd : ByteArray) (n : Nat) (hh : List (Nat × Nat × Nat × Nat)) (fr lo : Nat) (D : va_G) (E : Nat → ClassId) (La : la_L) (o0 : Nat) (av : List Value) (mu : la_M) (v0 : Int64) (k : Int32) (mu1 : la_M) (v1 : Int64) : Prop :=
  Met l y (.codeWith y cd n (some .int) hh :: gw) (rmx fr lo) (va_Pc av (fun U => la_P D cls5 La mu U.heap ∧ ki D E U ∧ tk La U U.heap ∧ ob E o0 v0 U.heap)) (cw_Q (some (.int k)) (fun H => la_P D cls5 La mu1 H ∧ ob E o0 v1 H) (wA La o0)) 1 6 (wA La o0)
def hE (q : Nat × Nat × Nat × Nat) : ExceptionTableEntry := { startPc := q.1, endPc := q.2.1, handlerPc := q.2.2.1, catchType := q.2.2.2 }
theorem cl_begin {l : Launch} {y : MethodName} {cd : ByteArray} {n : Nat} {hh : List (Nat × Nat × Nat × Nat)} {fr lo : Nat} {D : va_G} {E : Nat → ClassId} {La : la_L} {o0 : Nat} {av : List Value} {mu mu1 : la_M} {v0 v1 : Int64} {k : Int32} (own : String) (hy : plainName y.cls = true) (ho : y.cls = own) (hn : (lg_sl av).length ≤ n)
    (body : ∀ (p : Program) (e : Env) (s : State) (m : MethodId) (below : List Frame) (meth : Method) (c : Code) (ls : Array Slot), zz own cd n D E p s m c av.toArray → meth.sig.returnType = some .int → meth.locks = false → c.exceptionTable.toList = hh.map hE → la_P D cls5 La mu s.heap → tk La s s.heap → ob E o0 v0 s.heap → va_S (wA La o0) s.heap s.heap [] → lv_has ls n (lv_args 0 av) →
      W p l e (rmx fr lo) s m av.toArray below meth c s.heap [] 0 0 (MQ below (cw_Q (some (.int k)) (fun H => la_P D cls5 La mu1 H ∧ ob E o0 v1 H) (wA La o0)) av.toArray s 1 6 (wA La o0)) (F0 m 0 ls [])) : cl l y cd n hh fr lo D E La o0 av mu v0 k mu1 v1 := by
  refine va_MetW (cc := cd) (maxL := n) (ret := some .int) (hh := hh) hy rfl ?_
  intro p e s m args below meth c s₁ B hml hv
  obtain ⟨rfl, hP, hK, hk, hO⟩ := hv
  have hts := atoms_spec (ws := .codeWith y cd n (some .int) hh :: gw) B.pre
  have hown : s.vm.findClass y.cls = some m.cls := findClass_of_methodNamed B.named
  rw [ho] at hown
  have X0 := Stand.of_body B
  obtain ⟨m', meth', c', hn9, h1, h2, -, -, h5, -⟩ := Cond.codeWith_spec (hts _ List.mem_cons_self)
  cases hn9.symm.trans B.named
  cases h1.symm.trans B.method
  cases h2.symm.trans X0.code
  have htb : c.exceptionTable.toList = hh.map hE := by
    rw [← h5, List.map_map]
    exact (List.map_id _).symm
  have hl := lv_entry av hn
  rw [lg_entry_eq]
  exact body p e s m below meth c _ ⟨B.exec, B.bytes, hml, hown, fun w h => hts w (List.mem_cons_of_mem _ h), hK⟩ B.returns B.notSynchronized htb hP hk hO va_S.rf hl
section WLS
variable {p : Program} {l : Launch} {e : Env} {R : Room} {s : State} {m : MethodId} {args : Array Value} {below : List Frame} {meth : Method} {c : Code} {H : Heap} {locs : List Loc} {cells slots : Nat} {Q : State → Prop}
variable {cc : ByteArray} {nL pc : Nat} {ls : Array Slot} {D : va_G} {E : Nat → ClassId} {La : la_L} {mu mu1 : la_M} {own C : String} {index n maxL fr lo : Nat} {y : MethodName} {bytes : ByteArray} {As rest st0 : List Value} {o0 : Nat} {v0 v1 : Int64} {k : Int32} {A0 : Nat → Prop} {H0 : Heap} {hh : List (Nat × Nat × Nat × Nat)}
theorem W.wide {g : JFrame} {k n : Nat} (h1 : cells ≤ k) (h2 : slots ≤ n) (kk : W p l e R s m args below meth c H locs k n Q g) : W p l e R s m args below meth c H locs cells slots Q g := fun T hT X => kk T hT (stand_widen X h1 h2)
theorem ob_st (Z : zz own cc nL D E p s m c args) (hP : la_P D cls5 La mu H) (hO : ob E o0 v0 H) (hna : ¬ la_A La o0) (hS : va_S A0 H0 H locs) (hA : A0 o0) {x : Int64} (hdg : decode cc pc = .ok (.lastore, 1))
    (kk : ∀ (H1 : Heap) (locs1 : List Loc), la_P D cls5 La mu H1 → ob E o0 x H1 → va_S A0 H0 H1 locs1 → W p l e R s m args below meth c H1 locs1 cells slots Q (F0 m (pc + 1) ls rest)) : W p l e R s m args below meth c H locs cells slots Q (F0 m pc ls (.long x :: .int 0 :: .ref o0 :: rest)) := by
  have hK : va_K D cls5 (tyE E) s := Z.2.2.2.2.2
  refine W.last Z.1 Z.2.1 hO ((hK.2 2 (E 2, .long) rfl).1 1 (fun _ => .long v0)) (fun q => by cases q) (by show ¬ ((0 : Int32) < 0 ∨ (arrV _ _ _).slots.size ≤ _); rw [arrV_size]; show ¬ ((0 : Int32) < 0 ∨ 1 ≤ Int32.toNatClampNeg 0); decide) rfl rfl hdg fun H1 e z oq => ?_
  refine kk H1 _ (hP.kept (fun a ha => oq a (fun h => hna (by rw [← h]; exact ha)))) ?_ (hS.put z oq hA)
  show H1[o0]? = some (vp_cell _ _)
  rw [e, vp_cell_l, vp_cell_l, arrV_store]
  unfold arrV
  congr 1
theorem ob_ld (Z : zz own cc nL D E p s m c args) (hO : ob E o0 v0 H) (hdg : decode cc pc = .ok (.laload, 1))
    (kk : W p l e R s m args below meth c H locs cells slots Q (F0 m (pc + 1) ls (.long v0 :: rest))) : W p l e R s m args below meth c H locs cells slots Q (F0 m pc ls (.int 0 :: .ref o0 :: rest)) := by
  have hK : va_K D cls5 (tyE E) s := Z.2.2.2.2.2
  refine W.lald Z.1 Z.2.1 (v := .long v0) hO ((hK.2 2 (E 2, .long) rfl).1 1 (fun _ => .long v0)) (fun q => by cases q) (by show ¬ ((0 : Int32) < 0 ∨ (arrV _ _ _).slots.size ≤ _); rw [arrV_size]; show ¬ ((0 : Int32) < 0 ∨ 1 ≤ Int32.toNatClampNeg 0); decide) ?_ rfl rfl hdg kk
  rw [vp_cell_l]
  exact arrV_read _ _ (by decide)
/-- the static facts of a static call of a method with a table -/
def kb (own : String) (index : Nat) (y : MethodName) (bytes : ByteArray) (maxL : Nat) (hh : List (Nat × Nat × Nat × Nat)) (n : Nat) : Prop :=
  Cond.methodLink own index y ∈ gw ∧ Cond.static y ∈ gw ∧ Cond.initialized y.cls ∈ gw ∧ Cond.codeWith y bytes maxL (some .int) hh ∈ gw ∧
  (y.cls ≠ "java/lang/invoke/MethodHandle" ∧ y.cls ≠ "java/lang/invoke/VarHandle" ∧ (parseMethodDescriptor y.desc).map (fun d => d.parameters.length) = some n)
theorem cl_blind {av : List Value} : FrameBlind (va_Pc av (fun U => la_P D cls5 La mu U.heap ∧ ki D E U ∧ tk La U U.heap ∧ ob E o0 v0 U.heap)) := fun a U g mk q => ⟨q.1, q.2.1, va_K.moved (u := U) (U := U.calling g mk a) (Vm.Alike.refl U.vm) q.2.2.1, tk.moved (s := U) (U := U.calling g mk a) (State.WarmedH.refl U) q.2.2.2.1, q.2.2.2.2⟩
/-- a call of such a method -/
theorem cl_S (Z : zz own cc nL D E p s m c args) (K : kb own index y bytes maxL hh n) (hM : cl l y bytes maxL hh fr lo D E La o0 As mu v0 k mu1 v1) (hP : la_P D cls5 La mu H) (hk : tk La s H) (hO : ob E o0 v0 H) (hS : va_S A0 H0 H locs) (hA : ∀ q, wA La o0 q → A0 q)
    (rest : List Value) (hst : st0 = As.reverse ++ rest) (hn : As.length = n) (hsize : ls.size = nL) (hW : (rest.map fun v => v.category).sum ≤ 8) (hR : fr + 1 ≤ R.frames ∧ 8 + (maxL + 11) + lo ≤ R.locals) (hcs : cells + 1 ≤ R.cells ∧ slots + 6 ≤ R.slots) (hdg : decode cc pc = .ok (.invokestatic index, 3))
    (kk : ∀ (H1 : Heap) (locs1 : List Loc), la_P D cls5 La mu1 H1 → ob E o0 v1 H1 → (∀ q : Nat, q < H.size → ¬ wA La o0 q → H1[q]? = H[q]?) → va_S A0 H0 H1 locs1 → W p l e R s m args below meth c H1 locs1 (cells + 1) (slots + 6) Q (F0 m (pc + 3) ls (.int k :: rest))) : W p l e R s m args below meth c H locs cells slots Q (F0 m pc ls st0) := by
  intro T hT Y
  obtain ⟨hexec, hb, hml, hown, hts, hK⟩ := Z
  obtain ⟨k1, k2, k3, k4, hy1, hy2, hd⟩ := K
  obtain ⟨mk, methM, cM, hnamed, hmethM, -, -, -, -, -, -, hsigM⟩ := Cond.codeWith_spec (hts _ k4)
  have hstatic : methM.isStatic = true := Cond.static_spec hnamed hmethM (hts _ k2)
  obtain ⟨kP, hkP, -⟩ := className_of_methodNamed hnamed
  have hinitP : kP.init = .initialized := Cond.initialized_spec (findClass_of_methodNamed hnamed) hkP (hts _ k3)
  have hlen : ∀ sig, parseMethodDescriptor y.desc = some sig → As.length = sig.parameters.length := fun sig h => by
    rw [h] at hd
    exact hn.trans (Option.some.inj hd).symm
  obtain ⟨vm₁, X₁, hstep₁⟩ := Y.invokestatic hexec hown (hts _ k1) hnamed hmethM hstatic hkP hinitP ⟨hy1, hy2⟩ (g := F0 m pc ls st0) rfl (argsL := As) (rest := rest) (hlen _ hsigM) hst (by rw [hb]; exact hdg)
  have hB : Back l R p e below s args y 3 8 (PreOf R 1 6 _) (PostOf _ 1 6 (wA La o0)) := va_backW (hh := hh) (bytes := bytes) (maxL := maxL) (ret := some .int) hM cl_blind rfl rfl hR.1 hR.2 (fun w hw a' U hWU => by
      rcases List.mem_cons.mp hw with rfl | hw
      · exact word_at hWU (good_of_word (gw_good _ k4)) (hts _ k4)
      · exact word_at hWU (good_of_word (gw_good _ hw)) (hts _ hw)) List.mem_cons_self (fun a' U hWU => word_at hWU (good_of_word (gw_good _ k3)) (hts _ k3))
  obtain ⟨v, ⟨U', l2, c2, s2⟩, X', ⟨g', mk', t, L, e1, e2, ⟨hv, ⟨hP1, hO1⟩, hz, hkp⟩, h1, hL, h2, h3⟩, hsteps⟩ := hB m meth c ⟨T.setVm vm₁, locs, cells, slots⟩ (F0 m pc ls rest) (.invokestatic index) mk As.toArray X₁ rfl (hsize.trans hml.symm) (by rw [hb]; exact hdg) (lv_room hW) (X₁.named hnamed)
    ⟨hcs.1, hcs.2, rfl, by show la_P D cls5 La mu T.heap; rw [hT]; exact hP, ki.moved X₁.warmed.alike hK, by show tk La _ T.heap; rw [hT]; exact hk.moved X₁.warmed, by show ob E o0 v0 T.heap; rw [hT]; exact hO⟩
  cases hv
  have hTh : ((T.setVm vm₁).calling g' mk' As.toArray).heap = H := hT
  rw [hTh] at hz hkp
  have e1 : U'.heap = t.heap := e1
  have h1 : l2 = locs ++ L := h1
  have h2 : c2 = cells + 1 := h2
  have h3 : s2 = slots + 6 := h3
  subst h1; subst h2; subst h3
  obtain ⟨t2, a1, b1⟩ := kk U'.heap (locs ++ L) (by rw [e1]; exact hP1) (by rw [e1]; exact hO1) (fun q h1 h2 => by rw [e1]; exact hkp q h1 h2)
    ⟨Nat.le_trans hS.1 (by rw [e1]; exact hz), fun q h1 h2 => by rw [e1, hkp q (Nat.lt_of_lt_of_le h1 hS.1) (fun z => h2 (hA q z))]; exact hS.2.1 q h1 h2, fun q hq => by
      rcases List.mem_append.mp hq with h | h
      · exact hS.2.2 q h
      · exact hA _ (hL q h)⟩ U' rfl X'
  exact ⟨t2, (hstep₁ _ fun acts => by rw [doInvoke_state]; exact hsteps).trans a1, b1⟩
end WLS
theorem wk_13 : Cond.classLink R_Lw 13 xA ∈ gw := List.mem_filter.mpr ⟨List.mem_append_right _ (by decide +kernel), by decide +kernel⟩
theorem wk_15 : Cond.classLink R_Lw 15 xB ∈ gw := List.mem_filter.mpr ⟨List.mem_append_right _ (by decide +kernel), by decide +kernel⟩
theorem wk_17 : Cond.classLink R_Lw 17 xU ∈ gw := List.mem_filter.mpr ⟨List.mem_append_right _ (by decide +kernel), by decide +kernel⟩
theorem wk_31 : Cond.classLink R_Lw 31 xS ∈ gw := List.mem_filter.mpr ⟨List.mem_append_right _ (by decide +kernel), by decide +kernel⟩
theorem kb_60 : kb R_Lw 60 y_Lw_insert b_Lw_insert 6 [(0, 12, 15, 13), (0, 12, 19, 15), (0, 12, 23, 17)] 5 := ⟨wl_Lw_60, wsm_Lw_insert, wi_Lw, wc_Lw_insert, by decide +kernel⟩
set_option maxHeartbeats 4000000 in
set_option maxRecDepth 100000 in
theorem w_insert_r (l : Launch) (D : va_G) (E : Nat → ClassId) (La : la_L) {b0 o0 : Nat} (he : isEr E La b0) (hna : ¬ la_A La o0) {mu mu1 : la_M} {cl0 at0 x v : Int32} {v0 : Int64} (hM : cw l y_Er_insert b_Er_insert 5 (some .int) 4 90 D E La [.ref b0, .int cl0, .int at0, .int x] mu (some (.int v)) mu1) : cl l y_Lw_insert b_Lw_insert 6 [(0, 12, 15, 13), (0, 12, 19, 15), (0, 12, 23, 17)] 8 135 D E La o0 [.ref b0, .int cl0, .int at0, .int x, .ref o0] mu v0 0 mu1 v.toInt64 := by
  refine cl_begin R_Lw (by decide) rfl (Nat.le_of_ble_eq_true rfl) ?_
  intro p e s m below meth c ls Z hr hlocks htb hP htk hO hS hl
  have hx := Z.1
  have hb := Z.2.1
  have hK : va_K D cls5 (tyE E) s := Z.2.2.2.2.2
  have hl : lv_has ls 6 [(0, .ref b0), (1, .int cl0), (2, .int at0), (3, .int x), (4, .ref o0)] := hl
  refine lv_aload hx hb d_Lw_insert_0 (lv_at hl 4 rfl) ?_
  refine lv_iconst (v := 0) hx hb d_Lw_insert_2 (by decide) ?_
  refine lv_aload_n hx hb d_Lw_insert_3 rfl (lv_at hl 0 rfl) ?_
  refine lv_iload_n hx hb d_Lw_insert_4 rfl (lv_at hl 1 rfl) ?_
  refine lv_iload_n hx hb d_Lw_insert_5 rfl (lv_at hl 2 rfl) ?_
  refine lv_iload_n hx hb d_Lw_insert_6 rfl (lv_at hl 3 rfl) ?_
  refine cw_V Z kv_Lw_7 hM hP hS (fun _ h => Or.inl h) (la_recv hK hP kc_Er he.1 rfl) [.int 0, .ref o0] rfl rfl hl.1 (Nat.le_of_ble_eq_true rfl) ⟨by decide, by decide⟩ ⟨Nat.zero_le _, Nat.zero_le _⟩ d_Lw_insert_7 (fun H locs hP hkp hS => ?_)
  have hO : ob E o0 v0 H := (hkp o0 (Array.getElem?_eq_some_iff.mp hO).1 hna).trans hO
  refine lv_i2l hx hb d_Lw_insert_10 rfl ?_
  refine ob_st Z hP hO hna hS (Or.inr rfl) d_Lw_insert_11 (fun H locs hP hO hS => ?_)
  refine lv_goto (tgt := 27) hx hb d_Lw_insert_12 rfl ?_
  refine lv_iconst (v := 0) hx hb d_Lw_insert_27 (by decide) ?_
  exact W.wide (by decide) (by decide) (W.iret hx hb hr (fun t ht hW => ⟨rfl, by rw [ht]; exact ⟨hP, hO⟩, hS.F ht⟩) hS.2.2 d_Lw_insert_28)
set_option maxHeartbeats 4000000 in
set_option maxRecDepth 100000 in
theorem w_insert_1 (l : Launch) (D : va_G) (E : Nat → ClassId) (La : la_L) {b0 o0 : Nat} (he : isEr E La b0) (hna : ¬ la_A La o0) {mu : la_M} {cl0 at0 x : Int32} {v0 : Int64} (hM : ct l y_Er_insert b_Er_insert 5 (some .int) 7 111 D E La [.ref b0, .int cl0, .int at0, .int x] mu xA) : cl l y_Lw_insert b_Lw_insert 6 [(0, 12, 15, 13), (0, 12, 19, 15), (0, 12, 23, 17)] 8 135 D E La o0 [.ref b0, .int cl0, .int at0, .int x, .ref o0] mu v0 1 mu v0 := by
  refine cl_begin R_Lw (by decide) rfl (Nat.le_of_ble_eq_true rfl) ?_
  intro p e s m below meth c ls Z hr hlocks htb hP htk hO hS hl
  have hx := Z.1
  have hb := Z.2.1
  have hK : va_K D cls5 (tyE E) s := Z.2.2.2.2.2
  have hl : lv_has ls 6 [(0, .ref b0), (1, .int cl0), (2, .int at0), (3, .int x), (4, .ref o0)] := hl
  refine lv_aload hx hb d_Lw_insert_0 (lv_at hl 4 rfl) ?_
  refine lv_iconst (v := 0) hx hb d_Lw_insert_2 (by decide) ?_
  refine lv_aload_n hx hb d_Lw_insert_3 rfl (lv_at hl 0 rfl) ?_
  refine lv_iload_n hx hb d_Lw_insert_4 rfl (lv_at hl 1 rfl) ?_
  refine lv_iload_n hx hb d_Lw_insert_5 rfl (lv_at hl 2 rfl) ?_
  refine lv_iload_n hx hb d_Lw_insert_6 rfl (lv_at hl 3 rfl) ?_
  refine tc_V Z kv_Lw_7 hM hP htk (la_recv hK hP kc_Er he.1 rfl) [.int 0, .ref o0] rfl rfl hl.1 (Nat.le_of_ble_eq_true rfl) ⟨by decide, by decide⟩ ⟨Nat.le_refl _, Nat.le_refl _⟩ d_Lw_insert_7 (fun H1 q9 ce g1 g2 g3 g4 g5 => ?_)
  refine tc_catch (X := xA) (name := xA) Z.2.2.2.1 [] (hE (0, 12, 15, 13)) [hE (0, 12, 19, 15), hE (0, 12, 23, 17)] htb (fun z hz => ?_) (by decide) (by decide) (Z.2.2.2.2.1 _ wk_13) (fw_at (Vm.Alike.refl s.vm) (by decide) (htk.1 (.castable xA xA) (by decide))) g3 g4 g5 ?_
  · skip
    exact absurd hz List.not_mem_nil
  · skip
    have hP : la_P D cls5 La mu H1 := hP.kept (fun a ha => g2 a (hP.lt ha))
    have hO : ob E o0 v0 H1 := (g2 o0 (Array.getElem?_eq_some_iff.mp hO).1).trans hO
    have hS : va_S (wA La o0) s.heap H1 [] := ⟨g1, fun q hq _ => g2 q hq, fun l h => by cases h⟩
    refine lv_astore hx hb d_Lw_insert_15 hl (by decide) rfl (fun ls hl => ?_)
    have hl : lv_has ls 6 [(5, .ref q9), (0, .ref b0), (1, .int cl0), (2, .int at0), (3, .int x), (4, .ref o0)] := hl
    refine lv_iconst (v := 1) hx hb d_Lw_insert_17 (by decide) ?_
    exact W.wide (by decide) (by decide) (W.iret hx hb hr (fun t ht hW => ⟨rfl, by rw [ht]; exact ⟨hP, hO⟩, hS.F ht⟩) hS.2.2 d_Lw_insert_18)
set_option maxHeartbeats 4000000 in
set_option maxRecDepth 100000 in
theorem w_insert_2 (l : Launch) (D : va_G) (E : Nat → ClassId) (La : la_L) {b0 o0 : Nat} (he : isEr E La b0) (hna : ¬ la_A La o0) {mu : la_M} {cl0 at0 x : Int32} {v0 : Int64} (hM : ct l y_Er_insert b_Er_insert 5 (some .int) 7 111 D E La [.ref b0, .int cl0, .int at0, .int x] mu xB) : cl l y_Lw_insert b_Lw_insert 6 [(0, 12, 15, 13), (0, 12, 19, 15), (0, 12, 23, 17)] 8 135 D E La o0 [.ref b0, .int cl0, .int at0, .int x, .ref o0] mu v0 2 mu v0 := by
  refine cl_begin R_Lw (by decide) rfl (Nat.le_of_ble_eq_true rfl) ?_
  intro p e s m below meth c ls Z hr hlocks htb hP htk hO hS hl
  have hx := Z.1
  have hb := Z.2.1
  have hK : va_K D cls5 (tyE E) s := Z.2.2.2.2.2
  have hl : lv_has ls 6 [(0, .ref b0), (1, .int cl0), (2, .int at0), (3, .int x), (4, .ref o0)] := hl
  refine lv_aload hx hb d_Lw_insert_0 (lv_at hl 4 rfl) ?_
  refine lv_iconst (v := 0) hx hb d_Lw_insert_2 (by decide) ?_
  refine lv_aload_n hx hb d_Lw_insert_3 rfl (lv_at hl 0 rfl) ?_
  refine lv_iload_n hx hb d_Lw_insert_4 rfl (lv_at hl 1 rfl) ?_
  refine lv_iload_n hx hb d_Lw_insert_5 rfl (lv_at hl 2 rfl) ?_
  refine lv_iload_n hx hb d_Lw_insert_6 rfl (lv_at hl 3 rfl) ?_
  refine tc_V Z kv_Lw_7 hM hP htk (la_recv hK hP kc_Er he.1 rfl) [.int 0, .ref o0] rfl rfl hl.1 (Nat.le_of_ble_eq_true rfl) ⟨by decide, by decide⟩ ⟨Nat.le_refl _, Nat.le_refl _⟩ d_Lw_insert_7 (fun H1 q9 ce g1 g2 g3 g4 g5 => ?_)
  refine tc_catch (X := xB) (name := xB) Z.2.2.2.1 [hE (0, 12, 15, 13)] (hE (0, 12, 19, 15)) [hE (0, 12, 23, 17)] htb (fun z hz => ?_) (by decide) (by decide) (Z.2.2.2.2.1 _ wk_15) (fw_at (Vm.Alike.refl s.vm) (by decide) (htk.1 (.castable xB xB) (by decide))) g3 g4 g5 ?_
  · skip
    simp only [List.mem_cons, List.not_mem_nil, or_false] at hz
    rcases hz with rfl
    · exact ⟨by decide, xA, Z.2.2.2.2.1 _ wk_13, htk.2.2.2.1 (xB, xA) (by decide)⟩
  · skip
    have hP : la_P D cls5 La mu H1 := hP.kept (fun a ha => g2 a (hP.lt ha))
    have hO : ob E o0 v0 H1 := (g2 o0 (Array.getElem?_eq_some_iff.mp hO).1).trans hO
    have hS : va_S (wA La o0) s.heap H1 [] := ⟨g1, fun q hq _ => g2 q hq, fun l h => by cases h⟩
    refine lv_astore hx hb d_Lw_insert_19 hl (by decide) rfl (fun ls hl => ?_)
    have hl : lv_has ls 6 [(5, .ref q9), (0, .ref b0), (1, .int cl0), (2, .int at0), (3, .int x), (4, .ref o0)] := hl
    refine lv_iconst (v := 2) hx hb d_Lw_insert_21 (by decide) ?_
    exact W.wide (by decide) (by decide) (W.iret hx hb hr (fun t ht hW => ⟨rfl, by rw [ht]; exact ⟨hP, hO⟩, hS.F ht⟩) hS.2.2 d_Lw_insert_22)
set_option maxHeartbeats 4000000 in
set_option maxRecDepth 100000 in
theorem w_insert_3 (l : Launch) (D : va_G) (E : Nat → ClassId) (La : la_L) {b0 o0 : Nat} (he : isEr E La b0) (hna : ¬ la_A La o0) {mu : la_M} {cl0 at0 x : Int32} {v0 : Int64} (hM : ct l y_Er_insert b_Er_insert 5 (some .int) 7 111 D E La [.ref b0, .int cl0, .int at0, .int x] mu xU) : cl l y_Lw_insert b_Lw_insert 6 [(0, 12, 15, 13), (0, 12, 19, 15), (0, 12, 23, 17)] 8 135 D E La o0 [.ref b0, .int cl0, .int at0, .int x, .ref o0] mu v0 3 mu v0 := by
  refine cl_begin R_Lw (by decide) rfl (Nat.le_of_ble_eq_true rfl) ?_
  intro p e s m below meth c ls Z hr hlocks htb hP htk hO hS hl
  have hx := Z.1
  have hb := Z.2.1
  have hK : va_K D cls5 (tyE E) s := Z.2.2.2.2.2
  have hl : lv_has ls 6 [(0, .ref b0), (1, .int cl0), (2, .int at0), (3, .int x), (4, .ref o0)] := hl
  refine lv_aload hx hb d_Lw_insert_0 (lv_at hl 4 rfl) ?_
  refine lv_iconst (v := 0) hx hb d_Lw_insert_2 (by decide) ?_
  refine lv_aload_n hx hb d_Lw_insert_3 rfl (lv_at hl 0 rfl) ?_
  refine lv_iload_n hx hb d_Lw_insert_4 rfl (lv_at hl 1 rfl) ?_
  refine lv_iload_n hx hb d_Lw_insert_5 rfl (lv_at hl 2 rfl) ?_
  refine lv_iload_n hx hb d_Lw_insert_6 rfl (lv_at hl 3 rfl) ?_
  refine tc_V Z kv_Lw_7 hM hP htk (la_recv hK hP kc_Er he.1 rfl) [.int 0, .ref o0] rfl rfl hl.1 (Nat.le_of_ble_eq_true rfl) ⟨by decide, by decide⟩ ⟨Nat.le_refl _, Nat.le_refl _⟩ d_Lw_insert_7 (fun H1 q9 ce g1 g2 g3 g4 g5 => ?_)
  refine tc_catch (X := xU) (name := xU) Z.2.2.2.1 [hE (0, 12, 15, 13), hE (0, 12, 19, 15)] (hE (0, 12, 23, 17)) [] htb (fun z hz => ?_) (by decide) (by decide) (Z.2.2.2.2.1 _ wk_17) (fw_at (Vm.Alike.refl s.vm) (by decide) (htk.1 (.castable xU xU) (by decide))) g3 g4 g5 ?_
  · skip
    simp only [List.mem_cons, List.not_mem_nil, or_false] at hz
    rcases hz with rfl | rfl
    · exact ⟨by decide, xA, Z.2.2.2.2.1 _ wk_13, htk.2.2.2.1 (xU, xA) (by decide)⟩
    · exact ⟨by decide, xB, Z.2.2.2.2.1 _ wk_15, htk.2.2.2.1 (xU, xB) (by decide)⟩
  · skip
    have hP : la_P D cls5 La mu H1 := hP.kept (fun a ha => g2 a (hP.lt ha))
    have hO : ob E o0 v0 H1 := (g2 o0 (Array.getElem?_eq_some_iff.mp hO).1).trans hO
    have hS : va_S (wA La o0) s.heap H1 [] := ⟨g1, fun q hq _ => g2 q hq, fun l h => by cases h⟩
    refine lv_astore hx hb d_Lw_insert_23 hl (by decide) rfl (fun ls hl => ?_)
    have hl : lv_has ls 6 [(5, .ref q9), (0, .ref b0), (1, .int cl0), (2, .int at0), (3, .int x), (4, .ref o0)] := hl
    refine lv_iconst (v := 3) hx hb d_Lw_insert_25 (by decide) ?_
    exact W.wide (by decide) (by decide) (W.iret hx hb hr (fun t ht hW => ⟨rfl, by rw [ht]; exact ⟨hP, hO⟩, hS.F ht⟩) hS.2.2 d_Lw_insert_26)
theorem kb_70 : kb R_Lw 70 y_Lw_delete b_Lw_delete 5 [(0, 10, 13, 13), (0, 10, 17, 15), (0, 10, 21, 17)] 4 := ⟨wl_Lw_70, wsm_Lw_delete, wi_Lw, wc_Lw_delete, by decide +kernel⟩
set_option maxHeartbeats 4000000 in
set_option maxRecDepth 100000 in
theorem w_delete_r (l : Launch) (D : va_G) (E : Nat → ClassId) (La : la_L) {b0 o0 : Nat} (he : isEr E La b0) (hna : ¬ la_A La o0) {mu mu1 : la_M} {cl0 at0 v : Int32} {v0 : Int64} (hM : cw l y_Er_delete b_Er_delete 5 (some .int) 4 90 D E La [.ref b0, .int cl0, .int at0] mu (some (.int v)) mu1) : cl l y_Lw_delete b_Lw_delete 5 [(0, 10, 13, 13), (0, 10, 17, 15), (0, 10, 21, 17)] 8 135 D E La o0 [.ref b0, .int cl0, .int at0, .ref o0] mu v0 0 mu1 v.toInt64 := by
  refine cl_begin R_Lw (by decide) rfl (Nat.le_of_ble_eq_true rfl) ?_
  intro p e s m below meth c ls Z hr hlocks htb hP htk hO hS hl
  have hx := Z.1
  have hb := Z.2.1
  have hK : va_K D cls5 (tyE E) s := Z.2.2.2.2.2
  have hl : lv_has ls 5 [(0, .ref b0), (1, .int cl0), (2, .int at0), (3, .ref o0)] := hl
  refine lv_aload_n hx hb d_Lw_delete_0 rfl (lv_at hl 3 rfl) ?_
  refine lv_iconst (v := 0) hx hb d_Lw_delete_1 (by decide) ?_
  refine lv_aload_n hx hb d_Lw_delete_2 rfl (lv_at hl 0 rfl) ?_
  refine lv_iload_n hx hb d_Lw_delete_3 rfl (lv_at hl 1 rfl) ?_
  refine lv_iload_n hx hb d_Lw_delete_4 rfl (lv_at hl 2 rfl) ?_
  refine cw_V Z kv_Lw_19 hM hP hS (fun _ h => Or.inl h) (la_recv hK hP kc_Er he.1 rfl) [.int 0, .ref o0] rfl rfl hl.1 (Nat.le_of_ble_eq_true rfl) ⟨by decide, by decide⟩ ⟨Nat.zero_le _, Nat.zero_le _⟩ d_Lw_delete_5 (fun H locs hP hkp hS => ?_)
  have hO : ob E o0 v0 H := (hkp o0 (Array.getElem?_eq_some_iff.mp hO).1 hna).trans hO
  refine lv_i2l hx hb d_Lw_delete_8 rfl ?_
  refine ob_st Z hP hO hna hS (Or.inr rfl) d_Lw_delete_9 (fun H locs hP hO hS => ?_)
  refine lv_goto (tgt := 25) hx hb d_Lw_delete_10 rfl ?_
  refine lv_iconst (v := 0) hx hb d_Lw_delete_25 (by decide) ?_
  exact W.wide (by decide) (by decide) (W.iret hx hb hr (fun t ht hW => ⟨rfl, by rw [ht]; exact ⟨hP, hO⟩, hS.F ht⟩) hS.2.2 d_Lw_delete_26)
set_option maxHeartbeats 4000000 in
set_option maxRecDepth 100000 in
theorem w_delete_1 (l : Launch) (D : va_G) (E : Nat → ClassId) (La : la_L) {b0 o0 : Nat} (he : isEr E La b0) (hna : ¬ la_A La o0) {mu : la_M} {cl0 at0 : Int32} {v0 : Int64} (hM : ct l y_Er_delete b_Er_delete 5 (some .int) 7 111 D E La [.ref b0, .int cl0, .int at0] mu xA) : cl l y_Lw_delete b_Lw_delete 5 [(0, 10, 13, 13), (0, 10, 17, 15), (0, 10, 21, 17)] 8 135 D E La o0 [.ref b0, .int cl0, .int at0, .ref o0] mu v0 1 mu v0 := by
  refine cl_begin R_Lw (by decide) rfl (Nat.le_of_ble_eq_true rfl) ?_
  intro p e s m below meth c ls Z hr hlocks htb hP htk hO hS hl
  have hx := Z.1
  have hb := Z.2.1
  have hK : va_K D cls5 (tyE E) s := Z.2.2.2.2.2
  have hl : lv_has ls 5 [(0, .ref b0), (1, .int cl0), (2, .int at0), (3, .ref o0)] := hl
  refine lv_aload_n hx hb d_Lw_delete_0 rfl (lv_at hl 3 rfl) ?_
  refine lv_iconst (v := 0) hx hb d_Lw_delete_1 (by decide) ?_
  refine lv_aload_n hx hb d_Lw_delete_2 rfl (lv_at hl 0 rfl) ?_
  refine lv_iload_n hx hb d_Lw_delete_3 rfl (lv_at hl 1 rfl) ?_
  refine lv_iload_n hx hb d_Lw_delete_4 rfl (lv_at hl 2 rfl) ?_
  refine tc_V Z kv_Lw_19 hM hP htk (la_recv hK hP kc_Er he.1 rfl) [.int 0, .ref o0] rfl rfl hl.1 (Nat.le_of_ble_eq_true rfl) ⟨by decide, by decide⟩ ⟨Nat.le_refl _, Nat.le_refl _⟩ d_Lw_delete_5 (fun H1 q9 ce g1 g2 g3 g4 g5 => ?_)
  refine tc_catch (X := xA) (name := xA) Z.2.2.2.1 [] (hE (0, 10, 13, 13)) [hE (0, 10, 17, 15), hE (0, 10, 21, 17)] htb (fun z hz => ?_) (by decide) (by decide) (Z.2.2.2.2.1 _ wk_13) (fw_at (Vm.Alike.refl s.vm) (by decide) (htk.1 (.castable xA xA) (by decide))) g3 g4 g5 ?_
  · skip
    exact absurd hz List.not_mem_nil
  · skip
    have hP : la_P D cls5 La mu H1 := hP.kept (fun a ha => g2 a (hP.lt ha))
    have hO : ob E o0 v0 H1 := (g2 o0 (Array.getElem?_eq_some_iff.mp hO).1).trans hO
    have hS : va_S (wA La o0) s.heap H1 [] := ⟨g1, fun q hq _ => g2 q hq, fun l h => by cases h⟩
    refine lv_astore hx hb d_Lw_delete_13 hl (by decide) rfl (fun ls hl => ?_)
    have hl : lv_has ls 5 [(4, .ref q9), (0, .ref b0), (1, .int cl0), (2, .int at0), (3, .ref o0)] := hl
    refine lv_iconst (v := 1) hx hb d_Lw_delete_15 (by decide) ?_
    exact W.wide (by decide) (by decide) (W.iret hx hb hr (fun t ht hW => ⟨rfl, by rw [ht]; exact ⟨hP, hO⟩, hS.F ht⟩) hS.2.2 d_Lw_delete_16)
set_option maxHeartbeats 4000000 in
set_option maxRecDepth 100000 in
theorem w_delete_2 (l : Launch) (D : va_G) (E : Nat → ClassId) (La : la_L) {b0 o0 : Nat} (he : isEr E La b0) (hna : ¬ la_A La o0) {mu : la_M} {cl0 at0 : Int32} {v0 : Int64} (hM : ct l y_Er_delete b_Er_delete 5 (some .int) 7 111 D E La [.ref b0, .int cl0, .int at0] mu xB) : cl l y_Lw_delete b_Lw_delete 5 [(0, 10, 13, 13), (0, 10, 17, 15), (0, 10, 21, 17)] 8 135 D E La o0 [.ref b0, .int cl0, .int at0, .ref o0] mu v0 2 mu v0 := by
  refine cl_begin R_Lw (by decide) rfl (Nat.le_of_ble_eq_true rfl) ?_
  intro p e s m below meth c ls Z hr hlocks htb hP htk hO hS hl
  have hx := Z.1
  have hb := Z.2.1
  have hK : va_K D cls5 (tyE E) s := Z.2.2.2.2.2
  have hl : lv_has ls 5 [(0, .ref b0), (1, .int cl0), (2, .int at0), (3, .ref o0)] := hl
  refine lv_aload_n hx hb d_Lw_delete_0 rfl (lv_at hl 3 rfl) ?_
  refine lv_iconst (v := 0) hx hb d_Lw_delete_1 (by decide) ?_
  refine lv_aload_n hx hb d_Lw_delete_2 rfl (lv_at hl 0 rfl) ?_
  refine lv_iload_n hx hb d_Lw_delete_3 rfl (lv_at hl 1 rfl) ?_
  refine lv_iload_n hx hb d_Lw_delete_4 rfl (lv_at hl 2 rfl) ?_
  refine tc_V Z kv_Lw_19 hM hP htk (la_recv hK hP kc_Er he.1 rfl) [.int 0, .ref o0] rfl rfl hl.1 (Nat.le_of_ble_eq_true rfl) ⟨by decide, by decide⟩ ⟨Nat.le_refl _, Nat.le_refl _⟩ d_Lw_delete_5 (fun H1 q9 ce g1 g2 g3 g4 g5 => ?_)
  refine tc_catch (X := xB) (name := xB) Z.2.2.2.1 [hE (0, 10, 13, 13)] (hE (0, 10, 17, 15)) [hE (0, 10, 21, 17)] htb (fun z hz => ?_) (by decide) (by decide) (Z.2.2.2.2.1 _ wk_15) (fw_at (Vm.Alike.refl s.vm) (by decide) (htk.1 (.castable xB xB) (by decide))) g3 g4 g5 ?_
  · skip
    simp only [List.mem_cons, List.not_mem_nil, or_false] at hz
    rcases hz with rfl
    · exact ⟨by decide, xA, Z.2.2.2.2.1 _ wk_13, htk.2.2.2.1 (xB, xA) (by decide)⟩
  · skip
    have hP : la_P D cls5 La mu H1 := hP.kept (fun a ha => g2 a (hP.lt ha))
    have hO : ob E o0 v0 H1 := (g2 o0 (Array.getElem?_eq_some_iff.mp hO).1).trans hO
    have hS : va_S (wA La o0) s.heap H1 [] := ⟨g1, fun q hq _ => g2 q hq, fun l h => by cases h⟩
    refine lv_astore hx hb d_Lw_delete_17 hl (by decide) rfl (fun ls hl => ?_)
    have hl : lv_has ls 5 [(4, .ref q9), (0, .ref b0), (1, .int cl0), (2, .int at0), (3, .ref o0)] := hl
    refine lv_iconst (v := 2) hx hb d_Lw_delete_19 (by decide) ?_
    exact W.wide (by decide) (by decide) (W.iret hx hb hr (fun t ht hW => ⟨rfl, by rw [ht]; exact ⟨hP, hO⟩, hS.F ht⟩) hS.2.2 d_Lw_delete_20)
set_option maxHeartbeats 4000000 in
set_option maxRecDepth 100000 in
theorem w_delete_3 (l : Launch) (D : va_G) (E : Nat → ClassId) (La : la_L) {b0 o0 : Nat} (he : isEr E La b0) (hna : ¬ la_A La o0) {mu : la_M} {cl0 at0 : Int32} {v0 : Int64} (hM : ct l y_Er_delete b_Er_delete 5 (some .int) 7 111 D E La [.ref b0, .int cl0, .int at0] mu xU) : cl l y_Lw_delete b_Lw_delete 5 [(0, 10, 13, 13), (0, 10, 17, 15), (0, 10, 21, 17)] 8 135 D E La o0 [.ref b0, .int cl0, .int at0, .ref o0] mu v0 3 mu v0 := by
  refine cl_begin R_Lw (by decide) rfl (Nat.le_of_ble_eq_true rfl) ?_
  intro p e s m below meth c ls Z hr hlocks htb hP htk hO hS hl
  have hx := Z.1
  have hb := Z.2.1
  have hK : va_K D cls5 (tyE E) s := Z.2.2.2.2.2
  have hl : lv_has ls 5 [(0, .ref b0), (1, .int cl0), (2, .int at0), (3, .ref o0)] := hl
  refine lv_aload_n hx hb d_Lw_delete_0 rfl (lv_at hl 3 rfl) ?_
  refine lv_iconst (v := 0) hx hb d_Lw_delete_1 (by decide) ?_
  refine lv_aload_n hx hb d_Lw_delete_2 rfl (lv_at hl 0 rfl) ?_
  refine lv_iload_n hx hb d_Lw_delete_3 rfl (lv_at hl 1 rfl) ?_
  refine lv_iload_n hx hb d_Lw_delete_4 rfl (lv_at hl 2 rfl) ?_
  refine tc_V Z kv_Lw_19 hM hP htk (la_recv hK hP kc_Er he.1 rfl) [.int 0, .ref o0] rfl rfl hl.1 (Nat.le_of_ble_eq_true rfl) ⟨by decide, by decide⟩ ⟨Nat.le_refl _, Nat.le_refl _⟩ d_Lw_delete_5 (fun H1 q9 ce g1 g2 g3 g4 g5 => ?_)
  refine tc_catch (X := xU) (name := xU) Z.2.2.2.1 [hE (0, 10, 13, 13), hE (0, 10, 17, 15)] (hE (0, 10, 21, 17)) [] htb (fun z hz => ?_) (by decide) (by decide) (Z.2.2.2.2.1 _ wk_17) (fw_at (Vm.Alike.refl s.vm) (by decide) (htk.1 (.castable xU xU) (by decide))) g3 g4 g5 ?_
  · skip
    simp only [List.mem_cons, List.not_mem_nil, or_false] at hz
    rcases hz with rfl | rfl
    · exact ⟨by decide, xA, Z.2.2.2.2.1 _ wk_13, htk.2.2.2.1 (xU, xA) (by decide)⟩
    · exact ⟨by decide, xB, Z.2.2.2.2.1 _ wk_15, htk.2.2.2.1 (xU, xB) (by decide)⟩
  · skip
    have hP : la_P D cls5 La mu H1 := hP.kept (fun a ha => g2 a (hP.lt ha))
    have hO : ob E o0 v0 H1 := (g2 o0 (Array.getElem?_eq_some_iff.mp hO).1).trans hO
    have hS : va_S (wA La o0) s.heap H1 [] := ⟨g1, fun q hq _ => g2 q hq, fun l h => by cases h⟩
    refine lv_astore hx hb d_Lw_delete_21 hl (by decide) rfl (fun ls hl => ?_)
    have hl : lv_has ls 5 [(4, .ref q9), (0, .ref b0), (1, .int cl0), (2, .int at0), (3, .ref o0)] := hl
    refine lv_iconst (v := 3) hx hb d_Lw_delete_23 (by decide) ?_
    exact W.wide (by decide) (by decide) (W.iret hx hb hr (fun t ht hW => ⟨rfl, by rw [ht]; exact ⟨hP, hO⟩, hS.F ht⟩) hS.2.2 d_Lw_delete_24)
theorem kb_74 : kb R_Lw 74 y_Lw_nod b_Lw_nod 3 [(0, 5, 8, 13), (0, 5, 11, 17)] 2 := ⟨wl_Lw_74, wsm_Lw_nod, wi_Lw, wc_Lw_nod, by decide +kernel⟩
set_option maxHeartbeats 4000000 in
set_option maxRecDepth 100000 in
theorem w_nod_r (l : Launch) (D : va_G) (E : Nat → ClassId) (La : la_L) {b0 o0 : Nat} (he : isEr E La b0) (hna : ¬ la_A La o0) {mu mu1 : la_M} {cl0 : Int32} {v0 : Int64} (hM : cw l y_Er_nod b_Er_nod 2 none 4 90 D E La [.ref b0, .int cl0] mu none mu1) : cl l y_Lw_nod b_Lw_nod 3 [(0, 5, 8, 13), (0, 5, 11, 17)] 8 132 D E La o0 [.ref b0, .int cl0] mu v0 0 mu1 v0 := by
  refine cl_begin R_Lw (by decide) rfl (Nat.le_of_ble_eq_true rfl) ?_
  intro p e s m below meth c ls Z hr hlocks htb hP htk hO hS hl
  have hx := Z.1
  have hb := Z.2.1
  have hK : va_K D cls5 (tyE E) s := Z.2.2.2.2.2
  have hl : lv_has ls 3 [(0, .ref b0), (1, .int cl0)] := hl
  refine lv_aload_n hx hb d_Lw_nod_0 rfl (lv_at hl 0 rfl) ?_
  refine lv_iload_n hx hb d_Lw_nod_1 rfl (lv_at hl 1 rfl) ?_
  refine cw_V Z kv_Lw_23 hM hP hS (fun _ h => Or.inl h) (la_recv hK hP kc_Er he.1 rfl) [] rfl rfl hl.1 (Nat.le_of_ble_eq_true rfl) ⟨by decide, by decide⟩ ⟨Nat.zero_le _, Nat.zero_le _⟩ d_Lw_nod_2 (fun H locs hP hkp hS => ?_)
  have hO : ob E o0 v0 H := (hkp o0 (Array.getElem?_eq_some_iff.mp hO).1 hna).trans hO
  refine lv_goto (tgt := 14) hx hb d_Lw_nod_5 rfl ?_
  refine lv_iconst (v := 0) hx hb d_Lw_nod_14 (by decide) ?_
  exact W.wide (by decide) (by decide) (W.iret hx hb hr (fun t ht hW => ⟨rfl, by rw [ht]; exact ⟨hP, hO⟩, hS.F ht⟩) hS.2.2 d_Lw_nod_15)
set_option maxHeartbeats 4000000 in
set_option maxRecDepth 100000 in
theorem w_nod_1 (l : Launch) (D : va_G) (E : Nat → ClassId) (La : la_L) {b0 o0 : Nat} (he : isEr E La b0) (hna : ¬ la_A La o0) {mu : la_M} {cl0 : Int32} {v0 : Int64} (hM : ct l y_Er_nod b_Er_nod 2 none 7 111 D E La [.ref b0, .int cl0] mu xA) : cl l y_Lw_nod b_Lw_nod 3 [(0, 5, 8, 13), (0, 5, 11, 17)] 8 132 D E La o0 [.ref b0, .int cl0] mu v0 1 mu v0 := by
  refine cl_begin R_Lw (by decide) rfl (Nat.le_of_ble_eq_true rfl) ?_
  intro p e s m below meth c ls Z hr hlocks htb hP htk hO hS hl
  have hx := Z.1
  have hb := Z.2.1
  have hK : va_K D cls5 (tyE E) s := Z.2.2.2.2.2
  have hl : lv_has ls 3 [(0, .ref b0), (1, .int cl0)] := hl
  refine lv_aload_n hx hb d_Lw_nod_0 rfl (lv_at hl 0 rfl) ?_
  refine lv_iload_n hx hb d_Lw_nod_1 rfl (lv_at hl 1 rfl) ?_
  refine tc_V Z kv_Lw_23 hM hP htk (la_recv hK hP kc_Er he.1 rfl) [] rfl rfl hl.1 (Nat.le_of_ble_eq_true rfl) ⟨by decide, by decide⟩ ⟨Nat.le_refl _, Nat.le_refl _⟩ d_Lw_nod_2 (fun H1 q9 ce g1 g2 g3 g4 g5 => ?_)
  refine tc_catch (X := xA) (name := xA) Z.2.2.2.1 [] (hE (0, 5, 8, 13)) [hE (0, 5, 11, 17)] htb (fun z hz => ?_) (by decide) (by decide) (Z.2.2.2.2.1 _ wk_13) (fw_at (Vm.Alike.refl s.vm) (by decide) (htk.1 (.castable xA xA) (by decide))) g3 g4 g5 ?_
  · skip
    exact absurd hz List.not_mem_nil
  · skip
    have hP : la_P D cls5 La mu H1 := hP.kept (fun a ha => g2 a (hP.lt ha))
    have hO : ob E o0 v0 H1 := (g2 o0 (Array.getElem?_eq_some_iff.mp hO).1).trans hO
    have hS : va_S (wA La o0) s.heap H1 [] := ⟨g1, fun q hq _ => g2 q hq, fun l h => by cases h⟩
    refine lv_astore_n hx hb d_Lw_nod_8 rfl hl (by decide) rfl (fun ls hl => ?_)
    have hl : lv_has ls 3 [(2, .ref q9), (0, .ref b0), (1, .int cl0)] := hl
    refine lv_iconst (v := 1) hx hb d_Lw_nod_9 (by decide) ?_
    exact W.wide (by decide) (by decide) (W.iret hx hb hr (fun t ht hW => ⟨rfl, by rw [ht]; exact ⟨hP, hO⟩, hS.F ht⟩) hS.2.2 d_Lw_nod_10)
set_option maxHeartbeats 4000000 in
set_option maxRecDepth 100000 in
theorem w_nod_2 (l : Launch) (D : va_G) (E : Nat → ClassId) (La : la_L) {b0 o0 : Nat} (he : isEr E La b0) (hna : ¬ la_A La o0) {mu : la_M} {cl0 : Int32} {v0 : Int64} (hM : ct l y_Er_nod b_Er_nod 2 none 7 111 D E La [.ref b0, .int cl0] mu xU) : cl l y_Lw_nod b_Lw_nod 3 [(0, 5, 8, 13), (0, 5, 11, 17)] 8 132 D E La o0 [.ref b0, .int cl0] mu v0 2 mu v0 := by
  refine cl_begin R_Lw (by decide) rfl (Nat.le_of_ble_eq_true rfl) ?_
  intro p e s m below meth c ls Z hr hlocks htb hP htk hO hS hl
  have hx := Z.1
  have hb := Z.2.1
  have hK : va_K D cls5 (tyE E) s := Z.2.2.2.2.2
  have hl : lv_has ls 3 [(0, .ref b0), (1, .int cl0)] := hl
  refine lv_aload_n hx hb d_Lw_nod_0 rfl (lv_at hl 0 rfl) ?_
  refine lv_iload_n hx hb d_Lw_nod_1 rfl (lv_at hl 1 rfl) ?_
  refine tc_V Z kv_Lw_23 hM hP htk (la_recv hK hP kc_Er he.1 rfl) [] rfl rfl hl.1 (Nat.le_of_ble_eq_true rfl) ⟨by decide, by decide⟩ ⟨Nat.le_refl _, Nat.le_refl _⟩ d_Lw_nod_2 (fun H1 q9 ce g1 g2 g3 g4 g5 => ?_)
  refine tc_catch (X := xU) (name := xU) Z.2.2.2.1 [hE (0, 5, 8, 13)] (hE (0, 5, 11, 17)) [] htb (fun z hz => ?_) (by decide) (by decide) (Z.2.2.2.2.1 _ wk_17) (fw_at (Vm.Alike.refl s.vm) (by decide) (htk.1 (.castable xU xU) (by decide))) g3 g4 g5 ?_
  · skip
    simp only [List.mem_cons, List.not_mem_nil, or_false] at hz
    rcases hz with rfl
    · exact ⟨by decide, xA, Z.2.2.2.2.1 _ wk_13, htk.2.2.2.1 (xU, xA) (by decide)⟩
  · skip
    have hP : la_P D cls5 La mu H1 := hP.kept (fun a ha => g2 a (hP.lt ha))
    have hO : ob E o0 v0 H1 := (g2 o0 (Array.getElem?_eq_some_iff.mp hO).1).trans hO
    have hS : va_S (wA La o0) s.heap H1 [] := ⟨g1, fun q hq _ => g2 q hq, fun l h => by cases h⟩
    refine lv_astore_n hx hb d_Lw_nod_11 rfl hl (by decide) rfl (fun ls hl => ?_)
    have hl : lv_has ls 3 [(2, .ref q9), (0, .ref b0), (1, .int cl0)] := hl
    refine lv_iconst (v := 2) hx hb d_Lw_nod_12 (by decide) ?_
    exact W.wide (by decide) (by decide) (W.iret hx hb hr (fun t ht hW => ⟨rfl, by rw [ht]; exact ⟨hP, hO⟩, hS.F ht⟩) hS.2.2 d_Lw_nod_13)
theorem kb_78 : kb R_Lw 78 y_Lw_push b_Lw_push 4 [(0, 9, 12, 13), (0, 9, 15, 31), (0, 9, 18, 17)] 3 := ⟨wl_Lw_78, wsm_Lw_push, wi_Lw, wc_Lw_push, by decide +kernel⟩
set_option maxHeartbeats 4000000 in
set_option maxRecDepth 100000 in
theorem w_push_r (l : Launch) (D : va_G) (E : Nat → ClassId) (La : la_L) {b0 o0 : Nat} (he : isEr E La b0) (hna : ¬ la_A La o0) {mu mu1 : la_M} {cl0 v : Int32} {v0 : Int64} (hM : cw l y_Er_push b_Er_push 4 (some .int) 5 116 D E La [.ref b0, .int cl0] mu (some (.int v)) mu1) : cl l y_Lw_push b_Lw_push 4 [(0, 9, 12, 13), (0, 9, 15, 31), (0, 9, 18, 17)] 8 139 D E La o0 [.ref b0, .int cl0, .ref o0] mu v0 0 mu1 v.toInt64 := by
  refine cl_begin R_Lw (by decide) rfl (Nat.le_of_ble_eq_true rfl) ?_
  intro p e s m below meth c ls Z hr hlocks htb hP htk hO hS hl
  have hx := Z.1
  have hb := Z.2.1
  have hK : va_K D cls5 (tyE E) s := Z.2.2.2.2.2
  have hl : lv_has ls 4 [(0, .ref b0), (1, .int cl0), (2, .ref o0)] := hl
  refine lv_aload_n hx hb d_Lw_push_0 rfl (lv_at hl 2 rfl) ?_
  refine lv_iconst (v := 0) hx hb d_Lw_push_1 (by decide) ?_
  refine lv_aload_n hx hb d_Lw_push_2 rfl (lv_at hl 0 rfl) ?_
  refine lv_iload_n hx hb d_Lw_push_3 rfl (lv_at hl 1 rfl) ?_
  refine cw_V Z kv_Lw_27 hM hP hS (fun _ h => Or.inl h) (la_recv hK hP kc_Er he.1 rfl) [.int 0, .ref o0] rfl rfl hl.1 (Nat.le_of_ble_eq_true rfl) ⟨by decide, by decide⟩ ⟨Nat.zero_le _, Nat.zero_le _⟩ d_Lw_push_4 (fun H locs hP hkp hS => ?_)
  have hO : ob E o0 v0 H := (hkp o0 (Array.getElem?_eq_some_iff.mp hO).1 hna).trans hO
  refine lv_i2l hx hb d_Lw_push_7 rfl ?_
  refine ob_st Z hP hO hna hS (Or.inr rfl) d_Lw_push_8 (fun H locs hP hO hS => ?_)
  refine lv_goto (tgt := 21) hx hb d_Lw_push_9 rfl ?_
  refine lv_iconst (v := 0) hx hb d_Lw_push_21 (by decide) ?_
  exact W.wide (by decide) (by decide) (W.iret hx hb hr (fun t ht hW => ⟨rfl, by rw [ht]; exact ⟨hP, hO⟩, hS.F ht⟩) hS.2.2 d_Lw_push_22)
set_option maxHeartbeats 4000000 in
set_option maxRecDepth 100000 in
theorem w_push_1 (l : Launch) (D : va_G) (E : Nat → ClassId) (La : la_L) {b0 o0 : Nat} (he : isEr E La b0) (hna : ¬ la_A La o0) {mu : la_M} {cl0 : Int32} {v0 : Int64} (hM : ct l y_Er_push b_Er_push 4 (some .int) 7 110 D E La [.ref b0, .int cl0] mu xA) : cl l y_Lw_push b_Lw_push 4 [(0, 9, 12, 13), (0, 9, 15, 31), (0, 9, 18, 17)] 8 139 D E La o0 [.ref b0, .int cl0, .ref o0] mu v0 1 mu v0 := by
  refine cl_begin R_Lw (by decide) rfl (Nat.le_of_ble_eq_true rfl) ?_
  intro p e s m below meth c ls Z hr hlocks htb hP htk hO hS hl
  have hx := Z.1
  have hb := Z.2.1
  have hK : va_K D cls5 (tyE E) s := Z.2.2.2.2.2
  have hl : lv_has ls 4 [(0, .ref b0), (1, .int cl0), (2, .ref o0)] := hl
  refine lv_aload_n hx hb d_Lw_push_0 rfl (lv_at hl 2 rfl) ?_
  refine lv_iconst (v := 0) hx hb d_Lw_push_1 (by decide) ?_
  refine lv_aload_n hx hb d_Lw_push_2 rfl (lv_at hl 0 rfl) ?_
  refine lv_iload_n hx hb d_Lw_push_3 rfl (lv_at hl 1 rfl) ?_
  refine tc_V Z kv_Lw_27 hM hP htk (la_recv hK hP kc_Er he.1 rfl) [.int 0, .ref o0] rfl rfl hl.1 (Nat.le_of_ble_eq_true rfl) ⟨by decide, by decide⟩ ⟨Nat.le_refl _, Nat.le_refl _⟩ d_Lw_push_4 (fun H1 q9 ce g1 g2 g3 g4 g5 => ?_)
  refine tc_catch (X := xA) (name := xA) Z.2.2.2.1 [] (hE (0, 9, 12, 13)) [hE (0, 9, 15, 31), hE (0, 9, 18, 17)] htb (fun z hz => ?_) (by decide) (by decide) (Z.2.2.2.2.1 _ wk_13) (fw_at (Vm.Alike.refl s.vm) (by decide) (htk.1 (.castable xA xA) (by decide))) g3 g4 g5 ?_
  · skip
    exact absurd hz List.not_mem_nil
  · skip
    have hP : la_P D cls5 La mu H1 := hP.kept (fun a ha => g2 a (hP.lt ha))
    have hO : ob E o0 v0 H1 := (g2 o0 (Array.getElem?_eq_some_iff.mp hO).1).trans hO
    have hS : va_S (wA La o0) s.heap H1 [] := ⟨g1, fun q hq _ => g2 q hq, fun l h => by cases h⟩
    refine lv_astore_n hx hb d_Lw_push_12 rfl hl (by decide) rfl (fun ls hl => ?_)
    have hl : lv_has ls 4 [(3, .ref q9), (0, .ref b0), (1, .int cl0), (2, .ref o0)] := hl
    refine lv_iconst (v := 1) hx hb d_Lw_push_13 (by decide) ?_
    exact W.wide (by decide) (by decide) (W.iret hx hb hr (fun t ht hW => ⟨rfl, by rw [ht]; exact ⟨hP, hO⟩, hS.F ht⟩) hS.2.2 d_Lw_push_14)
set_option maxHeartbeats 4000000 in
set_option maxRecDepth 100000 in
theorem w_push_2 (l : Launch) (D : va_G) (E : Nat → ClassId) (La : la_L) {b0 o0 : Nat} (he : isEr E La b0) (hna : ¬ la_A La o0) {mu : la_M} {cl0 : Int32} {v0 : Int64} (hM : ct l y_Er_push b_Er_push 4 (some .int) 7 110 D E La [.ref b0, .int cl0] mu xS) : cl l y_Lw_push b_Lw_push 4 [(0, 9, 12, 13), (0, 9, 15, 31), (0, 9, 18, 17)] 8 139 D E La o0 [.ref b0, .int cl0, .ref o0] mu v0 2 mu v0 := by
  refine cl_begin R_Lw (by decide) rfl (Nat.le_of_ble_eq_true rfl) ?_
  intro p e s m below meth c ls Z hr hlocks htb hP htk hO hS hl
  have hx := Z.1
  have hb := Z.2.1
  have hK : va_K D cls5 (tyE E) s := Z.2.2.2.2.2
  have hl : lv_has ls 4 [(0, .ref b0), (1, .int cl0), (2, .ref o0)] := hl
  refine lv_aload_n hx hb d_Lw_push_0 rfl (lv_at hl 2 rfl) ?_
  refine lv_iconst (v := 0) hx hb d_Lw_push_1 (by decide) ?_
  refine lv_aload_n hx hb d_Lw_push_2 rfl (lv_at hl 0 rfl) ?_
  refine lv_iload_n hx hb d_Lw_push_3 rfl (lv_at hl 1 rfl) ?_
  refine tc_V Z kv_Lw_27 hM hP htk (la_recv hK hP kc_Er he.1 rfl) [.int 0, .ref o0] rfl rfl hl.1 (Nat.le_of_ble_eq_true rfl) ⟨by decide, by decide⟩ ⟨Nat.le_refl _, Nat.le_refl _⟩ d_Lw_push_4 (fun H1 q9 ce g1 g2 g3 g4 g5 => ?_)
  refine tc_catch (X := xS) (name := xS) Z.2.2.2.1 [hE (0, 9, 12, 13)] (hE (0, 9, 15, 31)) [hE (0, 9, 18, 17)] htb (fun z hz => ?_) (by decide) (by decide) (Z.2.2.2.2.1 _ wk_31) (fw_at (Vm.Alike.refl s.vm) (by decide) (htk.1 (.castable xS xS) (by decide))) g3 g4 g5 ?_
  · skip
    simp only [List.mem_cons, List.not_mem_nil, or_false] at hz
    rcases hz with rfl
    · exact ⟨by decide, xA, Z.2.2.2.2.1 _ wk_13, htk.2.2.2.1 (xS, xA) (by decide)⟩
  · skip
    have hP : la_P D cls5 La mu H1 := hP.kept (fun a ha => g2 a (hP.lt ha))
    have hO : ob E o0 v0 H1 := (g2 o0 (Array.getElem?_eq_some_iff.mp hO).1).trans hO
    have hS : va_S (wA La o0) s.heap H1 [] := ⟨g1, fun q hq _ => g2 q hq, fun l h => by cases h⟩
    refine lv_astore_n hx hb d_Lw_push_15 rfl hl (by decide) rfl (fun ls hl => ?_)
    have hl : lv_has ls 4 [(3, .ref q9), (0, .ref b0), (1, .int cl0), (2, .ref o0)] := hl
    refine lv_iconst (v := 2) hx hb d_Lw_push_16 (by decide) ?_
    exact W.wide (by decide) (by decide) (W.iret hx hb hr (fun t ht hW => ⟨rfl, by rw [ht]; exact ⟨hP, hO⟩, hS.F ht⟩) hS.2.2 d_Lw_push_17)
set_option maxHeartbeats 4000000 in
set_option maxRecDepth 100000 in
theorem w_push_3 (l : Launch) (D : va_G) (E : Nat → ClassId) (La : la_L) {b0 o0 : Nat} (he : isEr E La b0) (hna : ¬ la_A La o0) {mu : la_M} {cl0 : Int32} {v0 : Int64} (hM : ct l y_Er_push b_Er_push 4 (some .int) 7 110 D E La [.ref b0, .int cl0] mu xU) : cl l y_Lw_push b_Lw_push 4 [(0, 9, 12, 13), (0, 9, 15, 31), (0, 9, 18, 17)] 8 139 D E La o0 [.ref b0, .int cl0, .ref o0] mu v0 3 mu v0 := by
  refine cl_begin R_Lw (by decide) rfl (Nat.le_of_ble_eq_true rfl) ?_
  intro p e s m below meth c ls Z hr hlocks htb hP htk hO hS hl
  have hx := Z.1
  have hb := Z.2.1
  have hK : va_K D cls5 (tyE E) s := Z.2.2.2.2.2
  have hl : lv_has ls 4 [(0, .ref b0), (1, .int cl0), (2, .ref o0)] := hl
  refine lv_aload_n hx hb d_Lw_push_0 rfl (lv_at hl 2 rfl) ?_
  refine lv_iconst (v := 0) hx hb d_Lw_push_1 (by decide) ?_
  refine lv_aload_n hx hb d_Lw_push_2 rfl (lv_at hl 0 rfl) ?_
  refine lv_iload_n hx hb d_Lw_push_3 rfl (lv_at hl 1 rfl) ?_
  refine tc_V Z kv_Lw_27 hM hP htk (la_recv hK hP kc_Er he.1 rfl) [.int 0, .ref o0] rfl rfl hl.1 (Nat.le_of_ble_eq_true rfl) ⟨by decide, by decide⟩ ⟨Nat.le_refl _, Nat.le_refl _⟩ d_Lw_push_4 (fun H1 q9 ce g1 g2 g3 g4 g5 => ?_)
  refine tc_catch (X := xU) (name := xU) Z.2.2.2.1 [hE (0, 9, 12, 13), hE (0, 9, 15, 31)] (hE (0, 9, 18, 17)) [] htb (fun z hz => ?_) (by decide) (by decide) (Z.2.2.2.2.1 _ wk_17) (fw_at (Vm.Alike.refl s.vm) (by decide) (htk.1 (.castable xU xU) (by decide))) g3 g4 g5 ?_
  · skip
    simp only [List.mem_cons, List.not_mem_nil, or_false] at hz
    rcases hz with rfl | rfl
    · exact ⟨by decide, xA, Z.2.2.2.2.1 _ wk_13, htk.2.2.2.1 (xU, xA) (by decide)⟩
    · exact ⟨by decide, xS, Z.2.2.2.2.1 _ wk_31, htk.2.2.2.1 (xU, xS) (by decide)⟩
  · skip
    have hP : la_P D cls5 La mu H1 := hP.kept (fun a ha => g2 a (hP.lt ha))
    have hO : ob E o0 v0 H1 := (g2 o0 (Array.getElem?_eq_some_iff.mp hO).1).trans hO
    have hS : va_S (wA La o0) s.heap H1 [] := ⟨g1, fun q hq _ => g2 q hq, fun l h => by cases h⟩
    refine lv_astore_n hx hb d_Lw_push_18 rfl hl (by decide) rfl (fun ls hl => ?_)
    have hl : lv_has ls 4 [(3, .ref q9), (0, .ref b0), (1, .int cl0), (2, .ref o0)] := hl
    refine lv_iconst (v := 3) hx hb d_Lw_push_19 (by decide) ?_
    exact W.wide (by decide) (by decide) (W.iret hx hb hr (fun t ht hW => ⟨rfl, by rw [ht]; exact ⟨hP, hO⟩, hS.F ht⟩) hS.2.2 d_Lw_push_20)
theorem kb_82 : kb R_Lw 82 y_Lw_pull b_Lw_pull 4 [(0, 9, 12, 13), (0, 9, 15, 31)] 3 := ⟨wl_Lw_82, wsm_Lw_pull, wi_Lw, wc_Lw_pull, by decide +kernel⟩
set_option maxHeartbeats 4000000 in
set_option maxRecDepth 100000 in
theorem w_pull_r (l : Launch) (D : va_G) (E : Nat → ClassId) (La : la_L) {b0 o0 : Nat} (he : isEr E La b0) (hna : ¬ la_A La o0) {mu mu1 : la_M} {cl0 v : Int32} {v0 : Int64} (hM : cw l y_Er_pull b_Er_pull 2 (some .int) 5 116 D E La [.ref b0, .int cl0] mu (some (.int v)) mu1) : cl l y_Lw_pull b_Lw_pull 4 [(0, 9, 12, 13), (0, 9, 15, 31)] 8 137 D E La o0 [.ref b0, .int cl0, .ref o0] mu v0 0 mu1 v.toInt64 := by
  refine cl_begin R_Lw (by decide) rfl (Nat.le_of_ble_eq_true rfl) ?_
  intro p e s m below meth c ls Z hr hlocks htb hP htk hO hS hl
  have hx := Z.1
  have hb := Z.2.1
  have hK : va_K D cls5 (tyE E) s := Z.2.2.2.2.2
  have hl : lv_has ls 4 [(0, .ref b0), (1, .int cl0), (2, .ref o0)] := hl
  refine lv_aload_n hx hb d_Lw_pull_0 rfl (lv_at hl 2 rfl) ?_
  refine lv_iconst (v := 0) hx hb d_Lw_pull_1 (by decide) ?_
  refine lv_aload_n hx hb d_Lw_pull_2 rfl (lv_at hl 0 rfl) ?_
  refine lv_iload_n hx hb d_Lw_pull_3 rfl (lv_at hl 1 rfl) ?_
  refine cw_V Z kv_Lw_33 hM hP hS (fun _ h => Or.inl h) (la_recv hK hP kc_Er he.1 rfl) [.int 0, .ref o0] rfl rfl hl.1 (Nat.le_of_ble_eq_true rfl) ⟨by decide, by decide⟩ ⟨Nat.zero_le _, Nat.zero_le _⟩ d_Lw_pull_4 (fun H locs hP hkp hS => ?_)
  have hO : ob E o0 v0 H := (hkp o0 (Array.getElem?_eq_some_iff.mp hO).1 hna).trans hO
  refine lv_i2l hx hb d_Lw_pull_7 rfl ?_
  refine ob_st Z hP hO hna hS (Or.inr rfl) d_Lw_pull_8 (fun H locs hP hO hS => ?_)
  refine lv_goto (tgt := 18) hx hb d_Lw_pull_9 rfl ?_
  refine lv_iconst (v := 0) hx hb d_Lw_pull_18 (by decide) ?_
  exact W.wide (by decide) (by decide) (W.iret hx hb hr (fun t ht hW => ⟨rfl, by rw [ht]; exact ⟨hP, hO⟩, hS.F ht⟩) hS.2.2 d_Lw_pull_19)
set_option maxHeartbeats 4000000 in
set_option maxRecDepth 100000 in
theorem w_pull_1 (l : Launch) (D : va_G) (E : Nat → ClassId) (La : la_L) {b0 o0 : Nat} (he : isEr E La b0) (hna : ¬ la_A La o0) {mu : la_M} {cl0 : Int32} {v0 : Int64} (hM : ct l y_Er_pull b_Er_pull 2 (some .int) 7 110 D E La [.ref b0, .int cl0] mu xA) : cl l y_Lw_pull b_Lw_pull 4 [(0, 9, 12, 13), (0, 9, 15, 31)] 8 137 D E La o0 [.ref b0, .int cl0, .ref o0] mu v0 1 mu v0 := by
  refine cl_begin R_Lw (by decide) rfl (Nat.le_of_ble_eq_true rfl) ?_
  intro p e s m below meth c ls Z hr hlocks htb hP htk hO hS hl
  have hx := Z.1
  have hb := Z.2.1
  have hK : va_K D cls5 (tyE E) s := Z.2.2.2.2.2
  have hl : lv_has ls 4 [(0, .ref b0), (1, .int cl0), (2, .ref o0)] := hl
  refine lv_aload_n hx hb d_Lw_pull_0 rfl (lv_at hl 2 rfl) ?_
  refine lv_iconst (v := 0) hx hb d_Lw_pull_1 (by decide) ?_
  refine lv_aload_n hx hb d_Lw_pull_2 rfl (lv_at hl 0 rfl) ?_
  refine lv_iload_n hx hb d_Lw_pull_3 rfl (lv_at hl 1 rfl) ?_
  refine tc_V Z kv_Lw_33 hM hP htk (la_recv hK hP kc_Er he.1 rfl) [.int 0, .ref o0] rfl rfl hl.1 (Nat.le_of_ble_eq_true rfl) ⟨by decide, by decide⟩ ⟨Nat.le_refl _, Nat.le_refl _⟩ d_Lw_pull_4 (fun H1 q9 ce g1 g2 g3 g4 g5 => ?_)
  refine tc_catch (X := xA) (name := xA) Z.2.2.2.1 [] (hE (0, 9, 12, 13)) [hE (0, 9, 15, 31)] htb (fun z hz => ?_) (by decide) (by decide) (Z.2.2.2.2.1 _ wk_13) (fw_at (Vm.Alike.refl s.vm) (by decide) (htk.1 (.castable xA xA) (by decide))) g3 g4 g5 ?_
  · skip
    exact absurd hz List.not_mem_nil
  · skip
    have hP : la_P D cls5 La mu H1 := hP.kept (fun a ha => g2 a (hP.lt ha))
    have hO : ob E o0 v0 H1 := (g2 o0 (Array.getElem?_eq_some_iff.mp hO).1).trans hO
    have hS : va_S (wA La o0) s.heap H1 [] := ⟨g1, fun q hq _ => g2 q hq, fun l h => by cases h⟩
    refine lv_astore_n hx hb d_Lw_pull_12 rfl hl (by decide) rfl (fun ls hl => ?_)
    have hl : lv_has ls 4 [(3, .ref q9), (0, .ref b0), (1, .int cl0), (2, .ref o0)] := hl
    refine lv_iconst (v := 1) hx hb d_Lw_pull_13 (by decide) ?_
    exact W.wide (by decide) (by decide) (W.iret hx hb hr (fun t ht hW => ⟨rfl, by rw [ht]; exact ⟨hP, hO⟩, hS.F ht⟩) hS.2.2 d_Lw_pull_14)
set_option maxHeartbeats 4000000 in
set_option maxRecDepth 100000 in
theorem w_pull_2 (l : Launch) (D : va_G) (E : Nat → ClassId) (La : la_L) {b0 o0 : Nat} (he : isEr E La b0) (hna : ¬ la_A La o0) {mu : la_M} {cl0 : Int32} {v0 : Int64} (hM : ct l y_Er_pull b_Er_pull 2 (some .int) 7 110 D E La [.ref b0, .int cl0] mu xS) : cl l y_Lw_pull b_Lw_pull 4 [(0, 9, 12, 13), (0, 9, 15, 31)] 8 137 D E La o0 [.ref b0, .int cl0, .ref o0] mu v0 2 mu v0 := by
  refine cl_begin R_Lw (by decide) rfl (Nat.le_of_ble_eq_true rfl) ?_
  intro p e s m below meth c ls Z hr hlocks htb hP htk hO hS hl
  have hx := Z.1
  have hb := Z.2.1
  have hK : va_K D cls5 (tyE E) s := Z.2.2.2.2.2
  have hl : lv_has ls 4 [(0, .ref b0), (1, .int cl0), (2, .ref o0)] := hl
  refine lv_aload_n hx hb d_Lw_pull_0 rfl (lv_at hl 2 rfl) ?_
  refine lv_iconst (v := 0) hx hb d_Lw_pull_1 (by decide) ?_
  refine lv_aload_n hx hb d_Lw_pull_2 rfl (lv_at hl 0 rfl) ?_
  refine lv_iload_n hx hb d_Lw_pull_3 rfl (lv_at hl 1 rfl) ?_
  refine tc_V Z kv_Lw_33 hM hP htk (la_recv hK hP kc_Er he.1 rfl) [.int 0, .ref o0] rfl rfl hl.1 (Nat.le_of_ble_eq_true rfl) ⟨by decide, by decide⟩ ⟨Nat.le_refl _, Nat.le_refl _⟩ d_Lw_pull_4 (fun H1 q9 ce g1 g2 g3 g4 g5 => ?_)
  refine tc_catch (X := xS) (name := xS) Z.2.2.2.1 [hE (0, 9, 12, 13)] (hE (0, 9, 15, 31)) [] htb (fun z hz => ?_) (by decide) (by decide) (Z.2.2.2.2.1 _ wk_31) (fw_at (Vm.Alike.refl s.vm) (by decide) (htk.1 (.castable xS xS) (by decide))) g3 g4 g5 ?_
  · skip
    simp only [List.mem_cons, List.not_mem_nil, or_false] at hz
    rcases hz with rfl
    · exact ⟨by decide, xA, Z.2.2.2.2.1 _ wk_13, htk.2.2.2.1 (xS, xA) (by decide)⟩
  · skip
    have hP : la_P D cls5 La mu H1 := hP.kept (fun a ha => g2 a (hP.lt ha))
    have hO : ob E o0 v0 H1 := (g2 o0 (Array.getElem?_eq_some_iff.mp hO).1).trans hO
    have hS : va_S (wA La o0) s.heap H1 [] := ⟨g1, fun q hq _ => g2 q hq, fun l h => by cases h⟩
    refine lv_astore_n hx hb d_Lw_pull_15 rfl hl (by decide) rfl (fun ls hl => ?_)
    have hl : lv_has ls 4 [(3, .ref q9), (0, .ref b0), (1, .int cl0), (2, .ref o0)] := hl
    refine lv_iconst (v := 2) hx hb d_Lw_pull_16 (by decide) ?_
    exact W.wide (by decide) (by decide) (W.iret hx hb hr (fun t ht hW => ⟨rfl, by rw [ht]; exact ⟨hP, hO⟩, hS.F ht⟩) hS.2.2 d_Lw_pull_17)
theorem kb_85 : kb R_Lw 85 y_Lw_waiting b_Lw_waiting 5 [(0, 10, 13, 13)] 4 := ⟨wl_Lw_85, wsm_Lw_waiting, wi_Lw, wc_Lw_waiting, by decide +kernel⟩
set_option maxHeartbeats 4000000 in
set_option maxRecDepth 100000 in
theorem w_waiting_r (l : Launch) (D : va_G) (E : Nat → ClassId) (La : la_L) {b0 o0 : Nat} (he : isEr E La b0) (hna : ¬ la_A La o0) {mu : la_M} {cl0 u v : Int32} {v0 : Int64} (hM : cr l y_Er_waiting b_Er_waiting 3 (some .int) 1 22 D E La [.ref b0, .int cl0, .int u] mu (some (.int v))) : cl l y_Lw_waiting b_Lw_waiting 5 [(0, 10, 13, 13)] 8 132 D E La o0 [.ref b0, .int cl0, .int u, .ref o0] mu v0 0 mu v.toInt64 := by
  refine cl_begin R_Lw (by decide) rfl (Nat.le_of_ble_eq_true rfl) ?_
  intro p e s m below meth c ls Z hr hlocks htb hP htk hO hS hl
  have hx := Z.1
  have hb := Z.2.1
  have hK : va_K D cls5 (tyE E) s := Z.2.2.2.2.2
  have hl : lv_has ls 5 [(0, .ref b0), (1, .int cl0), (2, .int u), (3, .ref o0)] := hl
  refine lv_aload_n hx hb d_Lw_waiting_0 rfl (lv_at hl 3 rfl) ?_
  refine lv_iconst (v := 0) hx hb d_Lw_waiting_1 (by decide) ?_
  refine lv_aload_n hx hb d_Lw_waiting_2 rfl (lv_at hl 0 rfl) ?_
  refine lv_iload_n hx hb d_Lw_waiting_3 rfl (lv_at hl 1 rfl) ?_
  refine lv_iload_n hx hb d_Lw_waiting_4 rfl (lv_at hl 2 rfl) ?_
  refine cr_V Z kv_Lw_36 hM hP (la_recv hK hP kc_Er he.1 rfl) [.int 0, .ref o0] rfl rfl hl.1 (Nat.le_of_ble_eq_true rfl) ⟨by decide, by decide⟩ ⟨Nat.zero_le _, Nat.zero_le _⟩ d_Lw_waiting_5 ?_
  refine lv_i2l hx hb d_Lw_waiting_8 rfl ?_
  refine ob_st Z hP hO hna hS (Or.inr rfl) d_Lw_waiting_9 (fun H locs hP hO hS => ?_)
  refine lv_goto (tgt := 17) hx hb d_Lw_waiting_10 rfl ?_
  refine lv_iconst (v := 0) hx hb d_Lw_waiting_17 (by decide) ?_
  exact W.wide (by decide) (by decide) (W.iret hx hb hr (fun t ht hW => ⟨rfl, by rw [ht]; exact ⟨hP, hO⟩, hS.F ht⟩) hS.2.2 d_Lw_waiting_18)
set_option maxHeartbeats 4000000 in
set_option maxRecDepth 100000 in
theorem w_waiting_1 (l : Launch) (D : va_G) (E : Nat → ClassId) (La : la_L) {b0 o0 : Nat} (he : isEr E La b0) (hna : ¬ la_A La o0) {mu : la_M} {cl0 u : Int32} {v0 : Int64} (hM : ct l y_Er_waiting b_Er_waiting 3 (some .int) 7 110 D E La [.ref b0, .int cl0, .int u] mu xA) : cl l y_Lw_waiting b_Lw_waiting 5 [(0, 10, 13, 13)] 8 132 D E La o0 [.ref b0, .int cl0, .int u, .ref o0] mu v0 1 mu v0 := by
  refine cl_begin R_Lw (by decide) rfl (Nat.le_of_ble_eq_true rfl) ?_
  intro p e s m below meth c ls Z hr hlocks htb hP htk hO hS hl
  have hx := Z.1
  have hb := Z.2.1
  have hK : va_K D cls5 (tyE E) s := Z.2.2.2.2.2
  have hl : lv_has ls 5 [(0, .ref b0), (1, .int cl0), (2, .int u), (3, .ref o0)] := hl
  refine lv_aload_n hx hb d_Lw_waiting_0 rfl (lv_at hl 3 rfl) ?_
  refine lv_iconst (v := 0) hx hb d_Lw_waiting_1 (by decide) ?_
  refine lv_aload_n hx hb d_Lw_waiting_2 rfl (lv_at hl 0 rfl) ?_
  refine lv_iload_n hx hb d_Lw_waiting_3 rfl (lv_at hl 1 rfl) ?_
  refine lv_iload_n hx hb d_Lw_waiting_4 rfl (lv_at hl 2 rfl) ?_
  refine tc_V Z kv_Lw_36 hM hP htk (la_recv hK hP kc_Er he.1 rfl) [.int 0, .ref o0] rfl rfl hl.1 (Nat.le_of_ble_eq_true rfl) ⟨by decide, by decide⟩ ⟨Nat.le_refl _, Nat.le_refl _⟩ d_Lw_waiting_5 (fun H1 q9 ce g1 g2 g3 g4 g5 => ?_)
  refine tc_catch (X := xA) (name := xA) Z.2.2.2.1 [] (hE (0, 10, 13, 13)) [] htb (fun z hz => ?_) (by decide) (by decide) (Z.2.2.2.2.1 _ wk_13) (fw_at (Vm.Alike.refl s.vm) (by decide) (htk.1 (.castable xA xA) (by decide))) g3 g4 g5 ?_
  · skip
    exact absurd hz List.not_mem_nil
  · skip
    have hP : la_P D cls5 La mu H1 := hP.kept (fun a ha => g2 a (hP.lt ha))
    have hO : ob E o0 v0 H1 := (g2 o0 (Array.getElem?_eq_some_iff.mp hO).1).trans hO
    have hS : va_S (wA La o0) s.heap H1 [] := ⟨g1, fun q hq _ => g2 q hq, fun l h => by cases h⟩
    refine lv_astore hx hb d_Lw_waiting_13 hl (by decide) rfl (fun ls hl => ?_)
    have hl : lv_has ls 5 [(4, .ref q9), (0, .ref b0), (1, .int cl0), (2, .int u), (3, .ref o0)] := hl
    refine lv_iconst (v := 1) hx hb d_Lw_waiting_15 (by decide) ?_
    exact W.wide (by decide) (by decide) (W.iret hx hb hr (fun t ht hW => ⟨rfl, by rw [ht]; exact ⟨hP, hO⟩, hS.F ht⟩) hS.2.2 d_Lw_waiting_16)
theorem kb_89 : kb R_Lw 89 y_Lw_got b_Lw_got 5 [(0, 10, 13, 13)] 4 := ⟨wl_Lw_89, wsm_Lw_got, wi_Lw, wc_Lw_got, by decide +kernel⟩
set_option maxHeartbeats 4000000 in
set_option maxRecDepth 100000 in
theorem w_got_r (l : Launch) (D : va_G) (E : Nat → ClassId) (La : la_L) {b0 o0 : Nat} (he : isEr E La b0) (hna : ¬ la_A La o0) {mu : la_M} {cl0 u v : Int32} {v0 : Int64} (hM : cr l y_Er_got b_Er_got 3 (some .int) 1 22 D E La [.ref b0, .int cl0, .int u] mu (some (.int v))) : cl l y_Lw_got b_Lw_got 5 [(0, 10, 13, 13)] 8 132 D E La o0 [.ref b0, .int cl0, .int u, .ref o0] mu v0 0 mu v.toInt64 := by
  refine cl_begin R_Lw (by decide) rfl (Nat.le_of_ble_eq_true rfl) ?_
  intro p e s m below meth c ls Z hr hlocks htb hP htk hO hS hl
  have hx := Z.1
  have hb := Z.2.1
  have hK : va_K D cls5 (tyE E) s := Z.2.2.2.2.2
  have hl : lv_has ls 5 [(0, .ref b0), (1, .int cl0), (2, .int u), (3, .ref o0)] := hl
  refine lv_aload_n hx hb d_Lw_got_0 rfl (lv_at hl 3 rfl) ?_
  refine lv_iconst (v := 0) hx hb d_Lw_got_1 (by decide) ?_
  refine lv_aload_n hx hb d_Lw_got_2 rfl (lv_at hl 0 rfl) ?_
  refine lv_iload_n hx hb d_Lw_got_3 rfl (lv_at hl 1 rfl) ?_
  refine lv_iload_n hx hb d_Lw_got_4 rfl (lv_at hl 2 rfl) ?_
  refine cr_V Z kv_Lw_40 hM hP (la_recv hK hP kc_Er he.1 rfl) [.int 0, .ref o0] rfl rfl hl.1 (Nat.le_of_ble_eq_true rfl) ⟨by decide, by decide⟩ ⟨Nat.zero_le _, Nat.zero_le _⟩ d_Lw_got_5 ?_
  refine lv_i2l hx hb d_Lw_got_8 rfl ?_
  refine ob_st Z hP hO hna hS (Or.inr rfl) d_Lw_got_9 (fun H locs hP hO hS => ?_)
  refine lv_goto (tgt := 17) hx hb d_Lw_got_10 rfl ?_
  refine lv_iconst (v := 0) hx hb d_Lw_got_17 (by decide) ?_
  exact W.wide (by decide) (by decide) (W.iret hx hb hr (fun t ht hW => ⟨rfl, by rw [ht]; exact ⟨hP, hO⟩, hS.F ht⟩) hS.2.2 d_Lw_got_18)
set_option maxHeartbeats 4000000 in
set_option maxRecDepth 100000 in
theorem w_got_1 (l : Launch) (D : va_G) (E : Nat → ClassId) (La : la_L) {b0 o0 : Nat} (he : isEr E La b0) (hna : ¬ la_A La o0) {mu : la_M} {cl0 u : Int32} {v0 : Int64} (hM : ct l y_Er_got b_Er_got 3 (some .int) 7 110 D E La [.ref b0, .int cl0, .int u] mu xA) : cl l y_Lw_got b_Lw_got 5 [(0, 10, 13, 13)] 8 132 D E La o0 [.ref b0, .int cl0, .int u, .ref o0] mu v0 1 mu v0 := by
  refine cl_begin R_Lw (by decide) rfl (Nat.le_of_ble_eq_true rfl) ?_
  intro p e s m below meth c ls Z hr hlocks htb hP htk hO hS hl
  have hx := Z.1
  have hb := Z.2.1
  have hK : va_K D cls5 (tyE E) s := Z.2.2.2.2.2
  have hl : lv_has ls 5 [(0, .ref b0), (1, .int cl0), (2, .int u), (3, .ref o0)] := hl
  refine lv_aload_n hx hb d_Lw_got_0 rfl (lv_at hl 3 rfl) ?_
  refine lv_iconst (v := 0) hx hb d_Lw_got_1 (by decide) ?_
  refine lv_aload_n hx hb d_Lw_got_2 rfl (lv_at hl 0 rfl) ?_
  refine lv_iload_n hx hb d_Lw_got_3 rfl (lv_at hl 1 rfl) ?_
  refine lv_iload_n hx hb d_Lw_got_4 rfl (lv_at hl 2 rfl) ?_
  refine tc_V Z kv_Lw_40 hM hP htk (la_recv hK hP kc_Er he.1 rfl) [.int 0, .ref o0] rfl rfl hl.1 (Nat.le_of_ble_eq_true rfl) ⟨by decide, by decide⟩ ⟨Nat.le_refl _, Nat.le_refl _⟩ d_Lw_got_5 (fun H1 q9 ce g1 g2 g3 g4 g5 => ?_)
  refine tc_catch (X := xA) (name := xA) Z.2.2.2.1 [] (hE (0, 10, 13, 13)) [] htb (fun z hz => ?_) (by decide) (by decide) (Z.2.2.2.2.1 _ wk_13) (fw_at (Vm.Alike.refl s.vm) (by decide) (htk.1 (.castable xA xA) (by decide))) g3 g4 g5 ?_
  · skip
    exact absurd hz List.not_mem_nil
  · skip
    have hP : la_P D cls5 La mu H1 := hP.kept (fun a ha => g2 a (hP.lt ha))
    have hO : ob E o0 v0 H1 := (g2 o0 (Array.getElem?_eq_some_iff.mp hO).1).trans hO
    have hS : va_S (wA La o0) s.heap H1 [] := ⟨g1, fun q hq _ => g2 q hq, fun l h => by cases h⟩
    refine lv_astore hx hb d_Lw_got_13 hl (by decide) rfl (fun ls hl => ?_)
    have hl : lv_has ls 5 [(4, .ref q9), (0, .ref b0), (1, .int cl0), (2, .int u), (3, .ref o0)] := hl
    refine lv_iconst (v := 1) hx hb d_Lw_got_15 (by decide) ?_
    exact W.wide (by decide) (by decide) (W.iret hx hb hr (fun t ht hW => ⟨rfl, by rw [ht]; exact ⟨hP, hO⟩, hS.F ht⟩) hS.2.2 d_Lw_got_16)
theorem kb_92 : kb R_Lw 92 y_Lw_open b_Lw_open 5 [(0, 10, 13, 13)] 4 := ⟨wl_Lw_92, wsm_Lw_open, wi_Lw, wc_Lw_open, by decide +kernel⟩
set_option maxHeartbeats 4000000 in
set_option maxRecDepth 100000 in
theorem w_open_r (l : Launch) (D : va_G) (E : Nat → ClassId) (La : la_L) {b0 o0 : Nat} (he : isEr E La b0) (hna : ¬ la_A La o0) {mu : la_M} {cl0 u v : Int32} {v0 : Int64} (hM : cr l y_Er_open b_Er_open 3 (some .int) 1 22 D E La [.ref b0, .int cl0, .int u] mu (some (.int v))) : cl l y_Lw_open b_Lw_open 5 [(0, 10, 13, 13)] 8 132 D E La o0 [.ref b0, .int cl0, .int u, .ref o0] mu v0 0 mu v.toInt64 := by
  refine cl_begin R_Lw (by decide) rfl (Nat.le_of_ble_eq_true rfl) ?_
  intro p e s m below meth c ls Z hr hlocks htb hP htk hO hS hl
  have hx := Z.1
  have hb := Z.2.1
  have hK : va_K D cls5 (tyE E) s := Z.2.2.2.2.2
  have hl : lv_has ls 5 [(0, .ref b0), (1, .int cl0), (2, .int u), (3, .ref o0)] := hl
  refine lv_aload_n hx hb d_Lw_open_0 rfl (lv_at hl 3 rfl) ?_
  refine lv_iconst (v := 0) hx hb d_Lw_open_1 (by decide) ?_
  refine lv_aload_n hx hb d_Lw_open_2 rfl (lv_at hl 0 rfl) ?_
  refine lv_iload_n hx hb d_Lw_open_3 rfl (lv_at hl 1 rfl) ?_
  refine lv_iload_n hx hb d_Lw_open_4 rfl (lv_at hl 2 rfl) ?_
  refine cr_V Z kv_Lw_43 hM hP (la_recv hK hP kc_Er he.1 rfl) [.int 0, .ref o0] rfl rfl hl.1 (Nat.le_of_ble_eq_true rfl) ⟨by decide, by decide⟩ ⟨Nat.zero_le _, Nat.zero_le _⟩ d_Lw_open_5 ?_
  refine lv_i2l hx hb d_Lw_open_8 rfl ?_
  refine ob_st Z hP hO hna hS (Or.inr rfl) d_Lw_open_9 (fun H locs hP hO hS => ?_)
  refine lv_goto (tgt := 17) hx hb d_Lw_open_10 rfl ?_
  refine lv_iconst (v := 0) hx hb d_Lw_open_17 (by decide) ?_
  exact W.wide (by decide) (by decide) (W.iret hx hb hr (fun t ht hW => ⟨rfl, by rw [ht]; exact ⟨hP, hO⟩, hS.F ht⟩) hS.2.2 d_Lw_open_18)
set_option maxHeartbeats 4000000 in
set_option maxRecDepth 100000 in
theorem w_open_1 (l : Launch) (D : va_G) (E : Nat → ClassId) (La : la_L) {b0 o0 : Nat} (he : isEr E La b0) (hna : ¬ la_A La o0) {mu : la_M} {cl0 u : Int32} {v0 : Int64} (hM : ct l y_Er_open b_Er_open 3 (some .int) 7 110 D E La [.ref b0, .int cl0, .int u] mu xA) : cl l y_Lw_open b_Lw_open 5 [(0, 10, 13, 13)] 8 132 D E La o0 [.ref b0, .int cl0, .int u, .ref o0] mu v0 1 mu v0 := by
  refine cl_begin R_Lw (by decide) rfl (Nat.le_of_ble_eq_true rfl) ?_
  intro p e s m below meth c ls Z hr hlocks htb hP htk hO hS hl
  have hx := Z.1
  have hb := Z.2.1
  have hK : va_K D cls5 (tyE E) s := Z.2.2.2.2.2
  have hl : lv_has ls 5 [(0, .ref b0), (1, .int cl0), (2, .int u), (3, .ref o0)] := hl
  refine lv_aload_n hx hb d_Lw_open_0 rfl (lv_at hl 3 rfl) ?_
  refine lv_iconst (v := 0) hx hb d_Lw_open_1 (by decide) ?_
  refine lv_aload_n hx hb d_Lw_open_2 rfl (lv_at hl 0 rfl) ?_
  refine lv_iload_n hx hb d_Lw_open_3 rfl (lv_at hl 1 rfl) ?_
  refine lv_iload_n hx hb d_Lw_open_4 rfl (lv_at hl 2 rfl) ?_
  refine tc_V Z kv_Lw_43 hM hP htk (la_recv hK hP kc_Er he.1 rfl) [.int 0, .ref o0] rfl rfl hl.1 (Nat.le_of_ble_eq_true rfl) ⟨by decide, by decide⟩ ⟨Nat.le_refl _, Nat.le_refl _⟩ d_Lw_open_5 (fun H1 q9 ce g1 g2 g3 g4 g5 => ?_)
  refine tc_catch (X := xA) (name := xA) Z.2.2.2.1 [] (hE (0, 10, 13, 13)) [] htb (fun z hz => ?_) (by decide) (by decide) (Z.2.2.2.2.1 _ wk_13) (fw_at (Vm.Alike.refl s.vm) (by decide) (htk.1 (.castable xA xA) (by decide))) g3 g4 g5 ?_
  · skip
    exact absurd hz List.not_mem_nil
  · skip
    have hP : la_P D cls5 La mu H1 := hP.kept (fun a ha => g2 a (hP.lt ha))
    have hO : ob E o0 v0 H1 := (g2 o0 (Array.getElem?_eq_some_iff.mp hO).1).trans hO
    have hS : va_S (wA La o0) s.heap H1 [] := ⟨g1, fun q hq _ => g2 q hq, fun l h => by cases h⟩
    refine lv_astore hx hb d_Lw_open_13 hl (by decide) rfl (fun ls hl => ?_)
    have hl : lv_has ls 5 [(4, .ref q9), (0, .ref b0), (1, .int cl0), (2, .int u), (3, .ref o0)] := hl
    refine lv_iconst (v := 1) hx hb d_Lw_open_15 (by decide) ?_
    exact W.wide (by decide) (by decide) (W.iret hx hb hr (fun t ht hW => ⟨rfl, by rw [ht]; exact ⟨hP, hO⟩, hS.F ht⟩) hS.2.2 d_Lw_open_16)
theorem kb_95 : kb R_Lw 95 y_Lw_change b_Lw_change 6 [(0, 12, 15, 13), (0, 12, 19, 15)] 5 := ⟨wl_Lw_95, wsm_Lw_change, wi_Lw, wc_Lw_change, by decide +kernel⟩
set_option maxHeartbeats 4000000 in
set_option maxRecDepth 100000 in
theorem w_change_r (l : Launch) (D : va_G) (E : Nat → ClassId) (La : la_L) {b0 o0 : Nat} (he : isEr E La b0) (hna : ¬ la_A La o0) {mu : la_M} {cl0 u i9 v : Int32} {v0 : Int64} (hM : cr l y_Er_change b_Er_change 6 (some .int) 3 64 D E La [.ref b0, .int cl0, .int u, .int i9] mu (some (.int v))) : cl l y_Lw_change b_Lw_change 6 [(0, 12, 15, 13), (0, 12, 19, 15)] 8 135 D E La o0 [.ref b0, .int cl0, .int u, .int i9, .ref o0] mu v0 0 mu v.toInt64 := by
  refine cl_begin R_Lw (by decide) rfl (Nat.le_of_ble_eq_true rfl) ?_
  intro p e s m below meth c ls Z hr hlocks htb hP htk hO hS hl
  have hx := Z.1
  have hb := Z.2.1
  have hK : va_K D cls5 (tyE E) s := Z.2.2.2.2.2
  have hl : lv_has ls 6 [(0, .ref b0), (1, .int cl0), (2, .int u), (3, .int i9), (4, .ref o0)] := hl
  refine lv_aload hx hb d_Lw_change_0 (lv_at hl 4 rfl) ?_
  refine lv_iconst (v := 0) hx hb d_Lw_change_2 (by decide) ?_
  refine lv_aload_n hx hb d_Lw_change_3 rfl (lv_at hl 0 rfl) ?_
  refine lv_iload_n hx hb d_Lw_change_4 rfl (lv_at hl 1 rfl) ?_
  refine lv_iload_n hx hb d_Lw_change_5 rfl (lv_at hl 2 rfl) ?_
  refine lv_iload_n hx hb d_Lw_change_6 rfl (lv_at hl 3 rfl) ?_
  refine cr_V Z kv_Lw_46 hM hP (la_recv hK hP kc_Er he.1 rfl) [.int 0, .ref o0] rfl rfl hl.1 (Nat.le_of_ble_eq_true rfl) ⟨by decide, by decide⟩ ⟨Nat.zero_le _, Nat.zero_le _⟩ d_Lw_change_7 ?_
  refine lv_i2l hx hb d_Lw_change_10 rfl ?_
  refine ob_st Z hP hO hna hS (Or.inr rfl) d_Lw_change_11 (fun H locs hP hO hS => ?_)
  refine lv_goto (tgt := 23) hx hb d_Lw_change_12 rfl ?_
  refine lv_iconst (v := 0) hx hb d_Lw_change_23 (by decide) ?_
  exact W.wide (by decide) (by decide) (W.iret hx hb hr (fun t ht hW => ⟨rfl, by rw [ht]; exact ⟨hP, hO⟩, hS.F ht⟩) hS.2.2 d_Lw_change_24)
set_option maxHeartbeats 4000000 in
set_option maxRecDepth 100000 in
theorem w_change_1 (l : Launch) (D : va_G) (E : Nat → ClassId) (La : la_L) {b0 o0 : Nat} (he : isEr E La b0) (hna : ¬ la_A La o0) {mu : la_M} {cl0 u i9 : Int32} {v0 : Int64} (hM : ct l y_Er_change b_Er_change 6 (some .int) 7 110 D E La [.ref b0, .int cl0, .int u, .int i9] mu xA) : cl l y_Lw_change b_Lw_change 6 [(0, 12, 15, 13), (0, 12, 19, 15)] 8 135 D E La o0 [.ref b0, .int cl0, .int u, .int i9, .ref o0] mu v0 1 mu v0 := by
  refine cl_begin R_Lw (by decide) rfl (Nat.le_of_ble_eq_true rfl) ?_
  intro p e s m below meth c ls Z hr hlocks htb hP htk hO hS hl
  have hx := Z.1
  have hb := Z.2.1
  have hK : va_K D cls5 (tyE E) s := Z.2.2.2.2.2
  have hl : lv_has ls 6 [(0, .ref b0), (1, .int cl0), (2, .int u), (3, .int i9), (4, .ref o0)] := hl
  refine lv_aload hx hb d_Lw_change_0 (lv_at hl 4 rfl) ?_
  refine lv_iconst (v := 0) hx hb d_Lw_change_2 (by decide) ?_
  refine lv_aload_n hx hb d_Lw_change_3 rfl (lv_at hl 0 rfl) ?_
  refine lv_iload_n hx hb d_Lw_change_4 rfl (lv_at hl 1 rfl) ?_
  refine lv_iload_n hx hb d_Lw_change_5 rfl (lv_at hl 2 rfl) ?_
  refine lv_iload_n hx hb d_Lw_change_6 rfl (lv_at hl 3 rfl) ?_
  refine tc_V Z kv_Lw_46 hM hP htk (la_recv hK hP kc_Er he.1 rfl) [.int 0, .ref o0] rfl rfl hl.1 (Nat.le_of_ble_eq_true rfl) ⟨by decide, by decide⟩ ⟨Nat.le_refl _, Nat.le_refl _⟩ d_Lw_change_7 (fun H1 q9 ce g1 g2 g3 g4 g5 => ?_)
  refine tc_catch (X := xA) (name := xA) Z.2.2.2.1 [] (hE (0, 12, 15, 13)) [hE (0, 12, 19, 15)] htb (fun z hz => ?_) (by decide) (by decide) (Z.2.2.2.2.1 _ wk_13) (fw_at (Vm.Alike.refl s.vm) (by decide) (htk.1 (.castable xA xA) (by decide))) g3 g4 g5 ?_
  · skip
    exact absurd hz List.not_mem_nil
  · skip
    have hP : la_P D cls5 La mu H1 := hP.kept (fun a ha => g2 a (hP.lt ha))
    have hO : ob E o0 v0 H1 := (g2 o0 (Array.getElem?_eq_some_iff.mp hO).1).trans hO
    have hS : va_S (wA La o0) s.heap H1 [] := ⟨g1, fun q hq _ => g2 q hq, fun l h => by cases h⟩
    refine lv_astore hx hb d_Lw_change_15 hl (by decide) rfl (fun ls hl => ?_)
    have hl : lv_has ls 6 [(5, .ref q9), (0, .ref b0), (1, .int cl0), (2, .int u), (3, .int i9), (4, .ref o0)] := hl
    refine lv_iconst (v := 1) hx hb d_Lw_change_17 (by decide) ?_
    exact W.wide (by decide) (by decide) (W.iret hx hb hr (fun t ht hW => ⟨rfl, by rw [ht]; exact ⟨hP, hO⟩, hS.F ht⟩) hS.2.2 d_Lw_change_18)
set_option maxHeartbeats 4000000 in
set_option maxRecDepth 100000 in
theorem w_change_2 (l : Launch) (D : va_G) (E : Nat → ClassId) (La : la_L) {b0 o0 : Nat} (he : isEr E La b0) (hna : ¬ la_A La o0) {mu : la_M} {cl0 u i9 : Int32} {v0 : Int64} (hM : ct l y_Er_change b_Er_change 6 (some .int) 7 110 D E La [.ref b0, .int cl0, .int u, .int i9] mu xB) : cl l y_Lw_change b_Lw_change 6 [(0, 12, 15, 13), (0, 12, 19, 15)] 8 135 D E La o0 [.ref b0, .int cl0, .int u, .int i9, .ref o0] mu v0 2 mu v0 := by
  refine cl_begin R_Lw (by decide) rfl (Nat.le_of_ble_eq_true rfl) ?_
  intro p e s m below meth c ls Z hr hlocks htb hP htk hO hS hl
  have hx := Z.1
  have hb := Z.2.1
  have hK : va_K D cls5 (tyE E) s := Z.2.2.2.2.2
  have hl : lv_has ls 6 [(0, .ref b0), (1, .int cl0), (2, .int u), (3, .int i9), (4, .ref o0)] := hl
  refine lv_aload hx hb d_Lw_change_0 (lv_at hl 4 rfl) ?_
  refine lv_iconst (v := 0) hx hb d_Lw_change_2 (by decide) ?_
  refine lv_aload_n hx hb d_Lw_change_3 rfl (lv_at hl 0 rfl) ?_
  refine lv_iload_n hx hb d_Lw_change_4 rfl (lv_at hl 1 rfl) ?_
  refine lv_iload_n hx hb d_Lw_change_5 rfl (lv_at hl 2 rfl) ?_
  refine lv_iload_n hx hb d_Lw_change_6 rfl (lv_at hl 3 rfl) ?_
  refine tc_V Z kv_Lw_46 hM hP htk (la_recv hK hP kc_Er he.1 rfl) [.int 0, .ref o0] rfl rfl hl.1 (Nat.le_of_ble_eq_true rfl) ⟨by decide, by decide⟩ ⟨Nat.le_refl _, Nat.le_refl _⟩ d_Lw_change_7 (fun H1 q9 ce g1 g2 g3 g4 g5 => ?_)
  refine tc_catch (X := xB) (name := xB) Z.2.2.2.1 [hE (0, 12, 15, 13)] (hE (0, 12, 19, 15)) [] htb (fun z hz => ?_) (by decide) (by decide) (Z.2.2.2.2.1 _ wk_15) (fw_at (Vm.Alike.refl s.vm) (by decide) (htk.1 (.castable xB xB) (by decide))) g3 g4 g5 ?_
  · skip
    simp only [List.mem_cons, List.not_mem_nil, or_false] at hz
    rcases hz with rfl
    · exact ⟨by decide, xA, Z.2.2.2.2.1 _ wk_13, htk.2.2.2.1 (xB, xA) (by decide)⟩
  · skip
    have hP : la_P D cls5 La mu H1 := hP.kept (fun a ha => g2 a (hP.lt ha))
    have hO : ob E o0 v0 H1 := (g2 o0 (Array.getElem?_eq_some_iff.mp hO).1).trans hO
    have hS : va_S (wA La o0) s.heap H1 [] := ⟨g1, fun q hq _ => g2 q hq, fun l h => by cases h⟩
    refine lv_astore hx hb d_Lw_change_19 hl (by decide) rfl (fun ls hl => ?_)
    have hl : lv_has ls 6 [(5, .ref q9), (0, .ref b0), (1, .int cl0), (2, .int u), (3, .int i9), (4, .ref o0)] := hl
    refine lv_iconst (v := 2) hx hb d_Lw_change_21 (by decide) ?_
    exact W.wide (by decide) (by decide) (W.iret hx hb hr (fun t ht hW => ⟨rfl, by rw [ht]; exact ⟨hP, hO⟩, hS.F ht⟩) hS.2.2 d_Lw_change_22)
theorem kb_99 : kb R_Lw 99 y_Lw_size b_Lw_size 4 [(0, 9, 12, 13)] 3 := ⟨wl_Lw_99, wsm_Lw_size, wi_Lw, wc_Lw_size, by decide +kernel⟩
set_option maxHeartbeats 4000000 in
set_option maxRecDepth 100000 in
theorem w_size_r (l : Launch) (D : va_G) (E : Nat → ClassId) (La : la_L) {b0 o0 : Nat} (he : isEr E La b0) (hna : ¬ la_A La o0) {mu : la_M} {cl0 v : Int32} {v0 : Int64} (hM : cr l y_Er_size b_Er_size 2 (some .int) 1 20 D E La [.ref b0, .int cl0] mu (some (.int v))) : cl l y_Lw_size b_Lw_size 4 [(0, 9, 12, 13)] 8 131 D E La o0 [.ref b0, .int cl0, .ref o0] mu v0 0 mu v.toInt64 := by
  refine cl_begin R_Lw (by decide) rfl (Nat.le_of_ble_eq_true rfl) ?_
  intro p e s m below meth c ls Z hr hlocks htb hP htk hO hS hl
  have hx := Z.1
  have hb := Z.2.1
  have hK : va_K D cls5 (tyE E) s := Z.2.2.2.2.2
  have hl : lv_has ls 4 [(0, .ref b0), (1, .int cl0), (2, .ref o0)] := hl
  refine lv_aload_n hx hb d_Lw_size_0 rfl (lv_at hl 2 rfl) ?_
  refine lv_iconst (v := 0) hx hb d_Lw_size_1 (by decide) ?_
  refine lv_aload_n hx hb d_Lw_size_2 rfl (lv_at hl 0 rfl) ?_
  refine lv_iload_n hx hb d_Lw_size_3 rfl (lv_at hl 1 rfl) ?_
  refine cr_V Z kv_Lw_50 hM hP (la_recv hK hP kc_Er he.1 rfl) [.int 0, .ref o0] rfl rfl hl.1 (Nat.le_of_ble_eq_true rfl) ⟨by decide, by decide⟩ ⟨Nat.zero_le _, Nat.zero_le _⟩ d_Lw_size_4 ?_
  refine lv_i2l hx hb d_Lw_size_7 rfl ?_
  refine ob_st Z hP hO hna hS (Or.inr rfl) d_Lw_size_8 (fun H locs hP hO hS => ?_)
  refine lv_goto (tgt := 15) hx hb d_Lw_size_9 rfl ?_
  refine lv_iconst (v := 0) hx hb d_Lw_size_15 (by decide) ?_
  exact W.wide (by decide) (by decide) (W.iret hx hb hr (fun t ht hW => ⟨rfl, by rw [ht]; exact ⟨hP, hO⟩, hS.F ht⟩) hS.2.2 d_Lw_size_16)
set_option maxHeartbeats 4000000 in
set_option maxRecDepth 100000 in
theorem w_size_1 (l : Launch) (D : va_G) (E : Nat → ClassId) (La : la_L) {b0 o0 : Nat} (he : isEr E La b0) (hna : ¬ la_A La o0) {mu : la_M} {cl0 : Int32} {v0 : Int64} (hM : ct l y_Er_size b_Er_size 2 (some .int) 7 110 D E La [.ref b0, .int cl0] mu xA) : cl l y_Lw_size b_Lw_size 4 [(0, 9, 12, 13)] 8 131 D E La o0 [.ref b0, .int cl0, .ref o0] mu v0 1 mu v0 := by
  refine cl_begin R_Lw (by decide) rfl (Nat.le_of_ble_eq_true rfl) ?_
  intro p e s m below meth c ls Z hr hlocks htb hP htk hO hS hl
  have hx := Z.1
  have hb := Z.2.1
  have hK : va_K D cls5 (tyE E) s := Z.2.2.2.2.2
  have hl : lv_has ls 4 [(0, .ref b0), (1, .int cl0), (2, .ref o0)] := hl
  refine lv_aload_n hx hb d_Lw_size_0 rfl (lv_at hl 2 rfl) ?_
  refine lv_iconst (v := 0) hx hb d_Lw_size_1 (by decide) ?_
  refine lv_aload_n hx hb d_Lw_size_2 rfl (lv_at hl 0 rfl) ?_
  refine lv_iload_n hx hb d_Lw_size_3 rfl (lv_at hl 1 rfl) ?_
  refine tc_V Z kv_Lw_50 hM hP htk (la_recv hK hP kc_Er he.1 rfl) [.int 0, .ref o0] rfl rfl hl.1 (Nat.le_of_ble_eq_true rfl) ⟨by decide, by decide⟩ ⟨Nat.le_refl _, Nat.le_refl _⟩ d_Lw_size_4 (fun H1 q9 ce g1 g2 g3 g4 g5 => ?_)
  refine tc_catch (X := xA) (name := xA) Z.2.2.2.1 [] (hE (0, 9, 12, 13)) [] htb (fun z hz => ?_) (by decide) (by decide) (Z.2.2.2.2.1 _ wk_13) (fw_at (Vm.Alike.refl s.vm) (by decide) (htk.1 (.castable xA xA) (by decide))) g3 g4 g5 ?_
  · skip
    exact absurd hz List.not_mem_nil
  · skip
    have hP : la_P D cls5 La mu H1 := hP.kept (fun a ha => g2 a (hP.lt ha))
    have hO : ob E o0 v0 H1 := (g2 o0 (Array.getElem?_eq_some_iff.mp hO).1).trans hO
    have hS : va_S (wA La o0) s.heap H1 [] := ⟨g1, fun q hq _ => g2 q hq, fun l h => by cases h⟩
    refine lv_astore_n hx hb d_Lw_size_12 rfl hl (by decide) rfl (fun ls hl => ?_)
    have hl : lv_has ls 4 [(3, .ref q9), (0, .ref b0), (1, .int cl0), (2, .ref o0)] := hl
    refine lv_iconst (v := 1) hx hb d_Lw_size_13 (by decide) ?_
    exact W.wide (by decide) (by decide) (W.iret hx hb hr (fun t ht hW => ⟨rfl, by rw [ht]; exact ⟨hP, hO⟩, hS.F ht⟩) hS.2.2 d_Lw_size_14)
theorem kb_102 : kb R_Lw 102 y_Lw_letter b_Lw_letter 5 [(0, 10, 13, 13), (0, 10, 17, 15)] 4 := ⟨wl_Lw_102, wsm_Lw_letter, wi_Lw, wc_Lw_letter, by decide +kernel⟩
set_option maxHeartbeats 4000000 in
set_option maxRecDepth 100000 in
theorem w_letter_r (l : Launch) (D : va_G) (E : Nat → ClassId) (La : la_L) {b0 o0 : Nat} (he : isEr E La b0) (hna : ¬ la_A La o0) {mu : la_M} {cl0 at0 v : Int32} {v0 : Int64} (hM : cr l y_Er_letter b_Er_letter 4 (some .int) 1 21 D E La [.ref b0, .int cl0, .int at0] mu (some (.int v))) : cl l y_Lw_letter b_Lw_letter 5 [(0, 10, 13, 13), (0, 10, 17, 15)] 8 134 D E La o0 [.ref b0, .int cl0, .int at0, .ref o0] mu v0 0 mu v.toInt64 := by
  refine cl_begin R_Lw (by decide) rfl (Nat.le_of_ble_eq_true rfl) ?_
  intro p e s m below meth c ls Z hr hlocks htb hP htk hO hS hl
  have hx := Z.1
  have hb := Z.2.1
  have hK : va_K D cls5 (tyE E) s := Z.2.2.2.2.2
  have hl : lv_has ls 5 [(0, .ref b0), (1, .int cl0), (2, .int at0), (3, .ref o0)] := hl
  refine lv_aload_n hx hb d_Lw_letter_0 rfl (lv_at hl 3 rfl) ?_
  refine lv_iconst (v := 0) hx hb d_Lw_letter_1 (by decide) ?_
  refine lv_aload_n hx hb d_Lw_letter_2 rfl (lv_at hl 0 rfl) ?_
  refine lv_iload_n hx hb d_Lw_letter_3 rfl (lv_at hl 1 rfl) ?_
  refine lv_iload_n hx hb d_Lw_letter_4 rfl (lv_at hl 2 rfl) ?_
  refine cr_V Z kv_Lw_53 hM hP (la_recv hK hP kc_Er he.1 rfl) [.int 0, .ref o0] rfl rfl hl.1 (Nat.le_of_ble_eq_true rfl) ⟨by decide, by decide⟩ ⟨Nat.zero_le _, Nat.zero_le _⟩ d_Lw_letter_5 ?_
  refine lv_i2l hx hb d_Lw_letter_8 rfl ?_
  refine ob_st Z hP hO hna hS (Or.inr rfl) d_Lw_letter_9 (fun H locs hP hO hS => ?_)
  refine lv_goto (tgt := 21) hx hb d_Lw_letter_10 rfl ?_
  refine lv_iconst (v := 0) hx hb d_Lw_letter_21 (by decide) ?_
  exact W.wide (by decide) (by decide) (W.iret hx hb hr (fun t ht hW => ⟨rfl, by rw [ht]; exact ⟨hP, hO⟩, hS.F ht⟩) hS.2.2 d_Lw_letter_22)
set_option maxHeartbeats 4000000 in
set_option maxRecDepth 100000 in
theorem w_letter_1 (l : Launch) (D : va_G) (E : Nat → ClassId) (La : la_L) {b0 o0 : Nat} (he : isEr E La b0) (hna : ¬ la_A La o0) {mu : la_M} {cl0 at0 : Int32} {v0 : Int64} (hM : ct l y_Er_letter b_Er_letter 4 (some .int) 7 111 D E La [.ref b0, .int cl0, .int at0] mu xA) : cl l y_Lw_letter b_Lw_letter 5 [(0, 10, 13, 13), (0, 10, 17, 15)] 8 134 D E La o0 [.ref b0, .int cl0, .int at0, .ref o0] mu v0 1 mu v0 := by
  refine cl_begin R_Lw (by decide) rfl (Nat.le_of_ble_eq_true rfl) ?_
  intro p e s m below meth c ls Z hr hlocks htb hP htk hO hS hl
  have hx := Z.1
  have hb := Z.2.1
  have hK : va_K D cls5 (tyE E) s := Z.2.2.2.2.2
  have hl : lv_has ls 5 [(0, .ref b0), (1, .int cl0), (2, .int at0), (3, .ref o0)] := hl
  refine lv_aload_n hx hb d_Lw_letter_0 rfl (lv_at hl 3 rfl) ?_
  refine lv_iconst (v := 0) hx hb d_Lw_letter_1 (by decide) ?_
  refine lv_aload_n hx hb d_Lw_letter_2 rfl (lv_at hl 0 rfl) ?_
  refine lv_iload_n hx hb d_Lw_letter_3 rfl (lv_at hl 1 rfl) ?_
  refine lv_iload_n hx hb d_Lw_letter_4 rfl (lv_at hl 2 rfl) ?_
  refine tc_V Z kv_Lw_53 hM hP htk (la_recv hK hP kc_Er he.1 rfl) [.int 0, .ref o0] rfl rfl hl.1 (Nat.le_of_ble_eq_true rfl) ⟨by decide, by decide⟩ ⟨Nat.le_refl _, Nat.le_refl _⟩ d_Lw_letter_5 (fun H1 q9 ce g1 g2 g3 g4 g5 => ?_)
  refine tc_catch (X := xA) (name := xA) Z.2.2.2.1 [] (hE (0, 10, 13, 13)) [hE (0, 10, 17, 15)] htb (fun z hz => ?_) (by decide) (by decide) (Z.2.2.2.2.1 _ wk_13) (fw_at (Vm.Alike.refl s.vm) (by decide) (htk.1 (.castable xA xA) (by decide))) g3 g4 g5 ?_
  · skip
    exact absurd hz List.not_mem_nil
  · skip
    have hP : la_P D cls5 La mu H1 := hP.kept (fun a ha => g2 a (hP.lt ha))
    have hO : ob E o0 v0 H1 := (g2 o0 (Array.getElem?_eq_some_iff.mp hO).1).trans hO
    have hS : va_S (wA La o0) s.heap H1 [] := ⟨g1, fun q hq _ => g2 q hq, fun l h => by cases h⟩
    refine lv_astore hx hb d_Lw_letter_13 hl (by decide) rfl (fun ls hl => ?_)
    have hl : lv_has ls 5 [(4, .ref q9), (0, .ref b0), (1, .int cl0), (2, .int at0), (3, .ref o0)] := hl
    refine lv_iconst (v := 1) hx hb d_Lw_letter_15 (by decide) ?_
    exact W.wide (by decide) (by decide) (W.iret hx hb hr (fun t ht hW => ⟨rfl, by rw [ht]; exact ⟨hP, hO⟩, hS.F ht⟩) hS.2.2 d_Lw_letter_16)
set_option maxHeartbeats 4000000 in
set_option maxRecDepth 100000 in
theorem w_letter_2 (l : Launch) (D : va_G) (E : Nat → ClassId) (La : la_L) {b0 o0 : Nat} (he : isEr E La b0) (hna : ¬ la_A La o0) {mu : la_M} {cl0 at0 : Int32} {v0 : Int64} (hM : ct l y_Er_letter b_Er_letter 4 (some .int) 7 111 D E La [.ref b0, .int cl0, .int at0] mu xB) : cl l y_Lw_letter b_Lw_letter 5 [(0, 10, 13, 13), (0, 10, 17, 15)] 8 134 D E La o0 [.ref b0, .int cl0, .int at0, .ref o0] mu v0 2 mu v0 := by
  refine cl_begin R_Lw (by decide) rfl (Nat.le_of_ble_eq_true rfl) ?_
  intro p e s m below meth c ls Z hr hlocks htb hP htk hO hS hl
  have hx := Z.1
  have hb := Z.2.1
  have hK : va_K D cls5 (tyE E) s := Z.2.2.2.2.2
  have hl : lv_has ls 5 [(0, .ref b0), (1, .int cl0), (2, .int at0), (3, .ref o0)] := hl
  refine lv_aload_n hx hb d_Lw_letter_0 rfl (lv_at hl 3 rfl) ?_
  refine lv_iconst (v := 0) hx hb d_Lw_letter_1 (by decide) ?_
  refine lv_aload_n hx hb d_Lw_letter_2 rfl (lv_at hl 0 rfl) ?_
  refine lv_iload_n hx hb d_Lw_letter_3 rfl (lv_at hl 1 rfl) ?_
  refine lv_iload_n hx hb d_Lw_letter_4 rfl (lv_at hl 2 rfl) ?_
  refine tc_V Z kv_Lw_53 hM hP htk (la_recv hK hP kc_Er he.1 rfl) [.int 0, .ref o0] rfl rfl hl.1 (Nat.le_of_ble_eq_true rfl) ⟨by decide, by decide⟩ ⟨Nat.le_refl _, Nat.le_refl _⟩ d_Lw_letter_5 (fun H1 q9 ce g1 g2 g3 g4 g5 => ?_)
  refine tc_catch (X := xB) (name := xB) Z.2.2.2.1 [hE (0, 10, 13, 13)] (hE (0, 10, 17, 15)) [] htb (fun z hz => ?_) (by decide) (by decide) (Z.2.2.2.2.1 _ wk_15) (fw_at (Vm.Alike.refl s.vm) (by decide) (htk.1 (.castable xB xB) (by decide))) g3 g4 g5 ?_
  · skip
    simp only [List.mem_cons, List.not_mem_nil, or_false] at hz
    rcases hz with rfl
    · exact ⟨by decide, xA, Z.2.2.2.2.1 _ wk_13, htk.2.2.2.1 (xB, xA) (by decide)⟩
  · skip
    have hP : la_P D cls5 La mu H1 := hP.kept (fun a ha => g2 a (hP.lt ha))
    have hO : ob E o0 v0 H1 := (g2 o0 (Array.getElem?_eq_some_iff.mp hO).1).trans hO
    have hS : va_S (wA La o0) s.heap H1 [] := ⟨g1, fun q hq _ => g2 q hq, fun l h => by cases h⟩
    refine lv_astore hx hb d_Lw_letter_17 hl (by decide) rfl (fun ls hl => ?_)
    have hl : lv_has ls 5 [(4, .ref q9), (0, .ref b0), (1, .int cl0), (2, .int at0), (3, .ref o0)] := hl
    refine lv_iconst (v := 2) hx hb d_Lw_letter_19 (by decide) ?_
    exact W.wide (by decide) (by decide) (W.iret hx hb hr (fun t ht hW => ⟨rfl, by rw [ht]; exact ⟨hP, hO⟩, hS.F ht⟩) hS.2.2 d_Lw_letter_20)
