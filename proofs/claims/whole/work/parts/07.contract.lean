/-! CONTRACTS over the world (layout, memory): read-only ones (cr) and writing ones (cw), with exact answers; how they begin, how they are called; rows for fields -/
def tyE (E : Nat → ClassId) : List (ClassId × FieldType) := [(E 0, .int), (E 1, .char), (E 2, .long), (E 3, .object R_Tx), (E 4, .object R_Wy), (E 5, .object R_Ch)]
def ki (D : va_G) (E : Nat → ClassId) (U : State) : Prop := va_K D cls5 (tyE E) U
theorem ki.moved {D : va_G} {E : Nat → ClassId} {u U : State} (hvm : u.vm.Alike U.vm) (h : ki D E u) : ki D E U := va_K.moved hvm h
def sh_Ch : (Nat → Int32) → va_E := fun g => .inr (0, [.int (g 0), .int (g 1), .int (g 2), .int (g 3)])
def sh_Tx (la : Nat) : (Nat → Int32) → va_E := fun g => .inr (1, [.ref la, .int (g 1)])
def sh_Wy (r a1 a2 a3 : Nat) : (Nat → Int32) → va_E := fun g => .inr (2, [.int (nI r), .ref a1, .ref a2, .ref a3, .int (g 4), .int (g 5), .int (g 6)])
def sh_Er (a1 a2 a3 a4 : Nat) : (Nat → Int32) → va_E := fun _ => .inr (3, [.ref a1, .ref a2, .ref a3, .ref a4])
def sh_Mo (b : Nat) : (Nat → Int32) → va_E := fun g => .inr (4, [.int (g 0), .ref (b + 1), .ref (b + 2), .ref (b + 3), .ref (b + 4), .ref (b + 5), .ref (b + 6), .ref (b + 7), .ref (b + 8), .ref (b + 9), .ref (b + 10), .ref (b + 11), .ref (b + 12), .ref (b + 13), .ref (b + 14), .ref (b + 15), .int (g 16), .int (g 17), .int (g 18), .int (g 19)])
def sh_I (E : Nat → ClassId) (n : Nat) : (Nat → Int32) → va_E := fun g => .inl (E 0, n, .inl g)
def sh_C (E : Nat → ClassId) (n : Nat) : (Nat → Int32) → va_E := fun g => .inl (E 1, n, .inl g)
def sh_R (c : ClassId) (n : Nat) (F : Nat → Nat) : (Nat → Int32) → va_E := fun _ => .inl (c, n, .inr (.inr (.inr (.inr (fun k => some (F k))))))
/-- a char -/
def chz (x : Int32) : Prop := narrow .char (.int x) = .int x ∧ fits .char (.int x) = true
theorem chz_0 : chz 0 := ⟨by decide, by decide⟩
theorem chz.nar {x : Int32} (h : chz x) : vp_nar .char x = x := by
  have h1 : narrow .char (.int x) = .int (vp_nar .char x) := rfl
  have h2 := h.1
  rw [h1] at h2
  exact Value.int.inj h2
/-- what a method knows of the machine -/
def zz (own : String) (cd : ByteArray) (n : Nat) (D : va_G) (E : Nat → ClassId) (p : Program) (s : State) (m : MethodId) (c : Code) (args : Array Value) : Prop :=
  p.tables.exec = Jvm.exec ∧ c.code = cd ∧ c.maxLocals = n ∧ s.vm.findClass own = some m.cls ∧ (∀ w ∈ gw, w.before args s = true) ∧ ki D E s
def cr_Q (v : Option Value) : Array Value → State → Outcome → State → Prop := fun _ st o t => o = .returned v ∧ t.heap = st.heap
def cw_Q (v : Option Value) (B : Heap → Prop) (A : Nat → Prop) : Array Value → State → Outcome → State → Prop := fun _ st o t => o = .returned v ∧ B t.heap ∧ va_F A st t
def rmm (fr lo : Nat) : Room := { frames := fr, cells := 0, slots := 0, locals := lo }
/-- the method returns v and changes nothing -/
def cr (l : Launch) (y : MethodName) (cd : ByteArray) (n : Nat) (ret : Option FieldType) (fr lo : Nat) (D : va_G) (E : Nat → ClassId) (La : la_L) (av : List Value) (mu : la_M) (v : Option Value) : Prop :=
  Met l y (.code y cd n ret :: gw) (rmm fr lo) (va_Pc av (fun U => la_P D cls5 La mu U.heap ∧ ki D E U)) (cr_Q v) 0 0 (fun _ => False)
/-- the method returns v; the memory mu becomes mu1 -/
def cw (l : Launch) (y : MethodName) (cd : ByteArray) (n : Nat) (ret : Option FieldType) (fr lo : Nat) (D : va_G) (E : Nat → ClassId) (La : la_L) (av : List Value) (mu : la_M) (v : Option Value) (mu1 : la_M) : Prop :=
  Met l y (.code y cd n ret :: gw) (rmm fr lo) (va_Pc av (fun U => la_P D cls5 La mu U.heap ∧ ki D E U)) (cw_Q v (la_P D cls5 La mu1) (la_A La)) 0 0 (la_A La)
section CB
variable {l : Launch} {y : MethodName} {cd : ByteArray} {n : Nat} {ret : Option FieldType} {fr lo : Nat} {D : va_G} {E : Nat → ClassId} {La : la_L} {av : List Value} {mu mu1 : la_M} {v : Option Value}
theorem cr_begin (own : String) (hy : plainName y.cls = true) (ho : y.cls = own) (hn : (lg_sl av).length ≤ n)
    (body : ∀ (p : Program) (e : Env) (s : State) (m : MethodId) (below : List Frame) (meth : Method) (c : Code) (ls : Array Slot), zz own cd n D E p s m c av.toArray → meth.sig.returnType = ret → meth.locks = false → la_P D cls5 La mu s.heap → lv_has ls n (lv_args 0 av) →
      W p l e (rmm fr lo) s m av.toArray below meth c s.heap [] 0 0 (MQ below (cr_Q v) av.toArray s 0 0 (fun _ => False)) (F0 m 0 ls [])) : cr l y cd n ret fr lo D E La av mu v := by
  refine Met.ofW (cc := cd) (maxL := n) (ret := ret) hy rfl ?_
  intro p e s m args below meth c s₁ B hml hv
  obtain ⟨rfl, hP, hK⟩ := hv
  have hts := atoms_spec (ws := .code y cd n ret :: gw) B.pre
  have hown : s.vm.findClass y.cls = some m.cls := findClass_of_methodNamed B.named
  rw [ho] at hown
  have hl := lv_entry av hn
  rw [lg_entry_eq]
  exact body p e s m below meth c _ ⟨B.exec, B.bytes, hml, hown, fun w h => hts w (List.mem_cons_of_mem _ h), hK⟩ B.returns B.notSynchronized hP hl
theorem cw_begin (own : String) (hy : plainName y.cls = true) (ho : y.cls = own) (hn : (lg_sl av).length ≤ n)
    (body : ∀ (p : Program) (e : Env) (s : State) (m : MethodId) (below : List Frame) (meth : Method) (c : Code) (ls : Array Slot), zz own cd n D E p s m c av.toArray → meth.sig.returnType = ret → meth.locks = false → la_P D cls5 La mu s.heap → va_S (la_A La) s.heap s.heap [] → lv_has ls n (lv_args 0 av) →
      W p l e (rmm fr lo) s m av.toArray below meth c s.heap [] 0 0 (MQ below (cw_Q v (la_P D cls5 La mu1) (la_A La)) av.toArray s 0 0 (la_A La)) (F0 m 0 ls [])) : cw l y cd n ret fr lo D E La av mu v mu1 := by
  refine Met.ofW (cc := cd) (maxL := n) (ret := ret) hy rfl ?_
  intro p e s m args below meth c s₁ B hml hv
  obtain ⟨rfl, hP, hK⟩ := hv
  have hts := atoms_spec (ws := .code y cd n ret :: gw) B.pre
  have hown : s.vm.findClass y.cls = some m.cls := findClass_of_methodNamed B.named
  rw [ho] at hown
  have hl := lv_entry av hn
  rw [lg_entry_eq]
  exact body p e s m below meth c _ ⟨B.exec, B.bytes, hml, hown, fun w h => hts w (List.mem_cons_of_mem _ h), hK⟩ B.returns B.notSynchronized hP va_S.rf hl
end CB
/-- the static facts of a call: virtual, static -/
def kv (own : String) (index : Nat) (y : MethodName) (C : String) (bytes : ByteArray) (maxL : Nat) (ret : Option FieldType) (n : Nat) : Prop :=
  Cond.methodLink own index y ∈ gw ∧ Cond.instanceMethod y ∈ gw ∧ Cond.selects C y y ∈ gw ∧ Cond.initialized C ∈ gw ∧ Cond.code y bytes maxL ret ∈ gw ∧
  (y.cls = C ∧ y.cls ≠ "java/lang/invoke/MethodHandle" ∧ y.cls ≠ "java/lang/invoke/VarHandle" ∧ (parseMethodDescriptor y.desc).map (fun d => d.parameters.length) = some n)
def ks (own : String) (index : Nat) (y : MethodName) (bytes : ByteArray) (maxL : Nat) (ret : Option FieldType) (n : Nat) : Prop :=
  Cond.methodLink own index y ∈ gw ∧ Cond.static y ∈ gw ∧ Cond.initialized y.cls ∈ gw ∧ Cond.code y bytes maxL ret ∈ gw ∧
  (y.cls ≠ "java/lang/invoke/MethodHandle" ∧ y.cls ≠ "java/lang/invoke/VarHandle" ∧ (parseMethodDescriptor y.desc).map (fun d => d.parameters.length) = some n)
/-- the static facts of a class: its number, its fields -/
def kc (ci : Nat) (C : String) (T : u_T) (N : Nat) (ty0 : Nat → FieldType) : Prop :=
  cls5[ci]? = some (C, T, N) ∧ (∀ w ∈ u_ws C T N, w ∈ gw) ∧ (∀ k, k < N → parseFieldDescriptor (T k).2.2.1 = some (ty0 k)) ∧ (∀ a, a < N → ∀ b, b < N → a ≠ b → (T a).2.1 ≠ (T b).2.1)
theorem kc_Ch : kc 0 R_Ch F_Ch 4 t_Ch := ⟨rfl, wy_Ch, t_Ch_ok, n_Ch⟩
theorem kc_Tx : kc 1 R_Tx F_Tx 2 t_Tx := ⟨rfl, wy_Tx, t_Tx_ok, n_Tx⟩
theorem kc_Wy : kc 2 R_Wy F_Wy 7 t_Wy := ⟨rfl, wy_Wy, t_Wy_ok, n_Wy⟩
theorem kc_Er : kc 3 R_Er F_Er 4 t_Er := ⟨rfl, wy_Er, t_Er_ok, n_Er⟩
theorem kc_Mo : kc 4 R_Mo F_Mo 20 t_Mo := ⟨rfl, wy_Mo, t_Mo_ok, n_Mo⟩
theorem good_gw : GoodIn gw gw := fun w h => ⟨h, good_of_word (gw_good w h)⟩
theorem good_cons {w : Cond} (h : w ∈ gw) {ws : List Cond} (hw : GoodIn gw ws) : GoodIn gw (w :: ws) := by
  intro x hx
  rcases List.mem_cons.mp hx with rfl | hx
  · exact good_gw _ h
  · exact hw x hx
section CC
variable {p : Program} {l : Launch} {e : Env} {R : Room} {s : State} {m : MethodId} {args : Array Value} {below : List Frame} {meth : Method} {c : Code} {H : Heap} {locs : List Loc} {cells slots : Nat} {Q : State → Prop}
variable {cc : ByteArray} {nL pc : Nat} {ls : Array Slot} {D : va_G} {E : Nat → ClassId} {La : la_L} {mu mu1 : la_M} {own C : String} {index n maxL fr lo : Nat} {y : MethodName} {bytes : ByteArray} {ret : Option FieldType} {As rest st0 : List Value} {v : Option Value} {b : Nat} {A0 : Nat → Prop} {H0 : Heap}
theorem cr_call {a : Array Value} (hr : va_Run p l e R s m args below meth c H locs cells slots 0 0 (F0 m pc ls st0) rest (cr_Q v a) (fun _ => False))
    (kk : W p l e R s m args below meth c H locs cells slots Q (F0 m (pc + 3) ls (v.toList ++ rest))) : W p l e R s m args below meth c H locs cells slots Q (F0 m pc ls st0) := by
  intro T hT X
  obtain ⟨v', st₀, t, T', L, h0, X', hL, e1, e2, ⟨hv, hh⟩, st⟩ := hr T hT X
  cases hv
  obtain ⟨t2, a1, b1⟩ := kk T' (by rw [e1, hh, h0]) (Stand.forget X' (fun q h => (hL q h).elim))
  exact ⟨t2, st t2 a1, b1⟩
theorem cw_call {a : Array Value} {B : Heap → Prop} {A1 : Nat → Prop} (hr : va_Run p l e R s m args below meth c H locs cells slots 0 0 (F0 m pc ls st0) rest (cw_Q v B A1 a) A1) (hS : va_S A0 H0 H locs) (hA : ∀ q, A1 q → A0 q)
    (kk : ∀ (H1 : Heap) (locs1 : List Loc), B H1 → (∀ q : Nat, q < H.size → ¬ A1 q → H1[q]? = H[q]?) → va_S A0 H0 H1 locs1 → W p l e R s m args below meth c H1 locs1 cells slots Q (F0 m (pc + 3) ls (v.toList ++ rest))) : W p l e R s m args below meth c H locs cells slots Q (F0 m pc ls st0) := by
  intro T hT X
  obtain ⟨v', st₀, t, T', L, h0, X', hL, e1, e2, ⟨hv, hB, hz, hk⟩, st⟩ := hr T hT X
  cases hv
  rw [h0] at hz hk
  obtain ⟨t2, a1, b1⟩ := kk T'.heap (locs ++ L) (by rw [e1]; exact hB) (fun q h1 h2 => by rw [e1]; exact hk q h1 h2)
    ⟨Nat.le_trans hS.1 (by rw [e1]; exact hz), fun q h1 h2 => by rw [e1, hk q (Nat.lt_of_lt_of_le h1 hS.1) (fun z => h2 (hA q z))]; exact hS.2.1 q h1 h2, fun q hq => by
      rcases List.mem_append.mp hq with h | h
      · exact hS.2.2 q h
      · exact hA _ (hL q h)⟩ T' rfl X'
  exact ⟨t2, st t2 a1, b1⟩
theorem kv.words (Z : zz own cc nL D E p s m c args) (K : kv own index y C bytes maxL ret n) (hR : fr + 1 ≤ R.frames ∧ 8 + (maxL + 11) + lo ≤ R.locals) : CallW R s args own C index y bytes maxL ret (.code y bytes maxL ret :: gw) (rmm fr lo) 0 0 n := by
  obtain ⟨h1, h2, h3, h4, h5, h6⟩ := K
  exact cwV n Z.2.2.2.2.1 (good_cons h1 (good_cons h2 (good_cons h3 (good_cons h4 (good_cons h5 good_gw))))) rfl rfl rfl h6 hR
theorem ks.words (Z : zz own cc nL D E p s m c args) (K : ks own index y bytes maxL ret n) (hR : fr + 1 ≤ R.frames ∧ 8 + (maxL + 11) + lo ≤ R.locals) : CallB R s args own index y bytes maxL ret (.code y bytes maxL ret :: gw) (rmm fr lo) 0 0 n ∧ (Cond.static y).before args s = true := by
  obtain ⟨h1, h2, h3, h4, h6⟩ := K
  have hts := Z.2.2.2.2.1
  exact ⟨callB_of n hts (good_cons h4 good_gw) rfl rfl rfl (hts _ h3) (hts _ h1) h6 hR, hts _ h2⟩
theorem pc_blind {av : List Value} {La : la_L} {mu : la_M} : FrameBlind (va_Pc av (fun U => la_P D cls5 La mu U.heap ∧ ki D E U)) := fun a U g mk q => ⟨q.1, q.2.1, va_K.moved (u := U) (U := U.calling g mk a) (Vm.Alike.refl U.vm) q.2.2⟩
theorem pc_here {av : List Value} (hK : ki D E s) (hP : la_P D cls5 La mu H) (U : State) (hU : U.heap = H) (hW : s.WarmedH U.vm) : va_Pc av (fun U => la_P D cls5 La mu U.heap ∧ ki D E U) av.toArray U := ⟨rfl, by rw [hU]; exact hP, ki.moved hW.alike hK⟩
theorem la_recv {ci : Nat} {f : (Nat → Int32) → va_E} {fs : List Value} {T : u_T} {N : Nat} {ty0 : Nat → FieldType} (hK : ki D E s) (hP : la_P D cls5 La mu H) (kcc : kc ci C T N ty0) (ha : La b = some f) (hf : f (mu b) = .inr (ci, fs)) : ∃ cell : Cell, H[b]? = some cell ∧ cell.vm.isStatics = false ∧ s.vm.findClass C = some cell.cls :=
  va_recv (q0 := 0) hK (hP.one ha) kcc.1 (by rw [hf]; rfl)
/-- a virtual call of a read-only method -/
theorem cr_V (Z : zz own cc nL D E p s m c args) (K : kv own index y C bytes maxL ret n) (hM : cr l y bytes maxL ret fr lo D E La (.ref b :: As) mu v) (hP : la_P D cls5 La mu H) (hrc : ∃ cell : Cell, H[b]? = some cell ∧ cell.vm.isStatics = false ∧ s.vm.findClass C = some cell.cls)
    (rest : List Value) (hst : st0 = As.reverse ++ .ref b :: rest) (hn : As.length = n) (hsize : ls.size = nL) (hW : (rest.map fun v => v.category).sum ≤ 8) (hR : fr + 1 ≤ R.frames ∧ 8 + (maxL + 11) + lo ≤ R.locals) (hcs : cells ≤ R.cells ∧ slots ≤ R.slots) (hdg : decode cc pc = .ok (.invokevirtual index, 3))
    (kk : W p l e R s m args below meth c H locs cells slots Q (F0 m (pc + 3) ls (v.toList ++ rest))) : W p l e R s m args below meth c H locs cells slots Q (F0 m pc ls st0) :=
  cr_call (va_runV (As := As) (rest := rest) (b := b) ⟨Z.1, Z.2.1, Z.2.2.1, Z.2.2.2.1, Z.2.2.2.2.1⟩ hM (kv.words Z K hR) ⟨pc_blind, hrc, pc_here Z.2.2.2.2.2 hP⟩ rfl hn hsize hst (lv_room hW) hdg hcs) kk
/-- a static call of a read-only method -/
theorem cr_S (Z : zz own cc nL D E p s m c args) (K : ks own index y bytes maxL ret n) (hM : cr l y bytes maxL ret fr lo D E La As mu v) (hP : la_P D cls5 La mu H)
    (rest : List Value) (hst : st0 = As.reverse ++ rest) (hn : As.length = n) (hsize : ls.size = nL) (hW : (rest.map fun v => v.category).sum ≤ 8) (hR : fr + 1 ≤ R.frames ∧ 8 + (maxL + 11) + lo ≤ R.locals) (hcs : cells ≤ R.cells ∧ slots ≤ R.slots) (hdg : decode cc pc = .ok (.invokestatic index, 3))
    (kk : W p l e R s m args below meth c H locs cells slots Q (F0 m (pc + 3) ls (v.toList ++ rest))) : W p l e R s m args below meth c H locs cells slots Q (F0 m pc ls st0) :=
  cr_call (va_runS (As := As) (rest := rest) ⟨Z.1, Z.2.1, Z.2.2.1, Z.2.2.2.1, Z.2.2.2.2.1⟩ hM (ks.words Z K hR) ⟨pc_blind, pc_here Z.2.2.2.2.2 hP⟩ rfl hn hsize hst (lv_room hW) hdg hcs) kk
/-- a virtual call of a writing method -/
theorem cw_V (Z : zz own cc nL D E p s m c args) (K : kv own index y C bytes maxL ret n) (hM : cw l y bytes maxL ret fr lo D E La (.ref b :: As) mu v mu1) (hP : la_P D cls5 La mu H) (hS : va_S A0 H0 H locs) (hA : ∀ q, la_A La q → A0 q) (hrc : ∃ cell : Cell, H[b]? = some cell ∧ cell.vm.isStatics = false ∧ s.vm.findClass C = some cell.cls)
    (rest : List Value) (hst : st0 = As.reverse ++ .ref b :: rest) (hn : As.length = n) (hsize : ls.size = nL) (hW : (rest.map fun v => v.category).sum ≤ 8) (hR : fr + 1 ≤ R.frames ∧ 8 + (maxL + 11) + lo ≤ R.locals) (hcs : cells ≤ R.cells ∧ slots ≤ R.slots) (hdg : decode cc pc = .ok (.invokevirtual index, 3))
    (kk : ∀ (H1 : Heap) (locs1 : List Loc), la_P D cls5 La mu1 H1 → (∀ q : Nat, q < H.size → ¬ la_A La q → H1[q]? = H[q]?) → va_S A0 H0 H1 locs1 → W p l e R s m args below meth c H1 locs1 cells slots Q (F0 m (pc + 3) ls (v.toList ++ rest))) : W p l e R s m args below meth c H locs cells slots Q (F0 m pc ls st0) :=
  cw_call (va_runV (As := As) (rest := rest) (b := b) ⟨Z.1, Z.2.1, Z.2.2.1, Z.2.2.2.1, Z.2.2.2.2.1⟩ hM (kv.words Z K hR) ⟨pc_blind, hrc, pc_here Z.2.2.2.2.2 hP⟩ rfl hn hsize hst (lv_room hW) hdg hcs) hS hA kk
/-- a static call of a writing method -/
theorem cw_S (Z : zz own cc nL D E p s m c args) (K : ks own index y bytes maxL ret n) (hM : cw l y bytes maxL ret fr lo D E La As mu v mu1) (hP : la_P D cls5 La mu H) (hS : va_S A0 H0 H locs) (hA : ∀ q, la_A La q → A0 q)
    (rest : List Value) (hst : st0 = As.reverse ++ rest) (hn : As.length = n) (hsize : ls.size = nL) (hW : (rest.map fun v => v.category).sum ≤ 8) (hR : fr + 1 ≤ R.frames ∧ 8 + (maxL + 11) + lo ≤ R.locals) (hcs : cells ≤ R.cells ∧ slots ≤ R.slots) (hdg : decode cc pc = .ok (.invokestatic index, 3))
    (kk : ∀ (H1 : Heap) (locs1 : List Loc), la_P D cls5 La mu1 H1 → (∀ q : Nat, q < H.size → ¬ la_A La q → H1[q]? = H[q]?) → va_S A0 H0 H1 locs1 → W p l e R s m args below meth c H1 locs1 cells slots Q (F0 m (pc + 3) ls (v.toList ++ rest))) : W p l e R s m args below meth c H locs cells slots Q (F0 m pc ls st0) :=
  cw_call (va_runS (As := As) (rest := rest) ⟨Z.1, Z.2.1, Z.2.2.1, Z.2.2.2.1, Z.2.2.2.2.1⟩ hM (ks.words Z K hR) ⟨pc_blind, pc_here Z.2.2.2.2.2 hP⟩ rfl hn hsize hst (lv_room hW) hdg hcs) hS hA kk
variable {a ci N : Nat} {T : u_T} {ty0 : Nat → FieldType} {f : (Nat → Int32) → va_E} {ref : String}
/-- a field read -/
theorem g_f (Z : zz own cc nL D E p s m c args) (K : kc ci C T N ty0) (hP : la_P D cls5 La mu H) (ha : La a = some f) {fs : List Value} (hf : f (mu a) = .inr (ci, fs)) (k : Nat) (hk : k < N) (hw : Cond.fieldLink own index ref (T k).2.1 (T k).2.2.1 ∈ gw) (hr : (T k).1 = ref) {v : Value} (hv : fs[k]? = some v) (hdg : decode cc pc = .ok (.getfield index, 3))
    (kk : W p l e R s m args below meth c H locs cells slots Q (F0 m (pc + 3) ls (v :: rest))) : W p l e R s m args below meth c H locs cells slots Q (F0 m pc ls (.ref a :: rest)) :=
  la_get Z.1 Z.2.1 Z.2.2.2.2.1 K.2.1 Z.2.2.2.1 Z.2.2.2.2.2 hP ha hf K.1 k hk (Z.2.2.2.2.1 _ hw) (fun x h => by rw [← hr]; exact h) hv hdg kk
/-- an int field read, its value by a name -/
theorem g_i (Z : zz own cc nL D E p s m c args) (K : kc ci C T N ty0) (hP : la_P D cls5 La mu H) (ha : La a = some f) {fs : List Value} (hf : f (mu a) = .inr (ci, fs)) (k : Nat) (hk : k < N) (hw : Cond.fieldLink own index ref (T k).2.1 (T k).2.2.1 ∈ gw) (hr : (T k).1 = ref) {x v : Int32} (hv : fs[k]? = some (.int x)) (hx : x = v) (hdg : decode cc pc = .ok (.getfield index, 3))
    (kk : W p l e R s m args below meth c H locs cells slots Q (F0 m (pc + 3) ls (.int v :: rest))) : W p l e R s m args below meth c H locs cells slots Q (F0 m pc ls (.ref a :: rest)) := by
  subst hx
  exact g_f Z K hP ha hf k hk hw hr hv hdg kk
/-- a field written -/
theorem p_f (Z : zz own cc nL D E p s m c args) (K : kc ci C T N ty0) (hP : la_P D cls5 La mu H) (hS : va_S (la_A La) H0 H locs) (ha : La a = some f) {fs : List Value} (hf : f (mu a) = .inr (ci, fs)) (k : Nat) (hk : k < N) (hw : Cond.fieldLink own index ref (T k).2.1 (T k).2.2.1 ∈ gw) (hr : (T k).1 = ref) (hfin : (T k).2.2.2 = false) {x : Int32} (hn : narrow (ty0 k) (.int x) = .int x ∧ fits (ty0 k) (.int x) = true) (hl : k < fs.length) (hf' : f (upd (mu a) k x) = .inr (ci, fs.set k (.int x))) (hdg : decode cc pc = .ok (.putfield index, 3))
    (kk : ∀ (H1 : Heap) (locs1 : List Loc), la_P D cls5 La (la_up mu a k x) H1 → va_S (la_A La) H0 H1 locs1 → W p l e R s m args below meth c H1 locs1 cells slots Q (F0 m (pc + 3) ls rest)) : W p l e R s m args below meth c H locs cells slots Q (F0 m pc ls (.int x :: .ref a :: rest)) :=
  la_put Z.1 Z.2.1 Z.2.2.2.2.1 K.2.1 ty0 K.2.2.1 K.2.2.2 Z.2.2.2.1 Z.2.2.2.2.2 hP hS ha hf K.1 k hk (Z.2.2.2.2.1 _ hw) (fun x h => by rw [← hr]; exact h) hfin (K.2.2.1 k hk) hn.1 hn.2 hl hf' hdg kk
end CC
