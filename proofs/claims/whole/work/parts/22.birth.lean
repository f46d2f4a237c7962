/-! MAKING OBJECTS. A world that grows: what lies at which address (sg), and the heap's size -/
abbrev sg : Type := Nat → Option va_E
def su (σ : sg) (a : Nat) (x : va_E) : sg := fun q => if q = a then some x else σ q
def so (σ1 σ : sg) : sg := fun q => match σ1 q with
  | some x => some x
  | none => σ q
def s1 (a : Nat) (x : va_E) : sg := fun q => if q = a then some x else none
def ls0 (L : la_L) : sg := fun q => (L q).map (fun f => f (fun _ => 0))
theorem su_s {σ : sg} {a : Nat} {x : va_E} : su σ a x a = some x := if_pos rfl
theorem su_n {σ : sg} {a q : Nat} {x : va_E} (h : q ≠ a) : su σ a x q = σ q := if_neg h
theorem so_n {σ1 σ : sg} {q : Nat} (h : σ1 q = none) : so σ1 σ q = σ q := by unfold so; rw [h]
theorem so_s {σ1 σ : sg} {q : Nat} {x : va_E} (h : σ1 q = some x) : so σ1 σ q = some x := by unfold so; rw [h]
theorem s1_s {a : Nat} {x : va_E} : s1 a x a = some x := if_pos rfl
theorem s1_n {a q : Nat} {x : va_E} (h : q ≠ a) : s1 a x q = none := if_neg h
def sP (D : va_G) (σ : sg) (H : Heap) : Prop := ∀ (a : Nat) (x : va_E), σ a = some x → va_at D cls5 (a, x) H
theorem sP.one {D : va_G} {σ : sg} {H : Heap} (h : sP D σ H) {a : Nat} {x : va_E} (ha : σ a = some x) : va_P D cls5 [(a, x)] H := by
  intro k q hk
  have hz : k < 1 := (List.getElem?_eq_some_iff.mp hk).1
  rw [show k = 0 by omega] at hk
  cases hk
  exact h a x ha
theorem sP.set {D : va_G} {σ : sg} {H H1 : Heap} (h : sP D σ H) {a : Nat} {x : va_E} (h1 : va_at D cls5 (a, x) H1) (oq : ∀ q : Nat, q ≠ a → H1[q]? = H[q]?) : sP D (su σ a x) H1 := by
  intro b y hb
  by_cases hq : b = a
  · subst hq
    rw [su_s] at hb
    cases hb
    exact h1
  · rw [su_n hq] at hb
    exact (h b y hb).kept (oq b hq)
theorem sP.push {D : va_G} {σ : sg} {H H1 : Heap} (h : sP D σ H) {x : va_E} (h1 : va_at D cls5 (H.size, x) H1) (oq : ∀ q : Nat, q < H.size → H1[q]? = H[q]?) : sP D (su σ H.size x) H1 := by
  intro b y hb
  by_cases hq : b = H.size
  · subst hq
    rw [su_s] at hb
    cases hb
    exact h1
  · rw [su_n hq] at hb
    exact (h b y hb).kept (oq b (h b y hb).lt)
theorem sP.sub {D : va_G} {σ σ' : sg} {H : Heap} (h : sP D σ H) (hs : ∀ q x, σ' q = some x → σ q = some x) : sP D σ' H := fun a x ha => h a x (hs a x ha)
theorem sP.la {D : va_G} {L : la_L} {H : Heap} (h : sP D (ls0 L) H) : la_P D cls5 L (fun _ _ => 0) H := fun a f ha => h a (f (fun _ => 0)) (by unfold ls0; rw [ha]; rfl)
/-- two arrays of references that agree where they are -/
theorem arr_eq {cA : ClassId} {n : Nat} {f g : Nat → Option Nat} (h : ∀ k, k < n → f k = g k) : vp_cell cA (n, .inr (.inr (.inr (.inr f)))) = vp_cell cA (n, .inr (.inr (.inr (.inr g)))) := by
  rw [vp_cell_q, vp_cell_q]
  unfold arrV
  congr 2
  funext j
  show va_rf (f j.val) = va_rf (g j.val)
  rw [h j.val j.isLt]
/-- what a maker knows of the machine beside ki -/
def nx (U : State) : Prop := va_AO R_Tx U ∧ va_AO R_Wy U ∧ va_AO R_Ch U ∧ va_Nw (.methodLinkNest R_Er 15 y_Tx_init R_Er) U ∧ va_Nw (.methodLinkNest R_Wy 26 y_Ch_init R_Er) U ∧ va_Nw (.methodLinkNest R_Er 30 y_Ch_init R_Er) U
theorem nx.moved {s U : State} (hW : s.WarmedH U.vm) (h : nx s) : nx U := ⟨h.1.moved hW.alike, h.2.1.moved hW.alike, h.2.2.1.moved hW.alike, h.2.2.2.1.warmM hW, h.2.2.2.2.1.warmM hW, h.2.2.2.2.2.warmM hW⟩
def nA (σ : sg) (N : Nat) : Nat → Prop := fun q => σ q ≠ none ∨ N ≤ q
def kn_Q (D : va_G) (σ σ1 : sg) (N1 : Nat) : Array Value → State → Outcome → State → Prop := fun _ st o t => o = .returned none ∧ sP D σ1 t.heap ∧ t.heap.size = N1 ∧ st.heap.size ≤ t.heap.size ∧ ∀ q : Nat, q < st.heap.size → σ q = none → t.heap[q]? = st.heap[q]?
def rmk (fr lo mc ms : Nat) : Room := { frames := fr, cells := mc, slots := ms, locals := lo }
/-- a constructor: from the world σ in a heap of N cells to the world σ1 in one of N1 -/
def kn (l : Launch) (y : MethodName) (cd : ByteArray) (n fr lo mc ms : Nat) (D : va_G) (E : Nat → ClassId) (σ : sg) (N : Nat) (av : List Value) (σ1 : sg) (N1 : Nat) : Prop :=
  Met l y (.code y cd n none :: gw) (rmk fr lo mc ms) (va_Pc av (fun U => sP D σ U.heap ∧ U.heap.size = N ∧ ki D E U ∧ nx U)) (kn_Q D σ σ1 N1) mc ms (nA σ N)
theorem kn_begin {l : Launch} {y : MethodName} {cd : ByteArray} {n fr lo mc ms : Nat} {D : va_G} {E : Nat → ClassId} {σ σ1 : sg} {N N1 : Nat} {av : List Value} (own : String) (hy : plainName y.cls = true) (ho : y.cls = own) (hi : y.name = "<init>") (hn : (lg_sl av).length ≤ n)
    (body : ∀ (p : Program) (e : Env) (s : State) (m : MethodId) (below : List Frame) (meth : Method) (c : Code) (ls : Array Slot), zz own cd n D E p s m c av.toArray → meth.sig.returnType = none → meth.locks = false → meth.name = "<init>" → sP D σ s.heap → s.heap.size = N → nx s → va_S (nA σ N) s.heap s.heap [] → lv_has ls n (lv_args 0 av) →
      W p l e (rmk fr lo mc ms) s m av.toArray below meth c s.heap [] 0 0 (MQ below (kn_Q D σ σ1 N1) av.toArray s mc ms (nA σ N)) (F0 m 0 ls [])) : kn l y cd n fr lo mc ms D E σ N av σ1 N1 := by
  refine Met.ofW (cc := cd) (maxL := n) (ret := none) hy rfl ?_
  intro p e s m args below meth c s₁ B hml hv
  obtain ⟨rfl, hP, hN, hK, hX⟩ := hv
  have hts := atoms_spec (ws := .code y cd n none :: gw) B.pre
  have hown : s.vm.findClass y.cls = some m.cls := findClass_of_methodNamed B.named
  rw [ho] at hown
  have hl := lv_entry av hn
  rw [lg_entry_eq]
  exact body p e s m below meth c _ ⟨B.exec, B.bytes, hml, hown, fun w h => hts w (List.mem_cons_of_mem _ h), hK⟩ B.returns B.notSynchronized ((name_of_methodNamed B.named B.method).1.trans hi) hP hN hX va_S.rf hl
section SGR
variable {p : Program} {l : Launch} {e : Env} {R : Room} {s : State} {m : MethodId} {args : Array Value} {below : List Frame} {meth : Method} {c : Code} {H : Heap} {locs : List Loc} {cells slots : Nat} {Q : State → Prop}
variable {cc : ByteArray} {nL pc : Nat} {ls : Array Slot} {D : va_G} {E : Nat → ClassId} {σ σ1 σc : sg} {Nn N1 : Nat} {own C ref host : String} {index n maxL fr lo mc ms a b ci N : Nat} {y : MethodName} {bytes : ByteArray} {As rest st0 : List Value} {A0 : Nat → Prop} {H0 : Heap} {T : u_T} {ty0 : Nat → FieldType} {fs : List Value}
theorem s_obj (Z : zz own cc nL D E p s m c args) (hw : Cond.methodLink own index objectInit ∈ gw) (hsize : ls.size = nL) (hframes : 1 ≤ R.frames) (hlocals : (rest.map fun v => v.category).sum + 12 ≤ R.locals) (hdg : decode cc pc = .ok (.invokespecial index, 3))
    (kk : W p l e R s m args below meth c H locs cells slots Q (F0 m (pc + 3) ls rest)) : W p l e R s m args below meth c H locs cells slots Q (F0 m pc ls (.ref a :: rest)) :=
  W.objInit Z.1 Z.2.1 Z.2.2.2.1 (Z.2.2.2.2.1 _ hw) (Z.2.2.2.2.1 _ wim_Object) (Z.2.2.2.2.1 _ wc_Object) (g := F0 m pc ls (.ref a :: rest)) rfl (hsize.trans Z.2.2.1.symm) rfl hdg hframes (by show 2 * 0 + _ + _ ≤ _; omega) kk
theorem va_S.grow {H1 : Heap} (hS : va_S A0 H0 H locs) (z : H1.size = H.size + 1) (o : ∀ q : Nat, q < H.size → H1[q]? = H[q]?) : va_S A0 H0 H1 locs := ⟨Nat.le_trans hS.1 (by omega), fun x h1 h2 => (o x (Nat.lt_of_lt_of_le h1 hS.1)).trans (hS.2.1 x h1 h2), hS.2.2⟩
/-- a new object -/
theorem s_new (Z : zz own cc nL D E p s m c args) (K : kc ci C T N ty0) (hP : sP D σ H) (hN : H.size = Nn) (hS : va_S A0 H0 H locs) (hw : Cond.classLink own index C ∈ gw) (hw2 : Cond.instantiable C N ∈ gw) (hw3 : Cond.initialized C ∈ gw) (hfs : ∀ j, j < N → defaultValue (ty0 j) = vp_V fs j) (hc : cells + 1 ≤ R.cells) (hs : slots + N ≤ R.slots) (hdg : decode cc pc = .ok (.new index, 3))
    (kk : ∀ H1 : Heap, sP D (su σ Nn (.inr (ci, fs))) H1 → H1.size = Nn + 1 → va_S A0 H0 H1 locs → W p l e R s m args below meth c H1 locs (cells + 1) (slots + N) Q (F0 m (pc + 3) ls (.ref Nn :: rest))) : W p l e R s m args below meth c H locs cells slots Q (F0 m pc ls rest) := by
  subst hN
  obtain ⟨hx, hb, hml, hown, hts, hK⟩ := Z
  have hKn := hK.1 ci _ K.1
  refine W.newcK hx hb hown (hts _ hw) (hts _ hw2) (hts _ hw3) rfl hdg hc hs hKn.2.1 rfl fun H1 kC hkC e1 z1 o1 => ?_
  exact kk H1 (hP.push ⟨_, K.1, (u_born ty0 hts K.2.1 hKn hkC e1 K.2.2.1).to hfs⟩ o1) z1 (hS.grow z1 o1)
/-- a new array of ints, chars, longs -/
theorem s_newa (Z : zz own cc nL D E p s m c args) (hP : sP D σ H) (hN : H.size = Nn) (hS : va_S A0 H0 H locs) {at0 : ArrayType} {ty : FieldType} (hty : newarray.typeOf at0 = ty) (hw : Cond.arrayClass ty ∈ gw) (t0 : Nat) {cA : ClassId} (ht : (tyE E)[t0]? = some (cA, ty)) (hra : va_RA s cA ty = (s.vm.findClass ("[" ++ ty.toString) = some cA)) {x : Int32} {N' : Nat} {a0 : vp_A} (ha : ∀ cA : ClassId, vp_cell cA a0 = arrV cA N' (fun _ => defaultValue ty)) (hx : x = nI N') (hN2 : N' < 2 ^ 20) (hcb : componentBytes ty ≤ 8) (hc : cells + 1 ≤ R.cells) (hs : slots + N' ≤ R.slots) (hdg : decode cc pc = .ok (.newarray at0, 2))
    (kk : ∀ H1 : Heap, sP D (su σ Nn (.inl (cA, a0))) H1 → H1.size = Nn + 1 → va_S A0 H0 H1 locs → W p l e R s m args below meth c H1 locs (cells + 1) (slots + N') Q (F0 m (pc + 2) ls (.ref Nn :: rest))) : W p l e R s m args below meth c H locs cells slots Q (F0 m pc ls (.int x :: rest)) := by
  subst hN; subst hx; subst hty
  obtain ⟨hx, hb, hml, hown, hts, hK⟩ := Z
  have hr := (hK.2 t0 _ ht).2
  have hr2 : s.vm.findClass ("[" ++ (newarray.typeOf at0).toString) = some cA := by rw [← hra]; exact hr
  refine va_newaK (N := N') hx hb (hts _ hw) (g := F0 m pc ls (.int (nI N') :: rest)) rfl hdg rfl (nI_pos (by omega)) (nI_clamp (by omega)) (Nat.le_trans (Nat.mul_le_mul_left N' hcb) (by omega)) hc hs rfl fun H1 cA' e1 z1 o1 _ f1 => ?_
  cases Option.some.inj (hr2.symm.trans f1)
  exact kk H1 (hP.push (by show H1[H.size]? = some _; rw [e1, ha]) o1) z1 (hS.grow z1 o1)
/-- a new array of references -/
theorem s_anew (Z : zz own cc nL D E p s m c args) (hP : sP D σ H) (hN : H.size = Nn) (hS : va_S A0 H0 H locs) (hw : Cond.classLink own index C ∈ gw) (hao : va_AO C s) (t0 : Nat) {cA : ClassId} (ht : (tyE E)[t0]? = some (cA, .object C)) {x : Int32} {N' : Nat} (hx : x = nI N') (hN2 : N' < 2 ^ 20) (hc : cells + 1 ≤ R.cells) (hs : slots + N' ≤ R.slots) (hdg : decode cc pc = .ok (.anewarray index, 3))
    (kk : ∀ H1 : Heap, sP D (su σ Nn (.inl (cA, N', .inr (.inr (.inr (.inr (fun _ => none))))))) H1 → H1.size = Nn + 1 → va_S A0 H0 H1 locs → W p l e R s m args below meth c H1 locs (cells + 1) (slots + N') Q (F0 m (pc + 3) ls (.ref Nn :: rest))) : W p l e R s m args below meth c H locs cells slots Q (F0 m pc ls (.int x :: rest)) := by
  subst hN; subst hx
  obtain ⟨hx, hb, hml, hown, hts, hK⟩ := Z
  obtain ⟨kA9, comp9, -, -, -, hr2⟩ := (hK.2 t0 _ ht).2
  have hcl : (nI N').toNatClampNeg = N' := nI_clamp (by omega)
  refine W.anew hx hb hown (hts _ hw) (va_AO.use hao) (g := F0 m pc ls (.int (nI N') :: rest)) rfl hdg rfl (nI_pos (by omega)) (by rw [hcl]; omega) hc (by rw [hcl]; exact hs) fun cA' kA comp f1 f2 f3 f4 => ?_
  cases Option.some.inj (hr2.symm.trans f1)
  rw [hcl]
  generalize hH1 : H.push ({ cls := cA, slots := Array.replicate N' .null, vm := .none } : Cell) = H1
  have z1 : H1.size = H.size + 1 := by rw [← hH1, Array.size_push]
  have e1 : H1[H.size]? = some (arrV cA N' (fun _ => .null)) := by rw [← hH1, Array.getElem?_push_size, ← arrV_new]
  have o1 : ∀ q : Nat, q < H.size → H1[q]? = H[q]? := fun q hq => by rw [← hH1, Array.getElem?_push, if_neg (Nat.ne_of_lt hq)]
  exact kk H1 (hP.push (by show H1[H.size]? = some _; rw [e1]; rfl) o1) z1 (hS.grow z1 o1)
/-- a final field set in a constructor -/
theorem s_putF (Z : zz own cc nL D E p s m c args) (K : kc ci C T N ty0) (hP : sP D σ H) (hN : H.size = Nn) (hS0 : va_S A0 H0 H locs) (hA : A0 a) (ha : σ a = some (.inr (ci, fs))) (k : Nat) (hk : k < N) (hw : Cond.fieldLink own index ref (T k).2.1 (T k).2.2.1 ∈ gw) (hr : (T k).1 = ref) (hfin : (T k).2.2.2 = true) (hin2 : meth.name = "<init>") (hdecl : (T k).1 = own) {v : Value} (hn : narrow (ty0 k) v = v ∧ fits (ty0 k) v = true) (hl : k < fs.length) (hdg : decode cc pc = .ok (.putfield index, 3))
    (kk : ∀ (H1 : Heap) (locs1 : List Loc), sP D (su σ a (.inr (ci, fs.set k v))) H1 → H1.size = Nn → va_S A0 H0 H1 locs1 → W p l e R s m args below meth c H1 locs1 cells slots Q (F0 m (pc + 3) ls rest)) : W p l e R s m args below meth c H locs cells slots Q (F0 m pc ls (v :: .ref a :: rest)) := by
  subst hN; subst hr
  obtain ⟨hx, hb, hml, hown, hts, hK⟩ := Z
  have hK : va_K D cls5 (tyE E) s := hK
  have hap := va_apart (own := own) hts K.2.1 ty0 K.2.2.1 K.2.2.2 hK K.1
  obtain ⟨r, h1, cell, q1, q2, q3, q4⟩ := hP a _ ha
  have hr : r = (C, T, N) := Option.some.inj (h1.symm.trans K.1)
  subst hr
  obtain ⟨hS, hfc, kC, hkC, hkind⟩ := hK.1 ci _ K.1
  obtain ⟨cf, kf, fi, f, hi, hsl⟩ := hS k hk
  have hlay := hts _ (K.2.1 _ (u_in_lay hk))
  unfold u_lay at hlay
  rw [if_pos hfin] at hlay
  have hst := (u_facts hfc hkC (u_lays hts K.2.1 hk) hi).1
  have hcf : m.cls = cf := by
    obtain ⟨_, _, c', _, _, _, -, -, hf', -, -, -, hown2, -⟩ := Cond.laysFinal_spec hlay
    have e1 : c' = cf := by have := hi.symm.trans hf'; simp at this; exact this.1.symm
    rw [hdecl] at hown2
    rw [← e1]; exact Option.some.inj (hown.symm.trans hown2)
  have h6 := u_fits hfc hkC hkind (Or.inr hlay) hi (K.2.2.1 k hk) hn.1 hn.2
  refine W.putFinK hx hb hown (hts _ hw) hi hst hcf hin2 (by rw [q2]; exact h6) q1 q3 (by rw [hsl]; exact k2_hasslot (q4 k hk)) rfl rfl hdg fun H' e1 e2 e3 => ?_
  rw [hsl] at e1 ⊢
  exact kk H' _ (hP.set ⟨_, K.1, t_OB.to (V := updV (vp_V fs) k v) ⟨_, e1, q2, q3, t_set q4 hap hk v⟩ (fun j _ => vp_updV_set hl v j)⟩ e3) e2 (hS0.put e2 e3 hA)
/-- a field read -/
theorem s_get (Z : zz own cc nL D E p s m c args) (K : kc ci C T N ty0) (hP : sP D σ H) (ha : σ a = some (.inr (ci, fs))) (k : Nat) (hk : k < N) (hw : Cond.fieldLink own index ref (T k).2.1 (T k).2.2.1 ∈ gw) (hr : (T k).1 = ref) {v : Value} (hv : fs[k]? = some v) (hdg : decode cc pc = .ok (.getfield index, 3))
    (kk : W p l e R s m args below meth c H locs cells slots Q (F0 m (pc + 3) ls (v :: rest))) : W p l e R s m args below meth c H locs cells slots Q (F0 m pc ls (.ref a :: rest)) :=
  va_get Z.1 Z.2.1 Z.2.2.2.2.1 K.2.1 Z.2.2.2.1 Z.2.2.2.2.2 (hP.one ha) 0 rfl K.1 k hk (Z.2.2.2.2.1 _ hw) (fun x h => by rw [← hr]; exact h) hv hdg kk
/-- a reference stored in an array -/
theorem s_ast (Z : zz own cc nL D E p s m c args) (K : kc ci C T N ty0) (hP : sP D σ H) (hN : H.size = Nn) (hS : va_S A0 H0 H locs) (hA : A0 a) (t0 : Nat) {cA : ClassId} (ht : (tyE E)[t0]? = some (cA, .object C)) {n v : Nat} {f : Nat → Option Nat} (ha : σ a = some (.inl (cA, n, .inr (.inr (.inr (.inr f)))))) (hv : σ v = some (.inr (ci, fs))) {x : Int32} (j : Nat) (hx : x = nI j) (hj : j < n) (hn : n < 2 ^ 31) (hdg : decode cc pc = .ok (.aastore, 1))
    (kk : ∀ (H1 : Heap) (locs1 : List Loc), sP D (su σ a (.inl (cA, n, .inr (.inr (.inr (.inr (va_up f j (some v)))))))) H1 → H1.size = Nn → va_S A0 H0 H1 locs1 → W p l e R s m args below meth c H1 locs1 cells slots Q (F0 m (pc + 1) ls rest)) : W p l e R s m args below meth c H locs cells slots Q (F0 m pc ls (.ref v :: .int x :: .ref a :: rest)) := by
  subst hN; subst hx
  obtain ⟨hx, hb, hml, hown, hts, hK⟩ := Z
  have hK : va_K D cls5 (tyE E) s := hK
  obtain ⟨r', hr', cellV, g1, g2, g3, -⟩ := hP v _ hv
  have hcls := (hK.1 ci _ K.1).2
  obtain ⟨kA, comp, k1, k2, k3, -⟩ := (hK.2 t0 _ ht).2
  have hcomp : comp = D.1 ci := Option.some.inj (k3.symm.trans hcls.1)
  subst hcomp
  obtain ⟨kC, hkC, -⟩ := hcls.2
  have hcl : (nI j).toNatClampNeg = j := nI_clamp (by omega)
  have h0 : H[a]? = some (vp_cell cA (n, .inr (.inr (.inr (.inr f))))) := hP a _ ha
  refine W.aast hx hb h0 (fun q h => by cases h) (fun h => by cases h) k1 k2 rfl hkC ⟨nI_pos (by omega), by show _ < (arrV _ _ _).slots.size; rw [arrV_size, hcl]; exact hj⟩ g1 (fun q h => by rw [g3] at h; cases h) (by rw [g2]; exact hkC) (by rw [g2]; exact va_assign hcls) rfl rfl hdg fun H1 e z oq => ?_
  rw [hcl] at e ⊢
  refine kk H1 _ (hP.set ?_ oq) z (hS.put z oq hA)
  show H1[a]? = some (vp_cell _ _)
  rw [e, vp_cell_q, vp_cell_q, arrV_store]
  congr 2
  funext q
  by_cases hq : q = j
  · subst hq
    simp [updV, va_up, va_rf]
  · simp [updV, va_up, hq]
/-- the end of a constructor -/
theorem s_ret (Z : zz own cc nL D E p s m c args) (hr : meth.sig.returnType = none) (hlocks : meth.locks = false) (hP : sP D σ1 H) (hN : H.size = N1) (hS : va_S (nA σ Nn) s.heap H locs) (h1 : cells ≤ mc) (h2 : slots ≤ ms) (hN0 : s.heap.size = Nn) (hdg : decode cc pc = .ok (.return_, 1)) : W p l e R s m args below meth c H locs cells slots (MQ below (kn_Q D σ σ1 N1) args s mc ms (nA σ Nn)) (F0 m pc ls []) := by
  refine W.wide h1 h2 (W.vret Z.1 Z.2.1 hr (fun t ht _ => ⟨rfl, by rw [ht]; exact hP, by rw [ht]; exact hN, by rw [ht]; exact hS.1, fun q h1 h2 => ?_⟩) hS.2.2 hdg hlocks)
  rw [ht]
  exact hS.2.1 q h1 (fun h => h.elim (fun h => h h2) (fun h => by omega))
theorem kn_blind {av : List Value} : FrameBlind (va_Pc av (fun U => sP D σ U.heap ∧ U.heap.size = Nn ∧ ki D E U ∧ nx U)) := fun a U g mk q => ⟨q.1, q.2.1, q.2.2.1, va_K.moved (u := U) (U := U.calling g mk a) (Vm.Alike.refl U.vm) q.2.2.2.1, nx.moved (s := U) (U := U.calling g mk a) (State.WarmedH.refl U) q.2.2.2.2⟩
theorem kn_call {aa : Array Value} (hr : va_Run p l e R s m args below meth c H locs cells slots mc ms (F0 m pc ls st0) rest (kn_Q D σ σ1 N1 aa) (nA σ Nn)) (hPc : sP D σc H) (hN : H.size = Nn) (hS : va_S A0 H0 H locs) (hA : ∀ q, nA σ Nn q → A0 q) (hd : ∀ q, σ1 q = none → σ q = none)
    (kk : ∀ (H1 : Heap) (locs1 : List Loc), sP D (so σ1 σc) H1 → H1.size = N1 → va_S A0 H0 H1 locs1 → W p l e R s m args below meth c H1 locs1 (cells + mc) (slots + ms) Q (F0 m (pc + 3) ls rest)) : W p l e R s m args below meth c H locs cells slots Q (F0 m pc ls st0) := by
  intro T hT X
  obtain ⟨v', st₀, t, T', L, h0, X', hL, e1, e2, ⟨hv, hB, hz, hz2, hk⟩, st⟩ := hr T hT X
  cases hv
  rw [h0] at hk hz2
  obtain ⟨t2, a1, b1⟩ := kk T'.heap (locs ++ L) (fun q x hq => by
      rw [e1]
      cases h1 : σ1 q with
      | some z =>
        rw [so_s h1] at hq
        exact hB q x (h1.trans hq)
      | none =>
        rw [so_n h1] at hq
        have h9 := hPc q x hq
        exact h9.kept (hk q h9.lt (hd q h1))) (by rw [e1]; exact hz)
    ⟨Nat.le_trans hS.1 (by rw [e1]; exact hz2), fun q h1 h2 => by
      have h3 : ¬ nA σ Nn q := fun z => h2 (hA q z)
      rw [e1, hk q (Nat.lt_of_lt_of_le h1 hS.1) (Classical.not_not.mp (fun z => h3 (Or.inl z)))]
      exact hS.2.1 q h1 h2, fun q hq => by
      rcases List.mem_append.mp hq with h | h
      · exact hS.2.2 q h
      · exact hA _ (hL q h)⟩ T' rfl X'
  exact ⟨t2, st t2 a1, b1⟩
/-- a constructor's call -/
theorem kn_I (Z : zz own cc nL D E p s m c args) (hl : Cond.methodLink own index y ∈ gw) (him : Cond.instanceMethod y ∈ gw) (hini : Cond.initialized y.cls ∈ gw) (hcw : Cond.code y bytes maxL none ∈ gw) (hyn : y.name = "<init>") (hd6 : y.cls ≠ "java/lang/invoke/MethodHandle" ∧ y.cls ≠ "java/lang/invoke/VarHandle" ∧ (parseMethodDescriptor y.desc).map (fun d => d.parameters.length) = some n)
    (hM : kn l y bytes maxL fr lo mc ms D E σ Nn (.ref b :: As) σ1 N1) (hP : sP D σ H) (hX : nx s) (hPc : sP D σc H) (hN : H.size = Nn) (hS : va_S A0 H0 H locs) (hA : ∀ q, nA σ Nn q → A0 q) (hd : ∀ q, σ1 q = none → σ q = none)
    (rest : List Value) (hst : st0 = As.reverse ++ .ref b :: rest) (hn : As.length = n) (hsize : ls.size = nL) (hW : (rest.map fun v => v.category).sum ≤ 8) (hR : fr + 1 ≤ R.frames ∧ 8 + (maxL + 11) + lo ≤ R.locals) (hcs : cells + mc ≤ R.cells ∧ slots + ms ≤ R.slots) (hdg : decode cc pc = .ok (.invokespecial index, 3))
    (kk : ∀ (H1 : Heap) (locs1 : List Loc), sP D (so σ1 σc) H1 → H1.size = N1 → va_S A0 H0 H1 locs1 → W p l e R s m args below meth c H1 locs1 (cells + mc) (slots + ms) Q (F0 m (pc + 3) ls rest)) : W p l e R s m args below meth c H locs cells slots Q (F0 m pc ls st0) :=
  kn_call (va_runI (As := As) (rest := rest) (b := b) ⟨Z.1, Z.2.1, Z.2.2.1, Z.2.2.2.1, Z.2.2.2.2.1⟩ hM ⟨callB_of n Z.2.2.2.2.1 (good_cons hcw good_gw) rfl rfl rfl (Z.2.2.2.2.1 _ hini) (Z.2.2.2.2.1 _ hl) hd6 hR, hyn, Z.2.2.2.2.1 _ him⟩ ⟨kn_blind, fun U hU hWU => ⟨rfl, by rw [hU]; exact hP, by rw [hU]; exact hN, ki.moved hWU.alike Z.2.2.2.2.2, hX.moved hWU⟩⟩ rfl hn hsize hst (lv_room hW) hdg hcs) hPc hN hS hA hd kk
/-- .. of a private constructor of a nest mate -/
theorem kn_N (Z : zz own cc nL D E p s m c args) (hl : va_Nw (.methodLinkNest own index y host) s) (him : Cond.instanceMethod y ∈ gw) (hini : Cond.initialized y.cls ∈ gw) (hcw : Cond.code y bytes maxL none ∈ gw) (hyn : y.name = "<init>") (hd6 : y.cls ≠ "java/lang/invoke/MethodHandle" ∧ y.cls ≠ "java/lang/invoke/VarHandle" ∧ (parseMethodDescriptor y.desc).map (fun d => d.parameters.length) = some n)
    (hM : kn l y bytes maxL fr lo mc ms D E σ Nn (.ref b :: As) σ1 N1) (hP : sP D σ H) (hX : nx s) (hPc : sP D σc H) (hN : H.size = Nn) (hS : va_S A0 H0 H locs) (hA : ∀ q, nA σ Nn q → A0 q) (hd : ∀ q, σ1 q = none → σ q = none)
    (rest : List Value) (hst : st0 = As.reverse ++ .ref b :: rest) (hn : As.length = n) (hsize : ls.size = nL) (hW : (rest.map fun v => v.category).sum ≤ 8) (hR : fr + 1 ≤ R.frames ∧ 8 + (maxL + 11) + lo ≤ R.locals) (hcs : cells + mc ≤ R.cells ∧ slots + ms ≤ R.slots) (hdg : decode cc pc = .ok (.invokespecial index, 3))
    (kk : ∀ (H1 : Heap) (locs1 : List Loc), sP D (so σ1 σc) H1 → H1.size = N1 → va_S A0 H0 H1 locs1 → W p l e R s m args below meth c H1 locs1 (cells + mc) (slots + ms) Q (F0 m (pc + 3) ls rest)) : W p l e R s m args below meth c H locs cells slots Q (F0 m pc ls st0) :=
  kn_call (va_runIN (As := As) (rest := rest) (b := b) ⟨Z.1, Z.2.1, Z.2.2.1, Z.2.2.2.1, Z.2.2.2.2.1⟩ hM ⟨va_cnB n Z.2.2.2.2.1 (good_cons hcw good_gw) rfl rfl rfl hl (Z.2.2.2.2.1 _ hini) hd6 hR, hyn, Z.2.2.2.2.1 _ him⟩ ⟨kn_blind, fun U hU hWU => ⟨rfl, by rw [hU]; exact hP, by rw [hU]; exact hN, ki.moved hWU.alike Z.2.2.2.2.2, hX.moved hWU⟩⟩ rfl hn hsize hst (lv_room hW) hdg hcs) hPc hN hS hA hd kk
end SGR
