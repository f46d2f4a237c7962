/-! System.arraycopy within one char array; more rows for arrays of the world -/
section LCP
variable {p : Program} {l : Launch} {e : Env} {R : Room} {s : State} {m : MethodId} {args : Array Value} {below : List Frame} {meth : Method} {c : Code} {H : Heap} {locs : List Loc} {cells slots : Nat} {Q : State → Prop}
variable {cc : ByteArray} {nL pc : Nat} {ls : Array Slot} {rest : List Value} {D : va_G} {E : Nat → ClassId} {La : la_L} {mu : la_M} {a : Nat} {f : (Nat → Int32) → va_E} {H0 : Heap} {own : String} {index : Nat}
theorem la_copyc (Z : zz own cc nL D E p s m c args) (hw : Cond.methodLink own index arraycopyName ∈ gw) (hP : la_P D cls5 La mu H) (hS : va_S (la_A La) H0 H locs) {n : Nat} (ha : La a = some f) (hf : ∀ g, f g = .inl (E 1, n, .inl g)) {sp dp k : Int32} (sp0 dp0 k0 : Nat) (es : sp = nI sp0) (ed : dp = nI dp0) (ek : k = nI k0) (h1 : sp0 + k0 ≤ n) (h2 : dp0 + k0 ≤ n) (hn : n < 2 ^ 31) (hfit : ∀ j, fits .char (.int (mu a j)) = true)
    (hsize : ls.size = nL) (hframes : 1 ≤ R.frames) (hlocals : (rest.map fun v => v.category).sum + (nativeFrameWords "java/lang/System" "arraycopy" 5 + 11) ≤ R.locals) (hdg : decode cc pc = .ok (.invokestatic index, 3))
    (kk : ∀ (H1 : Heap) (locs1 : List Loc), la_P D cls5 La (la_set mu a (va_cpy (mu a) (mu a) sp0 dp0 k0)) H1 → va_S (la_A La) H0 H1 locs1 → W p l e R s m args below meth c H1 locs1 cells slots Q (F0 m (pc + 3) ls rest)) : W p l e R s m args below meth c H locs cells slots Q (F0 m pc ls (.int k :: .int dp :: .ref a :: .int sp :: .ref a :: rest)) := by
  subst es; subst ed; subst ek
  obtain ⟨hx, hb, hml, hown, hts, hK⟩ := Z
  have hK : va_K D cls5 (tyE E) s := hK
  have h0 := hP a f ha
  rw [hf] at h0
  have hc : H[a]? = some (vp_cell (E 1) (n, .inl (mu a))) := h0
  have hl : a < H.size := (Array.getElem?_eq_some_iff.mp hc).1
  intro T hT X
  obtain ⟨-, kA, hkA, cm, hkk⟩ := (hK.2 1 (E 1, .char) rfl).1 n (fun j => .int (mu a j))
  obtain ⟨vm', X', step⟩ := X.arraycopy hx hown (hts _ hw) (hts _ wna_arraycopy) (hts _ wsm_arraycopy) (hts _ wi_System) (src := a) (dst := a) (cs := vp_cell (E 1) (n, .inl (mu a))) (cd := vp_cell (E 1) (n, .inl (mu a))) (srcPos := nI sp0) (destPos := nI dp0) (n := nI k0) (by rw [hT]; exact hc) (by rw [hT]; exact hc)
    (fun _ h => by cases h) (fun _ h => by cases h) (fun h => by cases h) (fun h => by cases h) hkA hkA hkk hkk (by simp [refKind]) (nI_pos (by omega)) (nI_pos (by omega)) (nI_pos (by omega))
    (by rw [nI_toInt (by omega), nI_toInt (by omega)]; show ¬ _ > ((arrV (E 1) n (fun j => .int (mu a j))).slots.size : Int); rw [arrV_size]; omega)
    (by rw [nI_toInt (by omega), nI_toInt (by omega)]; show ¬ _ > ((arrV (E 1) n (fun j => .int (mu a j))).slots.size : Int); rw [arrV_size]; omega)
    (fun vm₁ _ i hi => by
      rw [nI_clamp (by omega)] at hi
      have e1 : (vp_cell (E 1) (n, .inl (mu a))).slots.getD ((nI sp0).toNatClampNeg + i) .null = .int (mu a ((nI sp0).toNatClampNeg + i)) := by
        show (arrV (E 1) n (fun j => .int (mu a j))).slots.getD _ _ = _
        rw [Array.getD_eq_getD_getElem?, arrV_read _ _ (by rw [nI_clamp (by omega)]; omega)]
        rfl
      refine ⟨?_, ?_⟩
      · rw [e1]
        exact hfit _
      · rw [e1]
        exact trivial)
    (g := F0 m pc ls (.int (nI k0) :: .int (nI dp0) :: .ref a :: .int (nI sp0) :: .ref a :: rest)) rfl (by rw [hml]; exact hsize) (rest := rest) rfl (by rw [hb]; exact hdg) hframes (by show 2 * 0 + _ + _ ≤ _; omega)
  have e1 : copied (vp_cell (E 1) (n, .inl (mu a))) (vp_cell (E 1) (n, .inl (mu a))) (nI sp0) (nI dp0) (nI k0) = vp_cell (E 1) (n, .inl (va_cpy (mu a) (mu a) sp0 dp0 k0)) := by
    have h3 := va_copied (fun z => Value.int z) (E 1) (E 1) (n0 := n) (n1 := n) (sp := sp0) (dp := dp0) (n := k0) (mu a) (mu a) h1
    show ((vp_cell (E 1) (n, .inl (mu a))).storeRun (nI dp0).toNatClampNeg ((vp_cell (E 1) (n, .inl (mu a))).stretch (nI sp0).toNatClampNeg (nI k0).toNatClampNeg)) = _
    rw [nI_clamp (by omega), nI_clamp (by omega), nI_clamp (by omega)]
    exact h3
  rw [e1] at X' step
  have hheap : ((T.setVm vm').setCell a (vp_cell (E 1) (n, .inl (va_cpy (mu a) (mu a) sp0 dp0 k0)))).heap = H.setIfInBounds a (vp_cell (E 1) (n, .inl (va_cpy (mu a) (mu a) sp0 dp0 k0))) := by rw [← hT]; rfl
  have oq : ∀ q : Nat, q ≠ a → (H.setIfInBounds a (vp_cell (E 1) (n, .inl (va_cpy (mu a) (mu a) sp0 dp0 k0))))[q]? = H[q]? := fun q hq => by simp [Array.getElem?_setIfInBounds, Ne.symm hq]
  have h1' : va_at D cls5 (a, f (va_cpy (mu a) (mu a) sp0 dp0 k0)) (H.setIfInBounds a (vp_cell (E 1) (n, .inl (va_cpy (mu a) (mu a) sp0 dp0 k0)))) := by
    rw [hf]
    show (H.setIfInBounds a _)[a]? = some _
    simp [Array.getElem?_setIfInBounds, hl]
  obtain ⟨t, a1, b1⟩ := kk _ _ (hP.set ha h1' oq) ⟨by simp; exact hS.1, fun q g1 g2 => by
      rw [oq q (fun e9 => g2 (by rw [e9]; exact ⟨f, ha⟩))]
      exact hS.2.1 q g1 g2, fun q hq => by
      rcases List.mem_append.mp hq with h | h
      · exact hS.2.2 q h
      · obtain ⟨z, -, hz⟩ := List.mem_map.mp h
        rw [← hz]
        exact ⟨f, ha⟩⟩ _ hheap X'
  exact ⟨t, step t a1, b1⟩
end LCP
theorem nI_s1 {a : Nat} (h : 1 ≤ a) : nI a - 1 = nI (a - 1) := pk_sub (b := 1) h
section LVV
variable {p : Program} {l : Launch} {e : Env} {R : Room} {s : State} {m : MethodId} {args : Array Value} {below : List Frame} {meth : Method} {c : Code} {H : Heap} {locs : List Loc} {cells slots : Nat} {Q : State → Prop}
variable {cc : ByteArray} {pc : Nat} {ls : Array Slot} {rest : List Value} {D : va_G} {cl : List vw_C} {La : la_L} {mu : la_M} {a : Nat} {f : (Nat → Int32) → va_E} {tys : List (ClassId × FieldType)}
theorem la_ialdv (hexec : p.tables.exec = Jvm.exec) (hb : c.code = cc) (hK : va_K D cl tys s) (hP : la_P D cl La mu H) (t0 : Nat) {cA : ClassId} {n : Nat} (ha : La a = some f) (hf : f (mu a) = .inl (cA, n, .inl (mu a))) (ht : tys[t0]? = some (cA, .int)) {i : Int32} (j : Nat) (hi : i = nI j) (hj : j < n) (hn : n < 2 ^ 31) {v : Int32} (hv : mu a j = v) (hdg : decode cc pc = .ok (.iaload, 1))
    (kk : W p l e R s m args below meth c H locs cells slots Q (F0 m (pc + 1) ls (.int v :: rest))) : W p l e R s m args below meth c H locs cells slots Q (F0 m pc ls (.int i :: .ref a :: rest)) := by
  subst hv
  exact la_iald hexec hb hK hP t0 ha hf ht j hi hj hn hdg kk
theorem la_caldv (hexec : p.tables.exec = Jvm.exec) (hb : c.code = cc) (hK : va_K D cl tys s) (hP : la_P D cl La mu H) (t0 : Nat) {cA : ClassId} {n : Nat} (ha : La a = some f) (hf : f (mu a) = .inl (cA, n, .inl (mu a))) (ht : tys[t0]? = some (cA, .char)) {i : Int32} (j : Nat) (hi : i = nI j) (hj : j < n) (hn : n < 2 ^ 31) {v : Int32} (hv : mu a j = v) (hdg : decode cc pc = .ok (.caload, 1))
    (kk : W p l e R s m args below meth c H locs cells slots Q (F0 m (pc + 1) ls (.int v :: rest))) : W p l e R s m args below meth c H locs cells slots Q (F0 m pc ls (.int i :: .ref a :: rest)) := by
  subst hv
  exact la_cald hexec hb hK hP t0 ha hf ht j hi hj hn hdg kk
end LVV
/-- a read-only contract of a JDK method -/
theorem cr_beginF {l : Launch} {y : MethodName} {cd : ByteArray} {n : Nat} {ret : Option FieldType} {fr lo : Nat} {D : va_G} {E : Nat → ClassId} {La : la_L} {av : List Value} {mu : la_M} {v : Option Value} (own : String) (hy : plainFor y = true) (ho : y.cls = own) (hn : (lg_sl av).length ≤ n)
    (body : ∀ (p : Program) (e : Env) (s : State) (m : MethodId) (below : List Frame) (meth : Method) (c : Code) (ls : Array Slot), zz own cd n D E p s m c av.toArray → meth.sig.returnType = ret → meth.locks = false → la_P D cls5 La mu s.heap → lv_has ls n (lv_args 0 av) →
      W p l e (rmm fr lo) s m av.toArray below meth c s.heap [] 0 0 (MQ below (cr_Q v) av.toArray s 0 0 (fun _ => False)) (F0 m 0 ls [])) : cr l y cd n ret fr lo D E La av mu v := by
  refine va_MetF (cc := cd) (maxL := n) (ret := ret) hy rfl ?_
  intro p e s m args below meth c s₁ B hml hv
  obtain ⟨rfl, hP, hK⟩ := hv
  have hts := atoms_spec (ws := .code y cd n ret :: gw) B.pre
  have hown : s.vm.findClass y.cls = some m.cls := findClass_of_methodNamed B.named
  rw [ho] at hown
  have hl := lv_entry av hn
  rw [lg_entry_eq]
  exact body p e s m below meth c _ ⟨B.exec, B.bytes, hml, hown, fun w h => hts w (List.mem_cons_of_mem _ h), hK⟩ B.returns B.notSynchronized hP hl
