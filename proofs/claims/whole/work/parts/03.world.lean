/-! THE WORLD: a layout La (what lies where; fixed while the system runs) and a memory mu (the ints in it) -/
abbrev la_M : Type := Nat → Nat → Int32
abbrev la_L : Type := Nat → Option ((Nat → Int32) → va_E)
def la_set (mu : la_M) (a : Nat) (g : Nat → Int32) : la_M := fun q => if q = a then g else mu q
def la_up (mu : la_M) (a k : Nat) (v : Int32) : la_M := la_set mu a (upd (mu a) k v)
theorem la_set_s {mu : la_M} {a : Nat} {g : Nat → Int32} : la_set mu a g a = g := if_pos rfl
theorem la_set_n {mu : la_M} {a q : Nat} {g : Nat → Int32} (h : q ≠ a) : la_set mu a g q = mu q := if_neg h
theorem la_up_s {mu : la_M} {a k : Nat} {v : Int32} : la_up mu a k v a k = v := by
  unfold la_up
  rw [la_set_s]
  exact if_pos rfl
theorem la_up_k {mu : la_M} {a q k j : Nat} {v : Int32} (h : j ≠ k) : la_up mu a k v q j = mu q j := by
  unfold la_up
  by_cases hq : q = a
  · subst hq
    rw [la_set_s]
    exact if_neg h
  · rw [la_set_n hq]
theorem la_up_n {mu : la_M} {a q k : Nat} {v : Int32} (h : q ≠ a) : la_up mu a k v q = mu q := la_set_n h
def la_P (D : va_G) (cl : List vw_C) (La : la_L) (mu : la_M) (H : Heap) : Prop := ∀ (a : Nat) (f : (Nat → Int32) → va_E), La a = some f → va_at D cl (a, f (mu a)) H
def la_A (La : la_L) : Nat → Prop := fun q => ∃ f, La q = some f
theorem la_P.one {D : va_G} {cl : List vw_C} {La : la_L} {mu : la_M} {H : Heap} (h : la_P D cl La mu H) {a : Nat} {f : (Nat → Int32) → va_E} (ha : La a = some f) : va_P D cl [(a, f (mu a))] H := by
  intro k q hk
  have hz : k < 1 := (List.getElem?_eq_some_iff.mp hk).1
  rw [show k = 0 by omega] at hk
  cases hk
  exact h a f ha
theorem la_P.lt {D : va_G} {cl : List vw_C} {La : la_L} {mu : la_M} {H : Heap} (h : la_P D cl La mu H) {a : Nat} (ha : la_A La a) : a < H.size := by
  obtain ⟨f, hf⟩ := ha
  exact (h a f hf).lt
theorem la_P.kept {D : va_G} {cl : List vw_C} {La : la_L} {mu : la_M} {H H1 : Heap} (h : la_P D cl La mu H) (hq : ∀ a, la_A La a → H1[a]? = H[a]?) : la_P D cl La mu H1 := fun a f ha => (h a f ha).kept (hq a ⟨f, ha⟩)
theorem la_P.set {D : va_G} {cl : List vw_C} {La : la_L} {mu : la_M} {H H1 : Heap} (h : la_P D cl La mu H) {a : Nat} {f : (Nat → Int32) → va_E} (ha : La a = some f) {g : Nat → Int32} (h1 : va_at D cl (a, f g) H1) (oq : ∀ q : Nat, q ≠ a → H1[q]? = H[q]?) : la_P D cl La (la_set mu a g) H1 := by
  intro b f' hb
  by_cases hq : b = a
  · subst hq
    rw [ha] at hb
    cases hb
    rw [la_set_s]
    exact h1
  · rw [la_set_n hq]
    exact (h b f' hb).kept (oq b hq)
section LAR
variable {p : Program} {l : Launch} {e : Env} {R : Room} {s : State} {m : MethodId} {args : Array Value} {below : List Frame} {meth : Method} {c : Code} {H : Heap} {locs : List Loc} {cells slots : Nat} {Q : State → Prop}
variable {cc : ByteArray} {pc : Nat} {ls : Array Slot} {rest : List Value} {D : va_G} {cl : List vw_C} {La : la_L} {mu : la_M} {a : Nat} {f : (Nat → Int32) → va_E} {tys : List (ClassId × FieldType)} {H0 : Heap}
theorem la_get (hexec : p.tables.exec = Jvm.exec) (hb : c.code = cc) {own ref C : String} {T : u_T} {N ci index : Nat} {Ts : List Cond} (hts : ∀ w ∈ Ts, w.before args s = true) (hin : ∀ w ∈ u_ws C T N, w ∈ Ts) (hown : s.vm.findClass own = some m.cls) (hK : va_K D cl tys s) (hP : la_P D cl La mu H) (ha : La a = some f) {fs : List Value} (hf : f (mu a) = .inr (ci, fs)) (hc : cl[ci]? = some (C, T, N)) (k : Nat) (hk : k < N) (hlink : (Cond.fieldLink own index ref (T k).2.1 (T k).2.2.1).before args s = true) (hsame : ∀ x, s.fieldFound? (T k).1 (T k).2.1 (T k).2.2.1 = some x → s.fieldFound? ref (T k).2.1 (T k).2.2.1 = some x) {v : Value} (hv : fs[k]? = some v) (hdg : decode cc pc = .ok (.getfield index, 3))
    (kk : W p l e R s m args below meth c H locs cells slots Q (F0 m (pc + 3) ls (v :: rest))) : W p l e R s m args below meth c H locs cells slots Q (F0 m pc ls (.ref a :: rest)) :=
  va_get hexec hb hts hin hown hK (hP.one ha) 0 (by rw [hf]; rfl) hc k hk hlink hsame hv hdg kk
theorem la_put (hexec : p.tables.exec = Jvm.exec) (hb : c.code = cc) {own ref C : String} {T : u_T} {N ci index : Nat} {Ts : List Cond} (hts : ∀ w ∈ Ts, w.before args s = true) (hin : ∀ w ∈ u_ws C T N, w ∈ Ts) (ty0 : Nat → FieldType) (hty : ∀ k, k < N → parseFieldDescriptor (T k).2.2.1 = some (ty0 k)) (hnm : ∀ a, a < N → ∀ b, b < N → a ≠ b → (T a).2.1 ≠ (T b).2.1) (hown : s.vm.findClass own = some m.cls) (hK : va_K D cl tys s) (hP : la_P D cl La mu H) (hS0 : va_S (la_A La) H0 H locs) (ha : La a = some f) {fs : List Value} (hf : f (mu a) = .inr (ci, fs)) (hc : cl[ci]? = some (C, T, N)) (k : Nat) (hk : k < N) (hlink : (Cond.fieldLink own index ref (T k).2.1 (T k).2.2.1).before args s = true) (hsame : ∀ x, s.fieldFound? (T k).1 (T k).2.1 (T k).2.2.1 = some x → s.fieldFound? ref (T k).2.1 (T k).2.2.1 = some x) (hfin : (T k).2.2.2 = false) {ty : FieldType} {v : Int32} (hd : parseFieldDescriptor (T k).2.2.1 = some ty) (hn : narrow ty (.int v) = .int v) (hfit : fits ty (.int v) = true) (hl : k < fs.length) (hf' : f (upd (mu a) k v) = .inr (ci, fs.set k (.int v)))
    (hdg : decode cc pc = .ok (.putfield index, 3)) (kk : ∀ (H1 : Heap) (locs1 : List Loc), la_P D cl La (la_up mu a k v) H1 → va_S (la_A La) H0 H1 locs1 → W p l e R s m args below meth c H1 locs1 cells slots Q (F0 m (pc + 3) ls rest)) : W p l e R s m args below meth c H locs cells slots Q (F0 m pc ls (.int v :: .ref a :: rest)) := by
  have hap := va_apart (own := own) hts hin ty0 hty hnm hK hc
  have h0 := hP a f ha
  rw [hf] at h0
  obtain ⟨r, h1, cell, q1, q2, q3, q4⟩ := h0
  have hr : r = (C, T, N) := Option.some.inj (h1.symm.trans hc)
  subst hr
  obtain ⟨hS, hfc, kC, hkC, hkind⟩ := hK.1 ci _ hc
  obtain ⟨cf, kf, fi, fd, hi, hsl⟩ := hS k hk
  have hlay := hts _ (hin _ (u_in_lay hk))
  unfold u_lay at hlay
  rw [if_neg (by rw [hfin]; decide)] at hlay
  have hst := (u_facts hfc hkC (u_lays hts hin hk) hi).1
  have h6 := u_store hfc hkC hkind hlay hi hd hn hfit
  refine W.putK hexec hb (f := fd) ⟨hown, hlink, ⟨_, _, _, hsame _ hi⟩, hst⟩ (by rw [q2]; exact h6) q1 q3 (by rw [hsl]; exact k2_hasslot (q4 k hk)) rfl rfl hdg fun H' e1 e2 e3 => ?_
  rw [hsl] at e1 ⊢
  refine kk H' _ (hP.set ha ?_ e3) (hS0.put e2 e3 ⟨f, ha⟩)
  rw [hf']
  exact ⟨_, hc, t_OB.to (V := updV (vp_V fs) k (.int v)) ⟨_, e1, q2, q3, t_set q4 hap hk (.int v)⟩ (fun j _ => vp_updV_set hl (.int v) j)⟩
theorem la_iald (hexec : p.tables.exec = Jvm.exec) (hb : c.code = cc) (hK : va_K D cl tys s) (hP : la_P D cl La mu H) (t0 : Nat) {cA : ClassId} {n : Nat} (ha : La a = some f) (hf : f (mu a) = .inl (cA, n, .inl (mu a))) (ht : tys[t0]? = some (cA, .int)) {i : Int32} (j : Nat) (hi : i = nI j) (hj : j < n) (hn : n < 2 ^ 31) (hdg : decode cc pc = .ok (.iaload, 1))
    (kk : W p l e R s m args below meth c H locs cells slots Q (F0 m (pc + 1) ls (.int (mu a j) :: rest))) : W p l e R s m args below meth c H locs cells slots Q (F0 m pc ls (.int i :: .ref a :: rest)) := by
  subst hi
  refine va_iald (n := n) (f := mu a) (cA := cA) hexec hb hK (hP.one ha) 0 t0 (by rw [hf]; rfl) ht (vp_in_nI hj hn) hdg ?_
  rw [nI_clamp (by omega)]
  exact kk
theorem la_cald (hexec : p.tables.exec = Jvm.exec) (hb : c.code = cc) (hK : va_K D cl tys s) (hP : la_P D cl La mu H) (t0 : Nat) {cA : ClassId} {n : Nat} (ha : La a = some f) (hf : f (mu a) = .inl (cA, n, .inl (mu a))) (ht : tys[t0]? = some (cA, .char)) {i : Int32} (j : Nat) (hi : i = nI j) (hj : j < n) (hn : n < 2 ^ 31) (hdg : decode cc pc = .ok (.caload, 1))
    (kk : W p l e R s m args below meth c H locs cells slots Q (F0 m (pc + 1) ls (.int (mu a j) :: rest))) : W p l e R s m args below meth c H locs cells slots Q (F0 m pc ls (.int i :: .ref a :: rest)) := by
  subst hi
  refine va_cald (n := n) (f := mu a) (cA := cA) hexec hb hK (hP.one ha) 0 t0 (by rw [hf]; rfl) ht (vp_in_nI hj hn) hdg ?_
  rw [nI_clamp (by omega)]
  exact kk
theorem la_aald (hexec : p.tables.exec = Jvm.exec) (hb : c.code = cc) (hK : va_K D cl tys s) (hP : la_P D cl La mu H) (t0 : Nat) {cA : ClassId} {C : String} {n : Nat} {F : Nat → Nat} (ha : La a = some f) (hf : f (mu a) = .inl (cA, n, .inr (.inr (.inr (.inr (fun k => some (F k))))))) (ht : tys[t0]? = some (cA, .object C)) {i : Int32} (j : Nat) (hi : i = nI j) (hj : j < n) (hn : n < 2 ^ 31) (hdg : decode cc pc = .ok (.aaload, 1))
    (kk : W p l e R s m args below meth c H locs cells slots Q (F0 m (pc + 1) ls (.ref (F j) :: rest))) : W p l e R s m args below meth c H locs cells slots Q (F0 m pc ls (.int i :: .ref a :: rest)) := by
  subst hi
  refine va_aldq (n := n) (f := fun k => some (F k)) (cA := cA) (C := C) hexec hb hK (hP.one ha) 0 t0 (by rw [hf]; rfl) ht (vp_in_nI hj hn) hdg ?_
  rw [nI_clamp (by omega)]
  exact kk
theorem la_iast (hexec : p.tables.exec = Jvm.exec) (hb : c.code = cc) (hK : va_K D cl tys s) (hP : la_P D cl La mu H) (hS : va_S (la_A La) H0 H locs) (t0 : Nat) {cA : ClassId} {n : Nat} (ha : La a = some f) (hf : ∀ g, f g = .inl (cA, n, .inl g)) (ht : tys[t0]? = some (cA, .int)) {i x : Int32} (j : Nat) (hi : i = nI j) (hj : j < n) (hn : n < 2 ^ 31) (hdg : decode cc pc = .ok (.iastore, 1))
    (kk : ∀ (H1 : Heap) (locs1 : List Loc), la_P D cl La (la_up mu a j x) H1 → va_S (la_A La) H0 H1 locs1 → W p l e R s m args below meth c H1 locs1 cells slots Q (F0 m (pc + 1) ls rest)) : W p l e R s m args below meth c H locs cells slots Q (F0 m pc ls (.int x :: .int i :: .ref a :: rest)) := by
  subst hi
  have h0 := hP a f ha
  rw [hf] at h0
  have h1 : H[a]? = some (vp_cell cA (n, .inl (mu a))) := h0
  refine W.iast hexec hb h1 ((hK.2 t0 _ ht).1 n (fun j => .int (mu a j))) (fun q => by cases q) (by show ¬ (nI j < 0 ∨ (arrV _ _ _).slots.size ≤ _); rw [arrV_size]; exact vp_in_nI hj hn) rfl rfl hdg fun H1 e z oq => ?_
  rw [nI_clamp (by omega)] at e ⊢
  refine kk H1 _ (hP.set ha ?_ oq) (hS.put z oq ⟨f, ha⟩)
  rw [hf]
  show H1[a]? = some (vp_cell _ _)
  rw [e, vp_cell_i, vp_cell_i, arrV_store]
  congr 2
  funext q
  by_cases hq : q = j
  · subst hq
    simp [updV, upd]
  · simp [updV, upd, hq]
theorem la_cast (hexec : p.tables.exec = Jvm.exec) (hb : c.code = cc) (hK : va_K D cl tys s) (hP : la_P D cl La mu H) (hS : va_S (la_A La) H0 H locs) (t0 : Nat) {cA : ClassId} {n : Nat} (ha : La a = some f) (hf : ∀ g, f g = .inl (cA, n, .inl g)) (ht : tys[t0]? = some (cA, .char)) {i x : Int32} (hx : vp_nar .char x = x) (j : Nat) (hi : i = nI j) (hj : j < n) (hn : n < 2 ^ 31) (hdg : decode cc pc = .ok (.castore, 1))
    (kk : ∀ (H1 : Heap) (locs1 : List Loc), la_P D cl La (la_up mu a j x) H1 → va_S (la_A La) H0 H1 locs1 → W p l e R s m args below meth c H1 locs1 cells slots Q (F0 m (pc + 1) ls rest)) : W p l e R s m args below meth c H locs cells slots Q (F0 m pc ls (.int x :: .int i :: .ref a :: rest)) := by
  subst hi
  have h0 := hP a f ha
  rw [hf] at h0
  have h1 : H[a]? = some (vp_cell cA (n, .inl (mu a))) := h0
  refine W.cast hexec hb h1 ((hK.2 t0 _ ht).1 n (fun j => .int (mu a j))) (fun q => by cases q) (by show ¬ (nI j < 0 ∨ (arrV _ _ _).slots.size ≤ _); rw [arrV_size]; exact vp_in_nI hj hn) rfl rfl hdg fun H1 e z oq => ?_
  rw [nI_clamp (by omega)] at e ⊢
  refine kk H1 _ (hP.set ha ?_ oq) (hS.put z oq ⟨f, ha⟩)
  rw [hf]
  have hxn : narrow .char (.int x) = .int x := by
    have h2 : narrow .char (.int x) = .int (vp_nar .char x) := rfl
    rw [h2, hx]
  show H1[a]? = some (vp_cell _ _)
  rw [e, hxn, vp_cell_i, vp_cell_i, arrV_store]
  congr 2
  funext q
  by_cases hq : q = j
  · subst hq
    simp [updV, upd]
  · simp [updV, upd, hq]
end LAR
