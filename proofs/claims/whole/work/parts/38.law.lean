/-! THE CLAIM OUT OF ONE WALK OF THE LAW'S BODY. Your part is whole_start (and what it stands on); all else here is the same for every law, but numbers. -/
def R_law : String := "EditRelayLaw"
def lw_P (b : Addr) (xs : List Int32) (args : Array Value) (s : State) : Prop := args = #[.ref b] ∧ s.IntsAt b xs ∧ xs.length ≤ 2048 ∧ (Jvm.Cond.and given_1 narrow_1).before args s = true
def lw_Q (_ : Array Value) (s : State) (o : Outcome) (t : State) : Prop := o = .returned (some (.int 1)) ∧ Framed s o t [] 601024 7293034
def lw_Z (below : List Frame) (a : Array Value) (s : State) : State → Prop := fun t => ∃ o, t.status = .running ∧ Ended t below o ∧ lw_Q a s o t
/-- the law's own end, with 1 on the stack, nothing written that was there before, its room as the claim has it -/
theorem lw_ret {p : Program} {l : Launch} {e : Env} {s : State} {m : MethodId} {below : List Frame} {meth : Method} {c : Code} {b : Nat} (hx : p.tables.exec = Jvm.exec) (hb : c.code = code) (hr : meth.sig.returnType = ret) (hlocks : meth.locks = false) {pc : Nat} {H : Heap} {ls : Array Slot} (hdg : decode code pc = .ok (.ireturn, 1)) : W p l e room_1 s m #[Value.ref b] below meth c H [] 601024 7293034 (lw_Z below #[Value.ref b] s) (F0 m pc ls [.int 1]) := by
  intro T hT X
  obtain ⟨fs, hret, hrun, hended, hW, hframe⟩ := X.leave (v := some (.int 1)) (hlocks := hlocks) (fun h => by rw [hr] at h; cases h)
  have hmeth' : T.vm.method? m = some meth := X.method'
  refine ⟨T.setFrames fs, ?_, .returned (some (.int 1)), hrun, hended, rfl, ⟨_, rfl⟩, hW, hframe⟩
  jvm_step X.here [X.here.top, hx, hb, hdg, hmeth', hr, ret, narrow_b1]
  (try refine ⟨rfl, ?_⟩); (try refine ⟨rfl, ?_⟩)
  first | (intro acts; rw [hret _ acts rfl rfl rfl]) | rw [hret _ _ rfl rfl rfl]
  exact Steps.refl _
/-- what holds at the law's entry: the machine, the code, the tables' words (any of lw_tbl by 'hts w (by decide +kernel)'), the script of L ints xs at the cell b, what the Statement gives of the start (any of its parts by flat_of_before) -/
def lw_At (p : Program) (s : State) (m : MethodId) (meth : Method) (c : Code) (b L : Nat) (xs : Nat → Int32) : Prop :=
  p.tables.exec = Jvm.exec ∧ c.code = code ∧ meth.sig.returnType = ret ∧ c.maxLocals = 7 ∧ s.vm.findClass R_law = some m.cls ∧ (∀ w ∈ lw_tbl, w.before #[Value.ref b] s = true) ∧ va_X b L xs s s.heap ∧ b < s.heap.size ∧ meth.locks = false ∧ (Jvm.Cond.and given_1 narrow_1).before #[Value.ref b] s = true
/-! The law's loop and its start (written by wip/whole/p38.py) -/
theorem nI_4 {a L : Nat} (ha : a < 2 ^ 20) (hL : L < 2 ^ 20) (h : ¬ nI a > nI L - 4) : a + 4 ≤ L := by
  by_cases h4 : 4 ≤ L
  · rw [show nI L - (4 : Int32) = nI (L - 4) from pk_sub h4] at h
    by_cases h5 : L - 4 < a
    · exact absurd (nI_lt h5 (by omega)) h
    · omega
  · exfalso
    apply h
    have h0 : (0 : Int32) ≤ nI a := nI_pos' (by omega)
    rcases (show L = 0 ∨ L = 1 ∨ L = 2 ∨ L = 3 by omega) with rfl | rfl | rfl | rfl
    · exact Int32.lt_of_lt_of_le (by decide) h0
    · exact Int32.lt_of_lt_of_le (by decide) h0
    · exact Int32.lt_of_lt_of_le (by decide) h0
    · exact Int32.lt_of_lt_of_le (by decide) h0
theorem IJ.mono {T b0 m0 : Nat} {mu : la_M} (J : IJ T b0 m0 mu) : IJ (T + 1) b0 m0 mu := by
  obtain ⟨sn, gt, kn, ms, hs, lt, op, nn, tx, I, C, M⟩ := J
  exact ⟨sn, gt, kn, ms, hs, lt, op, nn, tx, I.mono (by omega), C, M⟩
theorem erL_in {E : Nat → ClassId} {b q : Nat} {x : va_E} (h : ls0 (erL E b) q = some x) : b ≤ q ∧ q < b + 277 := by
  by_cases h1 : q < b ∨ b + 277 ≤ q
  · unfold ls0 at h
    rw [erL_none h1] at h
    cases h
  · omega
theorem moL_n0 {E : Nat → ClassId} {m0 q : Nat} (h : q < m0 ∨ m0 + 16 ≤ q) : ls0 (moL E m0) q = none := by
  unfold ls0
  rw [moL_none h]
  rfl
theorem moL_in {E : Nat → ClassId} {b q : Nat} {x : va_E} (h : ls0 (moL E b) q = some x) : b ≤ q ∧ q < b + 16 := by
  by_cases h1 : q < b ∨ b + 16 ≤ q
  · rw [moL_n0 h1] at h
    cases h
  · omega
section LWL
variable {p : Program} {l : Launch} {e : Env} {s : State} {m : MethodId} {below : List Frame} {meth : Method} {c : Code}
variable {D : va_G} {E : Nat → ClassId} {b L : Nat} {xs : Nat → Int32}
set_option maxHeartbeats 8000000 in
set_option maxRecDepth 100000 in
theorem lw_loop (Z : LZ D E l p s m c b L xs) (hr : meth.sig.returnType = ret) (hlocks : meth.locks = false) : ∀ (n t : Nat) (H : Heap) (locs : List Loc) (mu : la_M) (v : Int64) (ls : Array Slot), t + n = 512 → LI D E s t H locs mu v → lv_has ls 7 [(4, .int (nI (4 * t))), (0, .ref b), (1, .ref s.heap.size), (2, .ref (s.heap.size + 277)), (3, .ref (s.heap.size + 293))] → W p l e room_1 s m #[Value.ref b] below meth c H locs (294 + t) (4653 + 6 * t) (lw_Z below #[Value.ref b] s) (F0 m 23 ls []) := by
  intro n
  induction n with
  | zero =>
    intro t H locs mu v ls htn I hl
    have hx := Z.1.1
    have hb := Z.1.2.1
    have hL := Z.2.2.2.2.1
    refine lv_iload hx hb d_Lw_law_23 (lv_at hl 0 rfl) ?_
    refine lv_aload_n hx hb d_Lw_law_25 rfl (lv_at hl 1 rfl) ?_
    refine va_slen hx hb Z.2.2.1 Z.2.2.2.1 (fun h => by have := Z.2.2.2.1; unfold nA0 at h; omega) I.2.2.2 d_Lw_law_26 ?_
    refine lv_iconst (v := 4) hx hb d_Lw_law_27 (by decide) ?_
    refine lv_isub hx hb d_Lw_law_28 ?_
    refine lv_icmp_gt (tgt := 906) hx hb d_Lw_law_29 rfl (fun br29 => ?_) (fun br29 => ?_)
    · refine lv_iconst (v := 1) hx hb d_Lw_law_906 (by decide) ?_
      exact W.wide (show 294 + t ≤ 601024 by omega) (show 4653 + 6 * t ≤ 7293034 by omega) (va_forget I.2.2.2.2.2 (lw_ret hx hb hr hlocks d_Lw_law_907))
    · have := nI_4 (a := 4 * t) (L := L) (by omega) (by omega) br29
      omega
  | succ n ih =>
    intro t H locs mu v ls htn I hl
    have hx := Z.1.1
    have hb := Z.1.2.1
    have hL := Z.2.2.2.2.1
    refine lv_iload hx hb d_Lw_law_23 (lv_at hl 0 rfl) ?_
    refine lv_aload_n hx hb d_Lw_law_25 rfl (lv_at hl 1 rfl) ?_
    refine va_slen hx hb Z.2.2.1 Z.2.2.2.1 (fun h => by have := Z.2.2.2.1; unfold nA0 at h; omega) I.2.2.2 d_Lw_law_26 ?_
    refine lv_iconst (v := 4) hx hb d_Lw_law_27 (by decide) ?_
    refine lv_isub hx hb d_Lw_law_28 ?_
    refine lv_icmp_gt (tgt := 906) hx hb d_Lw_law_29 rfl (fun br29 => ?_) (fun br29 => ?_)
    · refine lv_iconst (v := 1) hx hb d_Lw_law_906 (by decide) ?_
      exact W.wide (show 294 + t ≤ 601024 by omega) (show 4653 + 6 * t ≤ 7293034 by omega) (va_forget I.2.2.2.2.2 (lw_ret hx hb hr hlocks d_Lw_law_907))
    · have ht4 := nI_4 (a := 4 * t) (L := L) (by omega) (by omega) br29
      have hcs : 294 + t + 1 ≤ room_1.cells ∧ 4653 + 6 * t + 6 ≤ room_1.slots := ⟨show _ ≤ 601024 by omega, show _ ≤ 7293034 by omega⟩
      have kk : ∀ (H1 : Heap) (locs1 : List Loc) (ls1 : Array Slot) (mu1 : la_M) (v1 : Int64), LI D E s (t + 1) H1 locs1 mu1 v1 → lv_has ls1 7 [(4, .int (nI (4 * t))), (0, .ref b), (1, .ref s.heap.size), (2, .ref (s.heap.size + 277)), (3, .ref (s.heap.size + 293))] → W p l e room_1 s m #[Value.ref b] below meth c H1 locs1 (294 + t + 1) (4653 + 6 * t + 6) (lw_Z below #[Value.ref b] s) (F0 m 900 ls1 []) := by
        intro H1 locs1 ls1 mu1 v1 I1 hl1
        refine lv_iinc (k := 0) (v := nI (4 * (t + 1))) hx hb d_Lw_law_900 hl1 rfl (show nI (4 * t) + (4 : Int32) = _ from nI_add (4 * t) 4) (by decide) rfl (fun ls hl => ?_)
        have hl : lv_has ls 7 [(4, .int (nI (4 * (t + 1)))), (0, .ref b), (1, .ref s.heap.size), (2, .ref (s.heap.size + 277)), (3, .ref (s.heap.size + 293))] := hl
        refine lv_goto (tgt := 23) hx hb d_Lw_law_903 rfl ?_
        exact ih (t + 1) H1 locs1 mu1 v1 ls (by omega) I1 hl
      refine lv_aload_n hx hb d_Lw_law_32 rfl (lv_at hl 1 rfl) ?_
      refine lv_iload hx hb d_Lw_law_33 (lv_at hl 0 rfl) ?_
      refine x_ld Z I.2.2.2 (4 * t) rfl (by omega) d_Lw_law_35 ?_
      refine lv_bipush (v := 15) hx hb d_Lw_law_36 (by decide) ?_
      refine lv_iand hx hb d_Lw_law_38 ?_
      generalize hy : xs (4 * t) &&& 15 = y
      by_cases ho : y.toInt < 0 ∨ 12 < y.toInt
      · refine lv_tableOut hx hb d_Lw_law_39 ho (tgt := 900) rfl ?_
        exact W.wide (Nat.le_succ _) (Nat.le_add_right _ 6) (kk H locs ls mu v ⟨I.1, I.2.1, IJ.mono I.2.2.1, I.2.2.2⟩ hl)
      · rcases (show y.toInt = 0 ∨ y.toInt = 1 ∨ y.toInt = 2 ∨ y.toInt = 3 ∨ y.toInt = 4 ∨ y.toInt = 5 ∨ y.toInt = 6 ∨ y.toInt = 7 ∨ y.toInt = 8 ∨ y.toInt = 9 ∨ y.toInt = 10 ∨ y.toInt = 11 ∨ y.toInt = 12 by omega) with e9 | e9 | e9 | e9 | e9 | e9 | e9 | e9 | e9 | e9 | e9 | e9 | e9
        · refine lv_tableIn hx hb d_Lw_law_39 (off := 65) (tgt := 104) (by omega) (by omega) (by rw [e9]; rfl) rfl ?_
          exact lw_c0 Z I ht4 hcs hl kk
        · refine lv_tableIn hx hb d_Lw_law_39 (off := 147) (tgt := 186) (by omega) (by omega) (by rw [e9]; rfl) rfl ?_
          exact lw_c1 Z I ht4 hcs hl kk
        · refine lv_tableIn hx hb d_Lw_law_39 (off := 215) (tgt := 254) (by omega) (by omega) (by rw [e9]; rfl) rfl ?_
          exact lw_c2 Z I ht4 hcs hl kk
        · refine lv_tableIn hx hb d_Lw_law_39 (off := 251) (tgt := 290) (by omega) (by omega) (by rw [e9]; rfl) rfl ?_
          exact lw_c3 Z I ht4 hcs hl kk
        · refine lv_tableIn hx hb d_Lw_law_39 (off := 307) (tgt := 346) (by omega) (by omega) (by rw [e9]; rfl) rfl ?_
          exact lw_c4 Z I ht4 hcs hl kk
        · refine lv_tableIn hx hb d_Lw_law_39 (off := 363) (tgt := 402) (by omega) (by omega) (by rw [e9]; rfl) rfl ?_
          exact lw_c5 Z I ht4 hcs hl kk
        · refine lv_tableIn hx hb d_Lw_law_39 (off := 447) (tgt := 486) (by omega) (by omega) (by rw [e9]; rfl) rfl ?_
          exact lw_c6 Z I ht4 hcs hl kk
        · refine lv_tableIn hx hb d_Lw_law_39 (off := 531) (tgt := 570) (by omega) (by omega) (by rw [e9]; rfl) rfl ?_
          exact lw_c7 Z I ht4 hcs hl kk
        · refine lv_tableIn hx hb d_Lw_law_39 (off := 615) (tgt := 654) (by omega) (by omega) (by rw [e9]; rfl) rfl ?_
          exact lw_c8 Z I ht4 hcs hl kk
        · refine lv_tableIn hx hb d_Lw_law_39 (off := 711) (tgt := 750) (by omega) (by omega) (by rw [e9]; rfl) rfl ?_
          exact lw_c9 Z I ht4 hcs hl kk
        · refine lv_tableIn hx hb d_Lw_law_39 (off := 767) (tgt := 806) (by omega) (by omega) (by rw [e9]; rfl) rfl ?_
          exact lw_c10 Z I ht4 hcs hl kk
        · refine lv_tableIn hx hb d_Lw_law_39 (off := 835) (tgt := 874) (by omega) (by omega) (by rw [e9]; rfl) rfl ?_
          exact lw_c11 Z I ht4 hcs hl kk
        · refine lv_tableIn hx hb d_Lw_law_39 (off := 848) (tgt := 887) (by omega) (by omega) (by rw [e9]; rfl) rfl ?_
          exact lw_c12 Z I ht4 hcs hl kk
/-- YOUR PART: from the entry, for every script of at most 2048 ints, the law comes to its end with true -/
theorem whole_start (l : Launch) (hlt : l.stackTraces = false) {b L : Nat} {xs : Nat → Int32} (hL : L ≤ 2048) (C0 : lw_At p s m meth c b L xs) : W p l e room_1 s m #[Value.ref b] below meth c s.heap [] 0 0 (lw_Z below #[Value.ref b] s) (entryFrame m ([Value.ref b] : List Value).toArray 7) := by
  obtain ⟨hx, hb, hr, hml, hown, hts, hX, hbl, hlocks, hgv⟩ := C0
  obtain ⟨D, E, hK⟩ := ki_of hts
  have hg := gt_ hts
  have hnx := nx_of hts
  have Z1 : zz R_Lw code 7 D E p s m c #[Value.ref b] := ⟨hx, hb, hml, hown, hg, hK⟩
  have hEr : s.vm.findClass R_Er = some (D.1 3) := (hK.1 3 (R_Er, F_Er, 4) rfl).2.1
  have htk : tk (lL E s.heap.size) s s.heap := tk_of hts hgv hEr (fun a h1 h2 => by have := lL_A h2; omega)
  have Z : LZ D E l p s m c b L xs := ⟨Z1, hlt, hX, hbl, hL, htk⟩
  suffices h9 : ∀ ls : Array Slot, lv_has ls 7 [(0, .ref b)] → W p l e room_1 s m #[Value.ref b] below meth c s.heap [] 0 0 (lw_Z below #[Value.ref b] s) (F0 m 0 ls []) by
    rw [lg_entry_eq]
    exact h9 _ (lv_entry [Value.ref b] (Nat.le_of_ble_eq_true rfl))
  intro ls hl
  have hS : va_S (nA0 s) s.heap s.heap [] := va_S.rf
  have hA1 : ∀ q, nA (s1 s.heap.size x_Er) (s.heap.size + 1) q → nA0 s q := fun q h => by
    unfold nA0
    rcases h with h | h
    · by_cases hq : q = s.heap.size
      · omega
      · exact absurd (s1_n hq) h
    · omega
  have hA2 : ∀ q, nA (s1 (s.heap.size + 277) x_Mo) (s.heap.size + 277 + 1) q → nA0 s q := fun q h => by
    unfold nA0
    rcases h with h | h
    · by_cases hq : q = s.heap.size + 277
      · omega
      · exact absurd (s1_n hq) h
    · omega
  refine s_new (σ := fun _ => none) (Nn := s.heap.size) Z1 kc_Er (fun a x h => nomatch h) rfl hS wl_Lw_8 wn_Er wi_Er dv_Er (by decide) (by decide) d_Lw_law_0 (fun H hP hN hS => ?_)
  refine lv_dup hx hb d_Lw_law_3 rfl ?_
  refine kn_I Z1 wl_Lw_56 wim_Er_init wi_Er wc_Er_init rfl (by decide +kernel) (k_Er_init l D E) (hP.s1 su_s) hnx hP hN hS hA1 erL_dom [.ref s.heap.size] rfl rfl hl.1 (Nat.le_of_ble_eq_true rfl) ⟨by decide, by decide⟩ ⟨by decide, by decide⟩ d_Lw_law_4 (fun H locs hP hN hS => ?_)
  refine lv_astore_n hx hb d_Lw_law_7 rfl hl (by decide) rfl (fun ls hl => ?_)
  have hl : lv_has ls 7 [(1, .ref s.heap.size), (0, .ref b)] := hl
  refine s_new (Nn := s.heap.size + 277) Z1 kc_Mo hP hN hS wl_Lw_57 wn_Mo wi_Mo dv_Mo (by decide) (by decide) d_Lw_law_8 (fun H hP hN hS => ?_)
  refine lv_dup hx hb d_Lw_law_11 rfl ?_
  refine kn_I Z1 wl_Lw_59 wim_Mo_init wi_Mo wc_Mo_init rfl (by decide +kernel) (k_Mo_init l D E) (hP.s1 su_s) hnx hP hN hS hA2 moL_dom [.ref (s.heap.size + 277)] rfl rfl hl.1 (Nat.le_of_ble_eq_true rfl) ⟨by decide, by decide⟩ ⟨by decide, by decide⟩ d_Lw_law_12 (fun H locs hP hN hS => ?_)
  refine lv_astore_n hx hb d_Lw_law_15 rfl hl (by decide) rfl (fun ls hl => ?_)
  have hl : lv_has ls 7 [(2, .ref (s.heap.size + 277)), (1, .ref s.heap.size), (0, .ref b)] := hl
  have hN : H.size = s.heap.size + 293 := by omega
  refine lv_iconst (v := 1) hx hb d_Lw_law_16 (by decide) ?_
  refine s_newa (at0 := .long) (ty := .long) (a0 := (1, .inr (.inl (fun _ => 0)))) Z1 hP hN hS rfl wa_long 2 rfl rfl (N' := 1) (fun _ => rfl) rfl (by decide) (by decide) (by decide) (by decide) d_Lw_law_17 (fun H hP hN hS => ?_)
  refine lv_astore_n hx hb d_Lw_law_19 rfl hl (by decide) rfl (fun ls hl => ?_)
  have hl : lv_has ls 7 [(3, .ref (s.heap.size + 293)), (2, .ref (s.heap.size + 277)), (1, .ref s.heap.size), (0, .ref b)] := hl
  refine lv_iconst (v := 0) hx hb d_Lw_law_20 (by decide) ?_
  refine lv_istore hx hb d_Lw_law_21 hl (by decide) rfl (fun ls hl => ?_)
  have hl : lv_has ls 7 [(4, .int (nI (4 * 0))), (3, .ref (s.heap.size + 293)), (2, .ref (s.heap.size + 277)), (1, .ref s.heap.size), (0, .ref b)] := hl
  have hEr2 : sP D (ls0 (erL E s.heap.size)) H := hP.sub (sb_su erL_in (by omega) (sb_so erL_in moL_n0 (by omega) (sb_su erL_in (by omega) (fun q y hq => so_s hq))))
  have hMo2 : sP D (ls0 (moL E (s.heap.size + 277))) H := hP.sub (sb_su moL_in (by omega) (fun q y hq => so_s hq))
  refine W.wide (show 0 + 1 + 276 + 1 + 15 + 1 ≤ 294 + 0 by decide) (show 0 + 4 + 1640 + 20 + 2988 + 1 ≤ 4653 + 6 * 0 by decide) (lw_loop Z hr hlocks 512 0 H _ _ 0 ls rfl ⟨lL_P hEr2 hMo2, hP (s.heap.size + 293) _ su_s, IJ_0 _ _, hS⟩ (lv_sub hl [0, 4, 3, 2, 1] rfl))
end LWL
set_option maxHeartbeats 4000000 in
theorem lw_walk (l : Launch) (hlt : l.stackTraces = false) (b : Addr) (xs : List Int32) : MetFree l x (headSpec (Jvm.Cond.code x code maxLocals ret :: tables_1) room_1) (lw_P b xs) (fun _ _ _ _ _ => True) lw_Q := by
  refine MetFree.of_bodyS (code := code) (maxLocals := maxLocals) (ret := ret) (by decide) ?_ ?_
  · intro args s m h hn
    obtain ⟨meth, c, h1, h2, h3, h4, h5, h6, -, -⟩ := Cond.code_spec hn (atoms_spec (ws := Jvm.Cond.code x code maxLocals ret :: tables_1) h _ List.mem_cons_self)
    exact ⟨meth, c, h1, h2, h3, h4, h5, h6⟩
  · intro p e s m args below meth c s₁ B hml0 hP _
    obtain ⟨rfl, hx, hbd, hgv⟩ := hP
    obtain ⟨scr, harrAt, hlist, hof, hsmall⟩ := hx
    obtain ⟨hcb, hkn, -, -⟩ := State.arrayAt?_spec harrAt
    have hown : s.vm.findClass R_law = some m.cls := findClass_of_methodNamed B.named
    have hts0 : ∀ c ∈ (Jvm.Cond.code x code maxLocals ret :: tables_1), c.before #[Value.ref b] s = true := atoms_spec (ws := Jvm.Cond.code x code maxLocals ret :: tables_1) B.pre
    have hts : ∀ w ∈ lw_tbl, w.before #[Value.ref b] s = true := k2_hts_sels lw_privs (fun w hw => hts0 w (List.mem_cons_of_mem _ hw)) lw_privs_ok
    have hml : c.maxLocals = 7 := B.maxLocals_eq (hts0 _ List.mem_cons_self)
    have X₀ : Stand p l e room_1 s m #[Value.ref b] below meth c s₁ [] 0 0 := Stand.of_body B
    have hh0 : s₁.heap = s.heap := by rw [B.state]; rfl
    have hsz : scr.slots.size = xs.length := by rw [← Array.length_toList, hlist, List.length_map]
    have hval : ∀ j : Nat, j < xs.length → scr.slots[j]? = some (.int (xs.getD j 0)) := fun j hj => by
      rw [← Array.getElem?_toList, hlist]
      simp [hj]
    have hbl : b < s.heap.size := (Array.getElem?_eq_some_iff.mp hcb).1
    have hX : va_X b xs.length (fun j => xs.getD j 0) s s.heap := ⟨scr, hcb, hof, hkn, hsz, hval⟩
    have K : W p l e room_1 s m #[Value.ref b] below meth c s₁.heap [] 0 0 (lw_Z below #[Value.ref b] s) (entryFrame m ([Value.ref b] : List Value).toArray 7) := by
      rw [hh0]
      exact whole_start l hlt hbd ⟨B.exec, B.bytes, B.returns, hml, hown, hts, hX, hbl, B.notSynchronized, hgv⟩
    obtain ⟨t, a1, o, b1, b2, b3⟩ := K s₁ rfl X₀
    exact ⟨t, o, a1, b1, b2, b3⟩
theorem lw_pre_spec {args : Array Value} {s : State} (h : (Jvm.Cond.and given_1 narrow_1).before args s = true) (hr : rest_1_c.before args s = true) : ∃ (b : Addr) (xs : List Int32), lw_P b xs args s := by
  have hs := flat_of_before _ h
  have hq := flat_of_before _ hr
  have hc : (Cond.count 1).before args s = true := hs _ (by decide +kernel)
  have harr : (Cond.arrayOf (.arg 0) .int).before args s = true := hs _ (by decide +kernel)
  have hle : (Cond.le (.length (.arg 0)) (.int 2048)).before args s = true := hs _ (by decide +kernel)
  have hlen : (Cond.isInt (.length (.arg 0))).before args s = true := hq _ (by decide +kernel)
  have hall : (Cond.all (.arg 0) (.isInt (.elem (.arg 0) (.index 0)))).before args s = true := hq _ (by decide +kernel)
  obtain ⟨b, xs, hb, hx⟩ := State.ints_of_pre rfl harr hlen hall
  have hsm : xs.length < 2 ^ 31 := hx.choose_spec.2.2.2
  have hev : (Term.length (.arg 0)).eval args s none [] s = some (.int xs.length.toInt32) := hx.length_eval hb
  have hv := Cond.le_ints hev (show (Term.int 2048).eval args s none [] s = some (.int 2048) from rfl)
  have hd : xs.length.toInt32 ≤ 2048 := by
    simpa [Cond.before, Cond.holds, hv] using hle
  have hN : xs.length ≤ 2048 := (Int32.ofNat_le_ofNat hsm (by decide)).mp (show Int32.ofNat xs.length ≤ Int32.ofNat 2048 from hd)
  exact ⟨b, xs, Cond.one_arg hc (show args[0]? = some (.ref b) from hb), hx, hN, h⟩
theorem lw_comes (l : Launch) (hlt : l.stackTraces = false) : Comes l x (Jvm.Cond.code x code maxLocals ret :: tables_1) room_1 (fun tb e args s => Calls_1 tb e args s ∧ rest_1 tb e args s ∧ Pre_1 tb e args s)
    (fun _ _ args s o t => lw_Q args s o t) := by
  intro p e ha hc hk s m args below hf hfit hheap happ hpre
  obtain ⟨b, xs, hP⟩ := lw_pre_spec hpre.2.2 hpre.2.1
  obtain ⟨k, o, h1, h2, h3, hQ⟩ := lw_walk l hlt b xs p e ha hc hk s m args below hf ((Spec.applies_iff_loose hf).mp happ).1 hP trivial
  exact ⟨k, o, h1, h2, h3, hQ⟩
theorem lw_frame {s t : State} {o : Outcome} {args : Array Value} (h : Framed s o t [] 601024 7293034) :
    Framed s o t (fieldLocs frame_1_writes args s ++ arrayLocs frame_1_arrays args s ++ staticLocs frame_1_statics s) 601024 7293034 := h
theorem lw_limb (L : Cond) (hL : ∀ (args : Array Value) (s t : State), L.after args s (.returned (some (.int 1))) t = true) :
    ArmFor flags0 classFile x code maxLocals ret World_1 tables_1 room_1 Calls_1 rest_1 Pre_1
      (fun tb e a s o t => postC L tb e a s o t ∧ Framed s o t (fieldLocs frame_1_writes a s ++ arrayLocs frame_1_arrays a s ++ staticLocs frame_1_statics s) 601024 7293034) := by
  intro l hfl _ _ p e ha hc hk s m args below hf hfit hheap happ hpre
  obtain ⟨k, o, h1, h2, h3, rfl, hF⟩ := lw_comes l (show l.stackTraces = false by unfold Launch.stackTraces; rw [hfl]; decide) p e ha hc hk s m args below hf hfit hheap happ hpre
  exact ⟨k, _, h1, h2, h3, hL args s _, lw_frame hF⟩
theorem i_vc : Claimed_1_1 ∧ Claimed_1_2 := ⟨lw_limb limb_1_1 (fun args s t => by simp [limb_1_1, Cond.after, Cond.holds, Cond.value]), lw_limb limb_1_2 (fun args s t => Cond.after_iff.mpr (by
  first | (rw [show limb_1_2 = Cond.eq .result (.int 1) from rfl, Cond.eq_ints (x := 1) (y := 1) rfl rfl]; simp; done) | (simp [limb_1_2, Cond.value, Term.eval]; done)))⟩
