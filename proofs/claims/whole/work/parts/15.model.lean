/-! The reference at m0, its arrays at m0 + 1 .. m0 + 15 in the order of its fields (written by wip/whole/p15.py) -/
def isMo (E : Nat → ClassId) (La : la_L) (m0 : Nat) : Prop := La m0 = some (sh_Mo m0) ∧ La (m0 + 1) = some (sh_I E 4) ∧ La (m0 + 2) = some (sh_C E 800) ∧ La (m0 + 3) = some (sh_I E 6) ∧ La (m0 + 4) = some (sh_I E 6) ∧ La (m0 + 5) = some (sh_I E 6) ∧ La (m0 + 6) = some (sh_I E 240) ∧ La (m0 + 7) = some (sh_I E 240) ∧ La (m0 + 8) = some (sh_I E 240) ∧ La (m0 + 9) = some (sh_I E 240) ∧ La (m0 + 10) = some (sh_I E 240) ∧ La (m0 + 11) = some (sh_I E 6) ∧ La (m0 + 12) = some (sh_I E 240) ∧ La (m0 + 13) = some (sh_I E 240) ∧ La (m0 + 14) = some (sh_I E 240) ∧ La (m0 + 15) = some (sh_I E 240)
def md_fit (k p0 o k2 q o2 : Int32) : Int32 := if k = 0 ∧ k2 = 0 then (if q < p0 ∨ (q = p0 ∧ o2 < o) then p0 + 1 else p0) else if k = 0 ∧ k2 = 1 then (if q < p0 then p0 - 1 else p0) else if k = 1 ∧ k2 = 0 then (if p0 < q then p0 else p0 + 1) else if k = 1 ∧ k2 = 1 then (if q = p0 then -1 else if q < p0 then p0 - 1 else p0) else p0
def bk (L : Nat) : Nat := if L % 2 = 0 then L + 1 else L - 1
theorem bk_lt {L : Nat} (h : L < 6) : bk L < 6 := by
  unfold bk
  split <;> omega
theorem la_up_set {mu : la_M} {a k : Nat} {g : Nat → Int32} {v : Int32} : la_up (la_set mu a g) a k v = la_set mu a (upd g k v) := by
  funext q
  unfold la_up
  rw [la_set_s]
  by_cases h : q = a
  · subst h
    rw [la_set_s, la_set_s]
  · rw [la_set_n h, la_set_n h, la_set_n h]
theorem la_set_id (mu : la_M) (a : Nat) : la_set mu a (mu a) = mu := by
  funext q
  by_cases h : q = a
  · subst h
    rw [la_set_s]
  · rw [la_set_n h]
theorem cpy_0 (f : Nat → Int32) (a b : Nat) : va_cpy f f a b 0 = f := by
  funext j
  exact pk_cpy_out (by omega)
/-- one step of a shift to the right -/
theorem cpy_r (f : Nat → Int32) {K n : Nat} (h : 0 < K) : upd (va_cpy f f K (K + 1) n) K (f (K - 1)) = va_cpy f f (K - 1) K (n + 1) := by
  funext j
  by_cases hj : j = K
  · subst hj
    rw [pk_us, pk_cpy_in (by omega) (by omega)]
    congr 1
    omega
  · rw [pk_un hj]
    by_cases h1 : K + 1 ≤ j ∧ j < K + 1 + n
    · rw [pk_cpy_in h1.1 h1.2, pk_cpy_in (by omega) (by omega)]
      congr 1
      omega
    · rw [pk_cpy_out (by omega), pk_cpy_out (by omega)]
/-- one step of a shift to the left -/
theorem cpy_l (f : Nat → Int32) (K n : Nat) : upd (va_cpy f f (K + 1) K n) (K + n) (f (K + n + 1)) = va_cpy f f (K + 1) K (n + 1) := by
  funext j
  by_cases hj : j = K + n
  · subst hj
    rw [pk_us, pk_cpy_in (by omega) (by omega)]
    congr 1
    omega
  · rw [pk_un hj]
    by_cases h1 : K ≤ j ∧ j < K + n
    · rw [pk_cpy_in h1.1 h1.2, pk_cpy_in (by omega) (by omega)]
    · rw [pk_cpy_out (by omega), pk_cpy_out (by omega)]
theorem i2c_n {c : Nat} (h : c < 65536) : ((nI c).toUInt32 % 65536).toInt32 = nI c := by
  rw [pk_char, pk_tn (by omega), Nat.mod_eq_of_lt h]
theorem chz_n {c : Nat} (h : c < 65536) : chz (nI c) := pk_charN h
def md_app (mu : la_M) (m0 j kd q n cx : Nat) : la_M :=
  if kd = 0 then la_up (la_up (la_set mu (m0 + 2) (va_cpy (mu (m0 + 2)) (mu (m0 + 2)) (200 * j + q) (200 * j + q + 1) (n - q))) (m0 + 2) (200 * j + q) (nI cx)) (m0 + 1) j (nI (n + 1))
  else if kd = 1 then la_set (la_up mu (m0 + 1) j (nI (n - 1))) (m0 + 2) (va_cpy (mu (m0 + 2)) (mu (m0 + 2)) (200 * j + q + 1) (200 * j + q) (n - 1 - q)) else mu
def md_send (mu : la_M) (m0 L w o t : Nat) : la_M :=
  la_up (la_up (la_up (la_up (la_up (la_up (la_up (la_up (la_up (la_up (la_up (la_up mu (m0 + 6) (40 * L + w) (mu m0 16)) (m0 + 7) (40 * L + w) (mu m0 17)) (m0 + 8) (40 * L + w) (mu m0 18)) (m0 + 9) (40 * L + w) (mu m0 19)) (m0 + 10) (40 * L + w) (mu (m0 + 4) (bk L))) (m0 + 5) L (nI (w + 1))) (m0 + 12) (40 * L + o) (mu m0 16)) (m0 + 13) (40 * L + o) (mu m0 17)) (m0 + 14) (40 * L + o) (mu m0 18)) (m0 + 15) (40 * L + o) (mu m0 19)) (m0 + 11) L (nI (o + 1))) (m0 + 3) L (nI (t + 1))
def md_beg (mu : la_M) (m0 kd q : Nat) (x : Int32) (o : Nat) : la_M := la_up (la_up (la_up (la_up mu m0 16 (nI kd)) m0 17 (nI q)) m0 18 x) m0 19 (nI o)
set_option maxHeartbeats 4000000 in
set_option maxRecDepth 100000 in
theorem c_Mo_thrown (l : Launch) (D : va_G) (E : Nat → ClassId) (La : la_L) {m0 : Nat} (hm : isMo E La m0) (mu : la_M)  : cr l y_Mo_thrown b_Mo_thrown 1 (some .int) 0 0 D E La [.ref m0] mu (some (.int (mu m0 0))) := by
  refine cr_begin R_Mo (by decide) rfl (Nat.le_of_ble_eq_true rfl) ?_
  intro p e s m below meth c ls Z hr hlocks hP hl
  have hx := Z.1
  have hb := Z.2.1
  have hK : va_K D cls5 (tyE E) s := Z.2.2.2.2.2
  have hl : lv_has ls 1 [(0, .ref m0)] := hl
  refine lv_aload_n hx hb d_Mo_thrown_0 rfl (lv_at hl 0 rfl) ?_
  refine g_f Z kc_Mo hP hm.1 rfl 0 (by decide) wl_Mo_56 rfl rfl d_Mo_thrown_1 ?_
  exact W.iret hx hb hr (fun t ht hW => ⟨rfl, ht⟩) (fun q h => by cases h) d_Mo_thrown_4
set_option maxHeartbeats 4000000 in
set_option maxRecDepth 100000 in
theorem c_Mo_isClient_y (l : Launch) (D : va_G) (E : Nat → ClassId) (La : la_L) (mu : la_M) {k : Nat} (hk : k < 3) : cr l y_Mo_isClient b_Mo_isClient 1 (some .boolean) 0 0 D E La [.int (nI (k + 1))] mu (some (.int 1)) := by
  refine cr_begin R_Mo (by decide) rfl (Nat.le_of_ble_eq_true rfl) ?_
  intro p e s m below meth c ls Z hr hlocks hP hl
  have hx := Z.1
  have hb := Z.2.1
  have hK : va_K D cls5 (tyE E) s := Z.2.2.2.2.2
  have hl : lv_has ls 1 [(0, .int (nI (k + 1)))] := hl
  refine lv_iload_n hx hb d_Mo_isClient_0 rfl (lv_at hl 0 rfl) ?_
  refine lv_iconst (v := 1) hx hb d_Mo_isClient_1 (by decide) ?_
  refine lv_icmp_lt (tgt := 14) hx hb d_Mo_isClient_2 rfl (fun br2 => absurd br2 (nI_nlt (b := 1) (by omega) (by omega))) (fun br2 => ?_)
  refine lv_iload_n hx hb d_Mo_isClient_5 rfl (lv_at hl 0 rfl) ?_
  refine lv_iconst (v := 3) hx hb d_Mo_isClient_6 (by decide) ?_
  refine lv_icmp_gt (tgt := 14) hx hb d_Mo_isClient_7 rfl (fun br7 => absurd br7 (nI_nlt (a := 3) (by omega) (by decide))) (fun br7 => ?_)
  refine lv_iconst (v := 1) hx hb d_Mo_isClient_10 (by decide) ?_
  refine lv_goto (tgt := 15) hx hb d_Mo_isClient_11 rfl ?_
  exact W.zret hx hb hr (by decide) (fun t ht hW => ⟨rfl, ht⟩) (fun q h => by cases h) d_Mo_isClient_15
set_option maxHeartbeats 4000000 in
set_option maxRecDepth 100000 in
theorem c_Mo_isClient_n (l : Launch) (D : va_G) (E : Nat → ClassId) (La : la_L) (mu : la_M) {cl : Int32} (hc : cl < 1 ∨ 3 < cl) : cr l y_Mo_isClient b_Mo_isClient 1 (some .boolean) 0 0 D E La [.int cl] mu (some (.int 0)) := by
  refine cr_begin R_Mo (by decide) rfl (Nat.le_of_ble_eq_true rfl) ?_
  intro p e s m below meth c ls Z hr hlocks hP hl
  have hx := Z.1
  have hb := Z.2.1
  have hK : va_K D cls5 (tyE E) s := Z.2.2.2.2.2
  have hl : lv_has ls 1 [(0, .int cl)] := hl
  refine lv_iload_n hx hb d_Mo_isClient_0 rfl (lv_at hl 0 rfl) ?_
  refine lv_iconst (v := 1) hx hb d_Mo_isClient_1 (by decide) ?_
  refine lv_icmp_lt (tgt := 14) hx hb d_Mo_isClient_2 rfl (fun br2 => ?_) (fun br2 => ?_)
  · skip
    refine lv_iconst (v := 0) hx hb d_Mo_isClient_14 (by decide) ?_
    exact W.zret hx hb hr (by decide) (fun t ht hW => ⟨rfl, ht⟩) (fun q h => by cases h) d_Mo_isClient_15
  · skip
    refine lv_iload_n hx hb d_Mo_isClient_5 rfl (lv_at hl 0 rfl) ?_
    refine lv_iconst (v := 3) hx hb d_Mo_isClient_6 (by decide) ?_
    refine lv_icmp_gt (tgt := 14) hx hb d_Mo_isClient_7 rfl (fun br7 => ?_) (fun br7 => absurd (hc.resolve_left br2) br7)
    refine lv_iconst (v := 0) hx hb d_Mo_isClient_14 (by decide) ?_
    exact W.zret hx hb hr (by decide) (fun t ht hW => ⟨rfl, ht⟩) (fun q h => by cases h) d_Mo_isClient_15
set_option maxHeartbeats 4000000 in
set_option maxRecDepth 100000 in
theorem c_Mo_isSite_y (l : Launch) (D : va_G) (E : Nat → ClassId) (La : la_L) (mu : la_M) {k : Nat} (hk : k < 4) : cr l y_Mo_isSite b_Mo_isSite 1 (some .boolean) 0 0 D E La [.int (nI k)] mu (some (.int 1)) := by
  refine cr_begin R_Mo (by decide) rfl (Nat.le_of_ble_eq_true rfl) ?_
  intro p e s m below meth c ls Z hr hlocks hP hl
  have hx := Z.1
  have hb := Z.2.1
  have hK : va_K D cls5 (tyE E) s := Z.2.2.2.2.2
  have hl : lv_has ls 1 [(0, .int (nI k))] := hl
  refine lv_iload_n hx hb d_Mo_isSite_0 rfl (lv_at hl 0 rfl) ?_
  refine lv_if_lt (tgt := 13) hx hb d_Mo_isSite_1 rfl (fun br1 => absurd br1 (nI_pos (by omega))) (fun br1 => ?_)
  refine lv_iload_n hx hb d_Mo_isSite_4 rfl (lv_at hl 0 rfl) ?_
  refine lv_iconst (v := 3) hx hb d_Mo_isSite_5 (by decide) ?_
  refine lv_icmp_gt (tgt := 13) hx hb d_Mo_isSite_6 rfl (fun br6 => absurd br6 (nI_nlt (a := 3) (by omega) (by decide))) (fun br6 => ?_)
  refine lv_iconst (v := 1) hx hb d_Mo_isSite_9 (by decide) ?_
  refine lv_goto (tgt := 14) hx hb d_Mo_isSite_10 rfl ?_
  exact W.zret hx hb hr (by decide) (fun t ht hW => ⟨rfl, ht⟩) (fun q h => by cases h) d_Mo_isSite_14
set_option maxHeartbeats 4000000 in
set_option maxRecDepth 100000 in
theorem c_Mo_isSite_n (l : Launch) (D : va_G) (E : Nat → ClassId) (La : la_L) (mu : la_M) {cl : Int32} (hc : cl < 0 ∨ 3 < cl) : cr l y_Mo_isSite b_Mo_isSite 1 (some .boolean) 0 0 D E La [.int cl] mu (some (.int 0)) := by
  refine cr_begin R_Mo (by decide) rfl (Nat.le_of_ble_eq_true rfl) ?_
  intro p e s m below meth c ls Z hr hlocks hP hl
  have hx := Z.1
  have hb := Z.2.1
  have hK : va_K D cls5 (tyE E) s := Z.2.2.2.2.2
  have hl : lv_has ls 1 [(0, .int cl)] := hl
  refine lv_iload_n hx hb d_Mo_isSite_0 rfl (lv_at hl 0 rfl) ?_
  refine lv_if_lt (tgt := 13) hx hb d_Mo_isSite_1 rfl (fun br1 => ?_) (fun br1 => ?_)
  · skip
    refine lv_iconst (v := 0) hx hb d_Mo_isSite_13 (by decide) ?_
    exact W.zret hx hb hr (by decide) (fun t ht hW => ⟨rfl, ht⟩) (fun q h => by cases h) d_Mo_isSite_14
  · skip
    refine lv_iload_n hx hb d_Mo_isSite_4 rfl (lv_at hl 0 rfl) ?_
    refine lv_iconst (v := 3) hx hb d_Mo_isSite_5 (by decide) ?_
    refine lv_icmp_gt (tgt := 13) hx hb d_Mo_isSite_6 rfl (fun br6 => ?_) (fun br6 => absurd (hc.resolve_left br1) br6)
    refine lv_iconst (v := 0) hx hb d_Mo_isSite_13 (by decide) ?_
    exact W.zret hx hb hr (by decide) (fun t ht hW => ⟨rfl, ht⟩) (fun q h => by cases h) d_Mo_isSite_14
set_option maxHeartbeats 4000000 in
set_option maxRecDepth 100000 in
theorem c_Mo_line_u (l : Launch) (D : va_G) (E : Nat → ClassId) (La : la_L) (mu : la_M) {k : Nat} {u : Int32} (hu : ¬ u = 0) : cr l y_Mo_line b_Mo_line 2 (some .int) 0 0 D E La [.int (nI (k + 1)), .int u] mu (some (.int (nI (2 * k)))) := by
  refine cr_begin R_Mo (by decide) rfl (Nat.le_of_ble_eq_true rfl) ?_
  intro p e s m below meth c ls Z hr hlocks hP hl
  have hx := Z.1
  have hb := Z.2.1
  have hK : va_K D cls5 (tyE E) s := Z.2.2.2.2.2
  have hl : lv_has ls 2 [(0, .int (nI (k + 1))), (1, .int u)] := hl
  refine lv_iconst (v := 2) hx hb d_Mo_line_0 (by decide) ?_
  refine lv_iload_n hx hb d_Mo_line_1 rfl (lv_at hl 0 rfl) ?_
  refine lv_imul hx hb d_Mo_line_2 ?_
  rw [show (2 : Int32) * nI (k + 1) = nI (2 * (k + 1)) from pk_mul 2 (k + 1)]
  refine lv_iload_n hx hb d_Mo_line_3 rfl (lv_at hl 1 rfl) ?_
  refine lv_if_eq (tgt := 11) hx hb d_Mo_line_4 rfl (fun br4 => absurd br4 (hu)) (fun br4 => ?_)
  refine lv_iconst (v := 2) hx hb d_Mo_line_7 (by decide) ?_
  refine lv_goto (tgt := 12) hx hb d_Mo_line_8 rfl ?_
  refine lv_isub hx hb d_Mo_line_12 ?_
  exact W.iret hx hb hr (fun t ht hW => ⟨by rw [show nI (2 * (k + 1)) - 2 = nI (2 * (k + 1) - 2) from pk_sub (b := 2) (by omega), show 2 * (k + 1) - 2 = (2 * k) by omega], ht⟩) (fun q h => by cases h) d_Mo_line_13
set_option maxHeartbeats 4000000 in
set_option maxRecDepth 100000 in
theorem c_Mo_line_d (l : Launch) (D : va_G) (E : Nat → ClassId) (La : la_L) (mu : la_M) {k : Nat} {u : Int32} (hu : u = 0) : cr l y_Mo_line b_Mo_line 2 (some .int) 0 0 D E La [.int (nI (k + 1)), .int u] mu (some (.int (nI (2 * k + 1)))) := by
  refine cr_begin R_Mo (by decide) rfl (Nat.le_of_ble_eq_true rfl) ?_
  intro p e s m below meth c ls Z hr hlocks hP hl
  have hx := Z.1
  have hb := Z.2.1
  have hK : va_K D cls5 (tyE E) s := Z.2.2.2.2.2
  have hl : lv_has ls 2 [(0, .int (nI (k + 1))), (1, .int u)] := hl
  refine lv_iconst (v := 2) hx hb d_Mo_line_0 (by decide) ?_
  refine lv_iload_n hx hb d_Mo_line_1 rfl (lv_at hl 0 rfl) ?_
  refine lv_imul hx hb d_Mo_line_2 ?_
  rw [show (2 : Int32) * nI (k + 1) = nI (2 * (k + 1)) from pk_mul 2 (k + 1)]
  refine lv_iload_n hx hb d_Mo_line_3 rfl (lv_at hl 1 rfl) ?_
  refine lv_if_eq (tgt := 11) hx hb d_Mo_line_4 rfl (fun br4 => ?_) (fun br4 => absurd (hu) br4)
  refine lv_iconst (v := 1) hx hb d_Mo_line_11 (by decide) ?_
  refine lv_isub hx hb d_Mo_line_12 ?_
  exact W.iret hx hb hr (fun t ht hW => ⟨by rw [show nI (2 * (k + 1)) - 1 = nI (2 * (k + 1) - 1) from pk_sub (b := 1) (by omega), show 2 * (k + 1) - 1 = (2 * k + 1) by omega], ht⟩) (fun q h => by cases h) d_Mo_line_13
set_option maxHeartbeats 4000000 in
set_option maxRecDepth 100000 in
theorem c_Mo_back (l : Launch) (D : va_G) (E : Nat → ClassId) (La : la_L) (mu : la_M) {L : Nat} (hL : L < 6) : cr l y_Mo_back b_Mo_back 1 (some .int) 0 0 D E La [.int (nI L)] mu (some (.int (nI (bk L)))) := by
  refine cr_begin R_Mo (by decide) rfl (Nat.le_of_ble_eq_true rfl) ?_
  intro p e s m below meth c ls Z hr hlocks hP hl
  have hx := Z.1
  have hb := Z.2.1
  have hK : va_K D cls5 (tyE E) s := Z.2.2.2.2.2
  have hl : lv_has ls 1 [(0, .int (nI L))] := hl
  refine lv_iload_n hx hb d_Mo_back_0 rfl (lv_at hl 0 rfl) ?_
  refine lv_iconst (v := 2) hx hb d_Mo_back_1 (by decide) ?_
  refine lv_irem hx hb d_Mo_back_2 (by decide) ?_
  rw [show nI L - nI L / 2 * 2 = nI (L % 2) from pk_rem (d := 2) (by omega) (by decide) (by decide)]
  refine lv_if_ne (tgt := 12) hx hb d_Mo_back_3 rfl (fun br3 => ?_) (fun br3 => ?_)
  · skip
    refine lv_iload_n hx hb d_Mo_back_12 rfl (lv_at hl 0 rfl) ?_
    refine lv_iconst (v := 1) hx hb d_Mo_back_13 (by decide) ?_
    refine lv_isub hx hb d_Mo_back_14 ?_
    have e2 : ¬ L % 2 = 0 := fun h9 => br3 (by rw [h9]; rfl)
    exact W.iret hx hb hr (fun t ht hW => ⟨by rw [nI_s1 (by omega)]; unfold bk; rw [if_neg e2], ht⟩) (fun q h => by cases h) d_Mo_back_15
  · skip
    refine lv_iload_n hx hb d_Mo_back_6 rfl (lv_at hl 0 rfl) ?_
    refine lv_iconst (v := 1) hx hb d_Mo_back_7 (by decide) ?_
    refine lv_iadd hx hb d_Mo_back_8 ?_
    refine lv_goto (tgt := 15) hx hb d_Mo_back_9 rfl ?_
    have e2 : L % 2 = 0 := (nI_eq (b := 0) (by omega) (by decide)).mp br3
    exact W.iret hx hb hr (fun t ht hW => ⟨by rw [nI_1]; unfold bk; rw [if_pos e2], ht⟩) (fun q h => by cases h) d_Mo_back_15
set_option maxHeartbeats 4000000 in
set_option maxRecDepth 100000 in
theorem c_Mo_fitted (l : Launch) (D : va_G) (E : Nat → ClassId) (La : la_L) (mu : la_M) (k p0 o k2 q o2 : Int32) : cr l y_Mo_fitted b_Mo_fitted 6 (some .int) 0 0 D E La [.int k, .int p0, .int o, .int k2, .int q, .int o2] mu (some (.int (md_fit k p0 o k2 q o2))) := by
  refine cr_begin R_Mo (by decide) rfl (Nat.le_of_ble_eq_true rfl) ?_
  intro p e s m below meth c ls Z hr hlocks hP hl
  have hx := Z.1
  have hb := Z.2.1
  have hK : va_K D cls5 (tyE E) s := Z.2.2.2.2.2
  have hl : lv_has ls 6 [(0, .int k), (1, .int p0), (2, .int o), (3, .int k2), (4, .int q), (5, .int o2)] := hl
  refine lv_iload_n hx hb d_Mo_fitted_0 rfl (lv_at hl 0 rfl) ?_
  refine lv_if_ne (tgt := 34) hx hb d_Mo_fitted_1 rfl (fun br1 => ?_) (fun br1 => ?_)
  · skip
    refine lv_iload_n hx hb d_Mo_fitted_34 rfl (lv_at hl 0 rfl) ?_
    refine lv_if_ne (tgt := 57) hx hb d_Mo_fitted_35 rfl (fun br35 => ?_) (fun br35 => absurd br35 (br1))
    refine lv_iload_n hx hb d_Mo_fitted_57 rfl (lv_at hl 0 rfl) ?_
    refine lv_iconst (v := 1) hx hb d_Mo_fitted_58 (by decide) ?_
    refine lv_icmp_ne (tgt := 80) hx hb d_Mo_fitted_59 rfl (fun br59 => ?_) (fun br59 => ?_)
    · skip
      refine lv_iload_n hx hb d_Mo_fitted_80 rfl (lv_at hl 0 rfl) ?_
      refine lv_iconst (v := 1) hx hb d_Mo_fitted_81 (by decide) ?_
      refine lv_icmp_ne (tgt := 114) hx hb d_Mo_fitted_82 rfl (fun br82 => ?_) (fun br82 => absurd br82 (br59))
      refine lv_iload_n hx hb d_Mo_fitted_114 rfl (lv_at hl 1 rfl) ?_
      exact W.iret hx hb hr (fun t ht hW => ⟨by simp [md_fit, br1, br35, br59, br82], ht⟩) (fun q h => by cases h) d_Mo_fitted_115
    · skip
      refine lv_iload_n hx hb d_Mo_fitted_62 rfl (lv_at hl 3 rfl) ?_
      refine lv_if_ne (tgt := 80) hx hb d_Mo_fitted_63 rfl (fun br63 => ?_) (fun br63 => ?_)
      · skip
        refine lv_iload_n hx hb d_Mo_fitted_80 rfl (lv_at hl 0 rfl) ?_
        refine lv_iconst (v := 1) hx hb d_Mo_fitted_81 (by decide) ?_
        refine lv_icmp_ne (tgt := 114) hx hb d_Mo_fitted_82 rfl (fun br82 => absurd (br59) br82) (fun br82 => ?_)
        refine lv_iload_n hx hb d_Mo_fitted_85 rfl (lv_at hl 3 rfl) ?_
        refine lv_iconst (v := 1) hx hb d_Mo_fitted_86 (by decide) ?_
        refine lv_icmp_ne (tgt := 114) hx hb d_Mo_fitted_87 rfl (fun br87 => ?_) (fun br87 => ?_)
        · skip
          refine lv_iload_n hx hb d_Mo_fitted_114 rfl (lv_at hl 1 rfl) ?_
          exact W.iret hx hb hr (fun t ht hW => ⟨by simp [md_fit, br1, br35, br59, br63, br82, br87], ht⟩) (fun q h => by cases h) d_Mo_fitted_115
        · skip
          refine lv_iload hx hb d_Mo_fitted_90 (lv_at hl 4 rfl) ?_
          refine lv_iload_n hx hb d_Mo_fitted_92 rfl (lv_at hl 1 rfl) ?_
          refine lv_icmp_ne (tgt := 100) hx hb d_Mo_fitted_93 rfl (fun br93 => ?_) (fun br93 => ?_)
          · skip
            refine lv_iload hx hb d_Mo_fitted_100 (lv_at hl 4 rfl) ?_
            refine lv_iload_n hx hb d_Mo_fitted_102 rfl (lv_at hl 1 rfl) ?_
            refine lv_icmp_ge (tgt := 112) hx hb d_Mo_fitted_103 rfl (fun br103 => ?_) (fun br103 => ?_)
            · skip
              refine lv_iload_n hx hb d_Mo_fitted_112 rfl (lv_at hl 1 rfl) ?_
              exact W.iret hx hb hr (fun t ht hW => ⟨by simp [md_fit, br1, br35, br59, br63, br82, br87, br93, (Int32.not_lt.mpr br103)], ht⟩) (fun q h => by cases h) d_Mo_fitted_113
            · skip
              refine lv_iload_n hx hb d_Mo_fitted_106 rfl (lv_at hl 1 rfl) ?_
              refine lv_iconst (v := 1) hx hb d_Mo_fitted_107 (by decide) ?_
              refine lv_isub hx hb d_Mo_fitted_108 ?_
              refine lv_goto (tgt := 113) hx hb d_Mo_fitted_109 rfl ?_
              exact W.iret hx hb hr (fun t ht hW => ⟨by simp [md_fit, br1, br35, br59, br63, br82, br87, br93, (Int32.not_le.mp br103)], ht⟩) (fun q h => by cases h) d_Mo_fitted_113
          · skip
            refine lv_iconst (v := (-1)) hx hb d_Mo_fitted_96 (by decide) ?_
            refine lv_goto (tgt := 113) hx hb d_Mo_fitted_97 rfl ?_
            exact W.iret hx hb hr (fun t ht hW => ⟨by simp [md_fit, br1, br35, br59, br63, br82, br87, br93], ht⟩) (fun q h => by cases h) d_Mo_fitted_113
      · skip
        refine lv_iload hx hb d_Mo_fitted_66 (lv_at hl 4 rfl) ?_
        refine lv_iload_n hx hb d_Mo_fitted_68 rfl (lv_at hl 1 rfl) ?_
        refine lv_icmp_gt (tgt := 78) hx hb d_Mo_fitted_69 rfl (fun br69 => ?_) (fun br69 => ?_)
        · skip
          refine lv_iload_n hx hb d_Mo_fitted_78 rfl (lv_at hl 1 rfl) ?_
          exact W.iret hx hb hr (fun t ht hW => ⟨by simp [md_fit, br1, br35, br59, br63, br69], ht⟩) (fun q h => by cases h) d_Mo_fitted_79
        · skip
          refine lv_iload_n hx hb d_Mo_fitted_72 rfl (lv_at hl 1 rfl) ?_
          refine lv_iconst (v := 1) hx hb d_Mo_fitted_73 (by decide) ?_
          refine lv_iadd hx hb d_Mo_fitted_74 ?_
          refine lv_goto (tgt := 79) hx hb d_Mo_fitted_75 rfl ?_
          exact W.iret hx hb hr (fun t ht hW => ⟨by simp [md_fit, br1, br35, br59, br63, br69], ht⟩) (fun q h => by cases h) d_Mo_fitted_79
  · skip
    refine lv_iload_n hx hb d_Mo_fitted_4 rfl (lv_at hl 3 rfl) ?_
    refine lv_if_ne (tgt := 34) hx hb d_Mo_fitted_5 rfl (fun br5 => ?_) (fun br5 => ?_)
    · skip
      refine lv_iload_n hx hb d_Mo_fitted_34 rfl (lv_at hl 0 rfl) ?_
      refine lv_if_ne (tgt := 57) hx hb d_Mo_fitted_35 rfl (fun br35 => absurd (br1) br35) (fun br35 => ?_)
      refine lv_iload_n hx hb d_Mo_fitted_38 rfl (lv_at hl 3 rfl) ?_
      refine lv_iconst (v := 1) hx hb d_Mo_fitted_39 (by decide) ?_
      refine lv_icmp_ne (tgt := 57) hx hb d_Mo_fitted_40 rfl (fun br40 => ?_) (fun br40 => ?_)
      · skip
        refine lv_iload_n hx hb d_Mo_fitted_57 rfl (lv_at hl 0 rfl) ?_
        refine lv_iconst (v := 1) hx hb d_Mo_fitted_58 (by decide) ?_
        refine lv_icmp_ne (tgt := 80) hx hb d_Mo_fitted_59 rfl (fun br59 => ?_) (fun br59 => absurd br59 (fun h9 => absurd (h9.symm.trans br1) (by decide)))
        refine lv_iload_n hx hb d_Mo_fitted_80 rfl (lv_at hl 0 rfl) ?_
        refine lv_iconst (v := 1) hx hb d_Mo_fitted_81 (by decide) ?_
        refine lv_icmp_ne (tgt := 114) hx hb d_Mo_fitted_82 rfl (fun br82 => ?_) (fun br82 => absurd br82 (fun h9 => absurd (h9.symm.trans br1) (by decide)))
        refine lv_iload_n hx hb d_Mo_fitted_114 rfl (lv_at hl 1 rfl) ?_
        exact W.iret hx hb hr (fun t ht hW => ⟨by simp [md_fit, br1, br5, br35, br40, br59, br82], ht⟩) (fun q h => by cases h) d_Mo_fitted_115
      · skip
        refine lv_iload hx hb d_Mo_fitted_43 (lv_at hl 4 rfl) ?_
        refine lv_iload_n hx hb d_Mo_fitted_45 rfl (lv_at hl 1 rfl) ?_
        refine lv_icmp_ge (tgt := 55) hx hb d_Mo_fitted_46 rfl (fun br46 => ?_) (fun br46 => ?_)
        · skip
          refine lv_iload_n hx hb d_Mo_fitted_55 rfl (lv_at hl 1 rfl) ?_
          exact W.iret hx hb hr (fun t ht hW => ⟨by simp [md_fit, br1, br5, br35, br40, (Int32.not_lt.mpr br46)], ht⟩) (fun q h => by cases h) d_Mo_fitted_56
        · skip
          refine lv_iload_n hx hb d_Mo_fitted_49 rfl (lv_at hl 1 rfl) ?_
          refine lv_iconst (v := 1) hx hb d_Mo_fitted_50 (by decide) ?_
          refine lv_isub hx hb d_Mo_fitted_51 ?_
          refine lv_goto (tgt := 56) hx hb d_Mo_fitted_52 rfl ?_
          exact W.iret hx hb hr (fun t ht hW => ⟨by simp [md_fit, br1, br5, br35, br40, (Int32.not_le.mp br46)], ht⟩) (fun q h => by cases h) d_Mo_fitted_56
    · skip
      refine lv_iload hx hb d_Mo_fitted_8 (lv_at hl 4 rfl) ?_
      refine lv_iload_n hx hb d_Mo_fitted_10 rfl (lv_at hl 1 rfl) ?_
      refine lv_icmp_lt (tgt := 26) hx hb d_Mo_fitted_11 rfl (fun br11 => ?_) (fun br11 => ?_)
      · skip
        refine lv_iload_n hx hb d_Mo_fitted_26 rfl (lv_at hl 1 rfl) ?_
        refine lv_iconst (v := 1) hx hb d_Mo_fitted_27 (by decide) ?_
        refine lv_iadd hx hb d_Mo_fitted_28 ?_
        refine lv_goto (tgt := 33) hx hb d_Mo_fitted_29 rfl ?_
        exact W.iret hx hb hr (fun t ht hW => ⟨by simp [md_fit, br1, br5, br11], ht⟩) (fun q h => by cases h) d_Mo_fitted_33
      · skip
        refine lv_iload hx hb d_Mo_fitted_14 (lv_at hl 4 rfl) ?_
        refine lv_iload_n hx hb d_Mo_fitted_16 rfl (lv_at hl 1 rfl) ?_
        refine lv_icmp_ne (tgt := 32) hx hb d_Mo_fitted_17 rfl (fun br17 => ?_) (fun br17 => ?_)
        · skip
          refine lv_iload_n hx hb d_Mo_fitted_32 rfl (lv_at hl 1 rfl) ?_
          exact W.iret hx hb hr (fun t ht hW => ⟨by simp [md_fit, br1, br5, br11, br17], ht⟩) (fun q h => by cases h) d_Mo_fitted_33
        · skip
          refine lv_iload hx hb d_Mo_fitted_20 (lv_at hl 5 rfl) ?_
          refine lv_iload_n hx hb d_Mo_fitted_22 rfl (lv_at hl 2 rfl) ?_
          refine lv_icmp_ge (tgt := 32) hx hb d_Mo_fitted_23 rfl (fun br23 => ?_) (fun br23 => ?_)
          · skip
            refine lv_iload_n hx hb d_Mo_fitted_32 rfl (lv_at hl 1 rfl) ?_
            exact W.iret hx hb hr (fun t ht hW => ⟨by simp [md_fit, br1, br5, br11, br17, (Int32.not_lt.mpr br23)], ht⟩) (fun q h => by cases h) d_Mo_fitted_33
          · skip
            refine lv_iload_n hx hb d_Mo_fitted_26 rfl (lv_at hl 1 rfl) ?_
            refine lv_iconst (v := 1) hx hb d_Mo_fitted_27 (by decide) ?_
            refine lv_iadd hx hb d_Mo_fitted_28 ?_
            refine lv_goto (tgt := 33) hx hb d_Mo_fitted_29 rfl ?_
            exact W.iret hx hb hr (fun t ht hW => ⟨by simp [md_fit, br1, br5, br11, br17, (Int32.not_le.mp br23)], ht⟩) (fun q h => by cases h) d_Mo_fitted_33
set_option maxHeartbeats 4000000 in
set_option maxRecDepth 100000 in
theorem c_Mo_apply_0 (l : Launch) (D : va_G) (E : Nat → ClassId) (La : la_L) {m0 : Nat} (hm : isMo E La m0) (mu : la_M) {j kd q n cx : Nat} (hj : j < 4) (hk : mu m0 16 = nI kd) (hq : mu m0 17 = nI q) (hx0 : mu m0 18 = nI cx) (hcx : cx < 65536) (hn : mu (m0 + 1) j = nI n) (h2 : n ≤ 64) (hz : ∀ i, chz (mu (m0 + 2) i)) (hk0 : kd = 0) (h1 : q ≤ n) : cw l y_Mo_apply b_Mo_apply 4 none 0 0 D E La [.ref m0, .int (nI j)] mu none (md_app mu m0 j 0 q n cx) := by
  refine cw_begin R_Mo (by decide) rfl (Nat.le_of_ble_eq_true rfl) ?_
  intro p e s m below meth c ls Z hr hlocks hP hS hl
  have hx := Z.1
  have hb := Z.2.1
  have hK : va_K D cls5 (tyE E) s := Z.2.2.2.2.2
  have hl : lv_has ls 4 [(0, .ref m0), (1, .int (nI j))] := hl
  have hk : mu m0 16 = 0 := by rw [hk, hk0]; rfl
  have loop : ∀ (t K : Nat) (H : Heap) (locs : List Loc) (ls : Array Slot), K = 200 * j + q + t → K ≤ 200 * j + n → la_P D cls5 La (la_set mu (m0 + 2) (va_cpy (mu (m0 + 2)) (mu (m0 + 2)) K (K + 1) (200 * j + n - K))) H → va_S (la_A La) s.heap H locs → lv_has ls 4 [(3, .int (nI K)), (2, .int (nI (200 * j))), (0, .ref m0), (1, .int (nI j))] → W p l e (rmm 0 0) s m ([.ref m0, .int (nI j)] : List Value).toArray below meth c H locs 0 0 (MQ below (cw_Q none (la_P D cls5 La (md_app mu m0 j 0 q n cx)) (la_A La)) ([.ref m0, .int (nI j)] : List Value).toArray s 0 0 (la_A La)) (F0 m 22 ls []) := by
    intro t
    induction t with
    | zero =>
      intro K H locs ls hK1 hK2 hP hS hl
      have hKq : K = 200 * j + q := by omega
      subst hKq
      refine lv_iload_n hx hb d_Mo_apply_22 rfl (lv_at hl 0 rfl) ?_
      refine lv_iload_n hx hb d_Mo_apply_23 rfl (lv_at hl 1 rfl) ?_
      refine lv_aload_n hx hb d_Mo_apply_24 rfl (lv_at hl 2 rfl) ?_
      refine g_i (v := (nI q)) Z kc_Mo hP hm.1 rfl 17 (by decide) wl_Mo_63 rfl rfl ((congrFun (la_set_n (by omega)) 17).trans hq) d_Mo_apply_25 ?_
      refine lv_iadd hx hb d_Mo_apply_28 ?_
      rw [nI_add]
      refine lv_icmp_le (tgt := 52) hx hb d_Mo_apply_29 rfl (fun br29 => ?_) (fun br29 => absurd (nI_le (Nat.le_refl _) (by omega)) br29)
      refine lv_aload_n hx hb d_Mo_apply_52 rfl (lv_at hl 2 rfl) ?_
      refine g_f (v := .ref (m0 + 2)) Z kc_Mo hP hm.1 rfl 2 (by decide) wl_Mo_13 rfl rfl d_Mo_apply_53 ?_
      refine lv_iload_n hx hb d_Mo_apply_56 rfl (lv_at hl 1 rfl) ?_
      refine lv_aload_n hx hb d_Mo_apply_57 rfl (lv_at hl 2 rfl) ?_
      refine g_i (v := (nI q)) Z kc_Mo hP hm.1 rfl 17 (by decide) wl_Mo_63 rfl rfl ((congrFun (la_set_n (by omega)) 17).trans hq) d_Mo_apply_58 ?_
      refine lv_iadd hx hb d_Mo_apply_61 ?_
      rw [nI_add]
      refine lv_aload_n hx hb d_Mo_apply_62 rfl (lv_at hl 2 rfl) ?_
      refine g_i (v := (nI cx)) Z kc_Mo hP hm.1 rfl 18 (by decide) wl_Mo_66 rfl rfl ((congrFun (la_set_n (by omega)) 18).trans hx0) d_Mo_apply_63 ?_
      refine lv_i2c hx hb d_Mo_apply_66 rfl ?_
      rw [i2c_n hcx]
      refine la_cast hx hb hK hP hS 1 hm.2.2.1 (fun _ => rfl) rfl (chz.nar (chz_n hcx)) (200 * j + q) rfl (by omega) (by decide) d_Mo_apply_67 (fun H locs hP hS => ?_)
      refine lv_aload_n hx hb d_Mo_apply_68 rfl (lv_at hl 2 rfl) ?_
      refine g_f (v := .ref (m0 + 1)) Z kc_Mo hP hm.1 rfl 1 (by decide) wl_Mo_7 rfl rfl d_Mo_apply_69 ?_
      refine lv_iload_n hx hb d_Mo_apply_72 rfl (lv_at hl 3 rfl) ?_
      refine lv_dup2_11 hx hb d_Mo_apply_73 rfl rfl ?_
      refine la_ialdv (v := (nI n)) hx hb hK hP 0 hm.2.1 rfl rfl j rfl hj (by decide) (((congrFun (la_up_n (by omega)) j).trans (congrFun (la_set_n (by omega)) j)).trans hn) d_Mo_apply_74 ?_
      refine lv_iconst (v := 1) hx hb d_Mo_apply_75 (by decide) ?_
      refine lv_iadd hx hb d_Mo_apply_76 ?_
      refine la_iast hx hb hK hP hS 0 hm.2.1 (fun _ => rfl) rfl j rfl hj (by decide) d_Mo_apply_77 (fun H locs hP hS => ?_)
      refine lv_goto (tgt := 138) hx hb d_Mo_apply_78 rfl ?_
      exact W.vret hx hb hr (fun t ht hW => ⟨rfl, by rw [ht]; exact cvm hP (by rw [nI_1]; unfold md_app; rw [if_pos rfl, show 200 * j + n - (200 * j + q) = n - q by omega]), hS.F ht⟩) hS.2.2 d_Mo_apply_138
    | succ t ih =>
      intro K H locs ls hK1 hK2 hP hS hl
      have ev : ((la_set mu (m0 + 2) (va_cpy (mu (m0 + 2)) (mu (m0 + 2)) K (K + 1) (200 * j + n - K))) (m0 + 2) (K - 1)) = mu (m0 + 2) (K - 1) := by rw [la_set_s, pk_cpy_out (by omega)]
      refine lv_iload_n hx hb d_Mo_apply_22 rfl (lv_at hl 0 rfl) ?_
      refine lv_iload_n hx hb d_Mo_apply_23 rfl (lv_at hl 1 rfl) ?_
      refine lv_aload_n hx hb d_Mo_apply_24 rfl (lv_at hl 2 rfl) ?_
      refine g_i (v := (nI q)) Z kc_Mo hP hm.1 rfl 17 (by decide) wl_Mo_63 rfl rfl ((congrFun (la_set_n (by omega)) 17).trans hq) d_Mo_apply_25 ?_
      refine lv_iadd hx hb d_Mo_apply_28 ?_
      rw [nI_add]
      refine lv_icmp_le (tgt := 52) hx hb d_Mo_apply_29 rfl (fun br29 => absurd br29 (nI_ge (by omega) (by omega))) (fun br29 => ?_)
      refine lv_aload_n hx hb d_Mo_apply_32 rfl (lv_at hl 2 rfl) ?_
      refine g_f (v := .ref (m0 + 2)) Z kc_Mo hP hm.1 rfl 2 (by decide) wl_Mo_13 rfl rfl d_Mo_apply_33 ?_
      refine lv_iload_n hx hb d_Mo_apply_36 rfl (lv_at hl 0 rfl) ?_
      refine lv_aload_n hx hb d_Mo_apply_37 rfl (lv_at hl 2 rfl) ?_
      refine g_f (v := .ref (m0 + 2)) Z kc_Mo hP hm.1 rfl 2 (by decide) wl_Mo_13 rfl rfl d_Mo_apply_38 ?_
      refine lv_iload_n hx hb d_Mo_apply_41 rfl (lv_at hl 0 rfl) ?_
      refine lv_iconst (v := 1) hx hb d_Mo_apply_42 (by decide) ?_
      refine lv_isub hx hb d_Mo_apply_43 ?_
      rw [nI_s1 (by omega)]
      refine la_caldv (v := (mu (m0 + 2) (K - 1))) hx hb hK hP 1 hm.2.2.1 rfl rfl (K - 1) rfl (by omega) (by decide) ev d_Mo_apply_44 ?_
      refine la_cast hx hb hK hP hS 1 hm.2.2.1 (fun _ => rfl) rfl (chz.nar (hz _)) K rfl (by omega) (by decide) d_Mo_apply_45 (fun H locs hP hS => ?_)
      refine lv_iinc (k := 0) (v := (nI (K - 1))) hx hb d_Mo_apply_46 hl rfl (by rw [← sb_m1 (by omega)]; rfl) (by decide) rfl (fun ls hl => ?_)
      have hl : lv_has ls 4 [(3, .int (nI (K - 1))), (2, .int (nI (200 * j))), (0, .ref m0), (1, .int (nI j))] := hl
      refine lv_goto (tgt := 22) hx hb d_Mo_apply_49 rfl ?_
      exact ih (K - 1) H locs ls (by omega) (by omega) (cvm hP (by rw [la_up_set, cpy_r _ (by omega), show K - 1 + 1 = K by omega, show 200 * j + n - (K - 1) = 200 * j + n - K + 1 by omega])) hS hl
  refine lv_sipush (v := 200) hx hb d_Mo_apply_0 (by decide) ?_
  refine lv_iload_n hx hb d_Mo_apply_3 rfl (lv_at hl 1 rfl) ?_
  refine lv_imul hx hb d_Mo_apply_4 ?_
  rw [show (200 : Int32) * nI j = nI (200 * j) from pk_mul 200 j]
  refine lv_istore_n hx hb d_Mo_apply_5 rfl hl (by decide) rfl (fun ls hl => ?_)
  have hl : lv_has ls 4 [(2, .int (nI (200 * j))), (0, .ref m0), (1, .int (nI j))] := hl
  refine lv_aload_n hx hb d_Mo_apply_6 rfl (lv_at hl 1 rfl) ?_
  refine g_i (v := 0) Z kc_Mo hP hm.1 rfl 16 (by decide) wl_Mo_60 rfl rfl hk d_Mo_apply_7 ?_
  refine lv_if_ne (tgt := 81) hx hb d_Mo_apply_10 rfl (fun br10 => absurd (rfl) br10) (fun br10 => ?_)
  refine lv_iload_n hx hb d_Mo_apply_13 rfl (lv_at hl 0 rfl) ?_
  refine lv_aload_n hx hb d_Mo_apply_14 rfl (lv_at hl 1 rfl) ?_
  refine g_f (v := .ref (m0 + 1)) Z kc_Mo hP hm.1 rfl 1 (by decide) wl_Mo_7 rfl rfl d_Mo_apply_15 ?_
  refine lv_iload_n hx hb d_Mo_apply_18 rfl (lv_at hl 2 rfl) ?_
  refine la_ialdv (v := (nI n)) hx hb hK hP 0 hm.2.1 rfl rfl j rfl hj (by decide) hn d_Mo_apply_19 ?_
  refine lv_iadd hx hb d_Mo_apply_20 ?_
  rw [nI_add]
  refine lv_istore_n hx hb d_Mo_apply_21 rfl hl (by decide) rfl (fun ls hl => ?_)
  have hl : lv_has ls 4 [(3, .int (nI (200 * j + n))), (2, .int (nI (200 * j))), (0, .ref m0), (1, .int (nI j))] := hl
  exact loop (n - q) (200 * j + n) s.heap [] ls (by omega) (by omega) (cvm hP (by rw [Nat.sub_self, cpy_0, la_set_id])) hS hl
set_option maxHeartbeats 4000000 in
set_option maxRecDepth 100000 in
theorem c_Mo_apply_1 (l : Launch) (D : va_G) (E : Nat → ClassId) (La : la_L) {m0 : Nat} (hm : isMo E La m0) (mu : la_M) {j kd q n cx : Nat} (hj : j < 4) (hk : mu m0 16 = nI kd) (hq : mu m0 17 = nI q) (hx0 : mu m0 18 = nI cx) (hcx : cx < 65536) (hn : mu (m0 + 1) j = nI n) (h2 : n ≤ 64) (hz : ∀ i, chz (mu (m0 + 2) i)) (hk0 : kd = 1) (h1 : q < n) : cw l y_Mo_apply b_Mo_apply 4 none 0 0 D E La [.ref m0, .int (nI j)] mu none (md_app mu m0 j 1 q n cx) := by
  refine cw_begin R_Mo (by decide) rfl (Nat.le_of_ble_eq_true rfl) ?_
  intro p e s m below meth c ls Z hr hlocks hP hS hl
  have hx := Z.1
  have hb := Z.2.1
  have hK : va_K D cls5 (tyE E) s := Z.2.2.2.2.2
  have hl : lv_has ls 4 [(0, .ref m0), (1, .int (nI j))] := hl
  have hk : mu m0 16 = 1 := by rw [hk, hk0]; rfl
  have loop : ∀ (t i : Nat) (H : Heap) (locs : List Loc) (ls : Array Slot), i + t = n - 1 - q → la_P D cls5 La (la_set (la_up mu (m0 + 1) j (nI (n - 1))) (m0 + 2) (va_cpy (mu (m0 + 2)) (mu (m0 + 2)) (200 * j + q + 1) (200 * j + q) i)) H → va_S (la_A La) s.heap H locs → lv_has ls 4 [(3, .int (nI (200 * j + q + i))), (2, .int (nI (200 * j))), (0, .ref m0), (1, .int (nI j))] → W p l e (rmm 0 0) s m ([.ref m0, .int (nI j)] : List Value).toArray below meth c H locs 0 0 (MQ below (cw_Q none (la_P D cls5 La (md_app mu m0 j 1 q n cx)) (la_A La)) ([.ref m0, .int (nI j)] : List Value).toArray s 0 0 (la_A La)) (F0 m 106 ls []) := by
    intro t
    induction t with
    | zero =>
      intro i H locs ls hi hP hS hl
      have hia : i = n - 1 - q := by omega
      subst hia
      refine lv_iload_n hx hb d_Mo_apply_106 rfl (lv_at hl 0 rfl) ?_
      refine lv_iload_n hx hb d_Mo_apply_107 rfl (lv_at hl 1 rfl) ?_
      refine lv_aload_n hx hb d_Mo_apply_108 rfl (lv_at hl 2 rfl) ?_
      refine g_f (v := .ref (m0 + 1)) Z kc_Mo hP hm.1 rfl 1 (by decide) wl_Mo_7 rfl rfl d_Mo_apply_109 ?_
      refine lv_iload_n hx hb d_Mo_apply_112 rfl (lv_at hl 3 rfl) ?_
      refine la_ialdv (v := (nI (n - 1))) hx hb hK hP 0 hm.2.1 rfl rfl j rfl hj (by decide) ((congrFun (la_set_n (by omega)) j).trans la_up_s) d_Mo_apply_113 ?_
      refine lv_iadd hx hb d_Mo_apply_114 ?_
      rw [nI_add]
      refine lv_icmp_ge (tgt := 138) hx hb d_Mo_apply_115 rfl (fun br115 => ?_) (fun br115 => absurd (nI_le (by omega) (by omega)) br115)
      exact W.vret hx hb hr (fun t ht hW => ⟨rfl, by rw [ht]; exact cvm hP (by unfold md_app; rw [if_neg (by decide), if_pos rfl]), hS.F ht⟩) hS.2.2 d_Mo_apply_138
    | succ t ih =>
      intro i H locs ls hi hP hS hl
      have ev : ((la_set (la_up mu (m0 + 1) j (nI (n - 1))) (m0 + 2) (va_cpy (mu (m0 + 2)) (mu (m0 + 2)) (200 * j + q + 1) (200 * j + q) i)) (m0 + 2) (200 * j + q + i + 1)) = mu (m0 + 2) (200 * j + q + i + 1) := by rw [la_set_s, pk_cpy_out (by omega)]
      refine lv_iload_n hx hb d_Mo_apply_106 rfl (lv_at hl 0 rfl) ?_
      refine lv_iload_n hx hb d_Mo_apply_107 rfl (lv_at hl 1 rfl) ?_
      refine lv_aload_n hx hb d_Mo_apply_108 rfl (lv_at hl 2 rfl) ?_
      refine g_f (v := .ref (m0 + 1)) Z kc_Mo hP hm.1 rfl 1 (by decide) wl_Mo_7 rfl rfl d_Mo_apply_109 ?_
      refine lv_iload_n hx hb d_Mo_apply_112 rfl (lv_at hl 3 rfl) ?_
      refine la_ialdv (v := (nI (n - 1))) hx hb hK hP 0 hm.2.1 rfl rfl j rfl hj (by decide) ((congrFun (la_set_n (by omega)) j).trans la_up_s) d_Mo_apply_113 ?_
      refine lv_iadd hx hb d_Mo_apply_114 ?_
      rw [nI_add]
      refine lv_icmp_ge (tgt := 138) hx hb d_Mo_apply_115 rfl (fun br115 => absurd br115 (nI_ge (by omega) (by omega))) (fun br115 => ?_)
      refine lv_aload_n hx hb d_Mo_apply_118 rfl (lv_at hl 2 rfl) ?_
      refine g_f (v := .ref (m0 + 2)) Z kc_Mo hP hm.1 rfl 2 (by decide) wl_Mo_13 rfl rfl d_Mo_apply_119 ?_
      refine lv_iload_n hx hb d_Mo_apply_122 rfl (lv_at hl 0 rfl) ?_
      refine lv_aload_n hx hb d_Mo_apply_123 rfl (lv_at hl 2 rfl) ?_
      refine g_f (v := .ref (m0 + 2)) Z kc_Mo hP hm.1 rfl 2 (by decide) wl_Mo_13 rfl rfl d_Mo_apply_124 ?_
      refine lv_iload_n hx hb d_Mo_apply_127 rfl (lv_at hl 0 rfl) ?_
      refine lv_iconst (v := 1) hx hb d_Mo_apply_128 (by decide) ?_
      refine lv_iadd hx hb d_Mo_apply_129 ?_
      rw [nI_1]
      refine la_caldv (v := (mu (m0 + 2) (200 * j + q + i + 1))) hx hb hK hP 1 hm.2.2.1 rfl rfl (200 * j + q + i + 1) rfl (by omega) (by decide) ev d_Mo_apply_130 ?_
      refine la_cast hx hb hK hP hS 1 hm.2.2.1 (fun _ => rfl) rfl (chz.nar (hz _)) (200 * j + q + i) rfl (by omega) (by decide) d_Mo_apply_131 (fun H locs hP hS => ?_)
      refine lv_iinc (k := 0) (v := (nI (200 * j + q + (i + 1)))) hx hb d_Mo_apply_132 hl rfl (nI_1 _) (by decide) rfl (fun ls hl => ?_)
      have hl : lv_has ls 4 [(3, .int (nI (200 * j + q + (i + 1)))), (2, .int (nI (200 * j))), (0, .ref m0), (1, .int (nI j))] := hl
      refine lv_goto (tgt := 106) hx hb d_Mo_apply_135 rfl ?_
      exact ih (i + 1) H locs ls (by omega) (cvm hP (by rw [la_up_set, cpy_l])) hS hl
  refine lv_sipush (v := 200) hx hb d_Mo_apply_0 (by decide) ?_
  refine lv_iload_n hx hb d_Mo_apply_3 rfl (lv_at hl 1 rfl) ?_
  refine lv_imul hx hb d_Mo_apply_4 ?_
  rw [show (200 : Int32) * nI j = nI (200 * j) from pk_mul 200 j]
  refine lv_istore_n hx hb d_Mo_apply_5 rfl hl (by decide) rfl (fun ls hl => ?_)
  have hl : lv_has ls 4 [(2, .int (nI (200 * j))), (0, .ref m0), (1, .int (nI j))] := hl
  refine lv_aload_n hx hb d_Mo_apply_6 rfl (lv_at hl 1 rfl) ?_
  refine g_i (v := 1) Z kc_Mo hP hm.1 rfl 16 (by decide) wl_Mo_60 rfl rfl hk d_Mo_apply_7 ?_
  refine lv_if_ne (tgt := 81) hx hb d_Mo_apply_10 rfl (fun br10 => ?_) (fun br10 => absurd br10 (by decide))
  refine lv_aload_n hx hb d_Mo_apply_81 rfl (lv_at hl 1 rfl) ?_
  refine g_i (v := 1) Z kc_Mo hP hm.1 rfl 16 (by decide) wl_Mo_60 rfl rfl hk d_Mo_apply_82 ?_
  refine lv_iconst (v := 1) hx hb d_Mo_apply_85 (by decide) ?_
  refine lv_icmp_ne (tgt := 138) hx hb d_Mo_apply_86 rfl (fun br86 => absurd (rfl) br86) (fun br86 => ?_)
  refine lv_aload_n hx hb d_Mo_apply_89 rfl (lv_at hl 1 rfl) ?_
  refine g_f (v := .ref (m0 + 1)) Z kc_Mo hP hm.1 rfl 1 (by decide) wl_Mo_7 rfl rfl d_Mo_apply_90 ?_
  refine lv_iload_n hx hb d_Mo_apply_93 rfl (lv_at hl 2 rfl) ?_
  refine lv_dup2_11 hx hb d_Mo_apply_94 rfl rfl ?_
  refine la_ialdv (v := (nI n)) hx hb hK hP 0 hm.2.1 rfl rfl j rfl hj (by decide) hn d_Mo_apply_95 ?_
  refine lv_iconst (v := 1) hx hb d_Mo_apply_96 (by decide) ?_
  refine lv_isub hx hb d_Mo_apply_97 ?_
  rw [nI_s1 (by omega)]
  refine la_iast hx hb hK hP hS 0 hm.2.1 (fun _ => rfl) rfl j rfl hj (by decide) d_Mo_apply_98 (fun H locs hP hS => ?_)
  refine lv_iload_n hx hb d_Mo_apply_99 rfl (lv_at hl 0 rfl) ?_
  refine lv_aload_n hx hb d_Mo_apply_100 rfl (lv_at hl 1 rfl) ?_
  refine g_i (v := (nI q)) Z kc_Mo hP hm.1 rfl 17 (by decide) wl_Mo_63 rfl rfl ((congrFun (la_up_n (by omega)) 17).trans hq) d_Mo_apply_101 ?_
  refine lv_iadd hx hb d_Mo_apply_104 ?_
  rw [nI_add]
  refine lv_istore_n hx hb d_Mo_apply_105 rfl hl (by decide) rfl (fun ls hl => ?_)
  have hl : lv_has ls 4 [(3, .int (nI (200 * j + q))), (2, .int (nI (200 * j))), (0, .ref m0), (1, .int (nI j))] := hl
  exact loop (n - 1 - q) 0 H locs ls (by omega) (cvm hP (by rw [cpy_0, show (mu (m0 + 2)) = la_up mu (m0 + 1) j (nI (n - 1)) (m0 + 2) from (la_up_n (by omega)).symm, la_set_id])) hS hl
set_option maxHeartbeats 4000000 in
set_option maxRecDepth 100000 in
theorem c_Mo_apply_2 (l : Launch) (D : va_G) (E : Nat → ClassId) (La : la_L) {m0 : Nat} (hm : isMo E La m0) (mu : la_M) {j kd q n cx : Nat} (hj : j < 4) (hk : mu m0 16 = nI kd) (hq : mu m0 17 = nI q) (hx0 : mu m0 18 = nI cx) (hcx : cx < 65536) (hn : mu (m0 + 1) j = nI n) (h2 : n ≤ 64) (hz : ∀ i, chz (mu (m0 + 2) i)) (hk0 : kd = 2) : cw l y_Mo_apply b_Mo_apply 4 none 0 0 D E La [.ref m0, .int (nI j)] mu none (md_app mu m0 j 2 q n cx) := by
  refine cw_begin R_Mo (by decide) rfl (Nat.le_of_ble_eq_true rfl) ?_
  intro p e s m below meth c ls Z hr hlocks hP hS hl
  have hx := Z.1
  have hb := Z.2.1
  have hK : va_K D cls5 (tyE E) s := Z.2.2.2.2.2
  have hl : lv_has ls 4 [(0, .ref m0), (1, .int (nI j))] := hl
  have hk : mu m0 16 = 2 := by rw [hk, hk0]; rfl
  refine lv_sipush (v := 200) hx hb d_Mo_apply_0 (by decide) ?_
  refine lv_iload_n hx hb d_Mo_apply_3 rfl (lv_at hl 1 rfl) ?_
  refine lv_imul hx hb d_Mo_apply_4 ?_
  rw [show (200 : Int32) * nI j = nI (200 * j) from pk_mul 200 j]
  refine lv_istore_n hx hb d_Mo_apply_5 rfl hl (by decide) rfl (fun ls hl => ?_)
  have hl : lv_has ls 4 [(2, .int (nI (200 * j))), (0, .ref m0), (1, .int (nI j))] := hl
  refine lv_aload_n hx hb d_Mo_apply_6 rfl (lv_at hl 1 rfl) ?_
  refine g_i (v := 2) Z kc_Mo hP hm.1 rfl 16 (by decide) wl_Mo_60 rfl rfl hk d_Mo_apply_7 ?_
  refine lv_if_ne (tgt := 81) hx hb d_Mo_apply_10 rfl (fun br10 => ?_) (fun br10 => absurd br10 (by decide))
  refine lv_aload_n hx hb d_Mo_apply_81 rfl (lv_at hl 1 rfl) ?_
  refine g_i (v := 2) Z kc_Mo hP hm.1 rfl 16 (by decide) wl_Mo_60 rfl rfl hk d_Mo_apply_82 ?_
  refine lv_iconst (v := 1) hx hb d_Mo_apply_85 (by decide) ?_
  refine lv_icmp_ne (tgt := 138) hx hb d_Mo_apply_86 rfl (fun br86 => ?_) (fun br86 => absurd br86 (by decide))
  exact W.vret hx hb hr (fun t ht hW => ⟨rfl, by rw [ht]; exact cvm hP (by unfold md_app; rw [if_neg (by decide), if_neg (by decide)]), hS.F ht⟩) hS.2.2 d_Mo_apply_138
theorem c_Mo_apply (l : Launch) (D : va_G) (E : Nat → ClassId) (La : la_L) {m0 : Nat} (hm : isMo E La m0) (mu : la_M) {j kd q n cx : Nat} (hj : j < 4) (hk : mu m0 16 = nI kd) (hq : mu m0 17 = nI q) (hx0 : mu m0 18 = nI cx) (hcx : cx < 65536) (hn : mu (m0 + 1) j = nI n) (h2 : n ≤ 64) (hz : ∀ i, chz (mu (m0 + 2) i)) (hk3 : kd ≤ 2) (h0 : kd = 0 → q ≤ n) (h1 : kd = 1 → q < n) : cw l y_Mo_apply b_Mo_apply 4 none 0 0 D E La [.ref m0, .int (nI j)] mu none (md_app mu m0 j kd q n cx) := by
  rcases (show kd = 0 ∨ kd = 1 ∨ kd = 2 by omega) with rfl | rfl | rfl
  · exact c_Mo_apply_0 l D E La hm mu hj hk hq hx0 hcx hn h2 hz rfl (h0 rfl)
  · exact c_Mo_apply_1 l D E La hm mu hj hk hq hx0 hcx hn h2 hz rfl (h1 rfl)
  · exact c_Mo_apply_2 l D E La hm mu hj hk hq hx0 hcx hn h2 hz rfl
set_option maxHeartbeats 4000000 in
set_option maxRecDepth 100000 in
theorem c_Mo_send (l : Launch) (D : va_G) (E : Nat → ClassId) (La : la_L) {m0 : Nat} (hm : isMo E La m0) (mu : la_M) {L w0 o0 t0 : Nat} (hL : L < 6) (hw : mu (m0 + 5) L = nI w0) (hw4 : w0 < 40) (ho : mu (m0 + 11) L = nI o0) (ho4 : o0 < 40) (ht : mu (m0 + 3) L = nI t0) : cw l y_Mo_send b_Mo_send 4 none 1 20 D E La [.ref m0, .int (nI L)] mu none (md_send mu m0 L w0 o0 t0) := by
  refine cw_begin R_Mo (by decide) rfl (Nat.le_of_ble_eq_true rfl) ?_
  intro p e s m below meth c ls Z hr hlocks hP hS hl
  have hx := Z.1
  have hb := Z.2.1
  have hK : va_K D cls5 (tyE E) s := Z.2.2.2.2.2
  have hl : lv_has ls 4 [(0, .ref m0), (1, .int (nI L))] := hl
  refine lv_bipush (v := 40) hx hb d_Mo_send_0 (by decide) ?_
  refine lv_iload_n hx hb d_Mo_send_2 rfl (lv_at hl 1 rfl) ?_
  refine lv_imul hx hb d_Mo_send_3 ?_
  rw [show (40 : Int32) * nI L = nI (40 * L) from pk_mul 40 L]
  refine lv_aload_n hx hb d_Mo_send_4 rfl (lv_at hl 0 rfl) ?_
  refine g_f (v := .ref (m0 + 5)) Z kc_Mo hP hm.1 rfl 5 (by decide) wl_Mo_23 rfl rfl d_Mo_send_5 ?_
  refine lv_iload_n hx hb d_Mo_send_8 rfl (lv_at hl 1 rfl) ?_
  refine la_ialdv (v := (nI w0)) hx hb hK hP 0 hm.2.2.2.2.2.1 rfl rfl L rfl hL (by decide) hw d_Mo_send_9 ?_
  refine lv_iadd hx hb d_Mo_send_10 ?_
  rw [nI_add]
  refine lv_istore_n hx hb d_Mo_send_11 rfl hl (by decide) rfl (fun ls hl => ?_)
  have hl : lv_has ls 4 [(2, .int (nI (40 * L + w0))), (0, .ref m0), (1, .int (nI L))] := hl
  refine lv_aload_n hx hb d_Mo_send_12 rfl (lv_at hl 1 rfl) ?_
  refine g_f (v := .ref (m0 + 6)) Z kc_Mo hP hm.1 rfl 6 (by decide) wl_Mo_26 rfl rfl d_Mo_send_13 ?_
  refine lv_iload_n hx hb d_Mo_send_16 rfl (lv_at hl 0 rfl) ?_
  refine lv_aload_n hx hb d_Mo_send_17 rfl (lv_at hl 1 rfl) ?_
  refine g_f Z kc_Mo hP hm.1 rfl 16 (by decide) wl_Mo_60 rfl rfl d_Mo_send_18 ?_
  refine la_iast hx hb hK hP hS 0 hm.2.2.2.2.2.2.1 (fun _ => rfl) rfl (40 * L + w0) rfl (by omega) (by decide) d_Mo_send_21 (fun H locs hP hS => ?_)
  refine lv_aload_n hx hb d_Mo_send_22 rfl (lv_at hl 1 rfl) ?_
  refine g_f (v := .ref (m0 + 7)) Z kc_Mo hP hm.1 rfl 7 (by decide) wl_Mo_29 rfl rfl d_Mo_send_23 ?_
  refine lv_iload_n hx hb d_Mo_send_26 rfl (lv_at hl 0 rfl) ?_
  refine lv_aload_n hx hb d_Mo_send_27 rfl (lv_at hl 1 rfl) ?_
  refine g_i (v := (mu m0 17)) Z kc_Mo hP hm.1 rfl 17 (by decide) wl_Mo_63 rfl rfl (congrFun (la_up_n (by omega)) 17) d_Mo_send_28 ?_
  refine la_iast hx hb hK hP hS 0 hm.2.2.2.2.2.2.2.1 (fun _ => rfl) rfl (40 * L + w0) rfl (by omega) (by decide) d_Mo_send_31 (fun H locs hP hS => ?_)
  refine lv_aload_n hx hb d_Mo_send_32 rfl (lv_at hl 1 rfl) ?_
  refine g_f (v := .ref (m0 + 8)) Z kc_Mo hP hm.1 rfl 8 (by decide) wl_Mo_32 rfl rfl d_Mo_send_33 ?_
  refine lv_iload_n hx hb d_Mo_send_36 rfl (lv_at hl 0 rfl) ?_
  refine lv_aload_n hx hb d_Mo_send_37 rfl (lv_at hl 1 rfl) ?_
  refine g_i (v := (mu m0 18)) Z kc_Mo hP hm.1 rfl 18 (by decide) wl_Mo_66 rfl rfl ((congrFun (la_up_n (by omega)) 18).trans (congrFun (la_up_n (by omega)) 18)) d_Mo_send_38 ?_
  refine la_iast hx hb hK hP hS 0 hm.2.2.2.2.2.2.2.2.1 (fun _ => rfl) rfl (40 * L + w0) rfl (by omega) (by decide) d_Mo_send_41 (fun H locs hP hS => ?_)
  refine lv_aload_n hx hb d_Mo_send_42 rfl (lv_at hl 1 rfl) ?_
  refine g_f (v := .ref (m0 + 9)) Z kc_Mo hP hm.1 rfl 9 (by decide) wl_Mo_35 rfl rfl d_Mo_send_43 ?_
  refine lv_iload_n hx hb d_Mo_send_46 rfl (lv_at hl 0 rfl) ?_
  refine lv_aload_n hx hb d_Mo_send_47 rfl (lv_at hl 1 rfl) ?_
  refine g_i (v := (mu m0 19)) Z kc_Mo hP hm.1 rfl 19 (by decide) wl_Mo_69 rfl rfl ((congrFun (la_up_n (by omega)) 19).trans ((congrFun (la_up_n (by omega)) 19).trans (congrFun (la_up_n (by omega)) 19))) d_Mo_send_48 ?_
  refine la_iast hx hb hK hP hS 0 hm.2.2.2.2.2.2.2.2.2.1 (fun _ => rfl) rfl (40 * L + w0) rfl (by omega) (by decide) d_Mo_send_51 (fun H locs hP hS => ?_)
  refine lv_aload_n hx hb d_Mo_send_52 rfl (lv_at hl 1 rfl) ?_
  refine g_f (v := .ref (m0 + 10)) Z kc_Mo hP hm.1 rfl 10 (by decide) wl_Mo_38 rfl rfl d_Mo_send_53 ?_
  refine lv_iload_n hx hb d_Mo_send_56 rfl (lv_at hl 0 rfl) ?_
  refine lv_aload_n hx hb d_Mo_send_57 rfl (lv_at hl 1 rfl) ?_
  refine g_f (v := .ref (m0 + 4)) Z kc_Mo hP hm.1 rfl 4 (by decide) wl_Mo_20 rfl rfl d_Mo_send_58 ?_
  refine lv_iload_n hx hb d_Mo_send_61 rfl (lv_at hl 2 rfl) ?_
  refine cr_S Z ks_Mo_72 (c_Mo_back l D E La (la_up (la_up (la_up (la_up mu (m0 + 6) (40 * L + w0) (mu m0 16)) (m0 + 7) (40 * L + w0) (mu m0 17)) (m0 + 8) (40 * L + w0) (mu m0 18)) (m0 + 9) (40 * L + w0) (mu m0 19)) hL) hP [.ref (m0 + 4), .int (nI (40 * L + w0)), .ref (m0 + 10)] rfl rfl hl.1 (Nat.le_of_ble_eq_true rfl) ⟨by decide, by decide⟩ ⟨Nat.le_refl _, Nat.le_refl _⟩ d_Mo_send_62 ?_
  refine la_ialdv (v := (mu (m0 + 4) (bk L))) hx hb hK hP 0 hm.2.2.2.2.1 rfl rfl (bk L) rfl (bk_lt hL) (by decide) ((congrFun (la_up_n (by omega)) (bk L)).trans ((congrFun (la_up_n (by omega)) (bk L)).trans ((congrFun (la_up_n (by omega)) (bk L)).trans (congrFun (la_up_n (by omega)) (bk L))))) d_Mo_send_65 ?_
  refine la_iast hx hb hK hP hS 0 hm.2.2.2.2.2.2.2.2.2.2.1 (fun _ => rfl) rfl (40 * L + w0) rfl (by omega) (by decide) d_Mo_send_66 (fun H locs hP hS => ?_)
  refine lv_aload_n hx hb d_Mo_send_67 rfl (lv_at hl 1 rfl) ?_
  refine g_f (v := .ref (m0 + 5)) Z kc_Mo hP hm.1 rfl 5 (by decide) wl_Mo_23 rfl rfl d_Mo_send_68 ?_
  refine lv_iload_n hx hb d_Mo_send_71 rfl (lv_at hl 2 rfl) ?_
  refine lv_dup2_11 hx hb d_Mo_send_72 rfl rfl ?_
  refine la_ialdv (v := (nI w0)) hx hb hK hP 0 hm.2.2.2.2.2.1 rfl rfl L rfl hL (by decide) (((congrFun (la_up_n (by omega)) L).trans ((congrFun (la_up_n (by omega)) L).trans ((congrFun (la_up_n (by omega)) L).trans ((congrFun (la_up_n (by omega)) L).trans (congrFun (la_up_n (by omega)) L))))).trans hw) d_Mo_send_73 ?_
  refine lv_iconst (v := 1) hx hb d_Mo_send_74 (by decide) ?_
  refine lv_iadd hx hb d_Mo_send_75 ?_
  rw [nI_1]
  refine la_iast hx hb hK hP hS 0 hm.2.2.2.2.2.1 (fun _ => rfl) rfl L rfl hL (by decide) d_Mo_send_76 (fun H locs hP hS => ?_)
  refine lv_bipush (v := 40) hx hb d_Mo_send_77 (by decide) ?_
  refine lv_iload_n hx hb d_Mo_send_79 rfl (lv_at hl 2 rfl) ?_
  refine lv_imul hx hb d_Mo_send_80 ?_
  rw [show (40 : Int32) * nI L = nI (40 * L) from pk_mul 40 L]
  refine lv_aload_n hx hb d_Mo_send_81 rfl (lv_at hl 1 rfl) ?_
  refine g_f (v := .ref (m0 + 11)) Z kc_Mo hP hm.1 rfl 11 (by decide) wl_Mo_41 rfl rfl d_Mo_send_82 ?_
  refine lv_iload_n hx hb d_Mo_send_85 rfl (lv_at hl 2 rfl) ?_
  refine la_ialdv (v := (nI o0)) hx hb hK hP 0 hm.2.2.2.2.2.2.2.2.2.2.2.1 rfl rfl L rfl hL (by decide) (((congrFun (la_up_n (by omega)) L).trans ((congrFun (la_up_n (by omega)) L).trans ((congrFun (la_up_n (by omega)) L).trans ((congrFun (la_up_n (by omega)) L).trans ((congrFun (la_up_n (by omega)) L).trans (congrFun (la_up_n (by omega)) L)))))).trans ho) d_Mo_send_86 ?_
  refine lv_iadd hx hb d_Mo_send_87 ?_
  rw [nI_add]
  refine lv_istore_n hx hb d_Mo_send_88 rfl hl (by decide) rfl (fun ls hl => ?_)
  have hl : lv_has ls 4 [(3, .int (nI (40 * L + o0))), (2, .int (nI (40 * L + w0))), (0, .ref m0), (1, .int (nI L))] := hl
  refine lv_aload_n hx hb d_Mo_send_89 rfl (lv_at hl 2 rfl) ?_
  refine g_f (v := .ref (m0 + 12)) Z kc_Mo hP hm.1 rfl 12 (by decide) wl_Mo_44 rfl rfl d_Mo_send_90 ?_
  refine lv_iload_n hx hb d_Mo_send_93 rfl (lv_at hl 0 rfl) ?_
  refine lv_aload_n hx hb d_Mo_send_94 rfl (lv_at hl 2 rfl) ?_
  refine g_i (v := (mu m0 16)) Z kc_Mo hP hm.1 rfl 16 (by decide) wl_Mo_60 rfl rfl ((congrFun (la_up_n (by omega)) 16).trans ((congrFun (la_up_n (by omega)) 16).trans ((congrFun (la_up_n (by omega)) 16).trans ((congrFun (la_up_n (by omega)) 16).trans ((congrFun (la_up_n (by omega)) 16).trans (congrFun (la_up_n (by omega)) 16)))))) d_Mo_send_95 ?_
  refine la_iast hx hb hK hP hS 0 hm.2.2.2.2.2.2.2.2.2.2.2.2.1 (fun _ => rfl) rfl (40 * L + o0) rfl (by omega) (by decide) d_Mo_send_98 (fun H locs hP hS => ?_)
  refine lv_aload_n hx hb d_Mo_send_99 rfl (lv_at hl 2 rfl) ?_
  refine g_f (v := .ref (m0 + 13)) Z kc_Mo hP hm.1 rfl 13 (by decide) wl_Mo_47 rfl rfl d_Mo_send_100 ?_
  refine lv_iload_n hx hb d_Mo_send_103 rfl (lv_at hl 0 rfl) ?_
  refine lv_aload_n hx hb d_Mo_send_104 rfl (lv_at hl 2 rfl) ?_
  refine g_i (v := (mu m0 17)) Z kc_Mo hP hm.1 rfl 17 (by decide) wl_Mo_63 rfl rfl ((congrFun (la_up_n (by omega)) 17).trans ((congrFun (la_up_n (by omega)) 17).trans ((congrFun (la_up_n (by omega)) 17).trans ((congrFun (la_up_n (by omega)) 17).trans ((congrFun (la_up_n (by omega)) 17).trans ((congrFun (la_up_n (by omega)) 17).trans (congrFun (la_up_n (by omega)) 17))))))) d_Mo_send_105 ?_
  refine la_iast hx hb hK hP hS 0 hm.2.2.2.2.2.2.2.2.2.2.2.2.2.1 (fun _ => rfl) rfl (40 * L + o0) rfl (by omega) (by decide) d_Mo_send_108 (fun H locs hP hS => ?_)
  refine lv_aload_n hx hb d_Mo_send_109 rfl (lv_at hl 2 rfl) ?_
  refine g_f (v := .ref (m0 + 14)) Z kc_Mo hP hm.1 rfl 14 (by decide) wl_Mo_50 rfl rfl d_Mo_send_110 ?_
  refine lv_iload_n hx hb d_Mo_send_113 rfl (lv_at hl 0 rfl) ?_
  refine lv_aload_n hx hb d_Mo_send_114 rfl (lv_at hl 2 rfl) ?_
  refine g_i (v := (mu m0 18)) Z kc_Mo hP hm.1 rfl 18 (by decide) wl_Mo_66 rfl rfl ((congrFun (la_up_n (by omega)) 18).trans ((congrFun (la_up_n (by omega)) 18).trans ((congrFun (la_up_n (by omega)) 18).trans ((congrFun (la_up_n (by omega)) 18).trans ((congrFun (la_up_n (by omega)) 18).trans ((congrFun (la_up_n (by omega)) 18).trans ((congrFun (la_up_n (by omega)) 18).trans (congrFun (la_up_n (by omega)) 18)))))))) d_Mo_send_115 ?_
  refine la_iast hx hb hK hP hS 0 hm.2.2.2.2.2.2.2.2.2.2.2.2.2.2.1 (fun _ => rfl) rfl (40 * L + o0) rfl (by omega) (by decide) d_Mo_send_118 (fun H locs hP hS => ?_)
  refine lv_aload_n hx hb d_Mo_send_119 rfl (lv_at hl 2 rfl) ?_
  refine g_f (v := .ref (m0 + 15)) Z kc_Mo hP hm.1 rfl 15 (by decide) wl_Mo_53 rfl rfl d_Mo_send_120 ?_
  refine lv_iload_n hx hb d_Mo_send_123 rfl (lv_at hl 0 rfl) ?_
  refine lv_aload_n hx hb d_Mo_send_124 rfl (lv_at hl 2 rfl) ?_
  refine g_i (v := (mu m0 19)) Z kc_Mo hP hm.1 rfl 19 (by decide) wl_Mo_69 rfl rfl ((congrFun (la_up_n (by omega)) 19).trans ((congrFun (la_up_n (by omega)) 19).trans ((congrFun (la_up_n (by omega)) 19).trans ((congrFun (la_up_n (by omega)) 19).trans ((congrFun (la_up_n (by omega)) 19).trans ((congrFun (la_up_n (by omega)) 19).trans ((congrFun (la_up_n (by omega)) 19).trans ((congrFun (la_up_n (by omega)) 19).trans (congrFun (la_up_n (by omega)) 19))))))))) d_Mo_send_125 ?_
  refine la_iast hx hb hK hP hS 0 hm.2.2.2.2.2.2.2.2.2.2.2.2.2.2.2 (fun _ => rfl) rfl (40 * L + o0) rfl (by omega) (by decide) d_Mo_send_128 (fun H locs hP hS => ?_)
  refine lv_aload_n hx hb d_Mo_send_129 rfl (lv_at hl 2 rfl) ?_
  refine g_f (v := .ref (m0 + 11)) Z kc_Mo hP hm.1 rfl 11 (by decide) wl_Mo_41 rfl rfl d_Mo_send_130 ?_
  refine lv_iload_n hx hb d_Mo_send_133 rfl (lv_at hl 3 rfl) ?_
  refine lv_dup2_11 hx hb d_Mo_send_134 rfl rfl ?_
  refine la_ialdv (v := (nI o0)) hx hb hK hP 0 hm.2.2.2.2.2.2.2.2.2.2.2.1 rfl rfl L rfl hL (by decide) (((congrFun (la_up_n (by omega)) L).trans ((congrFun (la_up_n (by omega)) L).trans ((congrFun (la_up_n (by omega)) L).trans ((congrFun (la_up_n (by omega)) L).trans ((congrFun (la_up_n (by omega)) L).trans ((congrFun (la_up_n (by omega)) L).trans ((congrFun (la_up_n (by omega)) L).trans ((congrFun (la_up_n (by omega)) L).trans ((congrFun (la_up_n (by omega)) L).trans (congrFun (la_up_n (by omega)) L)))))))))).trans ho) d_Mo_send_135 ?_
  refine lv_iconst (v := 1) hx hb d_Mo_send_136 (by decide) ?_
  refine lv_iadd hx hb d_Mo_send_137 ?_
  rw [nI_1]
  refine la_iast hx hb hK hP hS 0 hm.2.2.2.2.2.2.2.2.2.2.2.1 (fun _ => rfl) rfl L rfl hL (by decide) d_Mo_send_138 (fun H locs hP hS => ?_)
  refine lv_aload_n hx hb d_Mo_send_139 rfl (lv_at hl 2 rfl) ?_
  refine g_f (v := .ref (m0 + 3)) Z kc_Mo hP hm.1 rfl 3 (by decide) wl_Mo_17 rfl rfl d_Mo_send_140 ?_
  refine lv_iload_n hx hb d_Mo_send_143 rfl (lv_at hl 3 rfl) ?_
  refine lv_dup2_11 hx hb d_Mo_send_144 rfl rfl ?_
  refine la_ialdv (v := (nI t0)) hx hb hK hP 0 hm.2.2.2.1 rfl rfl L rfl hL (by decide) (((congrFun (la_up_n (by omega)) L).trans ((congrFun (la_up_n (by omega)) L).trans ((congrFun (la_up_n (by omega)) L).trans ((congrFun (la_up_n (by omega)) L).trans ((congrFun (la_up_n (by omega)) L).trans ((congrFun (la_up_n (by omega)) L).trans ((congrFun (la_up_n (by omega)) L).trans ((congrFun (la_up_n (by omega)) L).trans ((congrFun (la_up_n (by omega)) L).trans ((congrFun (la_up_n (by omega)) L).trans (congrFun (la_up_n (by omega)) L))))))))))).trans ht) d_Mo_send_145 ?_
  refine lv_iconst (v := 1) hx hb d_Mo_send_146 (by decide) ?_
  refine lv_iadd hx hb d_Mo_send_147 ?_
  rw [nI_1]
  refine la_iast hx hb hK hP hS 0 hm.2.2.2.1 (fun _ => rfl) rfl L rfl hL (by decide) d_Mo_send_148 (fun H locs hP hS => ?_)
  exact W.vret hx hb hr (fun t ht hW => ⟨rfl, by rw [ht]; exact cvm hP (rfl), hS.F ht⟩) hS.2.2 d_Mo_send_149
