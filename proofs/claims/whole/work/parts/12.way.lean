/-! Math.floorMod, Math.max; EditRelay$Way at w0 with room r: messages w0 + 1, opens w0 + 2, heards w0 + 3, then its changes (written by wip/whole/p12.py) -/
theorem xor_nn {a b : Nat} (ha : a < 2 ^ 31) (hb : b < 2 ^ 31) : 0 ≤ nI a ^^^ nI b := by
  have h : nI a ^^^ nI b = nI (a ^^^ b) := by
    apply Int32.toBitVec_inj.1
    show BitVec.ofNat 32 a ^^^ BitVec.ofNat 32 b = BitVec.ofNat 32 (a ^^^ b)
    apply BitVec.eq_of_getLsbD_eq
    intro i hi
    simp [hi]
  rw [h]
  exact nI_pos' (Nat.xor_lt_two_pow ha hb)
theorem ch_copy_n {mu : la_M} {d s q : Nat} (h : q ≠ d) : ch_copy mu d s q = mu q := by
  unfold ch_copy
  rw [la_up_n h, la_up_n h, la_up_n h, la_up_n h]
theorem la_up_id (mu : la_M) (a k : Nat) : la_up mu a k (mu a k) = mu := by
  funext q
  unfold la_up
  by_cases h : q = a
  · subst h
    rw [la_set_s]
    funext j
    by_cases hj : j = k
    · subst hj
      exact if_pos rfl
    · exact if_neg hj
  · rw [la_set_n h]
theorem ch_copy_id (mu : la_M) (a : Nat) : ch_copy mu a a = mu := by
  unfold ch_copy
  rw [la_up_id, la_up_id, la_up_id, la_up_id]
theorem ch_copy_s (mu : la_M) (d s : Nat) : ch_copy mu d s s = mu s := by
  by_cases h : s = d
  · subst h
    rw [ch_copy_id]
  · exact ch_copy_n h
theorem ch_ins_n {mu : la_M} {h q : Nat} {a b : Int32} (hq : q ≠ h) : ch_ins mu h a b q = mu q := by
  unfold ch_ins
  split
  · exact la_up_n hq
  · rfl
theorem ch_del_n {mu : la_M} {h q : Nat} {a : Int32} (hq : q ≠ h) : ch_del mu h a q = mu q := by
  unfold ch_del
  split
  · exact la_up_n hq
  · split
    · rw [la_up_n hq, la_up_n hq]
    · rfl
theorem ch_fit_n {mu : la_M} {h q : Nat} {k a b : Int32} (hq : q ≠ h) : ch_fit mu h k a b q = mu q := by
  unfold ch_fit
  split
  · rfl
  · split
    · exact ch_ins_n hq
    · split
      · exact ch_del_n hq
      · rfl
theorem ch_both_n {mu : la_M} {a b q : Nat} (ha : q ≠ a) (hb : q ≠ b) : ch_both mu a b q = mu q := by
  unfold ch_both
  rw [ch_fit_n hb, ch_fit_n ha]
def isWy (E : Nat → ClassId) (La : la_L) (w0 r : Nat) : Prop := La w0 = some (sh_Wy r (w0 + 1) (w0 + 2) (w0 + 3)) ∧ La (w0 + 1) = some (sh_R (E 5) r (fun k => w0 + 4 + 2 * k)) ∧ La (w0 + 2) = some (sh_R (E 5) r (fun k => w0 + 5 + 2 * k)) ∧ La (w0 + 3) = some (sh_I E r) ∧ (∀ k, k < r → La (w0 + 4 + 2 * k) = some sh_Ch ∧ La (w0 + 5 + 2 * k) = some sh_Ch) ∧ 0 < r ∧ r ≤ 24
def wy_send (mu : la_M) (w0 r c0 n : Nat) (x : Int32) : la_M := la_up (la_up (ch_copy (ch_copy mu (w0 + 4 + 2 * (n % r)) c0) (w0 + 5 + 2 * (n % r)) c0) (w0 + 3) (n % r) x) w0 4 (nI (n + 1))
def wy_fit (mu : la_M) (w0 r c0 k : Nat) : Nat → la_M
  | 0 => mu
  | t + 1 => ch_both (wy_fit mu w0 r c0 k t) c0 (w0 + 5 + 2 * ((k + t) % r))
theorem wy_fit_n {mu : la_M} {w0 r c0 k q : Nat} (hc : q ≠ c0) (ho : ∀ j, q ≠ w0 + 5 + 2 * j) : ∀ t, wy_fit mu w0 r c0 k t q = mu q := by
  intro t
  induction t with
  | zero => rfl
  | succ t ih =>
    show ch_both _ _ _ q = _
    rw [ch_both_n hc (ho _)]
    exact ih
set_option maxHeartbeats 4000000 in
set_option maxRecDepth 100000 in
theorem c_Ma_floorMod (l : Launch) (D : va_G) (E : Nat → ClassId) (La : la_L) (mu : la_M) {n r : Nat} (hn : n < 2 ^ 31) (h0 : 0 < r) (hr0 : r < 2 ^ 31) : cr l y_Ma_floorMod b_Ma_floorMod 3 (some .int) 0 0 D E La [.int (nI n), .int (nI r)] mu (some (.int (nI (n % r)))) := by
  refine cr_beginF R_Ma (by decide +kernel) rfl (Nat.le_of_ble_eq_true rfl) ?_
  intro p e s m below meth c ls Z hr hlocks hP hl
  have hx := Z.1
  have hb := Z.2.1
  have hK : va_K D cls5 (tyE E) s := Z.2.2.2.2.2
  have hl : lv_has ls 3 [(0, .int (nI n)), (1, .int (nI r))] := hl
  refine lv_iload_n hx hb d_Ma_floorMod_0 rfl (lv_at hl 0 rfl) ?_
  refine lv_iload_n hx hb d_Ma_floorMod_1 rfl (lv_at hl 1 rfl) ?_
  refine lv_irem hx hb d_Ma_floorMod_2 (nI_ne0 h0 hr0) ?_
  rw [pk_rem hn h0 hr0]
  refine lv_istore_n hx hb d_Ma_floorMod_3 rfl hl (by decide) rfl (fun ls hl => ?_)
  have hl : lv_has ls 3 [(2, .int (nI (n % r))), (0, .int (nI n)), (1, .int (nI r))] := hl
  refine lv_iload_n hx hb d_Ma_floorMod_4 rfl (lv_at hl 1 rfl) ?_
  refine lv_iload_n hx hb d_Ma_floorMod_5 rfl (lv_at hl 2 rfl) ?_
  refine lv_ixor hx hb d_Ma_floorMod_6 ?_
  refine lv_if_ge (tgt := 18) hx hb d_Ma_floorMod_7 rfl (fun br7 => ?_) (fun br7 => absurd (xor_nn hn hr0) br7)
  refine lv_iload_n hx hb d_Ma_floorMod_18 rfl (lv_at hl 0 rfl) ?_
  exact W.iret hx hb hr (fun t ht hW => ⟨rfl, ht⟩) (fun q h => by cases h) d_Ma_floorMod_19
set_option maxHeartbeats 4000000 in
set_option maxRecDepth 100000 in
theorem c_Ma_max (l : Launch) (D : va_G) (E : Nat → ClassId) (La : la_L) (mu : la_M) {a b : Nat} (ha : a < 2 ^ 31) (hb0 : b < 2 ^ 31) : cr l y_Ma_max b_Ma_max 2 (some .int) 0 0 D E La [.int (nI a), .int (nI b)] mu (some (.int (nI (max a b)))) := by
  refine cr_beginF R_Ma (by decide +kernel) rfl (Nat.le_of_ble_eq_true rfl) ?_
  intro p e s m below meth c ls Z hr hlocks hP hl
  have hx := Z.1
  have hb := Z.2.1
  have hK : va_K D cls5 (tyE E) s := Z.2.2.2.2.2
  have hl : lv_has ls 2 [(0, .int (nI a)), (1, .int (nI b))] := hl
  refine lv_iload_n hx hb d_Ma_max_0 rfl (lv_at hl 0 rfl) ?_
  refine lv_iload_n hx hb d_Ma_max_1 rfl (lv_at hl 1 rfl) ?_
  refine lv_icmp_lt (tgt := 9) hx hb d_Ma_max_2 rfl (fun br2 => ?_) (fun br2 => ?_)
  · skip
    refine lv_iload_n hx hb d_Ma_max_9 rfl (lv_at hl 1 rfl) ?_
    exact W.iret hx hb hr (fun t ht hW => ⟨by rw [Nat.max_eq_right (Nat.le_of_lt ((nI_ltI ha hb0).mp br2))], ht⟩) (fun q h => by cases h) d_Ma_max_10
  · skip
    refine lv_iload_n hx hb d_Ma_max_5 rfl (lv_at hl 0 rfl) ?_
    refine lv_goto (tgt := 10) hx hb d_Ma_max_6 rfl ?_
    exact W.iret hx hb hr (fun t ht hW => ⟨by rw [Nat.max_eq_left (Nat.le_of_not_lt (fun h9 => br2 ((nI_ltI ha hb0).mpr h9)))], ht⟩) (fun q h => by cases h) d_Ma_max_10
set_option maxHeartbeats 4000000 in
set_option maxRecDepth 100000 in
theorem c_Wy_slotOf (l : Launch) (D : va_G) (E : Nat → ClassId) (La : la_L) {w0 r : Nat} (hw : isWy E La w0 r) (mu : la_M) {n : Nat} (hn : n < 2 ^ 31) : cr l y_Wy_slotOf b_Wy_slotOf 2 (some .int) 1 22 D E La [.ref w0, .int (nI n)] mu (some (.int (nI (n % r)))) := by
  refine cr_begin R_Wy (by decide) rfl (Nat.le_of_ble_eq_true rfl) ?_
  intro p e s m below meth c ls Z hr hlocks hP hl
  have hx := Z.1
  have hb := Z.2.1
  have hK : va_K D cls5 (tyE E) s := Z.2.2.2.2.2
  have hl : lv_has ls 2 [(0, .ref w0), (1, .int (nI n))] := hl
  refine lv_iload_n hx hb d_Wy_slotOf_0 rfl (lv_at hl 1 rfl) ?_
  refine lv_aload_n hx hb d_Wy_slotOf_1 rfl (lv_at hl 0 rfl) ?_
  refine g_f (v := .int (nI r)) Z kc_Wy hP hw.1 rfl 0 (by decide) wl_Wy_7 rfl rfl d_Wy_slotOf_2 ?_
  refine cr_S Z ks_Wy_62 (c_Ma_floorMod l D E La mu hn hw.2.2.2.2.2.1 (Nat.lt_of_le_of_lt hw.2.2.2.2.2.2 (by decide))) hP [] rfl rfl hl.1 (Nat.le_of_ble_eq_true rfl) ⟨by decide, by decide⟩ ⟨Nat.le_refl _, Nat.le_refl _⟩ d_Wy_slotOf_5 ?_
  exact W.iret hx hb hr (fun t ht hW => ⟨rfl, ht⟩) (fun q h => by cases h) d_Wy_slotOf_8
set_option maxHeartbeats 4000000 in
set_option maxRecDepth 100000 in
theorem c_Wy_waitingCount (l : Launch) (D : va_G) (E : Nat → ClassId) (La : la_L) {w0 r : Nat} (hw : isWy E La w0 r) (mu : la_M) {a b : Nat} (h4 : mu w0 4 = nI a) (h5 : mu w0 6 = nI b) (hab : b ≤ a) : cr l y_Wy_waitingCount b_Wy_waitingCount 1 (some .int) 0 0 D E La [.ref w0] mu (some (.int (nI (a - b)))) := by
  refine cr_begin R_Wy (by decide) rfl (Nat.le_of_ble_eq_true rfl) ?_
  intro p e s m below meth c ls Z hr hlocks hP hl
  have hx := Z.1
  have hb := Z.2.1
  have hK : va_K D cls5 (tyE E) s := Z.2.2.2.2.2
  have hl : lv_has ls 1 [(0, .ref w0)] := hl
  refine lv_aload_n hx hb d_Wy_waitingCount_0 rfl (lv_at hl 0 rfl) ?_
  refine g_i (v := (nI a)) Z kc_Wy hP hw.1 rfl 4 (by decide) wl_Wy_27 rfl rfl h4 d_Wy_waitingCount_1 ?_
  refine lv_aload_n hx hb d_Wy_waitingCount_4 rfl (lv_at hl 0 rfl) ?_
  refine g_i (v := (nI b)) Z kc_Wy hP hw.1 rfl 6 (by decide) wl_Wy_30 rfl rfl h5 d_Wy_waitingCount_5 ?_
  refine lv_isub hx hb d_Wy_waitingCount_8 ?_
  exact W.iret hx hb hr (fun t ht hW => ⟨by rw [pk_sub hab], ht⟩) (fun q h => by cases h) d_Wy_waitingCount_9
set_option maxHeartbeats 4000000 in
set_option maxRecDepth 100000 in
theorem c_Wy_openCount (l : Launch) (D : va_G) (E : Nat → ClassId) (La : la_L) {w0 r : Nat} (hw : isWy E La w0 r) (mu : la_M) {a b : Nat} (h4 : mu w0 4 = nI a) (h5 : mu w0 5 = nI b) (hab : b ≤ a) : cr l y_Wy_openCount b_Wy_openCount 1 (some .int) 0 0 D E La [.ref w0] mu (some (.int (nI (a - b)))) := by
  refine cr_begin R_Wy (by decide) rfl (Nat.le_of_ble_eq_true rfl) ?_
  intro p e s m below meth c ls Z hr hlocks hP hl
  have hx := Z.1
  have hb := Z.2.1
  have hK : va_K D cls5 (tyE E) s := Z.2.2.2.2.2
  have hl : lv_has ls 1 [(0, .ref w0)] := hl
  refine lv_aload_n hx hb d_Wy_openCount_0 rfl (lv_at hl 0 rfl) ?_
  refine g_i (v := (nI a)) Z kc_Wy hP hw.1 rfl 4 (by decide) wl_Wy_27 rfl rfl h4 d_Wy_openCount_1 ?_
  refine lv_aload_n hx hb d_Wy_openCount_4 rfl (lv_at hl 0 rfl) ?_
  refine g_i (v := (nI b)) Z kc_Wy hP hw.1 rfl 5 (by decide) wl_Wy_33 rfl rfl h5 d_Wy_openCount_5 ?_
  refine lv_isub hx hb d_Wy_openCount_8 ?_
  exact W.iret hx hb hr (fun t ht hW => ⟨by rw [pk_sub hab], ht⟩) (fun q h => by cases h) d_Wy_openCount_9
set_option maxHeartbeats 4000000 in
set_option maxRecDepth 100000 in
theorem c_Wy_isFull_t (l : Launch) (D : va_G) (E : Nat → ClassId) (La : la_L) {w0 r : Nat} (hw : isWy E La w0 r) (mu : la_M) {a b : Nat} (h4 : mu w0 4 = nI a) (h5 : mu w0 5 = nI b) (hab : b ≤ a) (ha : a < 2 ^ 31) (hf : r ≤ a - b) : cr l y_Wy_isFull b_Wy_isFull 1 (some .boolean) 1 20 D E La [.ref w0] mu (some (.int 1)) := by
  refine cr_begin R_Wy (by decide) rfl (Nat.le_of_ble_eq_true rfl) ?_
  intro p e s m below meth c ls Z hr hlocks hP hl
  have hx := Z.1
  have hb := Z.2.1
  have hK : va_K D cls5 (tyE E) s := Z.2.2.2.2.2
  have hl : lv_has ls 1 [(0, .ref w0)] := hl
  refine lv_aload_n hx hb d_Wy_isFull_0 rfl (lv_at hl 0 rfl) ?_
  refine cr_V Z kv_Wy_36 (c_Wy_openCount l D E La hw mu h4 h5 hab) hP (la_recv hK hP kc_Wy hw.1 rfl) [] rfl rfl hl.1 (Nat.le_of_ble_eq_true rfl) ⟨by decide, by decide⟩ ⟨Nat.le_refl _, Nat.le_refl _⟩ d_Wy_isFull_1 ?_
  refine lv_aload_n hx hb d_Wy_isFull_4 rfl (lv_at hl 0 rfl) ?_
  refine g_f (v := .int (nI r)) Z kc_Wy hP hw.1 rfl 0 (by decide) wl_Wy_7 rfl rfl d_Wy_isFull_5 ?_
  refine lv_icmp_lt (tgt := 15) hx hb d_Wy_isFull_8 rfl (fun br8 => absurd br8 (nI_nlt hf (by omega))) (fun br8 => ?_)
  refine lv_iconst (v := 1) hx hb d_Wy_isFull_11 (by decide) ?_
  refine lv_goto (tgt := 16) hx hb d_Wy_isFull_12 rfl ?_
  exact W.zret hx hb hr (by decide) (fun t ht hW => ⟨rfl, ht⟩) (fun q h => by cases h) d_Wy_isFull_16
set_option maxHeartbeats 4000000 in
set_option maxRecDepth 100000 in
theorem c_Wy_isFull_f (l : Launch) (D : va_G) (E : Nat → ClassId) (La : la_L) {w0 r : Nat} (hw : isWy E La w0 r) (mu : la_M) {a b : Nat} (h4 : mu w0 4 = nI a) (h5 : mu w0 5 = nI b) (hab : b ≤ a) (ha : a < 2 ^ 31) (hf : a - b < r) : cr l y_Wy_isFull b_Wy_isFull 1 (some .boolean) 1 20 D E La [.ref w0] mu (some (.int 0)) := by
  refine cr_begin R_Wy (by decide) rfl (Nat.le_of_ble_eq_true rfl) ?_
  intro p e s m below meth c ls Z hr hlocks hP hl
  have hx := Z.1
  have hb := Z.2.1
  have hK : va_K D cls5 (tyE E) s := Z.2.2.2.2.2
  have hl : lv_has ls 1 [(0, .ref w0)] := hl
  refine lv_aload_n hx hb d_Wy_isFull_0 rfl (lv_at hl 0 rfl) ?_
  refine cr_V Z kv_Wy_36 (c_Wy_openCount l D E La hw mu h4 h5 hab) hP (la_recv hK hP kc_Wy hw.1 rfl) [] rfl rfl hl.1 (Nat.le_of_ble_eq_true rfl) ⟨by decide, by decide⟩ ⟨Nat.le_refl _, Nat.le_refl _⟩ d_Wy_isFull_1 ?_
  refine lv_aload_n hx hb d_Wy_isFull_4 rfl (lv_at hl 0 rfl) ?_
  refine g_f (v := .int (nI r)) Z kc_Wy hP hw.1 rfl 0 (by decide) wl_Wy_7 rfl rfl d_Wy_isFull_5 ?_
  refine lv_icmp_lt (tgt := 15) hx hb d_Wy_isFull_8 rfl (fun br8 => ?_) (fun br8 => absurd (nI_lt hf (Nat.lt_of_le_of_lt hw.2.2.2.2.2.2 (by decide))) br8)
  refine lv_iconst (v := 0) hx hb d_Wy_isFull_15 (by decide) ?_
  exact W.zret hx hb hr (by decide) (fun t ht hW => ⟨rfl, ht⟩) (fun q h => by cases h) d_Wy_isFull_16
set_option maxHeartbeats 4000000 in
set_option maxRecDepth 100000 in
theorem c_Wy_openChange (l : Launch) (D : va_G) (E : Nat → ClassId) (La : la_L) {w0 r : Nat} (hw : isWy E La w0 r) (mu : la_M) {k i0 : Nat} (h5 : mu w0 5 = nI k) (hk : k + i0 < 2 ^ 31) : cr l y_Wy_openChange b_Wy_openChange 2 (some (.object "EditRelay$Change")) 2 43 D E La [.ref w0, .int (nI i0)] mu (some (.ref (w0 + 5 + 2 * ((k + i0) % r)))) := by
  refine cr_begin R_Wy (by decide) rfl (Nat.le_of_ble_eq_true rfl) ?_
  intro p e s m below meth c ls Z hr hlocks hP hl
  have hx := Z.1
  have hb := Z.2.1
  have hK : va_K D cls5 (tyE E) s := Z.2.2.2.2.2
  have hl : lv_has ls 2 [(0, .ref w0), (1, .int (nI i0))] := hl
  refine lv_aload_n hx hb d_Wy_openChange_0 rfl (lv_at hl 0 rfl) ?_
  refine g_f (v := .ref (w0 + 2)) Z kc_Wy hP hw.1 rfl 2 (by decide) wl_Wy_19 rfl rfl d_Wy_openChange_1 ?_
  refine lv_aload_n hx hb d_Wy_openChange_4 rfl (lv_at hl 0 rfl) ?_
  refine lv_aload_n hx hb d_Wy_openChange_5 rfl (lv_at hl 0 rfl) ?_
  refine g_i (v := (nI k)) Z kc_Wy hP hw.1 rfl 5 (by decide) wl_Wy_33 rfl rfl h5 d_Wy_openChange_6 ?_
  refine lv_iload_n hx hb d_Wy_openChange_9 rfl (lv_at hl 1 rfl) ?_
  refine lv_iadd hx hb d_Wy_openChange_10 ?_
  rw [nI_add]
  refine cr_V Z kv_Wy_40 (c_Wy_slotOf l D E La hw mu hk) hP (la_recv hK hP kc_Wy hw.1 rfl) [.ref (w0 + 2)] rfl rfl hl.1 (Nat.le_of_ble_eq_true rfl) ⟨by decide, by decide⟩ ⟨Nat.le_refl _, Nat.le_refl _⟩ d_Wy_openChange_11 ?_
  refine la_aald (F := (fun k => w0 + 5 + 2 * k)) hx hb hK hP 5 hw.2.2.1 rfl rfl ((k + i0) % r) rfl (Nat.mod_lt _ hw.2.2.2.2.2.1) (Nat.lt_of_le_of_lt hw.2.2.2.2.2.2 (by decide)) d_Wy_openChange_14 ?_
  exact W.aret hx hb hr (Or.inl ⟨_, rfl⟩) (Or.inr ⟨_, rfl⟩) (fun t ht hW => ⟨rfl, ht⟩) (fun q h => by cases h) d_Wy_openChange_15
set_option maxHeartbeats 4000000 in
set_option maxRecDepth 100000 in
theorem c_Wy_oldestChange (l : Launch) (D : va_G) (E : Nat → ClassId) (La : la_L) {w0 r : Nat} (hw : isWy E La w0 r) (mu : la_M) {g : Nat} (h6 : mu w0 6 = nI g) (hg : g < 2 ^ 31) : cr l y_Wy_oldestChange b_Wy_oldestChange 1 (some (.object "EditRelay$Change")) 2 43 D E La [.ref w0] mu (some (.ref (w0 + 4 + 2 * (g % r)))) := by
  refine cr_begin R_Wy (by decide) rfl (Nat.le_of_ble_eq_true rfl) ?_
  intro p e s m below meth c ls Z hr hlocks hP hl
  have hx := Z.1
  have hb := Z.2.1
  have hK : va_K D cls5 (tyE E) s := Z.2.2.2.2.2
  have hl : lv_has ls 1 [(0, .ref w0)] := hl
  refine lv_aload_n hx hb d_Wy_oldestChange_0 rfl (lv_at hl 0 rfl) ?_
  refine g_f (v := .ref (w0 + 1)) Z kc_Wy hP hw.1 rfl 1 (by decide) wl_Wy_15 rfl rfl d_Wy_oldestChange_1 ?_
  refine lv_aload_n hx hb d_Wy_oldestChange_4 rfl (lv_at hl 0 rfl) ?_
  refine lv_aload_n hx hb d_Wy_oldestChange_5 rfl (lv_at hl 0 rfl) ?_
  refine g_i (v := (nI g)) Z kc_Wy hP hw.1 rfl 6 (by decide) wl_Wy_30 rfl rfl h6 d_Wy_oldestChange_6 ?_
  refine cr_V Z kv_Wy_40 (c_Wy_slotOf l D E La hw mu hg) hP (la_recv hK hP kc_Wy hw.1 rfl) [.ref (w0 + 1)] rfl rfl hl.1 (Nat.le_of_ble_eq_true rfl) ⟨by decide, by decide⟩ ⟨Nat.le_refl _, Nat.le_refl _⟩ d_Wy_oldestChange_9 ?_
  refine la_aald (F := (fun k => w0 + 4 + 2 * k)) hx hb hK hP 5 hw.2.1 rfl rfl (g % r) rfl (Nat.mod_lt _ hw.2.2.2.2.2.1) (Nat.lt_of_le_of_lt hw.2.2.2.2.2.2 (by decide)) d_Wy_oldestChange_12 ?_
  exact W.aret hx hb hr (Or.inl ⟨_, rfl⟩) (Or.inr ⟨_, rfl⟩) (fun t ht hW => ⟨rfl, ht⟩) (fun q h => by cases h) d_Wy_oldestChange_13
set_option maxHeartbeats 4000000 in
set_option maxRecDepth 100000 in
theorem c_Wy_oldestHeard (l : Launch) (D : va_G) (E : Nat → ClassId) (La : la_L) {w0 r : Nat} (hw : isWy E La w0 r) (mu : la_M) {g : Nat} (h6 : mu w0 6 = nI g) (hg : g < 2 ^ 31) : cr l y_Wy_oldestHeard b_Wy_oldestHeard 1 (some .int) 2 43 D E La [.ref w0] mu (some (.int (mu (w0 + 3) (g % r)))) := by
  refine cr_begin R_Wy (by decide) rfl (Nat.le_of_ble_eq_true rfl) ?_
  intro p e s m below meth c ls Z hr hlocks hP hl
  have hx := Z.1
  have hb := Z.2.1
  have hK : va_K D cls5 (tyE E) s := Z.2.2.2.2.2
  have hl : lv_has ls 1 [(0, .ref w0)] := hl
  refine lv_aload_n hx hb d_Wy_oldestHeard_0 rfl (lv_at hl 0 rfl) ?_
  refine g_f (v := .ref (w0 + 3)) Z kc_Wy hP hw.1 rfl 3 (by decide) wl_Wy_22 rfl rfl d_Wy_oldestHeard_1 ?_
  refine lv_aload_n hx hb d_Wy_oldestHeard_4 rfl (lv_at hl 0 rfl) ?_
  refine lv_aload_n hx hb d_Wy_oldestHeard_5 rfl (lv_at hl 0 rfl) ?_
  refine g_i (v := (nI g)) Z kc_Wy hP hw.1 rfl 6 (by decide) wl_Wy_30 rfl rfl h6 d_Wy_oldestHeard_6 ?_
  refine cr_V Z kv_Wy_40 (c_Wy_slotOf l D E La hw mu hg) hP (la_recv hK hP kc_Wy hw.1 rfl) [.ref (w0 + 3)] rfl rfl hl.1 (Nat.le_of_ble_eq_true rfl) ⟨by decide, by decide⟩ ⟨Nat.le_refl _, Nat.le_refl _⟩ d_Wy_oldestHeard_9 ?_
  refine la_iald hx hb hK hP 0 hw.2.2.2.1 rfl rfl (g % r) rfl (Nat.mod_lt _ hw.2.2.2.2.2.1) (Nat.lt_of_le_of_lt hw.2.2.2.2.2.2 (by decide)) d_Wy_oldestHeard_12 ?_
  exact W.iret hx hb hr (fun t ht hW => ⟨rfl, ht⟩) (fun q h => by cases h) d_Wy_oldestHeard_13
set_option maxHeartbeats 4000000 in
set_option maxRecDepth 100000 in
theorem c_Wy_forget (l : Launch) (D : va_G) (E : Nat → ClassId) (La : la_L) {w0 r : Nat} (hw : isWy E La w0 r) (mu : la_M) {k f0 : Nat} (h5 : mu w0 5 = nI k) (hk : k < 2 ^ 31) (hf : f0 < 2 ^ 31) : cw l y_Wy_forget b_Wy_forget 2 none 1 21 D E La [.ref w0, .int (nI f0)] mu none (la_up mu w0 5 (nI (max k f0))) := by
  refine cw_begin R_Wy (by decide) rfl (Nat.le_of_ble_eq_true rfl) ?_
  intro p e s m below meth c ls Z hr hlocks hP hS hl
  have hx := Z.1
  have hb := Z.2.1
  have hK : va_K D cls5 (tyE E) s := Z.2.2.2.2.2
  have hl : lv_has ls 2 [(0, .ref w0), (1, .int (nI f0))] := hl
  refine lv_aload_n hx hb d_Wy_forget_0 rfl (lv_at hl 0 rfl) ?_
  refine lv_aload_n hx hb d_Wy_forget_1 rfl (lv_at hl 0 rfl) ?_
  refine g_i (v := (nI k)) Z kc_Wy hP hw.1 rfl 5 (by decide) wl_Wy_33 rfl rfl h5 d_Wy_forget_2 ?_
  refine lv_iload_n hx hb d_Wy_forget_5 rfl (lv_at hl 1 rfl) ?_
  refine cr_S Z ks_Wy_48 (c_Ma_max l D E La mu hk hf) hP [.ref w0] rfl rfl hl.1 (Nat.le_of_ble_eq_true rfl) ⟨by decide, by decide⟩ ⟨Nat.le_refl _, Nat.le_refl _⟩ d_Wy_forget_6 ?_
  refine p_f Z kc_Wy hP hS hw.1 rfl 5 (by decide) wl_Wy_33 rfl rfl ⟨rfl, rfl⟩ (Nat.le_of_ble_eq_true rfl) rfl d_Wy_forget_9 (fun H locs hP hS => ?_)
  exact W.vret hx hb hr (fun t ht hW => ⟨rfl, by rw [ht]; exact cvm hP (rfl), hS.F ht⟩) hS.2.2 d_Wy_forget_12
set_option maxHeartbeats 4000000 in
set_option maxRecDepth 100000 in
theorem c_Wy_send (l : Launch) (D : va_G) (E : Nat → ClassId) (La : la_L) {w0 r : Nat} (hw : isWy E La w0 r) (mu : la_M) {c0 n : Nat} (hc0 : La c0 = some sh_Ch) (h4 : mu w0 4 = nI n) (hn : n < 2 ^ 31) (hz : chz (mu c0 2)) (x : Int32) : cw l y_Wy_send b_Wy_send 4 none 2 43 D E La [.ref w0, .ref c0, .int x] mu none (wy_send mu w0 r c0 n x) := by
  refine cw_begin R_Wy (by decide) rfl (Nat.le_of_ble_eq_true rfl) ?_
  intro p e s m below meth c ls Z hr hlocks hP hS hl
  have hx := Z.1
  have hb := Z.2.1
  have hK : va_K D cls5 (tyE E) s := Z.2.2.2.2.2
  have hl : lv_has ls 4 [(0, .ref w0), (1, .ref c0), (2, .int x)] := hl
  have e4 : (ch_copy (ch_copy mu (w0 + 4 + 2 * (n % r)) c0) (w0 + 5 + 2 * (n % r)) c0) w0 4 = nI n := by rw [ch_copy_n (by omega), ch_copy_n (by omega)]; exact h4
  have ez : chz ((ch_copy mu (w0 + 4 + 2 * (n % r)) c0) c0 2) := by rw [ch_copy_s]; exact hz
  refine lv_aload_n hx hb d_Wy_send_0 rfl (lv_at hl 0 rfl) ?_
  refine lv_aload_n hx hb d_Wy_send_1 rfl (lv_at hl 0 rfl) ?_
  refine g_i (v := (nI n)) Z kc_Wy hP hw.1 rfl 4 (by decide) wl_Wy_27 rfl rfl h4 d_Wy_send_2 ?_
  refine cr_V Z kv_Wy_40 (c_Wy_slotOf l D E La hw mu hn) hP (la_recv hK hP kc_Wy hw.1 rfl) [] rfl rfl hl.1 (Nat.le_of_ble_eq_true rfl) ⟨by decide, by decide⟩ ⟨Nat.le_refl _, Nat.le_refl _⟩ d_Wy_send_5 ?_
  refine lv_istore_n hx hb d_Wy_send_8 rfl hl (by decide) rfl (fun ls hl => ?_)
  have hl : lv_has ls 4 [(3, .int (nI (n % r))), (0, .ref w0), (1, .ref c0), (2, .int x)] := hl
  refine lv_aload_n hx hb d_Wy_send_9 rfl (lv_at hl 1 rfl) ?_
  refine g_f (v := .ref (w0 + 1)) Z kc_Wy hP hw.1 rfl 1 (by decide) wl_Wy_15 rfl rfl d_Wy_send_10 ?_
  refine lv_iload_n hx hb d_Wy_send_13 rfl (lv_at hl 0 rfl) ?_
  refine la_aald (F := (fun k => w0 + 4 + 2 * k)) hx hb hK hP 5 hw.2.1 rfl rfl (n % r) rfl (Nat.mod_lt _ hw.2.2.2.2.2.1) (Nat.lt_of_le_of_lt hw.2.2.2.2.2.2 (by decide)) d_Wy_send_14 ?_
  refine lv_aload_n hx hb d_Wy_send_15 rfl (lv_at hl 2 rfl) ?_
  refine cw_V Z kv_Wy_44 (c_Ch_copyFrom l D E La (hw.2.2.2.2.1 _ (Nat.mod_lt _ hw.2.2.2.2.2.1)).1 hc0 mu hz) hP hS (fun _ h => h) (la_recv hK hP kc_Ch (hw.2.2.2.2.1 _ (Nat.mod_lt _ hw.2.2.2.2.2.1)).1 rfl) [] rfl rfl hl.1 (Nat.le_of_ble_eq_true rfl) ⟨by decide, by decide⟩ ⟨Nat.le_refl _, Nat.le_refl _⟩ d_Wy_send_16 (fun H locs hP hkp hS => ?_)
  refine lv_aload_n hx hb d_Wy_send_19 rfl (lv_at hl 1 rfl) ?_
  refine g_f (v := .ref (w0 + 2)) Z kc_Wy hP hw.1 rfl 2 (by decide) wl_Wy_19 rfl rfl d_Wy_send_20 ?_
  refine lv_iload_n hx hb d_Wy_send_23 rfl (lv_at hl 0 rfl) ?_
  refine la_aald (F := (fun k => w0 + 5 + 2 * k)) hx hb hK hP 5 hw.2.2.1 rfl rfl (n % r) rfl (Nat.mod_lt _ hw.2.2.2.2.2.1) (Nat.lt_of_le_of_lt hw.2.2.2.2.2.2 (by decide)) d_Wy_send_24 ?_
  refine lv_aload_n hx hb d_Wy_send_25 rfl (lv_at hl 2 rfl) ?_
  refine cw_V Z kv_Wy_44 (c_Ch_copyFrom l D E La (hw.2.2.2.2.1 _ (Nat.mod_lt _ hw.2.2.2.2.2.1)).2 hc0 (ch_copy mu (w0 + 4 + 2 * (n % r)) c0) ez) hP hS (fun _ h => h) (la_recv hK hP kc_Ch (hw.2.2.2.2.1 _ (Nat.mod_lt _ hw.2.2.2.2.2.1)).2 rfl) [] rfl rfl hl.1 (Nat.le_of_ble_eq_true rfl) ⟨by decide, by decide⟩ ⟨Nat.le_refl _, Nat.le_refl _⟩ d_Wy_send_26 (fun H locs hP hkp hS => ?_)
  refine lv_aload_n hx hb d_Wy_send_29 rfl (lv_at hl 1 rfl) ?_
  refine g_f (v := .ref (w0 + 3)) Z kc_Wy hP hw.1 rfl 3 (by decide) wl_Wy_22 rfl rfl d_Wy_send_30 ?_
  refine lv_iload_n hx hb d_Wy_send_33 rfl (lv_at hl 0 rfl) ?_
  refine lv_iload_n hx hb d_Wy_send_34 rfl (lv_at hl 3 rfl) ?_
  refine la_iast hx hb hK hP hS 0 hw.2.2.2.1 (fun _ => rfl) rfl (n % r) rfl (Nat.mod_lt _ hw.2.2.2.2.2.1) (Nat.lt_of_le_of_lt hw.2.2.2.2.2.2 (by decide)) d_Wy_send_35 (fun H locs hP hS => ?_)
  refine lv_aload_n hx hb d_Wy_send_36 rfl (lv_at hl 1 rfl) ?_
  refine lv_dup hx hb d_Wy_send_37 rfl ?_
  refine g_i (v := (nI n)) Z kc_Wy hP hw.1 rfl 4 (by decide) wl_Wy_27 rfl rfl ((congrFun (la_up_n (Nat.ne_of_lt (by omega))) 4).trans e4) d_Wy_send_38 ?_
  refine lv_iconst (v := 1) hx hb d_Wy_send_41 (by decide) ?_
  refine lv_iadd hx hb d_Wy_send_42 ?_
  refine p_f Z kc_Wy hP hS hw.1 rfl 4 (by decide) wl_Wy_27 rfl rfl ⟨rfl, rfl⟩ (Nat.le_of_ble_eq_true rfl) rfl d_Wy_send_43 (fun H locs hP hS => ?_)
  exact W.vret hx hb hr (fun t ht hW => ⟨rfl, by rw [ht]; exact cvm hP (by simp only [wy_send, nI_1]), hS.F ht⟩) hS.2.2 d_Wy_send_46
set_option maxHeartbeats 4000000 in
set_option maxRecDepth 100000 in
theorem c_Wy_fitOpenChanges (l : Launch) (D : va_G) (E : Nat → ClassId) (La : la_L) {w0 r : Nat} (hw : isWy E La w0 r) (mu : la_M) {c0 a k : Nat} (hc0 : La c0 = some sh_Ch) (hcw : w0 ≠ c0) (h4 : mu w0 4 = nI a) (h5 : mu w0 5 = nI k) (hka : k ≤ a) (ha : a < 2 ^ 31) : cw l y_Wy_fitOpenChanges b_Wy_fitOpenChanges 4 none 3 69 D E La [.ref w0, .ref c0] mu none (wy_fit mu w0 r c0 k (a - k)) := by
  refine cw_begin R_Wy (by decide) rfl (Nat.le_of_ble_eq_true rfl) ?_
  intro p e s m below meth c ls Z hr hlocks hP hS hl
  have hx := Z.1
  have hb := Z.2.1
  have hK : va_K D cls5 (tyE E) s := Z.2.2.2.2.2
  have hl : lv_has ls 4 [(0, .ref w0), (1, .ref c0)] := hl
  have e5 : ∀ i, wy_fit mu w0 r c0 k i w0 5 = nI k := fun i => by rw [wy_fit_n hcw (fun j => by omega)]; exact h5
  have loop : ∀ (t i : Nat) (H : Heap) (locs : List Loc) (ls : Array Slot), i + t = a - k → la_P D cls5 La (wy_fit mu w0 r c0 k i) H → va_S (la_A La) s.heap H locs → lv_has ls 4 [(3, .int (nI i)), (2, .int (nI (a - k))), (0, .ref w0), (1, .ref c0)] → W p l e (rmm 3 69) s m ([.ref w0, .ref c0] : List Value).toArray below meth c H locs 0 0 (MQ below (cw_Q none (la_P D cls5 La (wy_fit mu w0 r c0 k (a - k))) (la_A La)) ([.ref w0, .ref c0] : List Value).toArray s 0 0 (la_A La)) (F0 m 7 ls []) := by
    intro t
    induction t with
    | zero =>
      intro i H locs ls hi hP hS hl
      have hia : i = a - k := by omega
      subst hia
      refine lv_iload_n hx hb d_Wy_fitOpenChanges_7 rfl (lv_at hl 0 rfl) ?_
      refine lv_iload_n hx hb d_Wy_fitOpenChanges_8 rfl (lv_at hl 1 rfl) ?_
      refine lv_icmp_ge (tgt := 27) hx hb d_Wy_fitOpenChanges_9 rfl (fun br9 => ?_) (fun br9 => absurd (nI_le (Nat.le_refl _) (by omega)) br9)
      exact W.vret hx hb hr (fun t ht hW => ⟨rfl, by rw [ht]; exact cvm hP (rfl), hS.F ht⟩) hS.2.2 d_Wy_fitOpenChanges_27
    | succ t ih =>
      intro i H locs ls hi hP hS hl
      refine lv_iload_n hx hb d_Wy_fitOpenChanges_7 rfl (lv_at hl 0 rfl) ?_
      refine lv_iload_n hx hb d_Wy_fitOpenChanges_8 rfl (lv_at hl 1 rfl) ?_
      refine lv_icmp_ge (tgt := 27) hx hb d_Wy_fitOpenChanges_9 rfl (fun br9 => absurd br9 (nI_ge (by omega) (by omega))) (fun br9 => ?_)
      refine lv_aload_n hx hb d_Wy_fitOpenChanges_12 rfl (lv_at hl 3 rfl) ?_
      refine lv_aload_n hx hb d_Wy_fitOpenChanges_13 rfl (lv_at hl 2 rfl) ?_
      refine lv_iload_n hx hb d_Wy_fitOpenChanges_14 rfl (lv_at hl 0 rfl) ?_
      refine cr_V Z kv_Wy_54 (c_Wy_openChange l D E La hw (wy_fit mu w0 r c0 k i) (e5 i) (by omega)) hP (la_recv hK hP kc_Wy hw.1 rfl) [.ref c0] rfl rfl hl.1 (Nat.le_of_ble_eq_true rfl) ⟨by decide, by decide⟩ ⟨Nat.le_refl _, Nat.le_refl _⟩ d_Wy_fitOpenChanges_15 ?_
      refine cw_S Z ks_Wy_58 (c_Ch_fitToEachOther l D E La hc0 (hw.2.2.2.2.1 _ (Nat.mod_lt _ hw.2.2.2.2.2.1)).2 (wy_fit mu w0 r c0 k i)) hP hS (fun _ h => h) [] rfl rfl hl.1 (Nat.le_of_ble_eq_true rfl) ⟨by decide, by decide⟩ ⟨Nat.le_refl _, Nat.le_refl _⟩ d_Wy_fitOpenChanges_18 (fun H locs hP hkp hS => ?_)
      refine lv_iinc (k := 0) (v := (nI (i + 1))) hx hb d_Wy_fitOpenChanges_21 hl rfl (nI_1 i) (by decide) rfl (fun ls hl => ?_)
      have hl : lv_has ls 4 [(3, .int (nI (i + 1))), (2, .int (nI (a - k))), (0, .ref w0), (1, .ref c0)] := hl
      refine lv_goto (tgt := 7) hx hb d_Wy_fitOpenChanges_24 rfl ?_
      exact ih (i + 1) H locs ls (by omega) hP hS hl
  refine lv_aload_n hx hb d_Wy_fitOpenChanges_0 rfl (lv_at hl 0 rfl) ?_
  refine cr_V Z kv_Wy_36 (c_Wy_openCount l D E La hw mu h4 h5 hka) hP (la_recv hK hP kc_Wy hw.1 rfl) [] rfl rfl hl.1 (Nat.le_of_ble_eq_true rfl) ⟨by decide, by decide⟩ ⟨Nat.le_refl _, Nat.le_refl _⟩ d_Wy_fitOpenChanges_1 ?_
  refine lv_istore_n hx hb d_Wy_fitOpenChanges_4 rfl hl (by decide) rfl (fun ls hl => ?_)
  have hl : lv_has ls 4 [(2, .int (nI (a - k))), (0, .ref w0), (1, .ref c0)] := hl
  refine lv_iconst (v := 0) hx hb d_Wy_fitOpenChanges_5 (by decide) ?_
  refine lv_istore_n hx hb d_Wy_fitOpenChanges_6 rfl hl (by decide) rfl (fun ls hl => ?_)
  have hl : lv_has ls 4 [(3, .int 0), (2, .int (nI (a - k))), (0, .ref w0), (1, .ref c0)] := hl
  exact loop (a - k) 0 s.heap [] ls (by omega) hP hS hl
