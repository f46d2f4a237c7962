/-! EditRelay$Text at a0, its letters at a0 + 1 (written by wip/whole/p11.py) -/
def tx_put (mu : la_M) (a0 q n : Nat) (x : Int32) : la_M := la_up (la_up (la_set mu (a0 + 1) (va_cpy (mu (a0 + 1)) (mu (a0 + 1)) q (q + 1) (n - q))) (a0 + 1) q x) a0 1 (nI (n + 1))
def tx_rem (mu : la_M) (a0 q n : Nat) : la_M := la_up (la_set mu (a0 + 1) (va_cpy (mu (a0 + 1)) (mu (a0 + 1)) (q + 1) q (n - q - 1))) a0 1 (nI (n - 1))
def tx_do (mu : la_M) (a0 k q n : Nat) (x : Int32) : la_M := if k = 0 then tx_put mu a0 q n x else if k = 1 then tx_rem mu a0 q n else mu
def isTx (E : Nat → ClassId) (La : la_L) (a0 : Nat) : Prop := La a0 = some (sh_Tx (a0 + 1)) ∧ La (a0 + 1) = some (sh_C E 64)
set_option maxHeartbeats 4000000 in
set_option maxRecDepth 100000 in
theorem c_Tx_put (l : Launch) (D : va_G) (E : Nat → ClassId) (La : la_L) {a0 : Nat} (ha : isTx E La a0) (mu : la_M) {q n : Nat} (hn : mu a0 1 = nI n) (h1 : q ≤ n) (h2 : n < 64) (x : Int32) (hx0 : chz x) (hz : ∀ j, chz (mu (a0 + 1) j)) : cw l y_Tx_put b_Tx_put 3 none 1 18 D E La [.ref a0, .int (nI q), .int x] mu none (tx_put mu a0 q n x) := by
  refine cw_begin R_Tx (by decide) rfl (Nat.le_of_ble_eq_true rfl) ?_
  intro p e s m below meth c ls Z hr hlocks hP hS hl
  have hx := Z.1
  have hb := Z.2.1
  have hK : va_K D cls5 (tyE E) s := Z.2.2.2.2.2
  have hl : lv_has ls 3 [(0, .ref a0), (1, .int (nI q)), (2, .int x)] := hl
  refine lv_iload_n hx hb d_Tx_put_0 rfl (lv_at hl 1 rfl) ?_
  refine lv_if_lt (tgt := 21) hx hb d_Tx_put_1 rfl (fun br1 => absurd br1 (nI_pos (by omega))) (fun br1 => ?_)
  refine lv_iload_n hx hb d_Tx_put_4 rfl (lv_at hl 1 rfl) ?_
  refine lv_aload_n hx hb d_Tx_put_5 rfl (lv_at hl 0 rfl) ?_
  refine g_i (v := (nI n)) Z kc_Tx hP ha.1 rfl 1 (by decide) wl_Tx_36 rfl rfl hn d_Tx_put_6 ?_
  refine lv_icmp_gt (tgt := 21) hx hb d_Tx_put_9 rfl (fun br9 => absurd br9 (nI_nlt h1 (by omega))) (fun br9 => ?_)
  refine lv_aload_n hx hb d_Tx_put_12 rfl (lv_at hl 0 rfl) ?_
  refine g_i (v := (nI n)) Z kc_Tx hP ha.1 rfl 1 (by decide) wl_Tx_36 rfl rfl hn d_Tx_put_13 ?_
  refine lv_bipush (v := 64) hx hb d_Tx_put_16 (by decide) ?_
  refine lv_icmp_lt (tgt := 22) hx hb d_Tx_put_18 rfl (fun br18 => ?_) (fun br18 => absurd (nI_lt (b := 64) h2 (by decide)) br18)
  refine lv_aload_n hx hb d_Tx_put_22 rfl (lv_at hl 0 rfl) ?_
  refine g_f (v := .ref (a0 + 1)) Z kc_Tx hP ha.1 rfl 0 (by decide) wl_Tx_9 rfl rfl d_Tx_put_23 ?_
  refine lv_iload_n hx hb d_Tx_put_26 rfl (lv_at hl 1 rfl) ?_
  refine lv_aload_n hx hb d_Tx_put_27 rfl (lv_at hl 0 rfl) ?_
  refine g_f (v := .ref (a0 + 1)) Z kc_Tx hP ha.1 rfl 0 (by decide) wl_Tx_9 rfl rfl d_Tx_put_28 ?_
  refine lv_iload_n hx hb d_Tx_put_31 rfl (lv_at hl 1 rfl) ?_
  refine lv_iconst (v := 1) hx hb d_Tx_put_32 (by decide) ?_
  refine lv_iadd hx hb d_Tx_put_33 ?_
  refine lv_aload_n hx hb d_Tx_put_34 rfl (lv_at hl 0 rfl) ?_
  refine g_i (v := (nI n)) Z kc_Tx hP ha.1 rfl 1 (by decide) wl_Tx_36 rfl rfl hn d_Tx_put_35 ?_
  refine lv_iload_n hx hb d_Tx_put_38 rfl (lv_at hl 1 rfl) ?_
  refine lv_isub hx hb d_Tx_put_39 ?_
  refine la_copyc Z wl_Tx_39 hP hS ha.2 (fun _ => rfl) q (q + 1) (n - q) rfl (nI_1 q) (pk_sub h1) (by omega) (by omega) (by decide) (fun j => (hz j).2) hl.1 (by decide) (Nat.le_of_ble_eq_true rfl) d_Tx_put_40 (fun H locs hP hS => ?_)
  refine lv_aload_n hx hb d_Tx_put_43 rfl (lv_at hl 0 rfl) ?_
  refine g_f (v := .ref (a0 + 1)) Z kc_Tx hP ha.1 rfl 0 (by decide) wl_Tx_9 rfl rfl d_Tx_put_44 ?_
  refine lv_iload_n hx hb d_Tx_put_47 rfl (lv_at hl 1 rfl) ?_
  refine lv_iload_n hx hb d_Tx_put_48 rfl (lv_at hl 2 rfl) ?_
  refine la_cast hx hb hK hP hS 1 ha.2 (fun _ => rfl) rfl (chz.nar hx0) q rfl (by omega) (by decide) d_Tx_put_49 (fun H locs hP hS => ?_)
  refine lv_aload_n hx hb d_Tx_put_50 rfl (lv_at hl 0 rfl) ?_
  refine lv_dup hx hb d_Tx_put_51 rfl ?_
  refine g_i (v := (nI n)) Z kc_Tx hP ha.1 rfl 1 (by decide) wl_Tx_36 rfl rfl (((congrFun (la_up_n (Nat.ne_of_lt (Nat.lt_succ_self a0))) 1).trans (congrFun (la_set_n (Nat.ne_of_lt (Nat.lt_succ_self a0))) 1)).trans hn) d_Tx_put_52 ?_
  refine lv_iconst (v := 1) hx hb d_Tx_put_55 (by decide) ?_
  refine lv_iadd hx hb d_Tx_put_56 ?_
  refine p_f Z kc_Tx hP hS ha.1 rfl 1 (by decide) wl_Tx_36 rfl rfl ⟨rfl, rfl⟩ (Nat.le_of_ble_eq_true rfl) rfl d_Tx_put_57 (fun H locs hP hS => ?_)
  exact W.vret hx hb hr (fun t ht hW => ⟨rfl, by rw [ht]; exact cvm hP (by simp only [tx_put, nI_1]), hS.F ht⟩) hS.2.2 d_Tx_put_60
set_option maxHeartbeats 4000000 in
set_option maxRecDepth 100000 in
theorem c_Tx_remove (l : Launch) (D : va_G) (E : Nat → ClassId) (La : la_L) {a0 : Nat} (ha : isTx E La a0) (mu : la_M) {q n : Nat} (hn : mu a0 1 = nI n) (h1 : q < n) (h2 : n ≤ 64) (hz : ∀ j, chz (mu (a0 + 1) j)) : cw l y_Tx_remove b_Tx_remove 2 none 1 18 D E La [.ref a0, .int (nI q)] mu none (tx_rem mu a0 q n) := by
  refine cw_begin R_Tx (by decide) rfl (Nat.le_of_ble_eq_true rfl) ?_
  intro p e s m below meth c ls Z hr hlocks hP hS hl
  have hx := Z.1
  have hb := Z.2.1
  have hK : va_K D cls5 (tyE E) s := Z.2.2.2.2.2
  have hl : lv_has ls 2 [(0, .ref a0), (1, .int (nI q))] := hl
  refine lv_iload_n hx hb d_Tx_remove_0 rfl (lv_at hl 1 rfl) ?_
  refine lv_if_lt (tgt := 12) hx hb d_Tx_remove_1 rfl (fun br1 => absurd br1 (nI_pos (by omega))) (fun br1 => ?_)
  refine lv_iload_n hx hb d_Tx_remove_4 rfl (lv_at hl 1 rfl) ?_
  refine lv_aload_n hx hb d_Tx_remove_5 rfl (lv_at hl 0 rfl) ?_
  refine g_i (v := (nI n)) Z kc_Tx hP ha.1 rfl 1 (by decide) wl_Tx_36 rfl rfl hn d_Tx_remove_6 ?_
  refine lv_icmp_lt (tgt := 13) hx hb d_Tx_remove_9 rfl (fun br9 => ?_) (fun br9 => absurd (nI_lt h1 (by omega)) br9)
  refine lv_aload_n hx hb d_Tx_remove_13 rfl (lv_at hl 0 rfl) ?_
  refine g_f (v := .ref (a0 + 1)) Z kc_Tx hP ha.1 rfl 0 (by decide) wl_Tx_9 rfl rfl d_Tx_remove_14 ?_
  refine lv_iload_n hx hb d_Tx_remove_17 rfl (lv_at hl 1 rfl) ?_
  refine lv_iconst (v := 1) hx hb d_Tx_remove_18 (by decide) ?_
  refine lv_iadd hx hb d_Tx_remove_19 ?_
  refine lv_aload_n hx hb d_Tx_remove_20 rfl (lv_at hl 0 rfl) ?_
  refine g_f (v := .ref (a0 + 1)) Z kc_Tx hP ha.1 rfl 0 (by decide) wl_Tx_9 rfl rfl d_Tx_remove_21 ?_
  refine lv_iload_n hx hb d_Tx_remove_24 rfl (lv_at hl 1 rfl) ?_
  refine lv_aload_n hx hb d_Tx_remove_25 rfl (lv_at hl 0 rfl) ?_
  refine g_i (v := (nI n)) Z kc_Tx hP ha.1 rfl 1 (by decide) wl_Tx_36 rfl rfl hn d_Tx_remove_26 ?_
  refine lv_iload_n hx hb d_Tx_remove_29 rfl (lv_at hl 1 rfl) ?_
  refine lv_isub hx hb d_Tx_remove_30 ?_
  refine lv_iconst (v := 1) hx hb d_Tx_remove_31 (by decide) ?_
  refine lv_isub hx hb d_Tx_remove_32 ?_
  refine la_copyc Z wl_Tx_39 hP hS ha.2 (fun _ => rfl) (q + 1) q (n - q - 1) (nI_1 q) rfl (by rw [pk_sub (Nat.le_of_lt h1), nI_s1 (by omega)]) (by omega) (by omega) (by decide) (fun j => (hz j).2) hl.1 (by decide) (Nat.le_of_ble_eq_true rfl) d_Tx_remove_33 (fun H locs hP hS => ?_)
  refine lv_aload_n hx hb d_Tx_remove_36 rfl (lv_at hl 0 rfl) ?_
  refine lv_dup hx hb d_Tx_remove_37 rfl ?_
  refine g_i (v := (nI n)) Z kc_Tx hP ha.1 rfl 1 (by decide) wl_Tx_36 rfl rfl ((congrFun (la_set_n (Nat.ne_of_lt (Nat.lt_succ_self a0))) 1).trans hn) d_Tx_remove_38 ?_
  refine lv_iconst (v := 1) hx hb d_Tx_remove_41 (by decide) ?_
  refine lv_isub hx hb d_Tx_remove_42 ?_
  refine p_f Z kc_Tx hP hS ha.1 rfl 1 (by decide) wl_Tx_36 rfl rfl ⟨rfl, rfl⟩ (Nat.le_of_ble_eq_true rfl) rfl d_Tx_remove_43 (fun H locs hP hS => ?_)
  exact W.vret hx hb hr (fun t ht hW => ⟨rfl, by rw [ht]; exact cvm hP (by rw [nI_s1 (by omega)]; rfl), hS.F ht⟩) hS.2.2 d_Tx_remove_46
set_option maxHeartbeats 4000000 in
set_option maxRecDepth 100000 in
theorem c_Tx_perform_0 (l : Launch) (D : va_G) (E : Nat → ClassId) (La : la_L) {a0 c0 : Nat} (ha : isTx E La a0) (hc0 : La c0 = some sh_Ch) (mu : la_M) {q n : Nat} (hn : mu a0 1 = nI n) (hk : mu c0 0 = 0) (hq : mu c0 1 = nI q) (h1 : q ≤ n) (h2 : n < 64) (hx0 : chz (mu c0 2)) (hz : ∀ j, chz (mu (a0 + 1) j)) : cw l y_Tx_perform b_Tx_perform 2 none 2 40 D E La [.ref a0, .ref c0] mu none (tx_put mu a0 q n (mu c0 2)) := by
  refine cw_begin R_Tx (by decide) rfl (Nat.le_of_ble_eq_true rfl) ?_
  intro p e s m below meth c ls Z hr hlocks hP hS hl
  have hx := Z.1
  have hb := Z.2.1
  have hK : va_K D cls5 (tyE E) s := Z.2.2.2.2.2
  have hl : lv_has ls 2 [(0, .ref a0), (1, .ref c0)] := hl
  refine lv_aload_n hx hb d_Tx_perform_0 rfl (lv_at hl 1 rfl) ?_
  refine g_i (v := 0) Z kc_Ch hP hc0 rfl 0 (by decide) wl_Tx_15 rfl rfl hk d_Tx_perform_1 ?_
  refine lv_if_ne (tgt := 22) hx hb d_Tx_perform_4 rfl (fun br4 => absurd (rfl) br4) (fun br4 => ?_)
  refine lv_aload_n hx hb d_Tx_perform_7 rfl (lv_at hl 0 rfl) ?_
  refine lv_aload_n hx hb d_Tx_perform_8 rfl (lv_at hl 1 rfl) ?_
  refine g_i (v := (nI q)) Z kc_Ch hP hc0 rfl 1 (by decide) wl_Tx_21 rfl rfl hq d_Tx_perform_9 ?_
  refine lv_aload_n hx hb d_Tx_perform_12 rfl (lv_at hl 1 rfl) ?_
  refine g_f Z kc_Ch hP hc0 rfl 2 (by decide) wl_Tx_24 rfl rfl d_Tx_perform_13 ?_
  refine cw_V Z kv_Tx_28 (c_Tx_put l D E La ha mu hn h1 h2 (mu c0 2) hx0 hz) hP hS (fun _ h => h) (la_recv hK hP kc_Tx ha.1 rfl) [] rfl rfl hl.1 (Nat.le_of_ble_eq_true rfl) ⟨by decide, by decide⟩ ⟨Nat.le_refl _, Nat.le_refl _⟩ d_Tx_perform_16 (fun H locs hP hkp hS => ?_)
  refine lv_goto (tgt := 38) hx hb d_Tx_perform_19 rfl ?_
  exact W.vret hx hb hr (fun t ht hW => ⟨rfl, by rw [ht]; exact cvm hP (rfl), hS.F ht⟩) hS.2.2 d_Tx_perform_38
set_option maxHeartbeats 4000000 in
set_option maxRecDepth 100000 in
theorem c_Tx_perform_1 (l : Launch) (D : va_G) (E : Nat → ClassId) (La : la_L) {a0 c0 : Nat} (ha : isTx E La a0) (hc0 : La c0 = some sh_Ch) (mu : la_M) {q n : Nat} (hn : mu a0 1 = nI n) (hk : mu c0 0 = 1) (hq : mu c0 1 = nI q) (h1 : q < n) (h2 : n ≤ 64) (hz : ∀ j, chz (mu (a0 + 1) j)) : cw l y_Tx_perform b_Tx_perform 2 none 2 40 D E La [.ref a0, .ref c0] mu none (tx_rem mu a0 q n) := by
  refine cw_begin R_Tx (by decide) rfl (Nat.le_of_ble_eq_true rfl) ?_
  intro p e s m below meth c ls Z hr hlocks hP hS hl
  have hx := Z.1
  have hb := Z.2.1
  have hK : va_K D cls5 (tyE E) s := Z.2.2.2.2.2
  have hl : lv_has ls 2 [(0, .ref a0), (1, .ref c0)] := hl
  refine lv_aload_n hx hb d_Tx_perform_0 rfl (lv_at hl 1 rfl) ?_
  refine g_i (v := 1) Z kc_Ch hP hc0 rfl 0 (by decide) wl_Tx_15 rfl rfl hk d_Tx_perform_1 ?_
  refine lv_if_ne (tgt := 22) hx hb d_Tx_perform_4 rfl (fun br4 => ?_) (fun br4 => absurd br4 (by decide))
  refine lv_aload_n hx hb d_Tx_perform_22 rfl (lv_at hl 1 rfl) ?_
  refine g_i (v := 1) Z kc_Ch hP hc0 rfl 0 (by decide) wl_Tx_15 rfl rfl hk d_Tx_perform_23 ?_
  refine lv_iconst (v := 1) hx hb d_Tx_perform_26 (by decide) ?_
  refine lv_icmp_ne (tgt := 38) hx hb d_Tx_perform_27 rfl (fun br27 => absurd (rfl) br27) (fun br27 => ?_)
  refine lv_aload_n hx hb d_Tx_perform_30 rfl (lv_at hl 0 rfl) ?_
  refine lv_aload_n hx hb d_Tx_perform_31 rfl (lv_at hl 1 rfl) ?_
  refine g_i (v := (nI q)) Z kc_Ch hP hc0 rfl 1 (by decide) wl_Tx_21 rfl rfl hq d_Tx_perform_32 ?_
  refine cw_V Z kv_Tx_32 (c_Tx_remove l D E La ha mu hn h1 h2 hz) hP hS (fun _ h => h) (la_recv hK hP kc_Tx ha.1 rfl) [] rfl rfl hl.1 (Nat.le_of_ble_eq_true rfl) ⟨by decide, by decide⟩ ⟨Nat.le_refl _, Nat.le_refl _⟩ d_Tx_perform_35 (fun H locs hP hkp hS => ?_)
  exact W.vret hx hb hr (fun t ht hW => ⟨rfl, by rw [ht]; exact cvm hP (rfl), hS.F ht⟩) hS.2.2 d_Tx_perform_38
set_option maxHeartbeats 4000000 in
set_option maxRecDepth 100000 in
theorem c_Tx_perform_2 (l : Launch) (D : va_G) (E : Nat → ClassId) (La : la_L) {a0 c0 : Nat} (ha : isTx E La a0) (hc0 : La c0 = some sh_Ch) (mu : la_M) {q n : Nat} (hn : mu a0 1 = nI n) (hk : mu c0 0 = 2) (hz : ∀ j, chz (mu (a0 + 1) j)) : cw l y_Tx_perform b_Tx_perform 2 none 2 40 D E La [.ref a0, .ref c0] mu none mu := by
  refine cw_begin R_Tx (by decide) rfl (Nat.le_of_ble_eq_true rfl) ?_
  intro p e s m below meth c ls Z hr hlocks hP hS hl
  have hx := Z.1
  have hb := Z.2.1
  have hK : va_K D cls5 (tyE E) s := Z.2.2.2.2.2
  have hl : lv_has ls 2 [(0, .ref a0), (1, .ref c0)] := hl
  refine lv_aload_n hx hb d_Tx_perform_0 rfl (lv_at hl 1 rfl) ?_
  refine g_i (v := 2) Z kc_Ch hP hc0 rfl 0 (by decide) wl_Tx_15 rfl rfl hk d_Tx_perform_1 ?_
  refine lv_if_ne (tgt := 22) hx hb d_Tx_perform_4 rfl (fun br4 => ?_) (fun br4 => absurd br4 (by decide))
  refine lv_aload_n hx hb d_Tx_perform_22 rfl (lv_at hl 1 rfl) ?_
  refine g_i (v := 2) Z kc_Ch hP hc0 rfl 0 (by decide) wl_Tx_15 rfl rfl hk d_Tx_perform_23 ?_
  refine lv_iconst (v := 1) hx hb d_Tx_perform_26 (by decide) ?_
  refine lv_icmp_ne (tgt := 38) hx hb d_Tx_perform_27 rfl (fun br27 => ?_) (fun br27 => absurd br27 (by decide))
  exact W.vret hx hb hr (fun t ht hW => ⟨rfl, by rw [ht]; exact cvm hP (rfl), hS.F ht⟩) hS.2.2 d_Tx_perform_38
/-- perform: a change of kind k at place q, valid on a text of n letters -/
theorem c_Tx_perform (l : Launch) (D : va_G) (E : Nat → ClassId) (La : la_L) {a0 c0 : Nat} (ha : isTx E La a0) (hc0 : La c0 = some sh_Ch) (mu : la_M) {k q n : Nat} (hn : mu a0 1 = nI n) (hk3 : k ≤ 2) (hk : mu c0 0 = nI k) (hq : mu c0 1 = nI q) (h0 : k = 0 → q ≤ n ∧ n < 64) (h1 : k = 1 → q < n) (h2 : n ≤ 64) (hx0 : chz (mu c0 2)) (hz : ∀ j, chz (mu (a0 + 1) j)) :
    cw l y_Tx_perform b_Tx_perform 2 none 2 40 D E La [.ref a0, .ref c0] mu none (tx_do mu a0 k q n (mu c0 2)) := by
  rcases (show k = 0 ∨ k = 1 ∨ k = 2 by omega) with rfl | rfl | rfl
  · exact c_Tx_perform_0 l D E La ha hc0 mu hn hk hq (h0 rfl).1 (h0 rfl).2 hx0 hz
  · exact c_Tx_perform_1 l D E La ha hc0 mu hn hk hq (h1 rfl) h2 hz
  · exact c_Tx_perform_2 (q := 0) l D E La ha hc0 mu hn hk hz
set_option maxHeartbeats 4000000 in
set_option maxRecDepth 100000 in
theorem c_Tx_isSameAs_n (l : Launch) (D : va_G) (E : Nat → ClassId) (La : la_L) {a0 b0 : Nat} (ha : isTx E La a0) (hb0 : isTx E La b0) (mu : la_M) {n n1 : Nat} (hn : mu a0 1 = nI n) (hn1 : mu b0 1 = nI n1) (h64 : n ≤ 64) (h641 : n1 ≤ 64) (hne : n ≠ n1) : cr l y_Tx_isSameAs b_Tx_isSameAs 3 (some .boolean) 0 0 D E La [.ref a0, .ref b0] mu (some (.int 0)) := by
  refine cr_begin R_Tx (by decide) rfl (Nat.le_of_ble_eq_true rfl) ?_
  intro p e s m below meth c ls Z hr hlocks hP hl
  have hx := Z.1
  have hb := Z.2.1
  have hK : va_K D cls5 (tyE E) s := Z.2.2.2.2.2
  have hl : lv_has ls 3 [(0, .ref a0), (1, .ref b0)] := hl
  refine lv_aload_n hx hb d_Tx_isSameAs_0 rfl (lv_at hl 0 rfl) ?_
  refine g_i (v := (nI n)) Z kc_Tx hP ha.1 rfl 1 (by decide) wl_Tx_36 rfl rfl hn d_Tx_isSameAs_1 ?_
  refine lv_aload_n hx hb d_Tx_isSameAs_4 rfl (lv_at hl 1 rfl) ?_
  refine g_i (v := (nI n1)) Z kc_Tx hP hb0.1 rfl 1 (by decide) wl_Tx_36 rfl rfl hn1 d_Tx_isSameAs_5 ?_
  refine lv_icmp_eq (tgt := 13) hx hb d_Tx_isSameAs_8 rfl (fun br8 => absurd br8 (fun h => hne ((nI_eq (by omega) (by omega)).mp h))) (fun br8 => ?_)
  refine lv_iconst (v := 0) hx hb d_Tx_isSameAs_11 (by decide) ?_
  exact W.zret hx hb hr (by decide) (fun t ht hW => ⟨rfl, ht⟩) (fun q h => by cases h) d_Tx_isSameAs_12
set_option maxHeartbeats 4000000 in
set_option maxRecDepth 100000 in
theorem c_Tx_isSameAs_y (l : Launch) (D : va_G) (E : Nat → ClassId) (La : la_L) {a0 b0 : Nat} (ha : isTx E La a0) (hb0 : isTx E La b0) (mu : la_M) {n n1 : Nat} (hn : mu a0 1 = nI n) (hn1 : mu b0 1 = nI n1) (h64 : n ≤ 64) (h641 : n1 ≤ 64) (he : n = n1) (heq : ∀ i, i < n → mu (a0 + 1) i = mu (b0 + 1) i) : cr l y_Tx_isSameAs b_Tx_isSameAs 3 (some .boolean) 0 0 D E La [.ref a0, .ref b0] mu (some (.int 1)) := by
  refine cr_begin R_Tx (by decide) rfl (Nat.le_of_ble_eq_true rfl) ?_
  intro p e s m below meth c ls Z hr hlocks hP hl
  have hx := Z.1
  have hb := Z.2.1
  have hK : va_K D cls5 (tyE E) s := Z.2.2.2.2.2
  have hl : lv_has ls 3 [(0, .ref a0), (1, .ref b0)] := hl
  have loop : ∀ (t i : Nat) (ls : Array Slot), i + t = n → lv_has ls 3 [(2, .int (nI i)), (0, .ref a0), (1, .ref b0)] → W p l e (rmm 0 0) s m ([.ref a0, .ref b0] : List Value).toArray below meth c s.heap [] 0 0 (MQ below (cr_Q (some (.int 1))) ([.ref a0, .ref b0] : List Value).toArray s 0 0 (fun _ => False)) (F0 m 15 ls []) := by
    intro t
    induction t with
    | zero =>
      intro i ls hi hl
      refine lv_iload_n hx hb d_Tx_isSameAs_15 rfl (lv_at hl 0 rfl) ?_
      refine lv_aload_n hx hb d_Tx_isSameAs_16 rfl (lv_at hl 1 rfl) ?_
      refine g_i (v := (nI n)) Z kc_Tx hP ha.1 rfl 1 (by decide) wl_Tx_36 rfl rfl hn d_Tx_isSameAs_17 ?_
      refine lv_icmp_ge (tgt := 46) hx hb d_Tx_isSameAs_20 rfl (fun br20 => ?_) (fun br20 => absurd (nI_le (by omega) (by omega)) br20)
      refine lv_iconst (v := 1) hx hb d_Tx_isSameAs_46 (by decide) ?_
      exact W.zret hx hb hr (by decide) (fun t ht hW => ⟨rfl, ht⟩) (fun q h => by cases h) d_Tx_isSameAs_47
    | succ t ih =>
      intro i ls hi hl
      refine lv_iload_n hx hb d_Tx_isSameAs_15 rfl (lv_at hl 0 rfl) ?_
      refine lv_aload_n hx hb d_Tx_isSameAs_16 rfl (lv_at hl 1 rfl) ?_
      refine g_i (v := (nI n)) Z kc_Tx hP ha.1 rfl 1 (by decide) wl_Tx_36 rfl rfl hn d_Tx_isSameAs_17 ?_
      refine lv_icmp_ge (tgt := 46) hx hb d_Tx_isSameAs_20 rfl (fun br20 => absurd br20 (nI_ge (by omega) (by omega))) (fun br20 => ?_)
      refine lv_aload_n hx hb d_Tx_isSameAs_23 rfl (lv_at hl 1 rfl) ?_
      refine g_f (v := .ref (a0 + 1)) Z kc_Tx hP ha.1 rfl 0 (by decide) wl_Tx_9 rfl rfl d_Tx_isSameAs_24 ?_
      refine lv_iload_n hx hb d_Tx_isSameAs_27 rfl (lv_at hl 0 rfl) ?_
      refine la_cald hx hb hK hP 1 ha.2 rfl rfl i rfl (by omega) (by decide) d_Tx_isSameAs_28 ?_
      refine lv_aload_n hx hb d_Tx_isSameAs_29 rfl (lv_at hl 2 rfl) ?_
      refine g_f (v := .ref (b0 + 1)) Z kc_Tx hP hb0.1 rfl 0 (by decide) wl_Tx_9 rfl rfl d_Tx_isSameAs_30 ?_
      refine lv_iload_n hx hb d_Tx_isSameAs_33 rfl (lv_at hl 0 rfl) ?_
      refine la_cald hx hb hK hP 1 hb0.2 rfl rfl i rfl (by omega) (by decide) d_Tx_isSameAs_34 ?_
      refine lv_icmp_eq (tgt := 40) hx hb d_Tx_isSameAs_35 rfl (fun br35 => ?_) (fun br35 => absurd (heq i (by omega)) br35)
      refine lv_iinc (k := 0) (v := (nI (i + 1))) hx hb d_Tx_isSameAs_40 hl rfl (nI_1 i) (by decide) rfl (fun ls hl => ?_)
      have hl : lv_has ls 3 [(2, .int (nI (i + 1))), (0, .ref a0), (1, .ref b0)] := hl
      refine lv_goto (tgt := 15) hx hb d_Tx_isSameAs_43 rfl ?_
      exact ih (i + 1) ls (by omega) hl
  refine lv_aload_n hx hb d_Tx_isSameAs_0 rfl (lv_at hl 0 rfl) ?_
  refine g_i (v := (nI n)) Z kc_Tx hP ha.1 rfl 1 (by decide) wl_Tx_36 rfl rfl hn d_Tx_isSameAs_1 ?_
  refine lv_aload_n hx hb d_Tx_isSameAs_4 rfl (lv_at hl 1 rfl) ?_
  refine g_i (v := (nI n1)) Z kc_Tx hP hb0.1 rfl 1 (by decide) wl_Tx_36 rfl rfl hn1 d_Tx_isSameAs_5 ?_
  refine lv_icmp_eq (tgt := 13) hx hb d_Tx_isSameAs_8 rfl (fun br8 => ?_) (fun br8 => absurd (by rw [he]) br8)
  refine lv_iconst (v := 0) hx hb d_Tx_isSameAs_13 (by decide) ?_
  refine lv_istore_n hx hb d_Tx_isSameAs_14 rfl hl (by decide) rfl (fun ls hl => ?_)
  have hl : lv_has ls 3 [(2, .int 0), (0, .ref a0), (1, .ref b0)] := hl
  exact loop n 0 ls (by omega) hl
set_option maxHeartbeats 4000000 in
set_option maxRecDepth 100000 in
theorem c_Tx_isSameAs_d (l : Launch) (D : va_G) (E : Nat → ClassId) (La : la_L) {a0 b0 : Nat} (ha : isTx E La a0) (hb0 : isTx E La b0) (mu : la_M) {n n1 : Nat} (hn : mu a0 1 = nI n) (hn1 : mu b0 1 = nI n1) (h64 : n ≤ 64) (h641 : n1 ≤ 64) (he : n = n1) (k : Nat) (hk : k < n) (heq : ∀ i, i < k → mu (a0 + 1) i = mu (b0 + 1) i) (hd : mu (a0 + 1) k ≠ mu (b0 + 1) k) : cr l y_Tx_isSameAs b_Tx_isSameAs 3 (some .boolean) 0 0 D E La [.ref a0, .ref b0] mu (some (.int 0)) := by
  refine cr_begin R_Tx (by decide) rfl (Nat.le_of_ble_eq_true rfl) ?_
  intro p e s m below meth c ls Z hr hlocks hP hl
  have hx := Z.1
  have hb := Z.2.1
  have hK : va_K D cls5 (tyE E) s := Z.2.2.2.2.2
  have hl : lv_has ls 3 [(0, .ref a0), (1, .ref b0)] := hl
  have loop : ∀ (t i : Nat) (ls : Array Slot), i + t = k → lv_has ls 3 [(2, .int (nI i)), (0, .ref a0), (1, .ref b0)] → W p l e (rmm 0 0) s m ([.ref a0, .ref b0] : List Value).toArray below meth c s.heap [] 0 0 (MQ below (cr_Q (some (.int 0))) ([.ref a0, .ref b0] : List Value).toArray s 0 0 (fun _ => False)) (F0 m 15 ls []) := by
    intro t
    induction t with
    | zero =>
      intro i ls hi hl
      have hik : i = k := by omega
      subst hik
      refine lv_iload_n hx hb d_Tx_isSameAs_15 rfl (lv_at hl 0 rfl) ?_
      refine lv_aload_n hx hb d_Tx_isSameAs_16 rfl (lv_at hl 1 rfl) ?_
      refine g_i (v := (nI n)) Z kc_Tx hP ha.1 rfl 1 (by decide) wl_Tx_36 rfl rfl hn d_Tx_isSameAs_17 ?_
      refine lv_icmp_ge (tgt := 46) hx hb d_Tx_isSameAs_20 rfl (fun br20 => absurd br20 (nI_ge hk (by omega))) (fun br20 => ?_)
      refine lv_aload_n hx hb d_Tx_isSameAs_23 rfl (lv_at hl 1 rfl) ?_
      refine g_f (v := .ref (a0 + 1)) Z kc_Tx hP ha.1 rfl 0 (by decide) wl_Tx_9 rfl rfl d_Tx_isSameAs_24 ?_
      refine lv_iload_n hx hb d_Tx_isSameAs_27 rfl (lv_at hl 0 rfl) ?_
      refine la_cald hx hb hK hP 1 ha.2 rfl rfl i rfl (by omega) (by decide) d_Tx_isSameAs_28 ?_
      refine lv_aload_n hx hb d_Tx_isSameAs_29 rfl (lv_at hl 2 rfl) ?_
      refine g_f (v := .ref (b0 + 1)) Z kc_Tx hP hb0.1 rfl 0 (by decide) wl_Tx_9 rfl rfl d_Tx_isSameAs_30 ?_
      refine lv_iload_n hx hb d_Tx_isSameAs_33 rfl (lv_at hl 0 rfl) ?_
      refine la_cald hx hb hK hP 1 hb0.2 rfl rfl i rfl (by omega) (by decide) d_Tx_isSameAs_34 ?_
      refine lv_icmp_eq (tgt := 40) hx hb d_Tx_isSameAs_35 rfl (fun br35 => absurd br35 (hd)) (fun br35 => ?_)
      refine lv_iconst (v := 0) hx hb d_Tx_isSameAs_38 (by decide) ?_
      exact W.zret hx hb hr (by decide) (fun t ht hW => ⟨rfl, ht⟩) (fun q h => by cases h) d_Tx_isSameAs_39
    | succ t ih =>
      intro i ls hi hl
      refine lv_iload_n hx hb d_Tx_isSameAs_15 rfl (lv_at hl 0 rfl) ?_
      refine lv_aload_n hx hb d_Tx_isSameAs_16 rfl (lv_at hl 1 rfl) ?_
      refine g_i (v := (nI n)) Z kc_Tx hP ha.1 rfl 1 (by decide) wl_Tx_36 rfl rfl hn d_Tx_isSameAs_17 ?_
      refine lv_icmp_ge (tgt := 46) hx hb d_Tx_isSameAs_20 rfl (fun br20 => absurd br20 (nI_ge (by omega) (by omega))) (fun br20 => ?_)
      refine lv_aload_n hx hb d_Tx_isSameAs_23 rfl (lv_at hl 1 rfl) ?_
      refine g_f (v := .ref (a0 + 1)) Z kc_Tx hP ha.1 rfl 0 (by decide) wl_Tx_9 rfl rfl d_Tx_isSameAs_24 ?_
      refine lv_iload_n hx hb d_Tx_isSameAs_27 rfl (lv_at hl 0 rfl) ?_
      refine la_cald hx hb hK hP 1 ha.2 rfl rfl i rfl (by omega) (by decide) d_Tx_isSameAs_28 ?_
      refine lv_aload_n hx hb d_Tx_isSameAs_29 rfl (lv_at hl 2 rfl) ?_
      refine g_f (v := .ref (b0 + 1)) Z kc_Tx hP hb0.1 rfl 0 (by decide) wl_Tx_9 rfl rfl d_Tx_isSameAs_30 ?_
      refine lv_iload_n hx hb d_Tx_isSameAs_33 rfl (lv_at hl 0 rfl) ?_
      refine la_cald hx hb hK hP 1 hb0.2 rfl rfl i rfl (by omega) (by decide) d_Tx_isSameAs_34 ?_
      refine lv_icmp_eq (tgt := 40) hx hb d_Tx_isSameAs_35 rfl (fun br35 => ?_) (fun br35 => absurd (heq i (by omega)) br35)
      refine lv_iinc (k := 0) (v := (nI (i + 1))) hx hb d_Tx_isSameAs_40 hl rfl (nI_1 i) (by decide) rfl (fun ls hl => ?_)
      have hl : lv_has ls 3 [(2, .int (nI (i + 1))), (0, .ref a0), (1, .ref b0)] := hl
      refine lv_goto (tgt := 15) hx hb d_Tx_isSameAs_43 rfl ?_
      exact ih (i + 1) ls (by omega) hl
  refine lv_aload_n hx hb d_Tx_isSameAs_0 rfl (lv_at hl 0 rfl) ?_
  refine g_i (v := (nI n)) Z kc_Tx hP ha.1 rfl 1 (by decide) wl_Tx_36 rfl rfl hn d_Tx_isSameAs_1 ?_
  refine lv_aload_n hx hb d_Tx_isSameAs_4 rfl (lv_at hl 1 rfl) ?_
  refine g_i (v := (nI n1)) Z kc_Tx hP hb0.1 rfl 1 (by decide) wl_Tx_36 rfl rfl hn1 d_Tx_isSameAs_5 ?_
  refine lv_icmp_eq (tgt := 13) hx hb d_Tx_isSameAs_8 rfl (fun br8 => ?_) (fun br8 => absurd (by rw [he]) br8)
  refine lv_iconst (v := 0) hx hb d_Tx_isSameAs_13 (by decide) ?_
  refine lv_istore_n hx hb d_Tx_isSameAs_14 rfl hl (by decide) rfl (fun ls hl => ?_)
  have hl : lv_has ls 3 [(2, .int 0), (0, .ref a0), (1, .ref b0)] := hl
  exact loop k 0 ls (by omega) hl
