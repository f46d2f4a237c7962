/-! The reference's begin, loaded, public methods (written by wip/whole/p17.py) -/
theorem la_up_up {mu : la_M} {a k : Nat} {v w : Int32} : la_up (la_up mu a k v) a k w = la_up mu a k w := by
  funext z
  by_cases h : z = a
  · subst h
    rw [la_up_at, la_up_at, la_up_at]
    funext j
    by_cases hj : j = k
    · subst hj
      rw [pk_us, pk_us]
    · rw [pk_un hj, pk_un hj, pk_un hj]
  · rw [la_up_n h, la_up_n h, la_up_n h]
def md_bgn (mu : la_M) (m0 k kd q n cx w o t : Nat) : la_M := md_send (md_app (md_beg mu m0 kd q (nI cx) (k + 1)) m0 (k + 1) kd q n cx) m0 (2 * k) w o t
theorem md_beg_n {mu : la_M} {m0 kd q o z : Nat} {x : Int32} (h : z ≠ m0) : md_beg mu m0 kd q x o z = mu z := by
  unfold md_beg
  rw [la_up_n h, la_up_n h, la_up_n h, la_up_n h]
theorem md_app_1 {mu : la_M} {m0 j kd q n cx : Nat} (hn : mu (m0 + 1) j = nI n) : md_app mu m0 j kd q n cx (m0 + 1) j = nI (if kd = 0 then n + 1 else if kd = 1 then n - 1 else n) := by
  unfold md_app
  by_cases h0 : kd = 0
  · rw [if_pos h0, if_pos h0]
    exact la_up_s
  · rw [if_neg h0, if_neg h0]
    by_cases h1 : kd = 1
    · rw [if_pos h1, if_pos h1, la_set_n (by omega)]
      exact la_up_s
    · rw [if_neg h1, if_neg h1]
      exact hn
theorem md_send_1 {mu : la_M} {m0 L w o t z : Nat} (h3 : z ≠ m0 + 3) (h5 : z ≠ m0 + 5) (h6 : z ≠ m0 + 6) (h7 : z ≠ m0 + 7) (h8 : z ≠ m0 + 8) (h9 : z ≠ m0 + 9) (h10 : z ≠ m0 + 10) (h11 : z ≠ m0 + 11) (h12 : z ≠ m0 + 12) (h13 : z ≠ m0 + 13) (h14 : z ≠ m0 + 14) (h15 : z ≠ m0 + 15) : md_send mu m0 L w o t z = mu z := by
  unfold md_send
  rw [la_up_n h3, la_up_n h11, la_up_n h15, la_up_n h14, la_up_n h13, la_up_n h12, la_up_n h5, la_up_n h10, la_up_n h9, la_up_n h8, la_up_n h7, la_up_n h6]
set_option maxHeartbeats 4000000 in
set_option maxRecDepth 100000 in
theorem c_Mo_loaded_t (l : Launch) (D : va_G) (E : Nat → ClassId) (La : la_L) {m0 : Nat} (hm : isMo E La m0) (mu : la_M) {k : Nat} (hk : k < 3) {o0 : Nat} (ho : mu (m0 + 11) (2 * k) = nI o0) (ho3 : o0 < 2 ^ 31) (hf : 16 ≤ o0) : cr l y_Mo_loaded b_Mo_loaded 2 (some .boolean) 1 21 D E La [.ref m0, .int (nI (k + 1))] mu (some (.int 1)) := by
  refine cr_begin R_Mo (by decide) rfl (Nat.le_of_ble_eq_true rfl) ?_
  intro p e s m below meth c ls Z hr hlocks hP hl
  have hx := Z.1
  have hb := Z.2.1
  have hK : va_K D cls5 (tyE E) s := Z.2.2.2.2.2
  have hl : lv_has ls 2 [(0, .ref m0), (1, .int (nI (k + 1)))] := hl
  refine lv_aload_n hx hb d_Mo_loaded_0 rfl (lv_at hl 0 rfl) ?_
  refine g_f (v := .ref (m0 + 11)) Z kc_Mo hP hm.1 rfl 11 (by decide) wl_Mo_41 rfl rfl d_Mo_loaded_1 ?_
  refine lv_iload_n hx hb d_Mo_loaded_4 rfl (lv_at hl 1 rfl) ?_
  refine lv_iconst (v := 1) hx hb d_Mo_loaded_5 (by decide) ?_
  refine cr_S Z ks_Mo_87 (c_Mo_line_u l D E La mu (k := k) (u := 1) (by decide)) hP [.ref (m0 + 11)] rfl rfl hl.1 (Nat.le_of_ble_eq_true rfl) ⟨by decide, by decide⟩ ⟨Nat.le_refl _, Nat.le_refl _⟩ d_Mo_loaded_6 ?_
  refine la_ialdv (v := (nI o0)) hx hb hK hP 0 hm.2.2.2.2.2.2.2.2.2.2.2.1 rfl rfl (2 * k) rfl (by omega) (by decide) ho d_Mo_loaded_9 ?_
  refine lv_bipush (v := 16) hx hb d_Mo_loaded_10 (by decide) ?_
  refine lv_icmp_lt (tgt := 19) hx hb d_Mo_loaded_12 rfl (fun br12 => absurd br12 (nI_nlt (b := 16) hf (by omega))) (fun br12 => ?_)
  refine lv_iconst (v := 1) hx hb d_Mo_loaded_15 (by decide) ?_
  refine lv_goto (tgt := 20) hx hb d_Mo_loaded_16 rfl ?_
  exact W.zret hx hb hr (by decide) (fun t ht hW => ⟨rfl, ht⟩) (fun q h => by cases h) d_Mo_loaded_20
set_option maxHeartbeats 4000000 in
set_option maxRecDepth 100000 in
theorem c_Mo_loaded_f (l : Launch) (D : va_G) (E : Nat → ClassId) (La : la_L) {m0 : Nat} (hm : isMo E La m0) (mu : la_M) {k : Nat} (hk : k < 3) {o0 : Nat} (ho : mu (m0 + 11) (2 * k) = nI o0) (ho3 : o0 < 2 ^ 31) (hf : o0 < 16) : cr l y_Mo_loaded b_Mo_loaded 2 (some .boolean) 1 21 D E La [.ref m0, .int (nI (k + 1))] mu (some (.int 0)) := by
  refine cr_begin R_Mo (by decide) rfl (Nat.le_of_ble_eq_true rfl) ?_
  intro p e s m below meth c ls Z hr hlocks hP hl
  have hx := Z.1
  have hb := Z.2.1
  have hK : va_K D cls5 (tyE E) s := Z.2.2.2.2.2
  have hl : lv_has ls 2 [(0, .ref m0), (1, .int (nI (k + 1)))] := hl
  refine lv_aload_n hx hb d_Mo_loaded_0 rfl (lv_at hl 0 rfl) ?_
  refine g_f (v := .ref (m0 + 11)) Z kc_Mo hP hm.1 rfl 11 (by decide) wl_Mo_41 rfl rfl d_Mo_loaded_1 ?_
  refine lv_iload_n hx hb d_Mo_loaded_4 rfl (lv_at hl 1 rfl) ?_
  refine lv_iconst (v := 1) hx hb d_Mo_loaded_5 (by decide) ?_
  refine cr_S Z ks_Mo_87 (c_Mo_line_u l D E La mu (k := k) (u := 1) (by decide)) hP [.ref (m0 + 11)] rfl rfl hl.1 (Nat.le_of_ble_eq_true rfl) ⟨by decide, by decide⟩ ⟨Nat.le_refl _, Nat.le_refl _⟩ d_Mo_loaded_6 ?_
  refine la_ialdv (v := (nI o0)) hx hb hK hP 0 hm.2.2.2.2.2.2.2.2.2.2.2.1 rfl rfl (2 * k) rfl (by omega) (by decide) ho d_Mo_loaded_9 ?_
  refine lv_bipush (v := 16) hx hb d_Mo_loaded_10 (by decide) ?_
  refine lv_icmp_lt (tgt := 19) hx hb d_Mo_loaded_12 rfl (fun br12 => ?_) (fun br12 => absurd (nI_lt (b := 16) hf (by decide)) br12)
  refine lv_iconst (v := 0) hx hb d_Mo_loaded_19 (by decide) ?_
  exact W.zret hx hb hr (by decide) (fun t ht hW => ⟨rfl, ht⟩) (fun q h => by cases h) d_Mo_loaded_20
set_option maxHeartbeats 4000000 in
set_option maxRecDepth 100000 in
theorem c_Mo_begin (l : Launch) (D : va_G) (E : Nat → ClassId) (La : la_L) {m0 : Nat} (hm : isMo E La m0) (mu : la_M) {k : Nat} (hk : k < 3) {kd q n cx w0 o0 t0 : Nat} (hcx : cx < 65536) (hn : mu (m0 + 1) (k + 1) = nI n) (h2 : n ≤ 64) (hz : ∀ i, chz (mu (m0 + 2) i)) (hk3 : kd ≤ 2) (hk0 : kd = 0 → q ≤ n) (hk1 : kd = 1 → q < n) (hw : mu (m0 + 5) (2 * k) = nI w0) (hw4 : w0 < 40) (ho : mu (m0 + 11) (2 * k) = nI o0) (ho4 : o0 < 40) (ht : mu (m0 + 3) (2 * k) = nI t0)  : cw l y_Mo_begin b_Mo_begin 5 none 2 43 D E La [.ref m0, .int (nI (k + 1)), .int (nI kd), .int (nI q), .int (nI cx)] mu none (md_bgn mu m0 k kd q n cx w0 o0 t0) := by
  refine cw_begin R_Mo (by decide) rfl (Nat.le_of_ble_eq_true rfl) ?_
  intro p e s m below meth c ls Z hr hlocks hP hS hl
  have hx := Z.1
  have hb := Z.2.1
  have hK : va_K D cls5 (tyE E) s := Z.2.2.2.2.2
  have hl : lv_has ls 5 [(0, .ref m0), (1, .int (nI (k + 1))), (2, .int (nI kd)), (3, .int (nI q)), (4, .int (nI cx))] := hl
  have hA := c_Mo_apply l D E La hm (md_beg mu m0 kd q (nI cx) (k + 1)) (j := k + 1) (kd := kd) (q := q) (n := n) (cx := cx) (by omega) (by simp [md_beg, la_up_s, la_up_k]) (by simp [md_beg, la_up_s, la_up_k]) (by simp [md_beg, la_up_s, la_up_k]) hcx (by rw [md_beg_n (by omega)]; exact hn) h2 (fun i => by rw [md_beg_n (by omega)]; exact hz i) hk3 hk0 hk1
  have f5 := (show (md_app (md_beg mu m0 kd q (nI cx) (k + 1)) m0 (k + 1) kd q n cx) (m0 + 5) (2 * k) = nI w0 by rw [md_app_n (by omega) (by omega), md_beg_n (by omega)]; exact hw)
  have f11 := (show (md_app (md_beg mu m0 kd q (nI cx) (k + 1)) m0 (k + 1) kd q n cx) (m0 + 11) (2 * k) = nI o0 by rw [md_app_n (by omega) (by omega), md_beg_n (by omega)]; exact ho)
  have f3 := (show (md_app (md_beg mu m0 kd q (nI cx) (k + 1)) m0 (k + 1) kd q n cx) (m0 + 3) (2 * k) = nI t0 by rw [md_app_n (by omega) (by omega), md_beg_n (by omega)]; exact ht)
  refine lv_aload_n hx hb d_Mo_begin_0 rfl (lv_at hl 0 rfl) ?_
  refine lv_iload_n hx hb d_Mo_begin_1 rfl (lv_at hl 2 rfl) ?_
  refine p_f Z kc_Mo hP hS hm.1 rfl 16 (by decide) wl_Mo_60 rfl rfl ⟨rfl, rfl⟩ (Nat.le_of_ble_eq_true rfl) rfl d_Mo_begin_2 (fun H locs hP hS => ?_)
  refine lv_aload_n hx hb d_Mo_begin_5 rfl (lv_at hl 0 rfl) ?_
  refine lv_iload_n hx hb d_Mo_begin_6 rfl (lv_at hl 3 rfl) ?_
  refine p_f Z kc_Mo hP hS hm.1 rfl 17 (by decide) wl_Mo_63 rfl rfl ⟨rfl, rfl⟩ (Nat.le_of_ble_eq_true rfl) rfl d_Mo_begin_7 (fun H locs hP hS => ?_)
  refine lv_aload_n hx hb d_Mo_begin_10 rfl (lv_at hl 0 rfl) ?_
  refine lv_iload hx hb d_Mo_begin_11 (lv_at hl 4 rfl) ?_
  refine p_f Z kc_Mo hP hS hm.1 rfl 18 (by decide) wl_Mo_66 rfl rfl ⟨rfl, rfl⟩ (Nat.le_of_ble_eq_true rfl) rfl d_Mo_begin_13 (fun H locs hP hS => ?_)
  refine lv_aload_n hx hb d_Mo_begin_16 rfl (lv_at hl 0 rfl) ?_
  refine lv_iload_n hx hb d_Mo_begin_17 rfl (lv_at hl 1 rfl) ?_
  refine p_f Z kc_Mo hP hS hm.1 rfl 19 (by decide) wl_Mo_69 rfl rfl ⟨rfl, rfl⟩ (Nat.le_of_ble_eq_true rfl) rfl d_Mo_begin_18 (fun H locs hP hS => ?_)
  refine lv_aload_n hx hb d_Mo_begin_21 rfl (lv_at hl 0 rfl) ?_
  refine lv_iload_n hx hb d_Mo_begin_22 rfl (lv_at hl 1 rfl) ?_
  refine cw_V Z kv_Mo_84 (hA) hP hS (fun _ h => h) (la_recv hK hP kc_Mo hm.1 rfl) [] rfl rfl hl.1 (Nat.le_of_ble_eq_true rfl) ⟨by decide, by decide⟩ ⟨Nat.le_refl _, Nat.le_refl _⟩ d_Mo_begin_23 (fun H locs hP hkp hS => ?_)
  refine lv_aload_n hx hb d_Mo_begin_26 rfl (lv_at hl 0 rfl) ?_
  refine lv_iload_n hx hb d_Mo_begin_27 rfl (lv_at hl 1 rfl) ?_
  refine lv_iconst (v := 1) hx hb d_Mo_begin_28 (by decide) ?_
  refine cr_S Z ks_Mo_87 (c_Mo_line_u l D E La (md_app (md_beg mu m0 kd q (nI cx) (k + 1)) m0 (k + 1) kd q n cx) (k := k) (u := 1) (by decide)) hP [.ref m0] rfl rfl hl.1 (Nat.le_of_ble_eq_true rfl) ⟨by decide, by decide⟩ ⟨Nat.le_refl _, Nat.le_refl _⟩ d_Mo_begin_29 ?_
  refine cw_V Z kv_Mo_91 (c_Mo_send l D E La hm (md_app (md_beg mu m0 kd q (nI cx) (k + 1)) m0 (k + 1) kd q n cx) (by omega) f5 hw4 f11 ho4 f3) hP hS (fun _ h => h) (la_recv hK hP kc_Mo hm.1 rfl) [] rfl rfl hl.1 (Nat.le_of_ble_eq_true rfl) ⟨by decide, by decide⟩ ⟨Nat.le_refl _, Nat.le_refl _⟩ d_Mo_begin_32 (fun H locs hP hkp hS => ?_)
  exact W.vret hx hb hr (fun t ht hW => ⟨rfl, by rw [ht]; exact cvm hP (rfl), hS.F ht⟩) hS.2.2 d_Mo_begin_35
set_option maxHeartbeats 4000000 in
set_option maxRecDepth 100000 in
theorem c_Mo_insert_1 (l : Launch) (D : va_G) (E : Nat → ClassId) (La : la_L) {m0 : Nat} (hm : isMo E La m0) (mu : la_M) {cl at0 x : Int32} (hc : cl < 1 ∨ 3 < cl) : cw l y_Mo_insert b_Mo_insert 5 (some .int) 3 67 D E La [.ref m0, .int cl, .int at0, .int x] mu (some (.int 0)) (la_up mu m0 0 1) := by
  refine cw_begin R_Mo (by decide) rfl (Nat.le_of_ble_eq_true rfl) ?_
  intro p e s m below meth c ls Z hr hlocks hP hS hl
  have hx := Z.1
  have hb := Z.2.1
  have hK : va_K D cls5 (tyE E) s := Z.2.2.2.2.2
  have hl : lv_has ls 5 [(0, .ref m0), (1, .int cl), (2, .int at0), (3, .int x)] := hl
  refine lv_iload_n hx hb d_Mo_insert_0 rfl (lv_at hl 1 rfl) ?_
  refine cr_S Z ks_Mo_94 (c_Mo_isClient_n l D E La mu hc) hP [] rfl rfl hl.1 (Nat.le_of_ble_eq_true rfl) ⟨by decide, by decide⟩ ⟨Nat.le_refl _, Nat.le_refl _⟩ d_Mo_insert_1 ?_
  refine lv_if_eq (tgt := 19) hx hb d_Mo_insert_4 rfl (fun br4 => ?_) (fun br4 => absurd (by decide) br4)
  refine lv_iconst (v := 1) hx hb d_Mo_insert_19 (by decide) ?_
  refine lv_goto (tgt := 24) hx hb d_Mo_insert_20 rfl ?_
  refine lv_istore hx hb d_Mo_insert_24 hl (by decide) rfl (fun ls hl => ?_)
  have hl : lv_has ls 5 [(4, .int 1), (0, .ref m0), (1, .int cl), (2, .int at0), (3, .int x)] := hl
  refine lv_aload_n hx hb d_Mo_insert_26 rfl (lv_at hl 1 rfl) ?_
  refine lv_iload hx hb d_Mo_insert_27 (lv_at hl 0 rfl) ?_
  refine lv_if_eq (tgt := 36) hx hb d_Mo_insert_29 rfl (fun br29 => absurd br29 (by decide)) (fun br29 => ?_)
  refine lv_iconst (v := 1) hx hb d_Mo_insert_32 (by decide) ?_
  refine lv_goto (tgt := 78) hx hb d_Mo_insert_33 rfl ?_
  refine p_f Z kc_Mo hP hS hm.1 rfl 0 (by decide) wl_Mo_56 rfl rfl ⟨rfl, rfl⟩ (Nat.le_of_ble_eq_true rfl) rfl d_Mo_insert_78 (fun H locs hP hS => ?_)
  refine lv_aload_n hx hb d_Mo_insert_81 rfl (lv_at hl 1 rfl) ?_
  refine g_i (v := 1) Z kc_Mo hP hm.1 rfl 0 (by decide) wl_Mo_56 rfl rfl la_up_s d_Mo_insert_82 ?_
  refine lv_if_eq (tgt := 90) hx hb d_Mo_insert_85 rfl (fun br85 => absurd br85 (by decide)) (fun br85 => ?_)
  refine lv_iconst (v := 0) hx hb d_Mo_insert_88 (by decide) ?_
  exact W.iret hx hb hr (fun t ht hW => ⟨rfl, by rw [ht]; exact cvm hP (rfl), hS.F ht⟩) hS.2.2 d_Mo_insert_89
set_option maxHeartbeats 4000000 in
set_option maxRecDepth 100000 in
theorem c_Mo_insert_1x (l : Launch) (D : va_G) (E : Nat → ClassId) (La : la_L) {m0 : Nat} (hm : isMo E La m0) (mu : la_M) {k : Nat} (hk : k < 3) {at0 x : Int32} (hx9 : x < 32 ∨ 126 < x) : cw l y_Mo_insert b_Mo_insert 5 (some .int) 3 67 D E La [.ref m0, .int (nI (k + 1)), .int at0, .int x] mu (some (.int 0)) (la_up mu m0 0 1) := by
  refine cw_begin R_Mo (by decide) rfl (Nat.le_of_ble_eq_true rfl) ?_
  intro p e s m below meth c ls Z hr hlocks hP hS hl
  have hx := Z.1
  have hb := Z.2.1
  have hK : va_K D cls5 (tyE E) s := Z.2.2.2.2.2
  have hl : lv_has ls 5 [(0, .ref m0), (1, .int (nI (k + 1))), (2, .int at0), (3, .int x)] := hl
  refine lv_iload_n hx hb d_Mo_insert_0 rfl (lv_at hl 1 rfl) ?_
  refine cr_S Z ks_Mo_94 (c_Mo_isClient_y l D E La mu hk) hP [] rfl rfl hl.1 (Nat.le_of_ble_eq_true rfl) ⟨by decide, by decide⟩ ⟨Nat.le_refl _, Nat.le_refl _⟩ d_Mo_insert_1 ?_
  refine lv_if_eq (tgt := 19) hx hb d_Mo_insert_4 rfl (fun br4 => absurd br4 (by decide)) (fun br4 => ?_)
  refine lv_iload_n hx hb d_Mo_insert_7 rfl (lv_at hl 3 rfl) ?_
  refine lv_bipush (v := 32) hx hb d_Mo_insert_8 (by decide) ?_
  refine lv_icmp_lt (tgt := 19) hx hb d_Mo_insert_10 rfl (fun br10 => ?_) (fun br10 => ?_)
  · skip
    refine lv_iconst (v := 1) hx hb d_Mo_insert_19 (by decide) ?_
    refine lv_goto (tgt := 24) hx hb d_Mo_insert_20 rfl ?_
    refine lv_istore hx hb d_Mo_insert_24 hl (by decide) rfl (fun ls hl => ?_)
    have hl : lv_has ls 5 [(4, .int 1), (0, .ref m0), (1, .int (nI (k + 1))), (2, .int at0), (3, .int x)] := hl
    refine lv_aload_n hx hb d_Mo_insert_26 rfl (lv_at hl 1 rfl) ?_
    refine lv_iload hx hb d_Mo_insert_27 (lv_at hl 0 rfl) ?_
    refine lv_if_eq (tgt := 36) hx hb d_Mo_insert_29 rfl (fun br29 => absurd br29 (by decide)) (fun br29 => ?_)
    refine lv_iconst (v := 1) hx hb d_Mo_insert_32 (by decide) ?_
    refine lv_goto (tgt := 78) hx hb d_Mo_insert_33 rfl ?_
    refine p_f Z kc_Mo hP hS hm.1 rfl 0 (by decide) wl_Mo_56 rfl rfl ⟨rfl, rfl⟩ (Nat.le_of_ble_eq_true rfl) rfl d_Mo_insert_78 (fun H locs hP hS => ?_)
    refine lv_aload_n hx hb d_Mo_insert_81 rfl (lv_at hl 1 rfl) ?_
    refine g_i (v := 1) Z kc_Mo hP hm.1 rfl 0 (by decide) wl_Mo_56 rfl rfl la_up_s d_Mo_insert_82 ?_
    refine lv_if_eq (tgt := 90) hx hb d_Mo_insert_85 rfl (fun br85 => absurd br85 (by decide)) (fun br85 => ?_)
    refine lv_iconst (v := 0) hx hb d_Mo_insert_88 (by decide) ?_
    exact W.iret hx hb hr (fun t ht hW => ⟨rfl, by rw [ht]; exact cvm hP (rfl), hS.F ht⟩) hS.2.2 d_Mo_insert_89
  · skip
    refine lv_iload_n hx hb d_Mo_insert_13 rfl (lv_at hl 3 rfl) ?_
    refine lv_bipush (v := 126) hx hb d_Mo_insert_14 (by decide) ?_
    refine lv_icmp_le (tgt := 23) hx hb d_Mo_insert_16 rfl (fun br16 => absurd br16 (Int32.not_le.mpr (hx9.resolve_left br10))) (fun br16 => ?_)
    refine lv_iconst (v := 1) hx hb d_Mo_insert_19 (by decide) ?_
    refine lv_goto (tgt := 24) hx hb d_Mo_insert_20 rfl ?_
    refine lv_istore hx hb d_Mo_insert_24 hl (by decide) rfl (fun ls hl => ?_)
    have hl : lv_has ls 5 [(4, .int 1), (0, .ref m0), (1, .int (nI (k + 1))), (2, .int at0), (3, .int x)] := hl
    refine lv_aload_n hx hb d_Mo_insert_26 rfl (lv_at hl 1 rfl) ?_
    refine lv_iload hx hb d_Mo_insert_27 (lv_at hl 0 rfl) ?_
    refine lv_if_eq (tgt := 36) hx hb d_Mo_insert_29 rfl (fun br29 => absurd br29 (by decide)) (fun br29 => ?_)
    refine lv_iconst (v := 1) hx hb d_Mo_insert_32 (by decide) ?_
    refine lv_goto (tgt := 78) hx hb d_Mo_insert_33 rfl ?_
    refine p_f Z kc_Mo hP hS hm.1 rfl 0 (by decide) wl_Mo_56 rfl rfl ⟨rfl, rfl⟩ (Nat.le_of_ble_eq_true rfl) rfl d_Mo_insert_78 (fun H locs hP hS => ?_)
    refine lv_aload_n hx hb d_Mo_insert_81 rfl (lv_at hl 1 rfl) ?_
    refine g_i (v := 1) Z kc_Mo hP hm.1 rfl 0 (by decide) wl_Mo_56 rfl rfl la_up_s d_Mo_insert_82 ?_
    refine lv_if_eq (tgt := 90) hx hb d_Mo_insert_85 rfl (fun br85 => absurd br85 (by decide)) (fun br85 => ?_)
    refine lv_iconst (v := 0) hx hb d_Mo_insert_88 (by decide) ?_
    exact W.iret hx hb hr (fun t ht hW => ⟨rfl, by rw [ht]; exact cvm hP (rfl), hS.F ht⟩) hS.2.2 d_Mo_insert_89
set_option maxHeartbeats 4000000 in
set_option maxRecDepth 100000 in
theorem c_Mo_insert_2 (l : Launch) (D : va_G) (E : Nat → ClassId) (La : la_L) {m0 : Nat} (hm : isMo E La m0) (mu : la_M) {k : Nat} (hk : k < 3) {at0 x : Int32} {n : Nat} (hx1 : ¬ x < 32) (hx2 : x ≤ 126) (hn : mu (m0 + 1) (k + 1) = nI n) (hat : at0 < 0 ∨ nI n < at0) : cw l y_Mo_insert b_Mo_insert 5 (some .int) 3 67 D E La [.ref m0, .int (nI (k + 1)), .int at0, .int x] mu (some (.int 0)) (la_up mu m0 0 2) := by
  refine cw_begin R_Mo (by decide) rfl (Nat.le_of_ble_eq_true rfl) ?_
  intro p e s m below meth c ls Z hr hlocks hP hS hl
  have hx := Z.1
  have hb := Z.2.1
  have hK : va_K D cls5 (tyE E) s := Z.2.2.2.2.2
  have hl : lv_has ls 5 [(0, .ref m0), (1, .int (nI (k + 1))), (2, .int at0), (3, .int x)] := hl
  refine lv_iload_n hx hb d_Mo_insert_0 rfl (lv_at hl 1 rfl) ?_
  refine cr_S Z ks_Mo_94 (c_Mo_isClient_y l D E La mu hk) hP [] rfl rfl hl.1 (Nat.le_of_ble_eq_true rfl) ⟨by decide, by decide⟩ ⟨Nat.le_refl _, Nat.le_refl _⟩ d_Mo_insert_1 ?_
  refine lv_if_eq (tgt := 19) hx hb d_Mo_insert_4 rfl (fun br4 => absurd br4 (by decide)) (fun br4 => ?_)
  refine lv_iload_n hx hb d_Mo_insert_7 rfl (lv_at hl 3 rfl) ?_
  refine lv_bipush (v := 32) hx hb d_Mo_insert_8 (by decide) ?_
  refine lv_icmp_lt (tgt := 19) hx hb d_Mo_insert_10 rfl (fun br10 => absurd br10 (hx1)) (fun br10 => ?_)
  refine lv_iload_n hx hb d_Mo_insert_13 rfl (lv_at hl 3 rfl) ?_
  refine lv_bipush (v := 126) hx hb d_Mo_insert_14 (by decide) ?_
  refine lv_icmp_le (tgt := 23) hx hb d_Mo_insert_16 rfl (fun br16 => ?_) (fun br16 => absurd (hx2) br16)
  refine lv_iconst (v := 0) hx hb d_Mo_insert_23 (by decide) ?_
  refine lv_istore hx hb d_Mo_insert_24 hl (by decide) rfl (fun ls hl => ?_)
  have hl : lv_has ls 5 [(4, .int 0), (0, .ref m0), (1, .int (nI (k + 1))), (2, .int at0), (3, .int x)] := hl
  refine lv_aload_n hx hb d_Mo_insert_26 rfl (lv_at hl 1 rfl) ?_
  refine lv_iload hx hb d_Mo_insert_27 (lv_at hl 0 rfl) ?_
  refine lv_if_eq (tgt := 36) hx hb d_Mo_insert_29 rfl (fun br29 => ?_) (fun br29 => absurd (by decide) br29)
  refine lv_iload_n hx hb d_Mo_insert_36 rfl (lv_at hl 3 rfl) ?_
  refine lv_if_lt (tgt := 50) hx hb d_Mo_insert_37 rfl (fun br37 => ?_) (fun br37 => ?_)
  · skip
    refine lv_iconst (v := 2) hx hb d_Mo_insert_50 (by decide) ?_
    refine lv_goto (tgt := 78) hx hb d_Mo_insert_51 rfl ?_
    refine p_f Z kc_Mo hP hS hm.1 rfl 0 (by decide) wl_Mo_56 rfl rfl ⟨rfl, rfl⟩ (Nat.le_of_ble_eq_true rfl) rfl d_Mo_insert_78 (fun H locs hP hS => ?_)
    refine lv_aload_n hx hb d_Mo_insert_81 rfl (lv_at hl 1 rfl) ?_
    refine g_i (v := 2) Z kc_Mo hP hm.1 rfl 0 (by decide) wl_Mo_56 rfl rfl la_up_s d_Mo_insert_82 ?_
    refine lv_if_eq (tgt := 90) hx hb d_Mo_insert_85 rfl (fun br85 => absurd br85 (by decide)) (fun br85 => ?_)
    refine lv_iconst (v := 0) hx hb d_Mo_insert_88 (by decide) ?_
    exact W.iret hx hb hr (fun t ht hW => ⟨rfl, by rw [ht]; exact cvm hP (rfl), hS.F ht⟩) hS.2.2 d_Mo_insert_89
  · skip
    refine lv_iload_n hx hb d_Mo_insert_40 rfl (lv_at hl 3 rfl) ?_
    refine lv_aload_n hx hb d_Mo_insert_41 rfl (lv_at hl 1 rfl) ?_
    refine g_f (v := .ref (m0 + 1)) Z kc_Mo hP hm.1 rfl 1 (by decide) wl_Mo_7 rfl rfl d_Mo_insert_42 ?_
    refine lv_iload_n hx hb d_Mo_insert_45 rfl (lv_at hl 2 rfl) ?_
    refine la_ialdv (v := (nI n)) hx hb hK hP 0 hm.2.1 rfl rfl (k + 1) rfl (by omega) (by decide) hn d_Mo_insert_46 ?_
    refine lv_icmp_le (tgt := 54) hx hb d_Mo_insert_47 rfl (fun br47 => absurd br47 (Int32.not_le.mpr (hat.resolve_left br37))) (fun br47 => ?_)
    refine lv_iconst (v := 2) hx hb d_Mo_insert_50 (by decide) ?_
    refine lv_goto (tgt := 78) hx hb d_Mo_insert_51 rfl ?_
    refine p_f Z kc_Mo hP hS hm.1 rfl 0 (by decide) wl_Mo_56 rfl rfl ⟨rfl, rfl⟩ (Nat.le_of_ble_eq_true rfl) rfl d_Mo_insert_78 (fun H locs hP hS => ?_)
    refine lv_aload_n hx hb d_Mo_insert_81 rfl (lv_at hl 1 rfl) ?_
    refine g_i (v := 2) Z kc_Mo hP hm.1 rfl 0 (by decide) wl_Mo_56 rfl rfl la_up_s d_Mo_insert_82 ?_
    refine lv_if_eq (tgt := 90) hx hb d_Mo_insert_85 rfl (fun br85 => absurd br85 (by decide)) (fun br85 => ?_)
    refine lv_iconst (v := 0) hx hb d_Mo_insert_88 (by decide) ?_
    exact W.iret hx hb hr (fun t ht hW => ⟨rfl, by rw [ht]; exact cvm hP (rfl), hS.F ht⟩) hS.2.2 d_Mo_insert_89
set_option maxHeartbeats 4000000 in
set_option maxRecDepth 100000 in
theorem c_Mo_insert_3n (l : Launch) (D : va_G) (E : Nat → ClassId) (La : la_L) {m0 : Nat} (hm : isMo E La m0) (mu : la_M) {k : Nat} (hk : k < 3) {x : Int32} {q n : Nat} (hx1 : ¬ x < 32) (hx2 : x ≤ 126) (hn : mu (m0 + 1) (k + 1) = nI n) (hq : q ≤ n) (hn3 : n < 2 ^ 31) (h40 : 40 ≤ n) : cw l y_Mo_insert b_Mo_insert 5 (some .int) 3 67 D E La [.ref m0, .int (nI (k + 1)), .int (nI q), .int x] mu (some (.int 0)) (la_up mu m0 0 3) := by
  refine cw_begin R_Mo (by decide) rfl (Nat.le_of_ble_eq_true rfl) ?_
  intro p e s m below meth c ls Z hr hlocks hP hS hl
  have hx := Z.1
  have hb := Z.2.1
  have hK : va_K D cls5 (tyE E) s := Z.2.2.2.2.2
  have hl : lv_has ls 5 [(0, .ref m0), (1, .int (nI (k + 1))), (2, .int (nI q)), (3, .int x)] := hl
  refine lv_iload_n hx hb d_Mo_insert_0 rfl (lv_at hl 1 rfl) ?_
  refine cr_S Z ks_Mo_94 (c_Mo_isClient_y l D E La mu hk) hP [] rfl rfl hl.1 (Nat.le_of_ble_eq_true rfl) ⟨by decide, by decide⟩ ⟨Nat.le_refl _, Nat.le_refl _⟩ d_Mo_insert_1 ?_
  refine lv_if_eq (tgt := 19) hx hb d_Mo_insert_4 rfl (fun br4 => absurd br4 (by decide)) (fun br4 => ?_)
  refine lv_iload_n hx hb d_Mo_insert_7 rfl (lv_at hl 3 rfl) ?_
  refine lv_bipush (v := 32) hx hb d_Mo_insert_8 (by decide) ?_
  refine lv_icmp_lt (tgt := 19) hx hb d_Mo_insert_10 rfl (fun br10 => absurd br10 (hx1)) (fun br10 => ?_)
  refine lv_iload_n hx hb d_Mo_insert_13 rfl (lv_at hl 3 rfl) ?_
  refine lv_bipush (v := 126) hx hb d_Mo_insert_14 (by decide) ?_
  refine lv_icmp_le (tgt := 23) hx hb d_Mo_insert_16 rfl (fun br16 => ?_) (fun br16 => absurd (hx2) br16)
  refine lv_iconst (v := 0) hx hb d_Mo_insert_23 (by decide) ?_
  refine lv_istore hx hb d_Mo_insert_24 hl (by decide) rfl (fun ls hl => ?_)
  have hl : lv_has ls 5 [(4, .int 0), (0, .ref m0), (1, .int (nI (k + 1))), (2, .int (nI q)), (3, .int x)] := hl
  refine lv_aload_n hx hb d_Mo_insert_26 rfl (lv_at hl 1 rfl) ?_
  refine lv_iload hx hb d_Mo_insert_27 (lv_at hl 0 rfl) ?_
  refine lv_if_eq (tgt := 36) hx hb d_Mo_insert_29 rfl (fun br29 => ?_) (fun br29 => absurd (by decide) br29)
  refine lv_iload_n hx hb d_Mo_insert_36 rfl (lv_at hl 3 rfl) ?_
  refine lv_if_lt (tgt := 50) hx hb d_Mo_insert_37 rfl (fun br37 => absurd br37 (nI_pos (by omega))) (fun br37 => ?_)
  refine lv_iload_n hx hb d_Mo_insert_40 rfl (lv_at hl 3 rfl) ?_
  refine lv_aload_n hx hb d_Mo_insert_41 rfl (lv_at hl 1 rfl) ?_
  refine g_f (v := .ref (m0 + 1)) Z kc_Mo hP hm.1 rfl 1 (by decide) wl_Mo_7 rfl rfl d_Mo_insert_42 ?_
  refine lv_iload_n hx hb d_Mo_insert_45 rfl (lv_at hl 2 rfl) ?_
  refine la_ialdv (v := (nI n)) hx hb hK hP 0 hm.2.1 rfl rfl (k + 1) rfl (by omega) (by decide) hn d_Mo_insert_46 ?_
  refine lv_icmp_le (tgt := 54) hx hb d_Mo_insert_47 rfl (fun br47 => ?_) (fun br47 => absurd (nI_le hq (by omega)) br47)
  refine lv_aload_n hx hb d_Mo_insert_54 rfl (lv_at hl 1 rfl) ?_
  refine g_f (v := .ref (m0 + 1)) Z kc_Mo hP hm.1 rfl 1 (by decide) wl_Mo_7 rfl rfl d_Mo_insert_55 ?_
  refine lv_iload_n hx hb d_Mo_insert_58 rfl (lv_at hl 2 rfl) ?_
  refine la_ialdv (v := (nI n)) hx hb hK hP 0 hm.2.1 rfl rfl (k + 1) rfl (by omega) (by decide) hn d_Mo_insert_59 ?_
  refine lv_bipush (v := 40) hx hb d_Mo_insert_60 (by decide) ?_
  refine lv_icmp_ge (tgt := 73) hx hb d_Mo_insert_62 rfl (fun br62 => ?_) (fun br62 => absurd (nI_le (a := 40) h40 hn3) br62)
  refine lv_iconst (v := 3) hx hb d_Mo_insert_73 (by decide) ?_
  refine lv_goto (tgt := 78) hx hb d_Mo_insert_74 rfl ?_
  refine p_f Z kc_Mo hP hS hm.1 rfl 0 (by decide) wl_Mo_56 rfl rfl ⟨rfl, rfl⟩ (Nat.le_of_ble_eq_true rfl) rfl d_Mo_insert_78 (fun H locs hP hS => ?_)
  refine lv_aload_n hx hb d_Mo_insert_81 rfl (lv_at hl 1 rfl) ?_
  refine g_i (v := 3) Z kc_Mo hP hm.1 rfl 0 (by decide) wl_Mo_56 rfl rfl la_up_s d_Mo_insert_82 ?_
  refine lv_if_eq (tgt := 90) hx hb d_Mo_insert_85 rfl (fun br85 => absurd br85 (by decide)) (fun br85 => ?_)
  refine lv_iconst (v := 0) hx hb d_Mo_insert_88 (by decide) ?_
  exact W.iret hx hb hr (fun t ht hW => ⟨rfl, by rw [ht]; exact cvm hP (rfl), hS.F ht⟩) hS.2.2 d_Mo_insert_89
set_option maxHeartbeats 4000000 in
set_option maxRecDepth 100000 in
theorem c_Mo_insert_3l (l : Launch) (D : va_G) (E : Nat → ClassId) (La : la_L) {m0 : Nat} (hm : isMo E La m0) (mu : la_M) {k : Nat} (hk : k < 3) {x : Int32} {q n o0 : Nat} (hx1 : ¬ x < 32) (hx2 : x ≤ 126) (hn : mu (m0 + 1) (k + 1) = nI n) (hq : q ≤ n) (h40 : n < 40) (ho : mu (m0 + 11) (2 * k) = nI o0) (ho4 : o0 < 40) (hf : 16 ≤ o0) : cw l y_Mo_insert b_Mo_insert 5 (some .int) 3 67 D E La [.ref m0, .int (nI (k + 1)), .int (nI q), .int x] mu (some (.int 0)) (la_up mu m0 0 3) := by
  refine cw_begin R_Mo (by decide) rfl (Nat.le_of_ble_eq_true rfl) ?_
  intro p e s m below meth c ls Z hr hlocks hP hS hl
  have hx := Z.1
  have hb := Z.2.1
  have hK : va_K D cls5 (tyE E) s := Z.2.2.2.2.2
  have hl : lv_has ls 5 [(0, .ref m0), (1, .int (nI (k + 1))), (2, .int (nI q)), (3, .int x)] := hl
  refine lv_iload_n hx hb d_Mo_insert_0 rfl (lv_at hl 1 rfl) ?_
  refine cr_S Z ks_Mo_94 (c_Mo_isClient_y l D E La mu hk) hP [] rfl rfl hl.1 (Nat.le_of_ble_eq_true rfl) ⟨by decide, by decide⟩ ⟨Nat.le_refl _, Nat.le_refl _⟩ d_Mo_insert_1 ?_
  refine lv_if_eq (tgt := 19) hx hb d_Mo_insert_4 rfl (fun br4 => absurd br4 (by decide)) (fun br4 => ?_)
  refine lv_iload_n hx hb d_Mo_insert_7 rfl (lv_at hl 3 rfl) ?_
  refine lv_bipush (v := 32) hx hb d_Mo_insert_8 (by decide) ?_
  refine lv_icmp_lt (tgt := 19) hx hb d_Mo_insert_10 rfl (fun br10 => absurd br10 (hx1)) (fun br10 => ?_)
  refine lv_iload_n hx hb d_Mo_insert_13 rfl (lv_at hl 3 rfl) ?_
  refine lv_bipush (v := 126) hx hb d_Mo_insert_14 (by decide) ?_
  refine lv_icmp_le (tgt := 23) hx hb d_Mo_insert_16 rfl (fun br16 => ?_) (fun br16 => absurd (hx2) br16)
  refine lv_iconst (v := 0) hx hb d_Mo_insert_23 (by decide) ?_
  refine lv_istore hx hb d_Mo_insert_24 hl (by decide) rfl (fun ls hl => ?_)
  have hl : lv_has ls 5 [(4, .int 0), (0, .ref m0), (1, .int (nI (k + 1))), (2, .int (nI q)), (3, .int x)] := hl
  refine lv_aload_n hx hb d_Mo_insert_26 rfl (lv_at hl 1 rfl) ?_
  refine lv_iload hx hb d_Mo_insert_27 (lv_at hl 0 rfl) ?_
  refine lv_if_eq (tgt := 36) hx hb d_Mo_insert_29 rfl (fun br29 => ?_) (fun br29 => absurd (by decide) br29)
  refine lv_iload_n hx hb d_Mo_insert_36 rfl (lv_at hl 3 rfl) ?_
  refine lv_if_lt (tgt := 50) hx hb d_Mo_insert_37 rfl (fun br37 => absurd br37 (nI_pos (by omega))) (fun br37 => ?_)
  refine lv_iload_n hx hb d_Mo_insert_40 rfl (lv_at hl 3 rfl) ?_
  refine lv_aload_n hx hb d_Mo_insert_41 rfl (lv_at hl 1 rfl) ?_
  refine g_f (v := .ref (m0 + 1)) Z kc_Mo hP hm.1 rfl 1 (by decide) wl_Mo_7 rfl rfl d_Mo_insert_42 ?_
  refine lv_iload_n hx hb d_Mo_insert_45 rfl (lv_at hl 2 rfl) ?_
  refine la_ialdv (v := (nI n)) hx hb hK hP 0 hm.2.1 rfl rfl (k + 1) rfl (by omega) (by decide) hn d_Mo_insert_46 ?_
  refine lv_icmp_le (tgt := 54) hx hb d_Mo_insert_47 rfl (fun br47 => ?_) (fun br47 => absurd (nI_le hq (by omega)) br47)
  refine lv_aload_n hx hb d_Mo_insert_54 rfl (lv_at hl 1 rfl) ?_
  refine g_f (v := .ref (m0 + 1)) Z kc_Mo hP hm.1 rfl 1 (by decide) wl_Mo_7 rfl rfl d_Mo_insert_55 ?_
  refine lv_iload_n hx hb d_Mo_insert_58 rfl (lv_at hl 2 rfl) ?_
  refine la_ialdv (v := (nI n)) hx hb hK hP 0 hm.2.1 rfl rfl (k + 1) rfl (by omega) (by decide) hn d_Mo_insert_59 ?_
  refine lv_bipush (v := 40) hx hb d_Mo_insert_60 (by decide) ?_
  refine lv_icmp_ge (tgt := 73) hx hb d_Mo_insert_62 rfl (fun br62 => absurd br62 (nI_ge (b := 40) h40 (by decide))) (fun br62 => ?_)
  refine lv_aload_n hx hb d_Mo_insert_65 rfl (lv_at hl 1 rfl) ?_
  refine lv_iload_n hx hb d_Mo_insert_66 rfl (lv_at hl 2 rfl) ?_
  refine cr_V Z kv_Mo_98 (c_Mo_loaded_t l D E La hm mu hk ho (by omega) hf) hP (la_recv hK hP kc_Mo hm.1 rfl) [.ref m0] rfl rfl hl.1 (Nat.le_of_ble_eq_true rfl) ⟨by decide, by decide⟩ ⟨Nat.le_refl _, Nat.le_refl _⟩ d_Mo_insert_67 ?_
  refine lv_if_eq (tgt := 77) hx hb d_Mo_insert_70 rfl (fun br70 => absurd br70 (by decide)) (fun br70 => ?_)
  refine lv_iconst (v := 3) hx hb d_Mo_insert_73 (by decide) ?_
  refine lv_goto (tgt := 78) hx hb d_Mo_insert_74 rfl ?_
  refine p_f Z kc_Mo hP hS hm.1 rfl 0 (by decide) wl_Mo_56 rfl rfl ⟨rfl, rfl⟩ (Nat.le_of_ble_eq_true rfl) rfl d_Mo_insert_78 (fun H locs hP hS => ?_)
  refine lv_aload_n hx hb d_Mo_insert_81 rfl (lv_at hl 1 rfl) ?_
  refine g_i (v := 3) Z kc_Mo hP hm.1 rfl 0 (by decide) wl_Mo_56 rfl rfl la_up_s d_Mo_insert_82 ?_
  refine lv_if_eq (tgt := 90) hx hb d_Mo_insert_85 rfl (fun br85 => absurd br85 (by decide)) (fun br85 => ?_)
  refine lv_iconst (v := 0) hx hb d_Mo_insert_88 (by decide) ?_
  exact W.iret hx hb hr (fun t ht hW => ⟨rfl, by rw [ht]; exact cvm hP (rfl), hS.F ht⟩) hS.2.2 d_Mo_insert_89
set_option maxHeartbeats 4000000 in
set_option maxRecDepth 100000 in
theorem c_Mo_insert_0 (l : Launch) (D : va_G) (E : Nat → ClassId) (La : la_L) {m0 : Nat} (hm : isMo E La m0) (mu : la_M) {k : Nat} (hk : k < 3) {q n cx w0 o0 t0 : Nat} (hcx : cx < 65536) (hx1 : ¬ nI cx < 32) (hx2 : nI cx ≤ 126) (hq : q ≤ n) (h40 : n < 40) (hn : mu (m0 + 1) (k + 1) = nI n) (hz : ∀ i, chz (mu (m0 + 2) i)) (hw : mu (m0 + 5) (2 * k) = nI w0) (hw4 : w0 < 40) (ho : mu (m0 + 11) (2 * k) = nI o0) (hf : o0 < 16) (ht : mu (m0 + 3) (2 * k) = nI t0)  : cw l y_Mo_insert b_Mo_insert 5 (some .int) 3 67 D E La [.ref m0, .int (nI (k + 1)), .int (nI q), .int (nI cx)] mu (some (.int (nI (n + 1)))) (md_bgn (la_up mu m0 0 0) m0 k 0 q n cx w0 o0 t0) := by
  refine cw_begin R_Mo (by decide) rfl (Nat.le_of_ble_eq_true rfl) ?_
  intro p e s m below meth c ls Z hr hlocks hP hS hl
  have hx := Z.1
  have hb := Z.2.1
  have hK : va_K D cls5 (tyE E) s := Z.2.2.2.2.2
  have hl : lv_has ls 5 [(0, .ref m0), (1, .int (nI (k + 1))), (2, .int (nI q)), (3, .int (nI cx))] := hl
  have z1 := (show (la_up mu m0 0 0) (m0 + 1) (k + 1) = nI n by rw [la_up_n (by omega)]; exact hn)
  have z5 := (show (la_up mu m0 0 0) (m0 + 5) (2 * k) = nI w0 by rw [la_up_n (by omega)]; exact hw)
  have z11 := (show (la_up mu m0 0 0) (m0 + 11) (2 * k) = nI o0 by rw [la_up_n (by omega)]; exact ho)
  have z3 := (show (la_up mu m0 0 0) (m0 + 3) (2 * k) = nI t0 by rw [la_up_n (by omega)]; exact ht)
  have zz2 : ∀ i, chz ((la_up mu m0 0 0) (m0 + 2) i) := fun i => by rw [la_up_n (by omega)]; exact hz i
  have gF : (md_bgn (la_up mu m0 0 0) m0 k 0 q n cx w0 o0 t0) (m0 + 1) (k + 1) = nI (n + 1) := by
    unfold md_bgn
    rw [md_send_1 (by omega) (by omega) (by omega) (by omega) (by omega) (by omega) (by omega) (by omega) (by omega) (by omega) (by omega) (by omega)]
    exact md_app_1 (kd := 0) (by rw [md_beg_n (by omega)]; exact z1)
  refine lv_iload_n hx hb d_Mo_insert_0 rfl (lv_at hl 1 rfl) ?_
  refine cr_S Z ks_Mo_94 (c_Mo_isClient_y l D E La mu hk) hP [] rfl rfl hl.1 (Nat.le_of_ble_eq_true rfl) ⟨by decide, by decide⟩ ⟨Nat.le_refl _, Nat.le_refl _⟩ d_Mo_insert_1 ?_
  refine lv_if_eq (tgt := 19) hx hb d_Mo_insert_4 rfl (fun br4 => absurd br4 (by decide)) (fun br4 => ?_)
  refine lv_iload_n hx hb d_Mo_insert_7 rfl (lv_at hl 3 rfl) ?_
  refine lv_bipush (v := 32) hx hb d_Mo_insert_8 (by decide) ?_
  refine lv_icmp_lt (tgt := 19) hx hb d_Mo_insert_10 rfl (fun br10 => absurd br10 (hx1)) (fun br10 => ?_)
  refine lv_iload_n hx hb d_Mo_insert_13 rfl (lv_at hl 3 rfl) ?_
  refine lv_bipush (v := 126) hx hb d_Mo_insert_14 (by decide) ?_
  refine lv_icmp_le (tgt := 23) hx hb d_Mo_insert_16 rfl (fun br16 => ?_) (fun br16 => absurd (hx2) br16)
  refine lv_iconst (v := 0) hx hb d_Mo_insert_23 (by decide) ?_
  refine lv_istore hx hb d_Mo_insert_24 hl (by decide) rfl (fun ls hl => ?_)
  have hl : lv_has ls 5 [(4, .int 0), (0, .ref m0), (1, .int (nI (k + 1))), (2, .int (nI q)), (3, .int (nI cx))] := hl
  refine lv_aload_n hx hb d_Mo_insert_26 rfl (lv_at hl 1 rfl) ?_
  refine lv_iload hx hb d_Mo_insert_27 (lv_at hl 0 rfl) ?_
  refine lv_if_eq (tgt := 36) hx hb d_Mo_insert_29 rfl (fun br29 => ?_) (fun br29 => absurd (by decide) br29)
  refine lv_iload_n hx hb d_Mo_insert_36 rfl (lv_at hl 3 rfl) ?_
  refine lv_if_lt (tgt := 50) hx hb d_Mo_insert_37 rfl (fun br37 => absurd br37 (nI_pos (by omega))) (fun br37 => ?_)
  refine lv_iload_n hx hb d_Mo_insert_40 rfl (lv_at hl 3 rfl) ?_
  refine lv_aload_n hx hb d_Mo_insert_41 rfl (lv_at hl 1 rfl) ?_
  refine g_f (v := .ref (m0 + 1)) Z kc_Mo hP hm.1 rfl 1 (by decide) wl_Mo_7 rfl rfl d_Mo_insert_42 ?_
  refine lv_iload_n hx hb d_Mo_insert_45 rfl (lv_at hl 2 rfl) ?_
  refine la_ialdv (v := (nI n)) hx hb hK hP 0 hm.2.1 rfl rfl (k + 1) rfl (by omega) (by decide) hn d_Mo_insert_46 ?_
  refine lv_icmp_le (tgt := 54) hx hb d_Mo_insert_47 rfl (fun br47 => ?_) (fun br47 => absurd (nI_le hq (by omega)) br47)
  refine lv_aload_n hx hb d_Mo_insert_54 rfl (lv_at hl 1 rfl) ?_
  refine g_f (v := .ref (m0 + 1)) Z kc_Mo hP hm.1 rfl 1 (by decide) wl_Mo_7 rfl rfl d_Mo_insert_55 ?_
  refine lv_iload_n hx hb d_Mo_insert_58 rfl (lv_at hl 2 rfl) ?_
  refine la_ialdv (v := (nI n)) hx hb hK hP 0 hm.2.1 rfl rfl (k + 1) rfl (by omega) (by decide) hn d_Mo_insert_59 ?_
  refine lv_bipush (v := 40) hx hb d_Mo_insert_60 (by decide) ?_
  refine lv_icmp_ge (tgt := 73) hx hb d_Mo_insert_62 rfl (fun br62 => absurd br62 (nI_ge (b := 40) h40 (by decide))) (fun br62 => ?_)
  refine lv_aload_n hx hb d_Mo_insert_65 rfl (lv_at hl 1 rfl) ?_
  refine lv_iload_n hx hb d_Mo_insert_66 rfl (lv_at hl 2 rfl) ?_
  refine cr_V Z kv_Mo_98 (c_Mo_loaded_f l D E La hm mu hk ho (by omega) hf) hP (la_recv hK hP kc_Mo hm.1 rfl) [.ref m0] rfl rfl hl.1 (Nat.le_of_ble_eq_true rfl) ⟨by decide, by decide⟩ ⟨Nat.le_refl _, Nat.le_refl _⟩ d_Mo_insert_67 ?_
  refine lv_if_eq (tgt := 77) hx hb d_Mo_insert_70 rfl (fun br70 => ?_) (fun br70 => absurd (by decide) br70)
  refine lv_iconst (v := 0) hx hb d_Mo_insert_77 (by decide) ?_
  refine p_f Z kc_Mo hP hS hm.1 rfl 0 (by decide) wl_Mo_56 rfl rfl ⟨rfl, rfl⟩ (Nat.le_of_ble_eq_true rfl) rfl d_Mo_insert_78 (fun H locs hP hS => ?_)
  refine lv_aload_n hx hb d_Mo_insert_81 rfl (lv_at hl 1 rfl) ?_
  refine g_i (v := 0) Z kc_Mo hP hm.1 rfl 0 (by decide) wl_Mo_56 rfl rfl la_up_s d_Mo_insert_82 ?_
  refine lv_if_eq (tgt := 90) hx hb d_Mo_insert_85 rfl (fun br85 => ?_) (fun br85 => absurd (by decide) br85)
  refine lv_aload_n hx hb d_Mo_insert_90 rfl (lv_at hl 1 rfl) ?_
  refine lv_iload_n hx hb d_Mo_insert_91 rfl (lv_at hl 2 rfl) ?_
  refine lv_iconst (v := 0) hx hb d_Mo_insert_92 (by decide) ?_
  refine lv_iload_n hx hb d_Mo_insert_93 rfl (lv_at hl 3 rfl) ?_
  refine lv_iload_n hx hb d_Mo_insert_94 rfl (lv_at hl 4 rfl) ?_
  refine cw_V Z kv_Mo_101 (c_Mo_begin l D E La hm (la_up mu m0 0 0) hk (kd := 0) (q := q) (n := n) (cx := cx) (hcx) z1 (by omega) zz2 (by decide) (fun _ => hq) (fun h => by omega) z5 hw4 z11 (by omega) z3) hP hS (fun _ h => h) (la_recv hK hP kc_Mo hm.1 rfl) [] rfl rfl hl.1 (Nat.le_of_ble_eq_true rfl) ⟨by decide, by decide⟩ ⟨Nat.le_refl _, Nat.le_refl _⟩ d_Mo_insert_95 (fun H locs hP hkp hS => ?_)
  refine lv_aload_n hx hb d_Mo_insert_98 rfl (lv_at hl 1 rfl) ?_
  refine g_f (v := .ref (m0 + 1)) Z kc_Mo hP hm.1 rfl 1 (by decide) wl_Mo_7 rfl rfl d_Mo_insert_99 ?_
  refine lv_iload_n hx hb d_Mo_insert_102 rfl (lv_at hl 2 rfl) ?_
  refine la_ialdv (v := (nI (n + 1))) hx hb hK hP 0 hm.2.1 rfl rfl (k + 1) rfl (by omega) (by decide) gF d_Mo_insert_103 ?_
  exact W.iret hx hb hr (fun t ht hW => ⟨rfl, by rw [ht]; exact cvm hP (rfl), hS.F ht⟩) hS.2.2 d_Mo_insert_104
set_option maxHeartbeats 4000000 in
set_option maxRecDepth 100000 in
theorem c_Mo_delete_1 (l : Launch) (D : va_G) (E : Nat → ClassId) (La : la_L) {m0 : Nat} (hm : isMo E La m0) (mu : la_M) {cl at0 : Int32} (hc : cl < 1 ∨ 3 < cl) : cw l y_Mo_delete b_Mo_delete 4 (some .int) 3 67 D E La [.ref m0, .int cl, .int at0] mu (some (.int 0)) (la_up mu m0 0 1) := by
  refine cw_begin R_Mo (by decide) rfl (Nat.le_of_ble_eq_true rfl) ?_
  intro p e s m below meth c ls Z hr hlocks hP hS hl
  have hx := Z.1
  have hb := Z.2.1
  have hK : va_K D cls5 (tyE E) s := Z.2.2.2.2.2
  have hl : lv_has ls 4 [(0, .ref m0), (1, .int cl), (2, .int at0)] := hl
  refine lv_aload_n hx hb d_Mo_delete_0 rfl (lv_at hl 0 rfl) ?_
  refine lv_iload_n hx hb d_Mo_delete_1 rfl (lv_at hl 1 rfl) ?_
  refine cr_S Z ks_Mo_94 (c_Mo_isClient_n l D E La mu hc) hP [.ref m0] rfl rfl hl.1 (Nat.le_of_ble_eq_true rfl) ⟨by decide, by decide⟩ ⟨Nat.le_refl _, Nat.le_refl _⟩ d_Mo_delete_2 ?_
  refine lv_if_ne (tgt := 12) hx hb d_Mo_delete_5 rfl (fun br5 => absurd (rfl) br5) (fun br5 => ?_)
  refine lv_iconst (v := 1) hx hb d_Mo_delete_8 (by decide) ?_
  refine lv_goto (tgt := 43) hx hb d_Mo_delete_9 rfl ?_
  refine p_f Z kc_Mo hP hS hm.1 rfl 0 (by decide) wl_Mo_56 rfl rfl ⟨rfl, rfl⟩ (Nat.le_of_ble_eq_true rfl) rfl d_Mo_delete_43 (fun H locs hP hS => ?_)
  refine lv_aload_n hx hb d_Mo_delete_46 rfl (lv_at hl 0 rfl) ?_
  refine g_i (v := 1) Z kc_Mo hP hm.1 rfl 0 (by decide) wl_Mo_56 rfl rfl la_up_s d_Mo_delete_47 ?_
  refine lv_if_eq (tgt := 55) hx hb d_Mo_delete_50 rfl (fun br50 => absurd br50 (by decide)) (fun br50 => ?_)
  refine lv_iconst (v := 0) hx hb d_Mo_delete_53 (by decide) ?_
  exact W.iret hx hb hr (fun t ht hW => ⟨rfl, by rw [ht]; exact cvm hP (rfl), hS.F ht⟩) hS.2.2 d_Mo_delete_54
set_option maxHeartbeats 4000000 in
set_option maxRecDepth 100000 in
theorem c_Mo_delete_2 (l : Launch) (D : va_G) (E : Nat → ClassId) (La : la_L) {m0 : Nat} (hm : isMo E La m0) (mu : la_M) {k : Nat} (hk : k < 3) {at0 : Int32} {n : Nat} (hn : mu (m0 + 1) (k + 1) = nI n) (hat : at0 < 0 ∨ nI n ≤ at0) : cw l y_Mo_delete b_Mo_delete 4 (some .int) 3 67 D E La [.ref m0, .int (nI (k + 1)), .int at0] mu (some (.int 0)) (la_up mu m0 0 2) := by
  refine cw_begin R_Mo (by decide) rfl (Nat.le_of_ble_eq_true rfl) ?_
  intro p e s m below meth c ls Z hr hlocks hP hS hl
  have hx := Z.1
  have hb := Z.2.1
  have hK : va_K D cls5 (tyE E) s := Z.2.2.2.2.2
  have hl : lv_has ls 4 [(0, .ref m0), (1, .int (nI (k + 1))), (2, .int at0)] := hl
  refine lv_aload_n hx hb d_Mo_delete_0 rfl (lv_at hl 0 rfl) ?_
  refine lv_iload_n hx hb d_Mo_delete_1 rfl (lv_at hl 1 rfl) ?_
  refine cr_S Z ks_Mo_94 (c_Mo_isClient_y l D E La mu hk) hP [.ref m0] rfl rfl hl.1 (Nat.le_of_ble_eq_true rfl) ⟨by decide, by decide⟩ ⟨Nat.le_refl _, Nat.le_refl _⟩ d_Mo_delete_2 ?_
  refine lv_if_ne (tgt := 12) hx hb d_Mo_delete_5 rfl (fun br5 => ?_) (fun br5 => absurd br5 (by decide))
  refine lv_iload_n hx hb d_Mo_delete_12 rfl (lv_at hl 2 rfl) ?_
  refine lv_if_lt (tgt := 26) hx hb d_Mo_delete_13 rfl (fun br13 => ?_) (fun br13 => ?_)
  · skip
    refine lv_iconst (v := 2) hx hb d_Mo_delete_26 (by decide) ?_
    refine lv_goto (tgt := 43) hx hb d_Mo_delete_27 rfl ?_
    refine p_f Z kc_Mo hP hS hm.1 rfl 0 (by decide) wl_Mo_56 rfl rfl ⟨rfl, rfl⟩ (Nat.le_of_ble_eq_true rfl) rfl d_Mo_delete_43 (fun H locs hP hS => ?_)
    refine lv_aload_n hx hb d_Mo_delete_46 rfl (lv_at hl 0 rfl) ?_
    refine g_i (v := 2) Z kc_Mo hP hm.1 rfl 0 (by decide) wl_Mo_56 rfl rfl la_up_s d_Mo_delete_47 ?_
    refine lv_if_eq (tgt := 55) hx hb d_Mo_delete_50 rfl (fun br50 => absurd br50 (by decide)) (fun br50 => ?_)
    refine lv_iconst (v := 0) hx hb d_Mo_delete_53 (by decide) ?_
    exact W.iret hx hb hr (fun t ht hW => ⟨rfl, by rw [ht]; exact cvm hP (rfl), hS.F ht⟩) hS.2.2 d_Mo_delete_54
  · skip
    refine lv_iload_n hx hb d_Mo_delete_16 rfl (lv_at hl 2 rfl) ?_
    refine lv_aload_n hx hb d_Mo_delete_17 rfl (lv_at hl 0 rfl) ?_
    refine g_f (v := .ref (m0 + 1)) Z kc_Mo hP hm.1 rfl 1 (by decide) wl_Mo_7 rfl rfl d_Mo_delete_18 ?_
    refine lv_iload_n hx hb d_Mo_delete_21 rfl (lv_at hl 1 rfl) ?_
    refine la_ialdv (v := (nI n)) hx hb hK hP 0 hm.2.1 rfl rfl (k + 1) rfl (by omega) (by decide) hn d_Mo_delete_22 ?_
    refine lv_icmp_lt (tgt := 30) hx hb d_Mo_delete_23 rfl (fun br23 => absurd br23 (Int32.not_lt.mpr (hat.resolve_left br13))) (fun br23 => ?_)
    refine lv_iconst (v := 2) hx hb d_Mo_delete_26 (by decide) ?_
    refine lv_goto (tgt := 43) hx hb d_Mo_delete_27 rfl ?_
    refine p_f Z kc_Mo hP hS hm.1 rfl 0 (by decide) wl_Mo_56 rfl rfl ⟨rfl, rfl⟩ (Nat.le_of_ble_eq_true rfl) rfl d_Mo_delete_43 (fun H locs hP hS => ?_)
    refine lv_aload_n hx hb d_Mo_delete_46 rfl (lv_at hl 0 rfl) ?_
    refine g_i (v := 2) Z kc_Mo hP hm.1 rfl 0 (by decide) wl_Mo_56 rfl rfl la_up_s d_Mo_delete_47 ?_
    refine lv_if_eq (tgt := 55) hx hb d_Mo_delete_50 rfl (fun br50 => absurd br50 (by decide)) (fun br50 => ?_)
    refine lv_iconst (v := 0) hx hb d_Mo_delete_53 (by decide) ?_
    exact W.iret hx hb hr (fun t ht hW => ⟨rfl, by rw [ht]; exact cvm hP (rfl), hS.F ht⟩) hS.2.2 d_Mo_delete_54
set_option maxHeartbeats 4000000 in
set_option maxRecDepth 100000 in
theorem c_Mo_delete_3 (l : Launch) (D : va_G) (E : Nat → ClassId) (La : la_L) {m0 : Nat} (hm : isMo E La m0) (mu : la_M) {k : Nat} (hk : k < 3) {q n o0 : Nat} (hn : mu (m0 + 1) (k + 1) = nI n) (hq : q < n) (hn3 : n < 2 ^ 31) (ho : mu (m0 + 11) (2 * k) = nI o0) (ho4 : o0 < 40) (hf : 16 ≤ o0) : cw l y_Mo_delete b_Mo_delete 4 (some .int) 3 67 D E La [.ref m0, .int (nI (k + 1)), .int (nI q)] mu (some (.int 0)) (la_up mu m0 0 3) := by
  refine cw_begin R_Mo (by decide) rfl (Nat.le_of_ble_eq_true rfl) ?_
  intro p e s m below meth c ls Z hr hlocks hP hS hl
  have hx := Z.1
  have hb := Z.2.1
  have hK : va_K D cls5 (tyE E) s := Z.2.2.2.2.2
  have hl : lv_has ls 4 [(0, .ref m0), (1, .int (nI (k + 1))), (2, .int (nI q))] := hl
  refine lv_aload_n hx hb d_Mo_delete_0 rfl (lv_at hl 0 rfl) ?_
  refine lv_iload_n hx hb d_Mo_delete_1 rfl (lv_at hl 1 rfl) ?_
  refine cr_S Z ks_Mo_94 (c_Mo_isClient_y l D E La mu hk) hP [.ref m0] rfl rfl hl.1 (Nat.le_of_ble_eq_true rfl) ⟨by decide, by decide⟩ ⟨Nat.le_refl _, Nat.le_refl _⟩ d_Mo_delete_2 ?_
  refine lv_if_ne (tgt := 12) hx hb d_Mo_delete_5 rfl (fun br5 => ?_) (fun br5 => absurd br5 (by decide))
  refine lv_iload_n hx hb d_Mo_delete_12 rfl (lv_at hl 2 rfl) ?_
  refine lv_if_lt (tgt := 26) hx hb d_Mo_delete_13 rfl (fun br13 => absurd br13 (nI_pos (by omega))) (fun br13 => ?_)
  refine lv_iload_n hx hb d_Mo_delete_16 rfl (lv_at hl 2 rfl) ?_
  refine lv_aload_n hx hb d_Mo_delete_17 rfl (lv_at hl 0 rfl) ?_
  refine g_f (v := .ref (m0 + 1)) Z kc_Mo hP hm.1 rfl 1 (by decide) wl_Mo_7 rfl rfl d_Mo_delete_18 ?_
  refine lv_iload_n hx hb d_Mo_delete_21 rfl (lv_at hl 1 rfl) ?_
  refine la_ialdv (v := (nI n)) hx hb hK hP 0 hm.2.1 rfl rfl (k + 1) rfl (by omega) (by decide) hn d_Mo_delete_22 ?_
  refine lv_icmp_lt (tgt := 30) hx hb d_Mo_delete_23 rfl (fun br23 => ?_) (fun br23 => absurd (nI_lt hq (by omega)) br23)
  refine lv_aload_n hx hb d_Mo_delete_30 rfl (lv_at hl 0 rfl) ?_
  refine lv_iload_n hx hb d_Mo_delete_31 rfl (lv_at hl 1 rfl) ?_
  refine cr_V Z kv_Mo_98 (c_Mo_loaded_t l D E La hm mu hk ho (by omega) hf) hP (la_recv hK hP kc_Mo hm.1 rfl) [.ref m0] rfl rfl hl.1 (Nat.le_of_ble_eq_true rfl) ⟨by decide, by decide⟩ ⟨Nat.le_refl _, Nat.le_refl _⟩ d_Mo_delete_32 ?_
  refine lv_if_eq (tgt := 42) hx hb d_Mo_delete_35 rfl (fun br35 => absurd br35 (by decide)) (fun br35 => ?_)
  refine lv_iconst (v := 3) hx hb d_Mo_delete_38 (by decide) ?_
  refine lv_goto (tgt := 43) hx hb d_Mo_delete_39 rfl ?_
  refine p_f Z kc_Mo hP hS hm.1 rfl 0 (by decide) wl_Mo_56 rfl rfl ⟨rfl, rfl⟩ (Nat.le_of_ble_eq_true rfl) rfl d_Mo_delete_43 (fun H locs hP hS => ?_)
  refine lv_aload_n hx hb d_Mo_delete_46 rfl (lv_at hl 0 rfl) ?_
  refine g_i (v := 3) Z kc_Mo hP hm.1 rfl 0 (by decide) wl_Mo_56 rfl rfl la_up_s d_Mo_delete_47 ?_
  refine lv_if_eq (tgt := 55) hx hb d_Mo_delete_50 rfl (fun br50 => absurd br50 (by decide)) (fun br50 => ?_)
  refine lv_iconst (v := 0) hx hb d_Mo_delete_53 (by decide) ?_
  exact W.iret hx hb hr (fun t ht hW => ⟨rfl, by rw [ht]; exact cvm hP (rfl), hS.F ht⟩) hS.2.2 d_Mo_delete_54
set_option maxHeartbeats 4000000 in
set_option maxRecDepth 100000 in
theorem c_Mo_delete_0 (l : Launch) (D : va_G) (E : Nat → ClassId) (La : la_L) {m0 : Nat} (hm : isMo E La m0) (mu : la_M) {k : Nat} (hk : k < 3) {q n w0 o0 t0 : Nat} (hq : q < n) (h64 : n ≤ 64) (hn : mu (m0 + 1) (k + 1) = nI n) (hz : ∀ i, chz (mu (m0 + 2) i)) (hw : mu (m0 + 5) (2 * k) = nI w0) (hw4 : w0 < 40) (ho : mu (m0 + 11) (2 * k) = nI o0) (hf : o0 < 16) (ht : mu (m0 + 3) (2 * k) = nI t0)  : cw l y_Mo_delete b_Mo_delete 4 (some .int) 3 67 D E La [.ref m0, .int (nI (k + 1)), .int (nI q)] mu (some (.int (mu (m0 + 2) (200 * (k + 1) + q)))) (md_bgn (la_up mu m0 0 0) m0 k 1 q n 0 w0 o0 t0) := by
  refine cw_begin R_Mo (by decide) rfl (Nat.le_of_ble_eq_true rfl) ?_
  intro p e s m below meth c ls Z hr hlocks hP hS hl
  have hx := Z.1
  have hb := Z.2.1
  have hK : va_K D cls5 (tyE E) s := Z.2.2.2.2.2
  have hl : lv_has ls 4 [(0, .ref m0), (1, .int (nI (k + 1))), (2, .int (nI q))] := hl
  have z1 := (show (la_up mu m0 0 0) (m0 + 1) (k + 1) = nI n by rw [la_up_n (by omega)]; exact hn)
  have z5 := (show (la_up mu m0 0 0) (m0 + 5) (2 * k) = nI w0 by rw [la_up_n (by omega)]; exact hw)
  have z11 := (show (la_up mu m0 0 0) (m0 + 11) (2 * k) = nI o0 by rw [la_up_n (by omega)]; exact ho)
  have z3 := (show (la_up mu m0 0 0) (m0 + 3) (2 * k) = nI t0 by rw [la_up_n (by omega)]; exact ht)
  have zz2 : ∀ i, chz ((la_up mu m0 0 0) (m0 + 2) i) := fun i => by rw [la_up_n (by omega)]; exact hz i
  refine lv_aload_n hx hb d_Mo_delete_0 rfl (lv_at hl 0 rfl) ?_
  refine lv_iload_n hx hb d_Mo_delete_1 rfl (lv_at hl 1 rfl) ?_
  refine cr_S Z ks_Mo_94 (c_Mo_isClient_y l D E La mu hk) hP [.ref m0] rfl rfl hl.1 (Nat.le_of_ble_eq_true rfl) ⟨by decide, by decide⟩ ⟨Nat.le_refl _, Nat.le_refl _⟩ d_Mo_delete_2 ?_
  refine lv_if_ne (tgt := 12) hx hb d_Mo_delete_5 rfl (fun br5 => ?_) (fun br5 => absurd br5 (by decide))
  refine lv_iload_n hx hb d_Mo_delete_12 rfl (lv_at hl 2 rfl) ?_
  refine lv_if_lt (tgt := 26) hx hb d_Mo_delete_13 rfl (fun br13 => absurd br13 (nI_pos (by omega))) (fun br13 => ?_)
  refine lv_iload_n hx hb d_Mo_delete_16 rfl (lv_at hl 2 rfl) ?_
  refine lv_aload_n hx hb d_Mo_delete_17 rfl (lv_at hl 0 rfl) ?_
  refine g_f (v := .ref (m0 + 1)) Z kc_Mo hP hm.1 rfl 1 (by decide) wl_Mo_7 rfl rfl d_Mo_delete_18 ?_
  refine lv_iload_n hx hb d_Mo_delete_21 rfl (lv_at hl 1 rfl) ?_
  refine la_ialdv (v := (nI n)) hx hb hK hP 0 hm.2.1 rfl rfl (k + 1) rfl (by omega) (by decide) hn d_Mo_delete_22 ?_
  refine lv_icmp_lt (tgt := 30) hx hb d_Mo_delete_23 rfl (fun br23 => ?_) (fun br23 => absurd (nI_lt hq (by omega)) br23)
  refine lv_aload_n hx hb d_Mo_delete_30 rfl (lv_at hl 0 rfl) ?_
  refine lv_iload_n hx hb d_Mo_delete_31 rfl (lv_at hl 1 rfl) ?_
  refine cr_V Z kv_Mo_98 (c_Mo_loaded_f l D E La hm mu hk ho (by omega) hf) hP (la_recv hK hP kc_Mo hm.1 rfl) [.ref m0] rfl rfl hl.1 (Nat.le_of_ble_eq_true rfl) ⟨by decide, by decide⟩ ⟨Nat.le_refl _, Nat.le_refl _⟩ d_Mo_delete_32 ?_
  refine lv_if_eq (tgt := 42) hx hb d_Mo_delete_35 rfl (fun br35 => ?_) (fun br35 => absurd (by decide) br35)
  refine lv_iconst (v := 0) hx hb d_Mo_delete_42 (by decide) ?_
  refine p_f Z kc_Mo hP hS hm.1 rfl 0 (by decide) wl_Mo_56 rfl rfl ⟨rfl, rfl⟩ (Nat.le_of_ble_eq_true rfl) rfl d_Mo_delete_43 (fun H locs hP hS => ?_)
  refine lv_aload_n hx hb d_Mo_delete_46 rfl (lv_at hl 0 rfl) ?_
  refine g_i (v := 0) Z kc_Mo hP hm.1 rfl 0 (by decide) wl_Mo_56 rfl rfl la_up_s d_Mo_delete_47 ?_
  refine lv_if_eq (tgt := 55) hx hb d_Mo_delete_50 rfl (fun br50 => ?_) (fun br50 => absurd (by decide) br50)
  refine lv_aload_n hx hb d_Mo_delete_55 rfl (lv_at hl 0 rfl) ?_
  refine g_f (v := .ref (m0 + 2)) Z kc_Mo hP hm.1 rfl 2 (by decide) wl_Mo_13 rfl rfl d_Mo_delete_56 ?_
  refine lv_sipush (v := 200) hx hb d_Mo_delete_59 (by decide) ?_
  refine lv_iload_n hx hb d_Mo_delete_62 rfl (lv_at hl 1 rfl) ?_
  refine lv_imul hx hb d_Mo_delete_63 ?_
  rw [show (200 : Int32) * nI (k + 1) = nI (200 * (k + 1)) from pk_mul 200 (k + 1)]
  refine lv_iload_n hx hb d_Mo_delete_64 rfl (lv_at hl 2 rfl) ?_
  refine lv_iadd hx hb d_Mo_delete_65 ?_
  rw [nI_add]
  refine la_caldv (v := (mu (m0 + 2) (200 * (k + 1) + q))) hx hb hK hP 1 hm.2.2.1 rfl rfl (200 * (k + 1) + q) rfl (by omega) (by decide) (congrFun (la_up_n (by omega)) (200 * (k + 1) + q)) d_Mo_delete_66 ?_
  refine lv_istore_n hx hb d_Mo_delete_67 rfl hl (by decide) rfl (fun ls hl => ?_)
  have hl : lv_has ls 4 [(3, .int (mu (m0 + 2) (200 * (k + 1) + q))), (0, .ref m0), (1, .int (nI (k + 1))), (2, .int (nI q))] := hl
  refine lv_aload_n hx hb d_Mo_delete_68 rfl (lv_at hl 1 rfl) ?_
  refine lv_iload_n hx hb d_Mo_delete_69 rfl (lv_at hl 2 rfl) ?_
  refine lv_iconst (v := 1) hx hb d_Mo_delete_70 (by decide) ?_
  refine lv_iload_n hx hb d_Mo_delete_71 rfl (lv_at hl 3 rfl) ?_
  refine lv_iconst (v := 0) hx hb d_Mo_delete_72 (by decide) ?_
  refine cw_V Z kv_Mo_101 (c_Mo_begin l D E La hm (la_up mu m0 0 0) hk (kd := 1) (q := q) (n := n) (cx := 0) (by decide) z1 (h64) zz2 (by decide) (fun h => by omega) (fun _ => hq) z5 hw4 z11 (by omega) z3) hP hS (fun _ h => h) (la_recv hK hP kc_Mo hm.1 rfl) [] rfl rfl hl.1 (Nat.le_of_ble_eq_true rfl) ⟨by decide, by decide⟩ ⟨Nat.le_refl _, Nat.le_refl _⟩ d_Mo_delete_73 (fun H locs hP hkp hS => ?_)
  refine lv_iload_n hx hb d_Mo_delete_76 rfl (lv_at hl 0 rfl) ?_
  exact W.iret hx hb hr (fun t ht hW => ⟨rfl, by rw [ht]; exact cvm hP (rfl), hS.F ht⟩) hS.2.2 d_Mo_delete_77
set_option maxHeartbeats 4000000 in
set_option maxRecDepth 100000 in
theorem c_Mo_nod_1 (l : Launch) (D : va_G) (E : Nat → ClassId) (La : la_L) {m0 : Nat} (hm : isMo E La m0) (mu : la_M) {cl : Int32} (hc : cl < 1 ∨ 3 < cl) : cw l y_Mo_nod b_Mo_nod 2 none 3 67 D E La [.ref m0, .int cl] mu none (la_up mu m0 0 1) := by
  refine cw_begin R_Mo (by decide) rfl (Nat.le_of_ble_eq_true rfl) ?_
  intro p e s m below meth c ls Z hr hlocks hP hS hl
  have hx := Z.1
  have hb := Z.2.1
  have hK : va_K D cls5 (tyE E) s := Z.2.2.2.2.2
  have hl : lv_has ls 2 [(0, .ref m0), (1, .int cl)] := hl
  refine lv_aload_n hx hb d_Mo_nod_0 rfl (lv_at hl 0 rfl) ?_
  refine lv_iload_n hx hb d_Mo_nod_1 rfl (lv_at hl 1 rfl) ?_
  refine cr_S Z ks_Mo_94 (c_Mo_isClient_n l D E La mu hc) hP [.ref m0] rfl rfl hl.1 (Nat.le_of_ble_eq_true rfl) ⟨by decide, by decide⟩ ⟨Nat.le_refl _, Nat.le_refl _⟩ d_Mo_nod_2 ?_
  refine lv_if_ne (tgt := 12) hx hb d_Mo_nod_5 rfl (fun br5 => absurd (rfl) br5) (fun br5 => ?_)
  refine lv_iconst (v := 1) hx hb d_Mo_nod_8 (by decide) ?_
  refine lv_goto (tgt := 25) hx hb d_Mo_nod_9 rfl ?_
  refine p_f Z kc_Mo hP hS hm.1 rfl 0 (by decide) wl_Mo_56 rfl rfl ⟨rfl, rfl⟩ (Nat.le_of_ble_eq_true rfl) rfl d_Mo_nod_25 (fun H locs hP hS => ?_)
  refine lv_aload_n hx hb d_Mo_nod_28 rfl (lv_at hl 0 rfl) ?_
  refine g_i (v := 1) Z kc_Mo hP hm.1 rfl 0 (by decide) wl_Mo_56 rfl rfl la_up_s d_Mo_nod_29 ?_
  refine lv_if_ne (tgt := 43) hx hb d_Mo_nod_32 rfl (fun br32 => ?_) (fun br32 => absurd br32 (by decide))
  exact W.vret hx hb hr (fun t ht hW => ⟨rfl, by rw [ht]; exact cvm hP (rfl), hS.F ht⟩) hS.2.2 d_Mo_nod_43
set_option maxHeartbeats 4000000 in
set_option maxRecDepth 100000 in
theorem c_Mo_nod_2 (l : Launch) (D : va_G) (E : Nat → ClassId) (La : la_L) {m0 : Nat} (hm : isMo E La m0) (mu : la_M) {k : Nat} (hk : k < 3) {o0 : Nat} (ho : mu (m0 + 11) (2 * k) = nI o0) (ho4 : o0 < 40) (hf : 16 ≤ o0) : cw l y_Mo_nod b_Mo_nod 2 none 3 67 D E La [.ref m0, .int (nI (k + 1))] mu none (la_up mu m0 0 2) := by
  refine cw_begin R_Mo (by decide) rfl (Nat.le_of_ble_eq_true rfl) ?_
  intro p e s m below meth c ls Z hr hlocks hP hS hl
  have hx := Z.1
  have hb := Z.2.1
  have hK : va_K D cls5 (tyE E) s := Z.2.2.2.2.2
  have hl : lv_has ls 2 [(0, .ref m0), (1, .int (nI (k + 1)))] := hl
  refine lv_aload_n hx hb d_Mo_nod_0 rfl (lv_at hl 0 rfl) ?_
  refine lv_iload_n hx hb d_Mo_nod_1 rfl (lv_at hl 1 rfl) ?_
  refine cr_S Z ks_Mo_94 (c_Mo_isClient_y l D E La mu hk) hP [.ref m0] rfl rfl hl.1 (Nat.le_of_ble_eq_true rfl) ⟨by decide, by decide⟩ ⟨Nat.le_refl _, Nat.le_refl _⟩ d_Mo_nod_2 ?_
  refine lv_if_ne (tgt := 12) hx hb d_Mo_nod_5 rfl (fun br5 => ?_) (fun br5 => absurd br5 (by decide))
  refine lv_aload_n hx hb d_Mo_nod_12 rfl (lv_at hl 0 rfl) ?_
  refine lv_iload_n hx hb d_Mo_nod_13 rfl (lv_at hl 1 rfl) ?_
  refine cr_V Z kv_Mo_98 (c_Mo_loaded_t l D E La hm mu hk ho (by omega) hf) hP (la_recv hK hP kc_Mo hm.1 rfl) [.ref m0] rfl rfl hl.1 (Nat.le_of_ble_eq_true rfl) ⟨by decide, by decide⟩ ⟨Nat.le_refl _, Nat.le_refl _⟩ d_Mo_nod_14 ?_
  refine lv_if_eq (tgt := 24) hx hb d_Mo_nod_17 rfl (fun br17 => absurd br17 (by decide)) (fun br17 => ?_)
  refine lv_iconst (v := 2) hx hb d_Mo_nod_20 (by decide) ?_
  refine lv_goto (tgt := 25) hx hb d_Mo_nod_21 rfl ?_
  refine p_f Z kc_Mo hP hS hm.1 rfl 0 (by decide) wl_Mo_56 rfl rfl ⟨rfl, rfl⟩ (Nat.le_of_ble_eq_true rfl) rfl d_Mo_nod_25 (fun H locs hP hS => ?_)
  refine lv_aload_n hx hb d_Mo_nod_28 rfl (lv_at hl 0 rfl) ?_
  refine g_i (v := 2) Z kc_Mo hP hm.1 rfl 0 (by decide) wl_Mo_56 rfl rfl la_up_s d_Mo_nod_29 ?_
  refine lv_if_ne (tgt := 43) hx hb d_Mo_nod_32 rfl (fun br32 => ?_) (fun br32 => absurd br32 (by decide))
  exact W.vret hx hb hr (fun t ht hW => ⟨rfl, by rw [ht]; exact cvm hP (rfl), hS.F ht⟩) hS.2.2 d_Mo_nod_43
set_option maxHeartbeats 4000000 in
set_option maxRecDepth 100000 in
theorem c_Mo_nod_0 (l : Launch) (D : va_G) (E : Nat → ClassId) (La : la_L) {m0 : Nat} (hm : isMo E La m0) (mu : la_M) {k : Nat} (hk : k < 3) {n w0 o0 t0 : Nat} (h64 : n ≤ 64) (hn : mu (m0 + 1) (k + 1) = nI n) (hz : ∀ i, chz (mu (m0 + 2) i)) (hw : mu (m0 + 5) (2 * k) = nI w0) (hw4 : w0 < 40) (ho : mu (m0 + 11) (2 * k) = nI o0) (hf : o0 < 16) (ht : mu (m0 + 3) (2 * k) = nI t0)  : cw l y_Mo_nod b_Mo_nod 2 none 3 67 D E La [.ref m0, .int (nI (k + 1))] mu none (md_bgn (la_up mu m0 0 0) m0 k 2 0 n 0 w0 o0 t0) := by
  refine cw_begin R_Mo (by decide) rfl (Nat.le_of_ble_eq_true rfl) ?_
  intro p e s m below meth c ls Z hr hlocks hP hS hl
  have hx := Z.1
  have hb := Z.2.1
  have hK : va_K D cls5 (tyE E) s := Z.2.2.2.2.2
  have hl : lv_has ls 2 [(0, .ref m0), (1, .int (nI (k + 1)))] := hl
  have z1 := (show (la_up mu m0 0 0) (m0 + 1) (k + 1) = nI n by rw [la_up_n (by omega)]; exact hn)
  have z5 := (show (la_up mu m0 0 0) (m0 + 5) (2 * k) = nI w0 by rw [la_up_n (by omega)]; exact hw)
  have z11 := (show (la_up mu m0 0 0) (m0 + 11) (2 * k) = nI o0 by rw [la_up_n (by omega)]; exact ho)
  have z3 := (show (la_up mu m0 0 0) (m0 + 3) (2 * k) = nI t0 by rw [la_up_n (by omega)]; exact ht)
  have zz2 : ∀ i, chz ((la_up mu m0 0 0) (m0 + 2) i) := fun i => by rw [la_up_n (by omega)]; exact hz i
  refine lv_aload_n hx hb d_Mo_nod_0 rfl (lv_at hl 0 rfl) ?_
  refine lv_iload_n hx hb d_Mo_nod_1 rfl (lv_at hl 1 rfl) ?_
  refine cr_S Z ks_Mo_94 (c_Mo_isClient_y l D E La mu hk) hP [.ref m0] rfl rfl hl.1 (Nat.le_of_ble_eq_true rfl) ⟨by decide, by decide⟩ ⟨Nat.le_refl _, Nat.le_refl _⟩ d_Mo_nod_2 ?_
  refine lv_if_ne (tgt := 12) hx hb d_Mo_nod_5 rfl (fun br5 => ?_) (fun br5 => absurd br5 (by decide))
  refine lv_aload_n hx hb d_Mo_nod_12 rfl (lv_at hl 0 rfl) ?_
  refine lv_iload_n hx hb d_Mo_nod_13 rfl (lv_at hl 1 rfl) ?_
  refine cr_V Z kv_Mo_98 (c_Mo_loaded_f l D E La hm mu hk ho (by omega) hf) hP (la_recv hK hP kc_Mo hm.1 rfl) [.ref m0] rfl rfl hl.1 (Nat.le_of_ble_eq_true rfl) ⟨by decide, by decide⟩ ⟨Nat.le_refl _, Nat.le_refl _⟩ d_Mo_nod_14 ?_
  refine lv_if_eq (tgt := 24) hx hb d_Mo_nod_17 rfl (fun br17 => ?_) (fun br17 => absurd (by decide) br17)
  refine lv_iconst (v := 0) hx hb d_Mo_nod_24 (by decide) ?_
  refine p_f Z kc_Mo hP hS hm.1 rfl 0 (by decide) wl_Mo_56 rfl rfl ⟨rfl, rfl⟩ (Nat.le_of_ble_eq_true rfl) rfl d_Mo_nod_25 (fun H locs hP hS => ?_)
  refine lv_aload_n hx hb d_Mo_nod_28 rfl (lv_at hl 0 rfl) ?_
  refine g_i (v := 0) Z kc_Mo hP hm.1 rfl 0 (by decide) wl_Mo_56 rfl rfl la_up_s d_Mo_nod_29 ?_
  refine lv_if_ne (tgt := 43) hx hb d_Mo_nod_32 rfl (fun br32 => absurd (rfl) br32) (fun br32 => ?_)
  refine lv_aload_n hx hb d_Mo_nod_35 rfl (lv_at hl 0 rfl) ?_
  refine lv_iload_n hx hb d_Mo_nod_36 rfl (lv_at hl 1 rfl) ?_
  refine lv_iconst (v := 2) hx hb d_Mo_nod_37 (by decide) ?_
  refine lv_iconst (v := 0) hx hb d_Mo_nod_38 (by decide) ?_
  refine lv_iconst (v := 0) hx hb d_Mo_nod_39 (by decide) ?_
  refine cw_V Z kv_Mo_101 (c_Mo_begin l D E La hm (la_up mu m0 0 0) hk (kd := 2) (q := 0) (n := n) (cx := 0) (by decide) z1 (h64) zz2 (by decide) (fun h => by omega) (fun h => by omega) z5 hw4 z11 (by omega) z3) hP hS (fun _ h => h) (la_recv hK hP kc_Mo hm.1 rfl) [] rfl rfl hl.1 (Nat.le_of_ble_eq_true rfl) ⟨by decide, by decide⟩ ⟨Nat.le_refl _, Nat.le_refl _⟩ d_Mo_nod_40 (fun H locs hP hkp hS => ?_)
  exact W.vret hx hb hr (fun t ht hW => ⟨rfl, by rw [ht]; exact cvm hP (rfl), hS.F ht⟩) hS.2.2 d_Mo_nod_43
set_option maxHeartbeats 4000000 in
set_option maxRecDepth 100000 in
theorem c_Mo_pull_1 (l : Launch) (D : va_G) (E : Nat → ClassId) (La : la_L) {m0 : Nat} (hm : isMo E La m0) (mu : la_M) {cl : Int32} (hc : cl < 1 ∨ 3 < cl) : cw l y_Mo_pull b_Mo_pull 2 (some .int) 2 53 D E La [.ref m0, .int cl] mu (some (.int 0)) (la_up mu m0 0 1) := by
  refine cw_begin R_Mo (by decide) rfl (Nat.le_of_ble_eq_true rfl) ?_
  intro p e s m below meth c ls Z hr hlocks hP hS hl
  have hx := Z.1
  have hb := Z.2.1
  have hK : va_K D cls5 (tyE E) s := Z.2.2.2.2.2
  have hl : lv_has ls 2 [(0, .ref m0), (1, .int cl)] := hl
  refine lv_aload_n hx hb d_Mo_pull_0 rfl (lv_at hl 0 rfl) ?_
  refine lv_iload_n hx hb d_Mo_pull_1 rfl (lv_at hl 1 rfl) ?_
  refine cr_S Z ks_Mo_94 (c_Mo_isClient_n l D E La mu hc) hP [.ref m0] rfl rfl hl.1 (Nat.le_of_ble_eq_true rfl) ⟨by decide, by decide⟩ ⟨Nat.le_refl _, Nat.le_refl _⟩ d_Mo_pull_2 ?_
  refine lv_if_ne (tgt := 12) hx hb d_Mo_pull_5 rfl (fun br5 => absurd (rfl) br5) (fun br5 => ?_)
  refine lv_iconst (v := 1) hx hb d_Mo_pull_8 (by decide) ?_
  refine lv_goto (tgt := 30) hx hb d_Mo_pull_9 rfl ?_
  refine p_f Z kc_Mo hP hS hm.1 rfl 0 (by decide) wl_Mo_56 rfl rfl ⟨rfl, rfl⟩ (Nat.le_of_ble_eq_true rfl) rfl d_Mo_pull_30 (fun H locs hP hS => ?_)
  refine lv_aload_n hx hb d_Mo_pull_33 rfl (lv_at hl 0 rfl) ?_
  refine g_i (v := 1) Z kc_Mo hP hm.1 rfl 0 (by decide) wl_Mo_56 rfl rfl la_up_s d_Mo_pull_34 ?_
  refine lv_if_eq (tgt := 42) hx hb d_Mo_pull_37 rfl (fun br37 => absurd br37 (by decide)) (fun br37 => ?_)
  refine lv_iconst (v := 0) hx hb d_Mo_pull_40 (by decide) ?_
  exact W.iret hx hb hr (fun t ht hW => ⟨rfl, by rw [ht]; exact cvm hP (rfl), hS.F ht⟩) hS.2.2 d_Mo_pull_41
set_option maxHeartbeats 4000000 in
set_option maxRecDepth 100000 in
theorem c_Mo_pull_2 (l : Launch) (D : va_G) (E : Nat → ClassId) (La : la_L) {m0 : Nat} (hm : isMo E La m0) (mu : la_M) {k : Nat} (hk : k < 3) (hw : mu (m0 + 5) (2 * k + 1) = 0) : cw l y_Mo_pull b_Mo_pull 2 (some .int) 2 53 D E La [.ref m0, .int (nI (k + 1))] mu (some (.int 0)) (la_up mu m0 0 2) := by
  refine cw_begin R_Mo (by decide) rfl (Nat.le_of_ble_eq_true rfl) ?_
  intro p e s m below meth c ls Z hr hlocks hP hS hl
  have hx := Z.1
  have hb := Z.2.1
  have hK : va_K D cls5 (tyE E) s := Z.2.2.2.2.2
  have hl : lv_has ls 2 [(0, .ref m0), (1, .int (nI (k + 1)))] := hl
  refine lv_aload_n hx hb d_Mo_pull_0 rfl (lv_at hl 0 rfl) ?_
  refine lv_iload_n hx hb d_Mo_pull_1 rfl (lv_at hl 1 rfl) ?_
  refine cr_S Z ks_Mo_94 (c_Mo_isClient_y l D E La mu hk) hP [.ref m0] rfl rfl hl.1 (Nat.le_of_ble_eq_true rfl) ⟨by decide, by decide⟩ ⟨Nat.le_refl _, Nat.le_refl _⟩ d_Mo_pull_2 ?_
  refine lv_if_ne (tgt := 12) hx hb d_Mo_pull_5 rfl (fun br5 => ?_) (fun br5 => absurd br5 (by decide))
  refine lv_aload_n hx hb d_Mo_pull_12 rfl (lv_at hl 0 rfl) ?_
  refine g_f (v := .ref (m0 + 5)) Z kc_Mo hP hm.1 rfl 5 (by decide) wl_Mo_23 rfl rfl d_Mo_pull_13 ?_
  refine lv_iload_n hx hb d_Mo_pull_16 rfl (lv_at hl 1 rfl) ?_
  refine lv_iconst (v := 0) hx hb d_Mo_pull_17 (by decide) ?_
  refine cr_S Z ks_Mo_87 (c_Mo_line_d l D E La mu (k := k) (u := 0) rfl) hP [.ref (m0 + 5), .ref m0] rfl rfl hl.1 (Nat.le_of_ble_eq_true rfl) ⟨by decide, by decide⟩ ⟨Nat.le_refl _, Nat.le_refl _⟩ d_Mo_pull_18 ?_
  refine la_ialdv (v := 0) hx hb hK hP 0 hm.2.2.2.2.2.1 rfl rfl (2 * k + 1) rfl (by omega) (by decide) hw d_Mo_pull_21 ?_
  refine lv_if_ne (tgt := 29) hx hb d_Mo_pull_22 rfl (fun br22 => absurd (rfl) br22) (fun br22 => ?_)
  refine lv_iconst (v := 2) hx hb d_Mo_pull_25 (by decide) ?_
  refine lv_goto (tgt := 30) hx hb d_Mo_pull_26 rfl ?_
  refine p_f Z kc_Mo hP hS hm.1 rfl 0 (by decide) wl_Mo_56 rfl rfl ⟨rfl, rfl⟩ (Nat.le_of_ble_eq_true rfl) rfl d_Mo_pull_30 (fun H locs hP hS => ?_)
  refine lv_aload_n hx hb d_Mo_pull_33 rfl (lv_at hl 0 rfl) ?_
  refine g_i (v := 2) Z kc_Mo hP hm.1 rfl 0 (by decide) wl_Mo_56 rfl rfl la_up_s d_Mo_pull_34 ?_
  refine lv_if_eq (tgt := 42) hx hb d_Mo_pull_37 rfl (fun br37 => absurd br37 (by decide)) (fun br37 => ?_)
  refine lv_iconst (v := 0) hx hb d_Mo_pull_40 (by decide) ?_
  exact W.iret hx hb hr (fun t ht hW => ⟨rfl, by rw [ht]; exact cvm hP (rfl), hS.F ht⟩) hS.2.2 d_Mo_pull_41
set_option maxHeartbeats 4000000 in
set_option maxRecDepth 100000 in
theorem c_Mo_pull_0 (l : Launch) (D : va_G) (E : Nat → ClassId) (La : la_L) {m0 : Nat} (hm : isMo E La m0) (mu : la_M) {k : Nat} (hk : k < 3) {mu1 : la_M} {w0 : Nat} (hw : mu (m0 + 5) (2 * k + 1) = nI w0) (hw0 : 0 < w0) (hw4 : w0 < 40) (hG : cw l y_Mo_get b_Mo_get 9 none 1 25 D E La [.ref m0, .int (nI (2 * k + 1)), .int (nI (k + 1))] (la_up mu m0 0 0) none mu1) : cw l y_Mo_pull b_Mo_pull 2 (some .int) 2 53 D E La [.ref m0, .int (nI (k + 1))] mu (some (.int (mu1 m0 16))) mu1 := by
  refine cw_begin R_Mo (by decide) rfl (Nat.le_of_ble_eq_true rfl) ?_
  intro p e s m below meth c ls Z hr hlocks hP hS hl
  have hx := Z.1
  have hb := Z.2.1
  have hK : va_K D cls5 (tyE E) s := Z.2.2.2.2.2
  have hl : lv_has ls 2 [(0, .ref m0), (1, .int (nI (k + 1)))] := hl
  refine lv_aload_n hx hb d_Mo_pull_0 rfl (lv_at hl 0 rfl) ?_
  refine lv_iload_n hx hb d_Mo_pull_1 rfl (lv_at hl 1 rfl) ?_
  refine cr_S Z ks_Mo_94 (c_Mo_isClient_y l D E La mu hk) hP [.ref m0] rfl rfl hl.1 (Nat.le_of_ble_eq_true rfl) ⟨by decide, by decide⟩ ⟨Nat.le_refl _, Nat.le_refl _⟩ d_Mo_pull_2 ?_
  refine lv_if_ne (tgt := 12) hx hb d_Mo_pull_5 rfl (fun br5 => ?_) (fun br5 => absurd br5 (by decide))
  refine lv_aload_n hx hb d_Mo_pull_12 rfl (lv_at hl 0 rfl) ?_
  refine g_f (v := .ref (m0 + 5)) Z kc_Mo hP hm.1 rfl 5 (by decide) wl_Mo_23 rfl rfl d_Mo_pull_13 ?_
  refine lv_iload_n hx hb d_Mo_pull_16 rfl (lv_at hl 1 rfl) ?_
  refine lv_iconst (v := 0) hx hb d_Mo_pull_17 (by decide) ?_
  refine cr_S Z ks_Mo_87 (c_Mo_line_d l D E La mu (k := k) (u := 0) rfl) hP [.ref (m0 + 5), .ref m0] rfl rfl hl.1 (Nat.le_of_ble_eq_true rfl) ⟨by decide, by decide⟩ ⟨Nat.le_refl _, Nat.le_refl _⟩ d_Mo_pull_18 ?_
  refine la_ialdv (v := (nI w0)) hx hb hK hP 0 hm.2.2.2.2.2.1 rfl rfl (2 * k + 1) rfl (by omega) (by decide) hw d_Mo_pull_21 ?_
  refine lv_if_ne (tgt := 29) hx hb d_Mo_pull_22 rfl (fun br22 => ?_) (fun br22 => absurd br22 (nI_ne0 hw0 (by omega)))
  refine lv_iconst (v := 0) hx hb d_Mo_pull_29 (by decide) ?_
  refine p_f Z kc_Mo hP hS hm.1 rfl 0 (by decide) wl_Mo_56 rfl rfl ⟨rfl, rfl⟩ (Nat.le_of_ble_eq_true rfl) rfl d_Mo_pull_30 (fun H locs hP hS => ?_)
  refine lv_aload_n hx hb d_Mo_pull_33 rfl (lv_at hl 0 rfl) ?_
  refine g_i (v := 0) Z kc_Mo hP hm.1 rfl 0 (by decide) wl_Mo_56 rfl rfl la_up_s d_Mo_pull_34 ?_
  refine lv_if_eq (tgt := 42) hx hb d_Mo_pull_37 rfl (fun br37 => ?_) (fun br37 => absurd (by decide) br37)
  refine lv_aload_n hx hb d_Mo_pull_42 rfl (lv_at hl 0 rfl) ?_
  refine lv_iload_n hx hb d_Mo_pull_43 rfl (lv_at hl 1 rfl) ?_
  refine lv_iconst (v := 0) hx hb d_Mo_pull_44 (by decide) ?_
  refine cr_S Z ks_Mo_87 (c_Mo_line_d l D E La (la_up mu m0 0 0) (k := k) (u := 0) rfl) hP [.ref m0] rfl rfl hl.1 (Nat.le_of_ble_eq_true rfl) ⟨by decide, by decide⟩ ⟨Nat.le_refl _, Nat.le_refl _⟩ d_Mo_pull_45 ?_
  refine lv_iload_n hx hb d_Mo_pull_48 rfl (lv_at hl 1 rfl) ?_
  refine cw_V Z kv_Mo_105 (hG) hP hS (fun _ h => h) (la_recv hK hP kc_Mo hm.1 rfl) [] rfl rfl hl.1 (Nat.le_of_ble_eq_true rfl) ⟨by decide, by decide⟩ ⟨Nat.le_refl _, Nat.le_refl _⟩ d_Mo_pull_49 (fun H locs hP hkp hS => ?_)
  refine lv_aload_n hx hb d_Mo_pull_52 rfl (lv_at hl 0 rfl) ?_
  refine g_f Z kc_Mo hP hm.1 rfl 16 (by decide) wl_Mo_60 rfl rfl d_Mo_pull_53 ?_
  exact W.iret hx hb hr (fun t ht hW => ⟨rfl, by rw [ht]; exact cvm hP (rfl), hS.F ht⟩) hS.2.2 d_Mo_pull_56
set_option maxHeartbeats 4000000 in
set_option maxRecDepth 100000 in
theorem c_Mo_push_1 (l : Launch) (D : va_G) (E : Nat → ClassId) (La : la_L) {m0 : Nat} (hm : isMo E La m0) (mu : la_M) {cl : Int32} (hc : cl < 1 ∨ 3 < cl) : cw l y_Mo_push b_Mo_push 4 (some .int) 2 53 D E La [.ref m0, .int cl] mu (some (.int 0)) (la_up mu m0 0 1) := by
  refine cw_begin R_Mo (by decide) rfl (Nat.le_of_ble_eq_true rfl) ?_
  intro p e s m below meth c ls Z hr hlocks hP hS hl
  have hx := Z.1
  have hb := Z.2.1
  have hK : va_K D cls5 (tyE E) s := Z.2.2.2.2.2
  have hl : lv_has ls 4 [(0, .ref m0), (1, .int cl)] := hl
  refine lv_aload_n hx hb d_Mo_push_0 rfl (lv_at hl 0 rfl) ?_
  refine lv_iload_n hx hb d_Mo_push_1 rfl (lv_at hl 1 rfl) ?_
  refine cr_S Z ks_Mo_94 (c_Mo_isClient_n l D E La mu hc) hP [.ref m0] rfl rfl hl.1 (Nat.le_of_ble_eq_true rfl) ⟨by decide, by decide⟩ ⟨Nat.le_refl _, Nat.le_refl _⟩ d_Mo_push_2 ?_
  refine lv_if_ne (tgt := 12) hx hb d_Mo_push_5 rfl (fun br5 => absurd (rfl) br5) (fun br5 => ?_)
  refine lv_iconst (v := 1) hx hb d_Mo_push_8 (by decide) ?_
  refine lv_goto (tgt := 30) hx hb d_Mo_push_9 rfl ?_
  refine p_f Z kc_Mo hP hS hm.1 rfl 0 (by decide) wl_Mo_56 rfl rfl ⟨rfl, rfl⟩ (Nat.le_of_ble_eq_true rfl) rfl d_Mo_push_30 (fun H locs hP hS => ?_)
  refine lv_iconst (v := 1) hx hb d_Mo_push_33 (by decide) ?_
  refine lv_istore_n hx hb d_Mo_push_34 rfl hl (by decide) rfl (fun ls hl => ?_)
  have hl : lv_has ls 4 [(2, .int 1), (0, .ref m0), (1, .int cl)] := hl
  refine lv_iload_n hx hb d_Mo_push_35 rfl (lv_at hl 0 rfl) ?_
  refine lv_iconst (v := 3) hx hb d_Mo_push_36 (by decide) ?_
  refine lv_icmp_gt (tgt := 95) hx hb d_Mo_push_37 rfl (fun br37 => absurd br37 (by decide)) (fun br37 => ?_)
  refine lv_aload_n hx hb d_Mo_push_40 rfl (lv_at hl 1 rfl) ?_
  refine g_i (v := 1) Z kc_Mo hP hm.1 rfl 0 (by decide) wl_Mo_56 rfl rfl la_up_s d_Mo_push_41 ?_
  refine lv_if_ne (tgt := 95) hx hb d_Mo_push_44 rfl (fun br44 => ?_) (fun br44 => absurd br44 (by decide))
  refine lv_aload_n hx hb d_Mo_push_95 rfl (lv_at hl 1 rfl) ?_
  refine g_i (v := 1) Z kc_Mo hP hm.1 rfl 0 (by decide) wl_Mo_56 rfl rfl la_up_s d_Mo_push_96 ?_
  refine lv_if_eq (tgt := 104) hx hb d_Mo_push_99 rfl (fun br99 => absurd br99 (by decide)) (fun br99 => ?_)
  refine lv_iconst (v := 0) hx hb d_Mo_push_102 (by decide) ?_
  exact W.iret hx hb hr (fun t ht hW => ⟨rfl, by rw [ht]; exact cvm hP (rfl), hS.F ht⟩) hS.2.2 d_Mo_push_103
set_option maxHeartbeats 4000000 in
set_option maxRecDepth 100000 in
theorem c_Mo_push_2 (l : Launch) (D : va_G) (E : Nat → ClassId) (La : la_L) {m0 : Nat} (hm : isMo E La m0) (mu : la_M) {k : Nat} (hk : k < 3) (hw : mu (m0 + 5) (2 * k) = 0) : cw l y_Mo_push b_Mo_push 4 (some .int) 2 53 D E La [.ref m0, .int (nI (k + 1))] mu (some (.int 0)) (la_up mu m0 0 2) := by
  refine cw_begin R_Mo (by decide) rfl (Nat.le_of_ble_eq_true rfl) ?_
  intro p e s m below meth c ls Z hr hlocks hP hS hl
  have hx := Z.1
  have hb := Z.2.1
  have hK : va_K D cls5 (tyE E) s := Z.2.2.2.2.2
  have hl : lv_has ls 4 [(0, .ref m0), (1, .int (nI (k + 1)))] := hl
  refine lv_aload_n hx hb d_Mo_push_0 rfl (lv_at hl 0 rfl) ?_
  refine lv_iload_n hx hb d_Mo_push_1 rfl (lv_at hl 1 rfl) ?_
  refine cr_S Z ks_Mo_94 (c_Mo_isClient_y l D E La mu hk) hP [.ref m0] rfl rfl hl.1 (Nat.le_of_ble_eq_true rfl) ⟨by decide, by decide⟩ ⟨Nat.le_refl _, Nat.le_refl _⟩ d_Mo_push_2 ?_
  refine lv_if_ne (tgt := 12) hx hb d_Mo_push_5 rfl (fun br5 => ?_) (fun br5 => absurd br5 (by decide))
  refine lv_aload_n hx hb d_Mo_push_12 rfl (lv_at hl 0 rfl) ?_
  refine g_f (v := .ref (m0 + 5)) Z kc_Mo hP hm.1 rfl 5 (by decide) wl_Mo_23 rfl rfl d_Mo_push_13 ?_
  refine lv_iload_n hx hb d_Mo_push_16 rfl (lv_at hl 1 rfl) ?_
  refine lv_iconst (v := 1) hx hb d_Mo_push_17 (by decide) ?_
  refine cr_S Z ks_Mo_87 (c_Mo_line_u l D E La mu (k := k) (u := 1) (by decide)) hP [.ref (m0 + 5), .ref m0] rfl rfl hl.1 (Nat.le_of_ble_eq_true rfl) ⟨by decide, by decide⟩ ⟨Nat.le_refl _, Nat.le_refl _⟩ d_Mo_push_18 ?_
  refine la_ialdv (v := 0) hx hb hK hP 0 hm.2.2.2.2.2.1 rfl rfl (2 * k) rfl (by omega) (by decide) hw d_Mo_push_21 ?_
  refine lv_if_ne (tgt := 29) hx hb d_Mo_push_22 rfl (fun br22 => absurd (rfl) br22) (fun br22 => ?_)
  refine lv_iconst (v := 2) hx hb d_Mo_push_25 (by decide) ?_
  refine lv_goto (tgt := 30) hx hb d_Mo_push_26 rfl ?_
  refine p_f Z kc_Mo hP hS hm.1 rfl 0 (by decide) wl_Mo_56 rfl rfl ⟨rfl, rfl⟩ (Nat.le_of_ble_eq_true rfl) rfl d_Mo_push_30 (fun H locs hP hS => ?_)
  refine lv_iconst (v := 1) hx hb d_Mo_push_33 (by decide) ?_
  refine lv_istore_n hx hb d_Mo_push_34 rfl hl (by decide) rfl (fun ls hl => ?_)
  have hl : lv_has ls 4 [(2, .int 1), (0, .ref m0), (1, .int (nI (k + 1)))] := hl
  refine lv_iload_n hx hb d_Mo_push_35 rfl (lv_at hl 0 rfl) ?_
  refine lv_iconst (v := 3) hx hb d_Mo_push_36 (by decide) ?_
  refine lv_icmp_gt (tgt := 95) hx hb d_Mo_push_37 rfl (fun br37 => absurd br37 (by decide)) (fun br37 => ?_)
  refine lv_aload_n hx hb d_Mo_push_40 rfl (lv_at hl 1 rfl) ?_
  refine g_i (v := 2) Z kc_Mo hP hm.1 rfl 0 (by decide) wl_Mo_56 rfl rfl la_up_s d_Mo_push_41 ?_
  refine lv_if_ne (tgt := 95) hx hb d_Mo_push_44 rfl (fun br44 => ?_) (fun br44 => absurd br44 (by decide))
  refine lv_aload_n hx hb d_Mo_push_95 rfl (lv_at hl 1 rfl) ?_
  refine g_i (v := 2) Z kc_Mo hP hm.1 rfl 0 (by decide) wl_Mo_56 rfl rfl la_up_s d_Mo_push_96 ?_
  refine lv_if_eq (tgt := 104) hx hb d_Mo_push_99 rfl (fun br99 => absurd br99 (by decide)) (fun br99 => ?_)
  refine lv_iconst (v := 0) hx hb d_Mo_push_102 (by decide) ?_
  exact W.iret hx hb hr (fun t ht hW => ⟨rfl, by rw [ht]; exact cvm hP (rfl), hS.F ht⟩) hS.2.2 d_Mo_push_103
set_option maxHeartbeats 4000000 in
set_option maxRecDepth 100000 in
theorem c_Mo_push_3_01 (l : Launch) (D : va_G) (E : Nat → ClassId) (La : la_L) {m0 : Nat} (hm : isMo E La m0) (mu : la_M) {w0 : Nat} (hw : mu (m0 + 5) 0 = nI w0) (hw0 : 0 < w0) (hw4 : w0 < 40) {p1 : Nat} (po1 : mu (m0 + 11) 3 = nI p1) (pf1 : 24 ≤ p1) (pg1 : p1 < 2 ^ 31)  : cw l y_Mo_push b_Mo_push 4 (some .int) 2 53 D E La [.ref m0, .int 1] mu (some (.int 0)) (la_up mu m0 0 3) := by
  refine cw_begin R_Mo (by decide) rfl (Nat.le_of_ble_eq_true rfl) ?_
  intro p e s m below meth c ls Z hr hlocks hP hS hl
  have hx := Z.1
  have hb := Z.2.1
  have hK : va_K D cls5 (tyE E) s := Z.2.2.2.2.2
  have hl : lv_has ls 4 [(0, .ref m0), (1, .int 1)] := hl
  refine lv_aload_n hx hb d_Mo_push_0 rfl (lv_at hl 0 rfl) ?_
  refine lv_iload_n hx hb d_Mo_push_1 rfl (lv_at hl 1 rfl) ?_
  refine cr_S Z ks_Mo_94 (c_Mo_isClient_y l D E La mu (k := 0) (by decide)) hP [.ref m0] rfl rfl hl.1 (Nat.le_of_ble_eq_true rfl) ⟨by decide, by decide⟩ ⟨Nat.le_refl _, Nat.le_refl _⟩ d_Mo_push_2 ?_
  refine lv_if_ne (tgt := 12) hx hb d_Mo_push_5 rfl (fun br5 => ?_) (fun br5 => absurd br5 (by decide))
  refine lv_aload_n hx hb d_Mo_push_12 rfl (lv_at hl 0 rfl) ?_
  refine g_f (v := .ref (m0 + 5)) Z kc_Mo hP hm.1 rfl 5 (by decide) wl_Mo_23 rfl rfl d_Mo_push_13 ?_
  refine lv_iload_n hx hb d_Mo_push_16 rfl (lv_at hl 1 rfl) ?_
  refine lv_iconst (v := 1) hx hb d_Mo_push_17 (by decide) ?_
  refine cr_S Z ks_Mo_87 (c_Mo_line_u l D E La mu (k := 0) (u := 1) (by decide)) hP [.ref (m0 + 5), .ref m0] rfl rfl hl.1 (Nat.le_of_ble_eq_true rfl) ⟨by decide, by decide⟩ ⟨Nat.le_refl _, Nat.le_refl _⟩ d_Mo_push_18 ?_
  refine la_ialdv (v := (nI w0)) hx hb hK hP 0 hm.2.2.2.2.2.1 rfl rfl 0 rfl (by decide) (by decide) hw d_Mo_push_21 ?_
  refine lv_if_ne (tgt := 29) hx hb d_Mo_push_22 rfl (fun br22 => ?_) (fun br22 => absurd br22 (nI_ne0 hw0 (by omega)))
  refine lv_iconst (v := 0) hx hb d_Mo_push_29 (by decide) ?_
  refine p_f Z kc_Mo hP hS hm.1 rfl 0 (by decide) wl_Mo_56 rfl rfl ⟨rfl, rfl⟩ (Nat.le_of_ble_eq_true rfl) rfl d_Mo_push_30 (fun H locs hP hS => ?_)
  refine lv_iconst (v := 1) hx hb d_Mo_push_33 (by decide) ?_
  refine lv_istore_n hx hb d_Mo_push_34 rfl hl (by decide) rfl (fun ls hl => ?_)
  have hl : lv_has ls 4 [(2, .int 1), (0, .ref m0), (1, .int 1)] := hl
  refine lv_iload_n hx hb d_Mo_push_35 rfl (lv_at hl 0 rfl) ?_
  refine lv_iconst (v := 3) hx hb d_Mo_push_36 (by decide) ?_
  refine lv_icmp_gt (tgt := 95) hx hb d_Mo_push_37 rfl (fun br37 => absurd br37 (by decide)) (fun br37 => ?_)
  refine lv_aload_n hx hb d_Mo_push_40 rfl (lv_at hl 1 rfl) ?_
  refine g_i (v := 0) Z kc_Mo hP hm.1 rfl 0 (by decide) wl_Mo_56 rfl rfl la_up_s d_Mo_push_41 ?_
  refine lv_if_ne (tgt := 95) hx hb d_Mo_push_44 rfl (fun br44 => absurd (rfl) br44) (fun br44 => ?_)
  refine lv_iload_n hx hb d_Mo_push_47 rfl (lv_at hl 0 rfl) ?_
  refine lv_iconst (v := 0) hx hb d_Mo_push_48 (by decide) ?_
  refine cr_S Z ks_Mo_87 (c_Mo_line_d l D E La (la_up mu m0 0 0) (k := 0) (u := 0) rfl) hP [] rfl rfl hl.1 (Nat.le_of_ble_eq_true rfl) ⟨by decide, by decide⟩ ⟨Nat.le_refl _, Nat.le_refl _⟩ d_Mo_push_49 ?_
  refine lv_istore_n hx hb d_Mo_push_52 rfl hl (by decide) rfl (fun ls hl => ?_)
  have hl : lv_has ls 4 [(3, .int 1), (2, .int 1), (0, .ref m0), (1, .int 1)] := hl
  refine lv_aload_n hx hb d_Mo_push_53 rfl (lv_at hl 2 rfl) ?_
  refine lv_iload_n hx hb d_Mo_push_54 rfl (lv_at hl 1 rfl) ?_
  refine lv_iload_n hx hb d_Mo_push_55 rfl (lv_at hl 3 rfl) ?_
  refine lv_icmp_eq (tgt := 85) hx hb d_Mo_push_56 rfl (fun br56 => ?_) (fun br56 => absurd (rfl) br56)
  refine lv_iconst (v := 0) hx hb d_Mo_push_85 (by decide) ?_
  refine p_f Z kc_Mo hP hS hm.1 rfl 0 (by decide) wl_Mo_56 rfl rfl ⟨rfl, rfl⟩ (Nat.le_of_ble_eq_true rfl) rfl d_Mo_push_86 (fun H locs hP hS => ?_)
  have hP : la_P D cls5 La (la_up mu m0 0 0) H := cvm hP la_up_up
  refine lv_iinc (k := 1) (v := 2) hx hb d_Mo_push_89 hl rfl (by decide) (by decide) rfl (fun ls hl => ?_)
  have hl : lv_has ls 4 [(2, .int 2), (3, .int 1), (0, .ref m0), (1, .int 1)] := hl
  refine lv_goto (tgt := 35) hx hb d_Mo_push_92 rfl ?_
  refine lv_iload_n hx hb d_Mo_push_35 rfl (lv_at hl 0 rfl) ?_
  refine lv_iconst (v := 3) hx hb d_Mo_push_36 (by decide) ?_
  refine lv_icmp_gt (tgt := 95) hx hb d_Mo_push_37 rfl (fun br37 => absurd br37 (by decide)) (fun br37 => ?_)
  refine lv_aload_n hx hb d_Mo_push_40 rfl (lv_at hl 2 rfl) ?_
  refine g_i (v := 0) Z kc_Mo hP hm.1 rfl 0 (by decide) wl_Mo_56 rfl rfl la_up_s d_Mo_push_41 ?_
  refine lv_if_ne (tgt := 95) hx hb d_Mo_push_44 rfl (fun br44 => absurd (rfl) br44) (fun br44 => ?_)
  refine lv_iload_n hx hb d_Mo_push_47 rfl (lv_at hl 0 rfl) ?_
  refine lv_iconst (v := 0) hx hb d_Mo_push_48 (by decide) ?_
  refine cr_S Z ks_Mo_87 (c_Mo_line_d l D E La (la_up mu m0 0 0) (k := 1) (u := 0) rfl) hP [] rfl rfl hl.1 (Nat.le_of_ble_eq_true rfl) ⟨by decide, by decide⟩ ⟨Nat.le_refl _, Nat.le_refl _⟩ d_Mo_push_49 ?_
  refine lv_istore_n hx hb d_Mo_push_52 rfl hl (by decide) rfl (fun ls hl => ?_)
  have hl : lv_has ls 4 [(3, .int 3), (2, .int 2), (0, .ref m0), (1, .int 1)] := hl
  refine lv_aload_n hx hb d_Mo_push_53 rfl (lv_at hl 2 rfl) ?_
  refine lv_iload_n hx hb d_Mo_push_54 rfl (lv_at hl 1 rfl) ?_
  refine lv_iload_n hx hb d_Mo_push_55 rfl (lv_at hl 3 rfl) ?_
  refine lv_icmp_eq (tgt := 85) hx hb d_Mo_push_56 rfl (fun br56 => absurd br56 (by decide)) (fun br56 => ?_)
  refine lv_aload_n hx hb d_Mo_push_59 rfl (lv_at hl 2 rfl) ?_
  refine g_f (v := .ref (m0 + 11)) Z kc_Mo hP hm.1 rfl 11 (by decide) wl_Mo_41 rfl rfl d_Mo_push_60 ?_
  refine lv_iload_n hx hb d_Mo_push_63 rfl (lv_at hl 0 rfl) ?_
  refine la_ialdv (v := (nI p1)) hx hb hK hP 0 hm.2.2.2.2.2.2.2.2.2.2.2.1 rfl rfl 3 rfl (by decide) (by decide) ((la_up_k (by decide)).trans po1) d_Mo_push_64 ?_
  refine lv_bipush (v := 24) hx hb d_Mo_push_65 (by decide) ?_
  refine lv_icmp_ge (tgt := 81) hx hb d_Mo_push_67 rfl (fun br67 => ?_) (fun br67 => absurd (nI_le (a := 24) pf1 (by omega)) br67)
  refine lv_iconst (v := 3) hx hb d_Mo_push_81 (by decide) ?_
  refine lv_goto (tgt := 86) hx hb d_Mo_push_82 rfl ?_
  refine p_f Z kc_Mo hP hS hm.1 rfl 0 (by decide) wl_Mo_56 rfl rfl ⟨rfl, rfl⟩ (Nat.le_of_ble_eq_true rfl) rfl d_Mo_push_86 (fun H locs hP hS => ?_)
  have hP : la_P D cls5 La (la_up mu m0 0 3) H := cvm hP la_up_up
  refine lv_iinc (k := 1) (v := 3) hx hb d_Mo_push_89 hl rfl (by decide) (by decide) rfl (fun ls hl => ?_)
  have hl : lv_has ls 4 [(2, .int 3), (3, .int 3), (0, .ref m0), (1, .int 1)] := hl
  refine lv_goto (tgt := 35) hx hb d_Mo_push_92 rfl ?_
  refine lv_iload_n hx hb d_Mo_push_35 rfl (lv_at hl 0 rfl) ?_
  refine lv_iconst (v := 3) hx hb d_Mo_push_36 (by decide) ?_
  refine lv_icmp_gt (tgt := 95) hx hb d_Mo_push_37 rfl (fun br37 => absurd br37 (by decide)) (fun br37 => ?_)
  refine lv_aload_n hx hb d_Mo_push_40 rfl (lv_at hl 2 rfl) ?_
  refine g_i (v := 3) Z kc_Mo hP hm.1 rfl 0 (by decide) wl_Mo_56 rfl rfl la_up_s d_Mo_push_41 ?_
  refine lv_if_ne (tgt := 95) hx hb d_Mo_push_44 rfl (fun br44 => ?_) (fun br44 => absurd br44 (by decide))
  refine lv_aload_n hx hb d_Mo_push_95 rfl (lv_at hl 2 rfl) ?_
  refine g_i (v := 3) Z kc_Mo hP hm.1 rfl 0 (by decide) wl_Mo_56 rfl rfl la_up_s d_Mo_push_96 ?_
  refine lv_if_eq (tgt := 104) hx hb d_Mo_push_99 rfl (fun br99 => absurd br99 (by decide)) (fun br99 => ?_)
  refine lv_iconst (v := 0) hx hb d_Mo_push_102 (by decide) ?_
  exact W.iret hx hb hr (fun t ht hW => ⟨rfl, by rw [ht]; exact cvm hP (rfl), hS.F ht⟩) hS.2.2 d_Mo_push_103
set_option maxHeartbeats 4000000 in
set_option maxRecDepth 100000 in
theorem c_Mo_push_3_02 (l : Launch) (D : va_G) (E : Nat → ClassId) (La : la_L) {m0 : Nat} (hm : isMo E La m0) (mu : la_M) {w0 : Nat} (hw : mu (m0 + 5) 0 = nI w0) (hw0 : 0 < w0) (hw4 : w0 < 40) {p1 v1 : Nat} (po1 : mu (m0 + 11) 3 = nI p1) (pw1 : mu (m0 + 5) 3 = nI v1) (pv1 : v1 ≤ p1) (pf1 : p1 < 24) {p2 : Nat} (po2 : mu (m0 + 11) 5 = nI p2) (pf2 : 24 ≤ p2) (pg2 : p2 < 2 ^ 31)  : cw l y_Mo_push b_Mo_push 4 (some .int) 2 53 D E La [.ref m0, .int 1] mu (some (.int 0)) (la_up mu m0 0 3) := by
  refine cw_begin R_Mo (by decide) rfl (Nat.le_of_ble_eq_true rfl) ?_
  intro p e s m below meth c ls Z hr hlocks hP hS hl
  have hx := Z.1
  have hb := Z.2.1
  have hK : va_K D cls5 (tyE E) s := Z.2.2.2.2.2
  have hl : lv_has ls 4 [(0, .ref m0), (1, .int 1)] := hl
  refine lv_aload_n hx hb d_Mo_push_0 rfl (lv_at hl 0 rfl) ?_
  refine lv_iload_n hx hb d_Mo_push_1 rfl (lv_at hl 1 rfl) ?_
  refine cr_S Z ks_Mo_94 (c_Mo_isClient_y l D E La mu (k := 0) (by decide)) hP [.ref m0] rfl rfl hl.1 (Nat.le_of_ble_eq_true rfl) ⟨by decide, by decide⟩ ⟨Nat.le_refl _, Nat.le_refl _⟩ d_Mo_push_2 ?_
  refine lv_if_ne (tgt := 12) hx hb d_Mo_push_5 rfl (fun br5 => ?_) (fun br5 => absurd br5 (by decide))
  refine lv_aload_n hx hb d_Mo_push_12 rfl (lv_at hl 0 rfl) ?_
  refine g_f (v := .ref (m0 + 5)) Z kc_Mo hP hm.1 rfl 5 (by decide) wl_Mo_23 rfl rfl d_Mo_push_13 ?_
  refine lv_iload_n hx hb d_Mo_push_16 rfl (lv_at hl 1 rfl) ?_
  refine lv_iconst (v := 1) hx hb d_Mo_push_17 (by decide) ?_
  refine cr_S Z ks_Mo_87 (c_Mo_line_u l D E La mu (k := 0) (u := 1) (by decide)) hP [.ref (m0 + 5), .ref m0] rfl rfl hl.1 (Nat.le_of_ble_eq_true rfl) ⟨by decide, by decide⟩ ⟨Nat.le_refl _, Nat.le_refl _⟩ d_Mo_push_18 ?_
  refine la_ialdv (v := (nI w0)) hx hb hK hP 0 hm.2.2.2.2.2.1 rfl rfl 0 rfl (by decide) (by decide) hw d_Mo_push_21 ?_
  refine lv_if_ne (tgt := 29) hx hb d_Mo_push_22 rfl (fun br22 => ?_) (fun br22 => absurd br22 (nI_ne0 hw0 (by omega)))
  refine lv_iconst (v := 0) hx hb d_Mo_push_29 (by decide) ?_
  refine p_f Z kc_Mo hP hS hm.1 rfl 0 (by decide) wl_Mo_56 rfl rfl ⟨rfl, rfl⟩ (Nat.le_of_ble_eq_true rfl) rfl d_Mo_push_30 (fun H locs hP hS => ?_)
  refine lv_iconst (v := 1) hx hb d_Mo_push_33 (by decide) ?_
  refine lv_istore_n hx hb d_Mo_push_34 rfl hl (by decide) rfl (fun ls hl => ?_)
  have hl : lv_has ls 4 [(2, .int 1), (0, .ref m0), (1, .int 1)] := hl
  refine lv_iload_n hx hb d_Mo_push_35 rfl (lv_at hl 0 rfl) ?_
  refine lv_iconst (v := 3) hx hb d_Mo_push_36 (by decide) ?_
  refine lv_icmp_gt (tgt := 95) hx hb d_Mo_push_37 rfl (fun br37 => absurd br37 (by decide)) (fun br37 => ?_)
  refine lv_aload_n hx hb d_Mo_push_40 rfl (lv_at hl 1 rfl) ?_
  refine g_i (v := 0) Z kc_Mo hP hm.1 rfl 0 (by decide) wl_Mo_56 rfl rfl la_up_s d_Mo_push_41 ?_
  refine lv_if_ne (tgt := 95) hx hb d_Mo_push_44 rfl (fun br44 => absurd (rfl) br44) (fun br44 => ?_)
  refine lv_iload_n hx hb d_Mo_push_47 rfl (lv_at hl 0 rfl) ?_
  refine lv_iconst (v := 0) hx hb d_Mo_push_48 (by decide) ?_
  refine cr_S Z ks_Mo_87 (c_Mo_line_d l D E La (la_up mu m0 0 0) (k := 0) (u := 0) rfl) hP [] rfl rfl hl.1 (Nat.le_of_ble_eq_true rfl) ⟨by decide, by decide⟩ ⟨Nat.le_refl _, Nat.le_refl _⟩ d_Mo_push_49 ?_
  refine lv_istore_n hx hb d_Mo_push_52 rfl hl (by decide) rfl (fun ls hl => ?_)
  have hl : lv_has ls 4 [(3, .int 1), (2, .int 1), (0, .ref m0), (1, .int 1)] := hl
  refine lv_aload_n hx hb d_Mo_push_53 rfl (lv_at hl 2 rfl) ?_
  refine lv_iload_n hx hb d_Mo_push_54 rfl (lv_at hl 1 rfl) ?_
  refine lv_iload_n hx hb d_Mo_push_55 rfl (lv_at hl 3 rfl) ?_
  refine lv_icmp_eq (tgt := 85) hx hb d_Mo_push_56 rfl (fun br56 => ?_) (fun br56 => absurd (rfl) br56)
  refine lv_iconst (v := 0) hx hb d_Mo_push_85 (by decide) ?_
  refine p_f Z kc_Mo hP hS hm.1 rfl 0 (by decide) wl_Mo_56 rfl rfl ⟨rfl, rfl⟩ (Nat.le_of_ble_eq_true rfl) rfl d_Mo_push_86 (fun H locs hP hS => ?_)
  have hP : la_P D cls5 La (la_up mu m0 0 0) H := cvm hP la_up_up
  refine lv_iinc (k := 1) (v := 2) hx hb d_Mo_push_89 hl rfl (by decide) (by decide) rfl (fun ls hl => ?_)
  have hl : lv_has ls 4 [(2, .int 2), (3, .int 1), (0, .ref m0), (1, .int 1)] := hl
  refine lv_goto (tgt := 35) hx hb d_Mo_push_92 rfl ?_
  refine lv_iload_n hx hb d_Mo_push_35 rfl (lv_at hl 0 rfl) ?_
  refine lv_iconst (v := 3) hx hb d_Mo_push_36 (by decide) ?_
  refine lv_icmp_gt (tgt := 95) hx hb d_Mo_push_37 rfl (fun br37 => absurd br37 (by decide)) (fun br37 => ?_)
  refine lv_aload_n hx hb d_Mo_push_40 rfl (lv_at hl 2 rfl) ?_
  refine g_i (v := 0) Z kc_Mo hP hm.1 rfl 0 (by decide) wl_Mo_56 rfl rfl la_up_s d_Mo_push_41 ?_
  refine lv_if_ne (tgt := 95) hx hb d_Mo_push_44 rfl (fun br44 => absurd (rfl) br44) (fun br44 => ?_)
  refine lv_iload_n hx hb d_Mo_push_47 rfl (lv_at hl 0 rfl) ?_
  refine lv_iconst (v := 0) hx hb d_Mo_push_48 (by decide) ?_
  refine cr_S Z ks_Mo_87 (c_Mo_line_d l D E La (la_up mu m0 0 0) (k := 1) (u := 0) rfl) hP [] rfl rfl hl.1 (Nat.le_of_ble_eq_true rfl) ⟨by decide, by decide⟩ ⟨Nat.le_refl _, Nat.le_refl _⟩ d_Mo_push_49 ?_
  refine lv_istore_n hx hb d_Mo_push_52 rfl hl (by decide) rfl (fun ls hl => ?_)
  have hl : lv_has ls 4 [(3, .int 3), (2, .int 2), (0, .ref m0), (1, .int 1)] := hl
  refine lv_aload_n hx hb d_Mo_push_53 rfl (lv_at hl 2 rfl) ?_
  refine lv_iload_n hx hb d_Mo_push_54 rfl (lv_at hl 1 rfl) ?_
  refine lv_iload_n hx hb d_Mo_push_55 rfl (lv_at hl 3 rfl) ?_
  refine lv_icmp_eq (tgt := 85) hx hb d_Mo_push_56 rfl (fun br56 => absurd br56 (by decide)) (fun br56 => ?_)
  refine lv_aload_n hx hb d_Mo_push_59 rfl (lv_at hl 2 rfl) ?_
  refine g_f (v := .ref (m0 + 11)) Z kc_Mo hP hm.1 rfl 11 (by decide) wl_Mo_41 rfl rfl d_Mo_push_60 ?_
  refine lv_iload_n hx hb d_Mo_push_63 rfl (lv_at hl 0 rfl) ?_
  refine la_ialdv (v := (nI p1)) hx hb hK hP 0 hm.2.2.2.2.2.2.2.2.2.2.2.1 rfl rfl 3 rfl (by decide) (by decide) ((la_up_k (by decide)).trans po1) d_Mo_push_64 ?_
  refine lv_bipush (v := 24) hx hb d_Mo_push_65 (by decide) ?_
  refine lv_icmp_ge (tgt := 81) hx hb d_Mo_push_67 rfl (fun br67 => absurd br67 (nI_ge (b := 24) pf1 (by decide))) (fun br67 => ?_)
  refine lv_aload_n hx hb d_Mo_push_70 rfl (lv_at hl 2 rfl) ?_
  refine g_f (v := .ref (m0 + 5)) Z kc_Mo hP hm.1 rfl 5 (by decide) wl_Mo_23 rfl rfl d_Mo_push_71 ?_
  refine lv_iload_n hx hb d_Mo_push_74 rfl (lv_at hl 0 rfl) ?_
  refine la_ialdv (v := (nI v1)) hx hb hK hP 0 hm.2.2.2.2.2.1 rfl rfl 3 rfl (by decide) (by decide) ((la_up_k (by decide)).trans pw1) d_Mo_push_75 ?_
  refine lv_bipush (v := 24) hx hb d_Mo_push_76 (by decide) ?_
  refine lv_icmp_lt (tgt := 85) hx hb d_Mo_push_78 rfl (fun br78 => ?_) (fun br78 => absurd (nI_lt (b := 24) (Nat.lt_of_le_of_lt pv1 pf1) (by decide)) br78)
  refine lv_iconst (v := 0) hx hb d_Mo_push_85 (by decide) ?_
  refine p_f Z kc_Mo hP hS hm.1 rfl 0 (by decide) wl_Mo_56 rfl rfl ⟨rfl, rfl⟩ (Nat.le_of_ble_eq_true rfl) rfl d_Mo_push_86 (fun H locs hP hS => ?_)
  have hP : la_P D cls5 La (la_up mu m0 0 0) H := cvm hP la_up_up
  refine lv_iinc (k := 1) (v := 3) hx hb d_Mo_push_89 hl rfl (by decide) (by decide) rfl (fun ls hl => ?_)
  have hl : lv_has ls 4 [(2, .int 3), (3, .int 3), (0, .ref m0), (1, .int 1)] := hl
  refine lv_goto (tgt := 35) hx hb d_Mo_push_92 rfl ?_
  refine lv_iload_n hx hb d_Mo_push_35 rfl (lv_at hl 0 rfl) ?_
  refine lv_iconst (v := 3) hx hb d_Mo_push_36 (by decide) ?_
  refine lv_icmp_gt (tgt := 95) hx hb d_Mo_push_37 rfl (fun br37 => absurd br37 (by decide)) (fun br37 => ?_)
  refine lv_aload_n hx hb d_Mo_push_40 rfl (lv_at hl 2 rfl) ?_
  refine g_i (v := 0) Z kc_Mo hP hm.1 rfl 0 (by decide) wl_Mo_56 rfl rfl la_up_s d_Mo_push_41 ?_
  refine lv_if_ne (tgt := 95) hx hb d_Mo_push_44 rfl (fun br44 => absurd (rfl) br44) (fun br44 => ?_)
  refine lv_iload_n hx hb d_Mo_push_47 rfl (lv_at hl 0 rfl) ?_
  refine lv_iconst (v := 0) hx hb d_Mo_push_48 (by decide) ?_
  refine cr_S Z ks_Mo_87 (c_Mo_line_d l D E La (la_up mu m0 0 0) (k := 2) (u := 0) rfl) hP [] rfl rfl hl.1 (Nat.le_of_ble_eq_true rfl) ⟨by decide, by decide⟩ ⟨Nat.le_refl _, Nat.le_refl _⟩ d_Mo_push_49 ?_
  refine lv_istore_n hx hb d_Mo_push_52 rfl hl (by decide) rfl (fun ls hl => ?_)
  have hl : lv_has ls 4 [(3, .int 5), (2, .int 3), (0, .ref m0), (1, .int 1)] := hl
  refine lv_aload_n hx hb d_Mo_push_53 rfl (lv_at hl 2 rfl) ?_
  refine lv_iload_n hx hb d_Mo_push_54 rfl (lv_at hl 1 rfl) ?_
  refine lv_iload_n hx hb d_Mo_push_55 rfl (lv_at hl 3 rfl) ?_
  refine lv_icmp_eq (tgt := 85) hx hb d_Mo_push_56 rfl (fun br56 => absurd br56 (by decide)) (fun br56 => ?_)
  refine lv_aload_n hx hb d_Mo_push_59 rfl (lv_at hl 2 rfl) ?_
  refine g_f (v := .ref (m0 + 11)) Z kc_Mo hP hm.1 rfl 11 (by decide) wl_Mo_41 rfl rfl d_Mo_push_60 ?_
  refine lv_iload_n hx hb d_Mo_push_63 rfl (lv_at hl 0 rfl) ?_
  refine la_ialdv (v := (nI p2)) hx hb hK hP 0 hm.2.2.2.2.2.2.2.2.2.2.2.1 rfl rfl 5 rfl (by decide) (by decide) ((la_up_k (by decide)).trans po2) d_Mo_push_64 ?_
  refine lv_bipush (v := 24) hx hb d_Mo_push_65 (by decide) ?_
  refine lv_icmp_ge (tgt := 81) hx hb d_Mo_push_67 rfl (fun br67 => ?_) (fun br67 => absurd (nI_le (a := 24) pf2 (by omega)) br67)
  refine lv_iconst (v := 3) hx hb d_Mo_push_81 (by decide) ?_
  refine lv_goto (tgt := 86) hx hb d_Mo_push_82 rfl ?_
  refine p_f Z kc_Mo hP hS hm.1 rfl 0 (by decide) wl_Mo_56 rfl rfl ⟨rfl, rfl⟩ (Nat.le_of_ble_eq_true rfl) rfl d_Mo_push_86 (fun H locs hP hS => ?_)
  have hP : la_P D cls5 La (la_up mu m0 0 3) H := cvm hP la_up_up
  refine lv_iinc (k := 1) (v := 4) hx hb d_Mo_push_89 hl rfl (by decide) (by decide) rfl (fun ls hl => ?_)
  have hl : lv_has ls 4 [(2, .int 4), (3, .int 5), (0, .ref m0), (1, .int 1)] := hl
  refine lv_goto (tgt := 35) hx hb d_Mo_push_92 rfl ?_
  refine lv_iload_n hx hb d_Mo_push_35 rfl (lv_at hl 0 rfl) ?_
  refine lv_iconst (v := 3) hx hb d_Mo_push_36 (by decide) ?_
  refine lv_icmp_gt (tgt := 95) hx hb d_Mo_push_37 rfl (fun br37 => ?_) (fun br37 => absurd (by decide) br37)
  refine lv_aload_n hx hb d_Mo_push_95 rfl (lv_at hl 2 rfl) ?_
  refine g_i (v := 3) Z kc_Mo hP hm.1 rfl 0 (by decide) wl_Mo_56 rfl rfl la_up_s d_Mo_push_96 ?_
  refine lv_if_eq (tgt := 104) hx hb d_Mo_push_99 rfl (fun br99 => absurd br99 (by decide)) (fun br99 => ?_)
  refine lv_iconst (v := 0) hx hb d_Mo_push_102 (by decide) ?_
  exact W.iret hx hb hr (fun t ht hW => ⟨rfl, by rw [ht]; exact cvm hP (rfl), hS.F ht⟩) hS.2.2 d_Mo_push_103
set_option maxHeartbeats 4000000 in
set_option maxRecDepth 100000 in
theorem c_Mo_push_0_0 (l : Launch) (D : va_G) (E : Nat → ClassId) (La : la_L) {m0 : Nat} (hm : isMo E La m0) (mu : la_M) {w0 : Nat} (hw : mu (m0 + 5) 0 = nI w0) (hw0 : 0 < w0) (hw4 : w0 < 40) {p1 v1 : Nat} (po1 : mu (m0 + 11) 3 = nI p1) (pw1 : mu (m0 + 5) 3 = nI v1) (pv1 : v1 ≤ p1) (pf1 : p1 < 24) {p2 v2 : Nat} (po2 : mu (m0 + 11) 5 = nI p2) (pw2 : mu (m0 + 5) 5 = nI v2) (pv2 : v2 ≤ p2) (pf2 : p2 < 24) {mu1 : la_M} (hG : cw l y_Mo_get b_Mo_get 9 none 1 25 D E La [.ref m0, .int (nI 0), .int (nI 0)] (la_up mu m0 0 0) none mu1) {t1 : Nat} (qo1 : mu1 (m0 + 11) 3 = nI p1) (qw1 : mu1 (m0 + 5) 3 = nI v1) (qt1 : mu1 (m0 + 3) 3 = nI t1) {t2 : Nat} (qo2 : mu1 (m0 + 11) 5 = nI p2) (qw2 : mu1 (m0 + 5) 5 = nI v2) (qt2 : mu1 (m0 + 3) 5 = nI t2)  : cw l y_Mo_push b_Mo_push 4 (some .int) 2 53 D E La [.ref m0, .int 1] mu (some (.int (mu1 m0 16))) (md_send (md_send mu1 m0 3 v1 p1 t1) m0 5 v2 p2 t2) := by
  refine cw_begin R_Mo (by decide) rfl (Nat.le_of_ble_eq_true rfl) ?_
  intro p e s m below meth c ls Z hr hlocks hP hS hl
  have hx := Z.1
  have hb := Z.2.1
  have hK : va_K D cls5 (tyE E) s := Z.2.2.2.2.2
  have hl : lv_has ls 4 [(0, .ref m0), (1, .int 1)] := hl
  have r11 := (show (md_send mu1 m0 3 v1 p1 t1) (m0 + 11) 5 = nI p2 by simp only [md_send]; rw [la_up_n (by omega), la_up_k (by decide), la_up_n (by omega), la_up_n (by omega), la_up_n (by omega), la_up_n (by omega), la_up_n (by omega), la_up_n (by omega), la_up_n (by omega), la_up_n (by omega), la_up_n (by omega), la_up_n (by omega)]; exact qo2)
  have r5 := (show (md_send mu1 m0 3 v1 p1 t1) (m0 + 5) 5 = nI v2 by simp only [md_send]; rw [la_up_n (by omega), la_up_n (by omega), la_up_n (by omega), la_up_n (by omega), la_up_n (by omega), la_up_n (by omega), la_up_k (by decide), la_up_n (by omega), la_up_n (by omega), la_up_n (by omega), la_up_n (by omega), la_up_n (by omega)]; exact qw2)
  have r3 := (show (md_send mu1 m0 3 v1 p1 t1) (m0 + 3) 5 = nI t2 by simp only [md_send]; rw [la_up_k (by decide), la_up_n (by omega), la_up_n (by omega), la_up_n (by omega), la_up_n (by omega), la_up_n (by omega), la_up_n (by omega), la_up_n (by omega), la_up_n (by omega), la_up_n (by omega), la_up_n (by omega), la_up_n (by omega)]; exact qt2)
  refine lv_aload_n hx hb d_Mo_push_0 rfl (lv_at hl 0 rfl) ?_
  refine lv_iload_n hx hb d_Mo_push_1 rfl (lv_at hl 1 rfl) ?_
  refine cr_S Z ks_Mo_94 (c_Mo_isClient_y l D E La mu (k := 0) (by decide)) hP [.ref m0] rfl rfl hl.1 (Nat.le_of_ble_eq_true rfl) ⟨by decide, by decide⟩ ⟨Nat.le_refl _, Nat.le_refl _⟩ d_Mo_push_2 ?_
  refine lv_if_ne (tgt := 12) hx hb d_Mo_push_5 rfl (fun br5 => ?_) (fun br5 => absurd br5 (by decide))
  refine lv_aload_n hx hb d_Mo_push_12 rfl (lv_at hl 0 rfl) ?_
  refine g_f (v := .ref (m0 + 5)) Z kc_Mo hP hm.1 rfl 5 (by decide) wl_Mo_23 rfl rfl d_Mo_push_13 ?_
  refine lv_iload_n hx hb d_Mo_push_16 rfl (lv_at hl 1 rfl) ?_
  refine lv_iconst (v := 1) hx hb d_Mo_push_17 (by decide) ?_
  refine cr_S Z ks_Mo_87 (c_Mo_line_u l D E La mu (k := 0) (u := 1) (by decide)) hP [.ref (m0 + 5), .ref m0] rfl rfl hl.1 (Nat.le_of_ble_eq_true rfl) ⟨by decide, by decide⟩ ⟨Nat.le_refl _, Nat.le_refl _⟩ d_Mo_push_18 ?_
  refine la_ialdv (v := (nI w0)) hx hb hK hP 0 hm.2.2.2.2.2.1 rfl rfl 0 rfl (by decide) (by decide) hw d_Mo_push_21 ?_
  refine lv_if_ne (tgt := 29) hx hb d_Mo_push_22 rfl (fun br22 => ?_) (fun br22 => absurd br22 (nI_ne0 hw0 (by omega)))
  refine lv_iconst (v := 0) hx hb d_Mo_push_29 (by decide) ?_
  refine p_f Z kc_Mo hP hS hm.1 rfl 0 (by decide) wl_Mo_56 rfl rfl ⟨rfl, rfl⟩ (Nat.le_of_ble_eq_true rfl) rfl d_Mo_push_30 (fun H locs hP hS => ?_)
  refine lv_iconst (v := 1) hx hb d_Mo_push_33 (by decide) ?_
  refine lv_istore_n hx hb d_Mo_push_34 rfl hl (by decide) rfl (fun ls hl => ?_)
  have hl : lv_has ls 4 [(2, .int 1), (0, .ref m0), (1, .int 1)] := hl
  refine lv_iload_n hx hb d_Mo_push_35 rfl (lv_at hl 0 rfl) ?_
  refine lv_iconst (v := 3) hx hb d_Mo_push_36 (by decide) ?_
  refine lv_icmp_gt (tgt := 95) hx hb d_Mo_push_37 rfl (fun br37 => absurd br37 (by decide)) (fun br37 => ?_)
  refine lv_aload_n hx hb d_Mo_push_40 rfl (lv_at hl 1 rfl) ?_
  refine g_i (v := 0) Z kc_Mo hP hm.1 rfl 0 (by decide) wl_Mo_56 rfl rfl la_up_s d_Mo_push_41 ?_
  refine lv_if_ne (tgt := 95) hx hb d_Mo_push_44 rfl (fun br44 => absurd (rfl) br44) (fun br44 => ?_)
  refine lv_iload_n hx hb d_Mo_push_47 rfl (lv_at hl 0 rfl) ?_
  refine lv_iconst (v := 0) hx hb d_Mo_push_48 (by decide) ?_
  refine cr_S Z ks_Mo_87 (c_Mo_line_d l D E La (la_up mu m0 0 0) (k := 0) (u := 0) rfl) hP [] rfl rfl hl.1 (Nat.le_of_ble_eq_true rfl) ⟨by decide, by decide⟩ ⟨Nat.le_refl _, Nat.le_refl _⟩ d_Mo_push_49 ?_
  refine lv_istore_n hx hb d_Mo_push_52 rfl hl (by decide) rfl (fun ls hl => ?_)
  have hl : lv_has ls 4 [(3, .int 1), (2, .int 1), (0, .ref m0), (1, .int 1)] := hl
  refine lv_aload_n hx hb d_Mo_push_53 rfl (lv_at hl 2 rfl) ?_
  refine lv_iload_n hx hb d_Mo_push_54 rfl (lv_at hl 1 rfl) ?_
  refine lv_iload_n hx hb d_Mo_push_55 rfl (lv_at hl 3 rfl) ?_
  refine lv_icmp_eq (tgt := 85) hx hb d_Mo_push_56 rfl (fun br56 => ?_) (fun br56 => absurd (rfl) br56)
  refine lv_iconst (v := 0) hx hb d_Mo_push_85 (by decide) ?_
  refine p_f Z kc_Mo hP hS hm.1 rfl 0 (by decide) wl_Mo_56 rfl rfl ⟨rfl, rfl⟩ (Nat.le_of_ble_eq_true rfl) rfl d_Mo_push_86 (fun H locs hP hS => ?_)
  have hP : la_P D cls5 La (la_up mu m0 0 0) H := cvm hP la_up_up
  refine lv_iinc (k := 1) (v := 2) hx hb d_Mo_push_89 hl rfl (by decide) (by decide) rfl (fun ls hl => ?_)
  have hl : lv_has ls 4 [(2, .int 2), (3, .int 1), (0, .ref m0), (1, .int 1)] := hl
  refine lv_goto (tgt := 35) hx hb d_Mo_push_92 rfl ?_
  refine lv_iload_n hx hb d_Mo_push_35 rfl (lv_at hl 0 rfl) ?_
  refine lv_iconst (v := 3) hx hb d_Mo_push_36 (by decide) ?_
  refine lv_icmp_gt (tgt := 95) hx hb d_Mo_push_37 rfl (fun br37 => absurd br37 (by decide)) (fun br37 => ?_)
  refine lv_aload_n hx hb d_Mo_push_40 rfl (lv_at hl 2 rfl) ?_
  refine g_i (v := 0) Z kc_Mo hP hm.1 rfl 0 (by decide) wl_Mo_56 rfl rfl la_up_s d_Mo_push_41 ?_
  refine lv_if_ne (tgt := 95) hx hb d_Mo_push_44 rfl (fun br44 => absurd (rfl) br44) (fun br44 => ?_)
  refine lv_iload_n hx hb d_Mo_push_47 rfl (lv_at hl 0 rfl) ?_
  refine lv_iconst (v := 0) hx hb d_Mo_push_48 (by decide) ?_
  refine cr_S Z ks_Mo_87 (c_Mo_line_d l D E La (la_up mu m0 0 0) (k := 1) (u := 0) rfl) hP [] rfl rfl hl.1 (Nat.le_of_ble_eq_true rfl) ⟨by decide, by decide⟩ ⟨Nat.le_refl _, Nat.le_refl _⟩ d_Mo_push_49 ?_
  refine lv_istore_n hx hb d_Mo_push_52 rfl hl (by decide) rfl (fun ls hl => ?_)
  have hl : lv_has ls 4 [(3, .int 3), (2, .int 2), (0, .ref m0), (1, .int 1)] := hl
  refine lv_aload_n hx hb d_Mo_push_53 rfl (lv_at hl 2 rfl) ?_
  refine lv_iload_n hx hb d_Mo_push_54 rfl (lv_at hl 1 rfl) ?_
  refine lv_iload_n hx hb d_Mo_push_55 rfl (lv_at hl 3 rfl) ?_
  refine lv_icmp_eq (tgt := 85) hx hb d_Mo_push_56 rfl (fun br56 => absurd br56 (by decide)) (fun br56 => ?_)
  refine lv_aload_n hx hb d_Mo_push_59 rfl (lv_at hl 2 rfl) ?_
  refine g_f (v := .ref (m0 + 11)) Z kc_Mo hP hm.1 rfl 11 (by decide) wl_Mo_41 rfl rfl d_Mo_push_60 ?_
  refine lv_iload_n hx hb d_Mo_push_63 rfl (lv_at hl 0 rfl) ?_
  refine la_ialdv (v := (nI p1)) hx hb hK hP 0 hm.2.2.2.2.2.2.2.2.2.2.2.1 rfl rfl 3 rfl (by decide) (by decide) ((la_up_k (by decide)).trans po1) d_Mo_push_64 ?_
  refine lv_bipush (v := 24) hx hb d_Mo_push_65 (by decide) ?_
  refine lv_icmp_ge (tgt := 81) hx hb d_Mo_push_67 rfl (fun br67 => absurd br67 (nI_ge (b := 24) pf1 (by decide))) (fun br67 => ?_)
  refine lv_aload_n hx hb d_Mo_push_70 rfl (lv_at hl 2 rfl) ?_
  refine g_f (v := .ref (m0 + 5)) Z kc_Mo hP hm.1 rfl 5 (by decide) wl_Mo_23 rfl rfl d_Mo_push_71 ?_
  refine lv_iload_n hx hb d_Mo_push_74 rfl (lv_at hl 0 rfl) ?_
  refine la_ialdv (v := (nI v1)) hx hb hK hP 0 hm.2.2.2.2.2.1 rfl rfl 3 rfl (by decide) (by decide) ((la_up_k (by decide)).trans pw1) d_Mo_push_75 ?_
  refine lv_bipush (v := 24) hx hb d_Mo_push_76 (by decide) ?_
  refine lv_icmp_lt (tgt := 85) hx hb d_Mo_push_78 rfl (fun br78 => ?_) (fun br78 => absurd (nI_lt (b := 24) (Nat.lt_of_le_of_lt pv1 pf1) (by decide)) br78)
  refine lv_iconst (v := 0) hx hb d_Mo_push_85 (by decide) ?_
  refine p_f Z kc_Mo hP hS hm.1 rfl 0 (by decide) wl_Mo_56 rfl rfl ⟨rfl, rfl⟩ (Nat.le_of_ble_eq_true rfl) rfl d_Mo_push_86 (fun H locs hP hS => ?_)
  have hP : la_P D cls5 La (la_up mu m0 0 0) H := cvm hP la_up_up
  refine lv_iinc (k := 1) (v := 3) hx hb d_Mo_push_89 hl rfl (by decide) (by decide) rfl (fun ls hl => ?_)
  have hl : lv_has ls 4 [(2, .int 3), (3, .int 3), (0, .ref m0), (1, .int 1)] := hl
  refine lv_goto (tgt := 35) hx hb d_Mo_push_92 rfl ?_
  refine lv_iload_n hx hb d_Mo_push_35 rfl (lv_at hl 0 rfl) ?_
  refine lv_iconst (v := 3) hx hb d_Mo_push_36 (by decide) ?_
  refine lv_icmp_gt (tgt := 95) hx hb d_Mo_push_37 rfl (fun br37 => absurd br37 (by decide)) (fun br37 => ?_)
  refine lv_aload_n hx hb d_Mo_push_40 rfl (lv_at hl 2 rfl) ?_
  refine g_i (v := 0) Z kc_Mo hP hm.1 rfl 0 (by decide) wl_Mo_56 rfl rfl la_up_s d_Mo_push_41 ?_
  refine lv_if_ne (tgt := 95) hx hb d_Mo_push_44 rfl (fun br44 => absurd (rfl) br44) (fun br44 => ?_)
  refine lv_iload_n hx hb d_Mo_push_47 rfl (lv_at hl 0 rfl) ?_
  refine lv_iconst (v := 0) hx hb d_Mo_push_48 (by decide) ?_
  refine cr_S Z ks_Mo_87 (c_Mo_line_d l D E La (la_up mu m0 0 0) (k := 2) (u := 0) rfl) hP [] rfl rfl hl.1 (Nat.le_of_ble_eq_true rfl) ⟨by decide, by decide⟩ ⟨Nat.le_refl _, Nat.le_refl _⟩ d_Mo_push_49 ?_
  refine lv_istore_n hx hb d_Mo_push_52 rfl hl (by decide) rfl (fun ls hl => ?_)
  have hl : lv_has ls 4 [(3, .int 5), (2, .int 3), (0, .ref m0), (1, .int 1)] := hl
  refine lv_aload_n hx hb d_Mo_push_53 rfl (lv_at hl 2 rfl) ?_
  refine lv_iload_n hx hb d_Mo_push_54 rfl (lv_at hl 1 rfl) ?_
  refine lv_iload_n hx hb d_Mo_push_55 rfl (lv_at hl 3 rfl) ?_
  refine lv_icmp_eq (tgt := 85) hx hb d_Mo_push_56 rfl (fun br56 => absurd br56 (by decide)) (fun br56 => ?_)
  refine lv_aload_n hx hb d_Mo_push_59 rfl (lv_at hl 2 rfl) ?_
  refine g_f (v := .ref (m0 + 11)) Z kc_Mo hP hm.1 rfl 11 (by decide) wl_Mo_41 rfl rfl d_Mo_push_60 ?_
  refine lv_iload_n hx hb d_Mo_push_63 rfl (lv_at hl 0 rfl) ?_
  refine la_ialdv (v := (nI p2)) hx hb hK hP 0 hm.2.2.2.2.2.2.2.2.2.2.2.1 rfl rfl 5 rfl (by decide) (by decide) ((la_up_k (by decide)).trans po2) d_Mo_push_64 ?_
  refine lv_bipush (v := 24) hx hb d_Mo_push_65 (by decide) ?_
  refine lv_icmp_ge (tgt := 81) hx hb d_Mo_push_67 rfl (fun br67 => absurd br67 (nI_ge (b := 24) pf2 (by decide))) (fun br67 => ?_)
  refine lv_aload_n hx hb d_Mo_push_70 rfl (lv_at hl 2 rfl) ?_
  refine g_f (v := .ref (m0 + 5)) Z kc_Mo hP hm.1 rfl 5 (by decide) wl_Mo_23 rfl rfl d_Mo_push_71 ?_
  refine lv_iload_n hx hb d_Mo_push_74 rfl (lv_at hl 0 rfl) ?_
  refine la_ialdv (v := (nI v2)) hx hb hK hP 0 hm.2.2.2.2.2.1 rfl rfl 5 rfl (by decide) (by decide) ((la_up_k (by decide)).trans pw2) d_Mo_push_75 ?_
  refine lv_bipush (v := 24) hx hb d_Mo_push_76 (by decide) ?_
  refine lv_icmp_lt (tgt := 85) hx hb d_Mo_push_78 rfl (fun br78 => ?_) (fun br78 => absurd (nI_lt (b := 24) (Nat.lt_of_le_of_lt pv2 pf2) (by decide)) br78)
  refine lv_iconst (v := 0) hx hb d_Mo_push_85 (by decide) ?_
  refine p_f Z kc_Mo hP hS hm.1 rfl 0 (by decide) wl_Mo_56 rfl rfl ⟨rfl, rfl⟩ (Nat.le_of_ble_eq_true rfl) rfl d_Mo_push_86 (fun H locs hP hS => ?_)
  have hP : la_P D cls5 La (la_up mu m0 0 0) H := cvm hP la_up_up
  refine lv_iinc (k := 1) (v := 4) hx hb d_Mo_push_89 hl rfl (by decide) (by decide) rfl (fun ls hl => ?_)
  have hl : lv_has ls 4 [(2, .int 4), (3, .int 5), (0, .ref m0), (1, .int 1)] := hl
  refine lv_goto (tgt := 35) hx hb d_Mo_push_92 rfl ?_
  refine lv_iload_n hx hb d_Mo_push_35 rfl (lv_at hl 0 rfl) ?_
  refine lv_iconst (v := 3) hx hb d_Mo_push_36 (by decide) ?_
  refine lv_icmp_gt (tgt := 95) hx hb d_Mo_push_37 rfl (fun br37 => ?_) (fun br37 => absurd (by decide) br37)
  refine lv_aload_n hx hb d_Mo_push_95 rfl (lv_at hl 2 rfl) ?_
  refine g_i (v := 0) Z kc_Mo hP hm.1 rfl 0 (by decide) wl_Mo_56 rfl rfl la_up_s d_Mo_push_96 ?_
  refine lv_if_eq (tgt := 104) hx hb d_Mo_push_99 rfl (fun br99 => ?_) (fun br99 => absurd (by decide) br99)
  refine lv_aload_n hx hb d_Mo_push_104 rfl (lv_at hl 2 rfl) ?_
  refine lv_iload_n hx hb d_Mo_push_105 rfl (lv_at hl 3 rfl) ?_
  refine lv_iconst (v := 1) hx hb d_Mo_push_106 (by decide) ?_
  refine cr_S Z ks_Mo_87 (c_Mo_line_u l D E La (la_up mu m0 0 0) (k := 0) (u := 1) (by decide)) hP [.ref m0] rfl rfl hl.1 (Nat.le_of_ble_eq_true rfl) ⟨by decide, by decide⟩ ⟨Nat.le_refl _, Nat.le_refl _⟩ d_Mo_push_107 ?_
  refine lv_iconst (v := 0) hx hb d_Mo_push_110 (by decide) ?_
  refine cw_V Z kv_Mo_105 (hG) hP hS (fun _ h => h) (la_recv hK hP kc_Mo hm.1 rfl) [] rfl rfl hl.1 (Nat.le_of_ble_eq_true rfl) ⟨by decide, by decide⟩ ⟨Nat.le_refl _, Nat.le_refl _⟩ d_Mo_push_111 (fun H locs hP hkp hS => ?_)
  refine lv_aload_n hx hb d_Mo_push_114 rfl (lv_at hl 2 rfl) ?_
  refine g_f Z kc_Mo hP hm.1 rfl 16 (by decide) wl_Mo_60 rfl rfl d_Mo_push_115 ?_
  refine lv_istore_n hx hb d_Mo_push_118 rfl hl (by decide) rfl (fun ls hl => ?_)
  have hl : lv_has ls 4 [(2, .int (mu1 m0 16)), (3, .int 5), (0, .ref m0), (1, .int 1)] := hl
  refine lv_iconst (v := 1) hx hb d_Mo_push_119 (by decide) ?_
  refine lv_istore_n hx hb d_Mo_push_120 rfl hl (by decide) rfl (fun ls hl => ?_)
  have hl : lv_has ls 4 [(3, .int 1), (2, .int (mu1 m0 16)), (0, .ref m0), (1, .int 1)] := hl
  refine lv_iload_n hx hb d_Mo_push_121 rfl (lv_at hl 0 rfl) ?_
  refine lv_iconst (v := 3) hx hb d_Mo_push_122 (by decide) ?_
  refine lv_icmp_gt (tgt := 146) hx hb d_Mo_push_123 rfl (fun br123 => absurd br123 (by decide)) (fun br123 => ?_)
  refine lv_iload_n hx hb d_Mo_push_126 rfl (lv_at hl 0 rfl) ?_
  refine lv_iload_n hx hb d_Mo_push_127 rfl (lv_at hl 3 rfl) ?_
  refine lv_icmp_eq (tgt := 140) hx hb d_Mo_push_128 rfl (fun br128 => ?_) (fun br128 => absurd (rfl) br128)
  refine lv_iinc (k := 0) (v := 2) hx hb d_Mo_push_140 hl rfl (by decide) (by decide) rfl (fun ls hl => ?_)
  have hl : lv_has ls 4 [(3, .int 2), (2, .int (mu1 m0 16)), (0, .ref m0), (1, .int 1)] := hl
  refine lv_goto (tgt := 121) hx hb d_Mo_push_143 rfl ?_
  refine lv_iload_n hx hb d_Mo_push_121 rfl (lv_at hl 0 rfl) ?_
  refine lv_iconst (v := 3) hx hb d_Mo_push_122 (by decide) ?_
  refine lv_icmp_gt (tgt := 146) hx hb d_Mo_push_123 rfl (fun br123 => absurd br123 (by decide)) (fun br123 => ?_)
  refine lv_iload_n hx hb d_Mo_push_126 rfl (lv_at hl 0 rfl) ?_
  refine lv_iload_n hx hb d_Mo_push_127 rfl (lv_at hl 3 rfl) ?_
  refine lv_icmp_eq (tgt := 140) hx hb d_Mo_push_128 rfl (fun br128 => absurd br128 (by decide)) (fun br128 => ?_)
  refine lv_aload_n hx hb d_Mo_push_131 rfl (lv_at hl 2 rfl) ?_
  refine lv_iload_n hx hb d_Mo_push_132 rfl (lv_at hl 0 rfl) ?_
  refine lv_iconst (v := 0) hx hb d_Mo_push_133 (by decide) ?_
  refine cr_S Z ks_Mo_87 (c_Mo_line_d l D E La mu1 (k := 1) (u := 0) rfl) hP [.ref m0] rfl rfl hl.1 (Nat.le_of_ble_eq_true rfl) ⟨by decide, by decide⟩ ⟨Nat.le_refl _, Nat.le_refl _⟩ d_Mo_push_134 ?_
  refine cw_V Z kv_Mo_91 (c_Mo_send l D E La hm mu1 (by decide) qw1 (by omega) qo1 (by omega) qt1) hP hS (fun _ h => h) (la_recv hK hP kc_Mo hm.1 rfl) [] rfl rfl hl.1 (Nat.le_of_ble_eq_true rfl) ⟨by decide, by decide⟩ ⟨Nat.le_refl _, Nat.le_refl _⟩ d_Mo_push_137 (fun H locs hP hkp hS => ?_)
  refine lv_iinc (k := 0) (v := 3) hx hb d_Mo_push_140 hl rfl (by decide) (by decide) rfl (fun ls hl => ?_)
  have hl : lv_has ls 4 [(3, .int 3), (2, .int (mu1 m0 16)), (0, .ref m0), (1, .int 1)] := hl
  refine lv_goto (tgt := 121) hx hb d_Mo_push_143 rfl ?_
  refine lv_iload_n hx hb d_Mo_push_121 rfl (lv_at hl 0 rfl) ?_
  refine lv_iconst (v := 3) hx hb d_Mo_push_122 (by decide) ?_
  refine lv_icmp_gt (tgt := 146) hx hb d_Mo_push_123 rfl (fun br123 => absurd br123 (by decide)) (fun br123 => ?_)
  refine lv_iload_n hx hb d_Mo_push_126 rfl (lv_at hl 0 rfl) ?_
  refine lv_iload_n hx hb d_Mo_push_127 rfl (lv_at hl 3 rfl) ?_
  refine lv_icmp_eq (tgt := 140) hx hb d_Mo_push_128 rfl (fun br128 => absurd br128 (by decide)) (fun br128 => ?_)
  refine lv_aload_n hx hb d_Mo_push_131 rfl (lv_at hl 2 rfl) ?_
  refine lv_iload_n hx hb d_Mo_push_132 rfl (lv_at hl 0 rfl) ?_
  refine lv_iconst (v := 0) hx hb d_Mo_push_133 (by decide) ?_
  refine cr_S Z ks_Mo_87 (c_Mo_line_d l D E La (md_send mu1 m0 3 v1 p1 t1) (k := 2) (u := 0) rfl) hP [.ref m0] rfl rfl hl.1 (Nat.le_of_ble_eq_true rfl) ⟨by decide, by decide⟩ ⟨Nat.le_refl _, Nat.le_refl _⟩ d_Mo_push_134 ?_
  refine cw_V Z kv_Mo_91 (c_Mo_send l D E La hm (md_send mu1 m0 3 v1 p1 t1) (by decide) r5 (by omega) r11 (by omega) r3) hP hS (fun _ h => h) (la_recv hK hP kc_Mo hm.1 rfl) [] rfl rfl hl.1 (Nat.le_of_ble_eq_true rfl) ⟨by decide, by decide⟩ ⟨Nat.le_refl _, Nat.le_refl _⟩ d_Mo_push_137 (fun H locs hP hkp hS => ?_)
  refine lv_iinc (k := 0) (v := 4) hx hb d_Mo_push_140 hl rfl (by decide) (by decide) rfl (fun ls hl => ?_)
  have hl : lv_has ls 4 [(3, .int 4), (2, .int (mu1 m0 16)), (0, .ref m0), (1, .int 1)] := hl
  refine lv_goto (tgt := 121) hx hb d_Mo_push_143 rfl ?_
  refine lv_iload_n hx hb d_Mo_push_121 rfl (lv_at hl 0 rfl) ?_
  refine lv_iconst (v := 3) hx hb d_Mo_push_122 (by decide) ?_
  refine lv_icmp_gt (tgt := 146) hx hb d_Mo_push_123 rfl (fun br123 => ?_) (fun br123 => absurd (by decide) br123)
  refine lv_iload_n hx hb d_Mo_push_146 rfl (lv_at hl 1 rfl) ?_
  exact W.iret hx hb hr (fun t ht hW => ⟨rfl, by rw [ht]; exact cvm hP (rfl), hS.F ht⟩) hS.2.2 d_Mo_push_147
set_option maxHeartbeats 4000000 in
set_option maxRecDepth 100000 in
theorem c_Mo_push_3_10 (l : Launch) (D : va_G) (E : Nat → ClassId) (La : la_L) {m0 : Nat} (hm : isMo E La m0) (mu : la_M) {w0 : Nat} (hw : mu (m0 + 5) 2 = nI w0) (hw0 : 0 < w0) (hw4 : w0 < 40) {p0 : Nat} (po0 : mu (m0 + 11) 1 = nI p0) (pf0 : 24 ≤ p0) (pg0 : p0 < 2 ^ 31)  : cw l y_Mo_push b_Mo_push 4 (some .int) 2 53 D E La [.ref m0, .int 2] mu (some (.int 0)) (la_up mu m0 0 3) := by
  refine cw_begin R_Mo (by decide) rfl (Nat.le_of_ble_eq_true rfl) ?_
  intro p e s m below meth c ls Z hr hlocks hP hS hl
  have hx := Z.1
  have hb := Z.2.1
  have hK : va_K D cls5 (tyE E) s := Z.2.2.2.2.2
  have hl : lv_has ls 4 [(0, .ref m0), (1, .int 2)] := hl
  refine lv_aload_n hx hb d_Mo_push_0 rfl (lv_at hl 0 rfl) ?_
  refine lv_iload_n hx hb d_Mo_push_1 rfl (lv_at hl 1 rfl) ?_
  refine cr_S Z ks_Mo_94 (c_Mo_isClient_y l D E La mu (k := 1) (by decide)) hP [.ref m0] rfl rfl hl.1 (Nat.le_of_ble_eq_true rfl) ⟨by decide, by decide⟩ ⟨Nat.le_refl _, Nat.le_refl _⟩ d_Mo_push_2 ?_
  refine lv_if_ne (tgt := 12) hx hb d_Mo_push_5 rfl (fun br5 => ?_) (fun br5 => absurd br5 (by decide))
  refine lv_aload_n hx hb d_Mo_push_12 rfl (lv_at hl 0 rfl) ?_
  refine g_f (v := .ref (m0 + 5)) Z kc_Mo hP hm.1 rfl 5 (by decide) wl_Mo_23 rfl rfl d_Mo_push_13 ?_
  refine lv_iload_n hx hb d_Mo_push_16 rfl (lv_at hl 1 rfl) ?_
  refine lv_iconst (v := 1) hx hb d_Mo_push_17 (by decide) ?_
  refine cr_S Z ks_Mo_87 (c_Mo_line_u l D E La mu (k := 1) (u := 1) (by decide)) hP [.ref (m0 + 5), .ref m0] rfl rfl hl.1 (Nat.le_of_ble_eq_true rfl) ⟨by decide, by decide⟩ ⟨Nat.le_refl _, Nat.le_refl _⟩ d_Mo_push_18 ?_
  refine la_ialdv (v := (nI w0)) hx hb hK hP 0 hm.2.2.2.2.2.1 rfl rfl 2 rfl (by decide) (by decide) hw d_Mo_push_21 ?_
  refine lv_if_ne (tgt := 29) hx hb d_Mo_push_22 rfl (fun br22 => ?_) (fun br22 => absurd br22 (nI_ne0 hw0 (by omega)))
  refine lv_iconst (v := 0) hx hb d_Mo_push_29 (by decide) ?_
  refine p_f Z kc_Mo hP hS hm.1 rfl 0 (by decide) wl_Mo_56 rfl rfl ⟨rfl, rfl⟩ (Nat.le_of_ble_eq_true rfl) rfl d_Mo_push_30 (fun H locs hP hS => ?_)
  refine lv_iconst (v := 1) hx hb d_Mo_push_33 (by decide) ?_
  refine lv_istore_n hx hb d_Mo_push_34 rfl hl (by decide) rfl (fun ls hl => ?_)
  have hl : lv_has ls 4 [(2, .int 1), (0, .ref m0), (1, .int 2)] := hl
  refine lv_iload_n hx hb d_Mo_push_35 rfl (lv_at hl 0 rfl) ?_
  refine lv_iconst (v := 3) hx hb d_Mo_push_36 (by decide) ?_
  refine lv_icmp_gt (tgt := 95) hx hb d_Mo_push_37 rfl (fun br37 => absurd br37 (by decide)) (fun br37 => ?_)
  refine lv_aload_n hx hb d_Mo_push_40 rfl (lv_at hl 1 rfl) ?_
  refine g_i (v := 0) Z kc_Mo hP hm.1 rfl 0 (by decide) wl_Mo_56 rfl rfl la_up_s d_Mo_push_41 ?_
  refine lv_if_ne (tgt := 95) hx hb d_Mo_push_44 rfl (fun br44 => absurd (rfl) br44) (fun br44 => ?_)
  refine lv_iload_n hx hb d_Mo_push_47 rfl (lv_at hl 0 rfl) ?_
  refine lv_iconst (v := 0) hx hb d_Mo_push_48 (by decide) ?_
  refine cr_S Z ks_Mo_87 (c_Mo_line_d l D E La (la_up mu m0 0 0) (k := 0) (u := 0) rfl) hP [] rfl rfl hl.1 (Nat.le_of_ble_eq_true rfl) ⟨by decide, by decide⟩ ⟨Nat.le_refl _, Nat.le_refl _⟩ d_Mo_push_49 ?_
  refine lv_istore_n hx hb d_Mo_push_52 rfl hl (by decide) rfl (fun ls hl => ?_)
  have hl : lv_has ls 4 [(3, .int 1), (2, .int 1), (0, .ref m0), (1, .int 2)] := hl
  refine lv_aload_n hx hb d_Mo_push_53 rfl (lv_at hl 2 rfl) ?_
  refine lv_iload_n hx hb d_Mo_push_54 rfl (lv_at hl 1 rfl) ?_
  refine lv_iload_n hx hb d_Mo_push_55 rfl (lv_at hl 3 rfl) ?_
  refine lv_icmp_eq (tgt := 85) hx hb d_Mo_push_56 rfl (fun br56 => absurd br56 (by decide)) (fun br56 => ?_)
  refine lv_aload_n hx hb d_Mo_push_59 rfl (lv_at hl 2 rfl) ?_
  refine g_f (v := .ref (m0 + 11)) Z kc_Mo hP hm.1 rfl 11 (by decide) wl_Mo_41 rfl rfl d_Mo_push_60 ?_
  refine lv_iload_n hx hb d_Mo_push_63 rfl (lv_at hl 0 rfl) ?_
  refine la_ialdv (v := (nI p0)) hx hb hK hP 0 hm.2.2.2.2.2.2.2.2.2.2.2.1 rfl rfl 1 rfl (by decide) (by decide) ((la_up_k (by decide)).trans po0) d_Mo_push_64 ?_
  refine lv_bipush (v := 24) hx hb d_Mo_push_65 (by decide) ?_
  refine lv_icmp_ge (tgt := 81) hx hb d_Mo_push_67 rfl (fun br67 => ?_) (fun br67 => absurd (nI_le (a := 24) pf0 (by omega)) br67)
  refine lv_iconst (v := 3) hx hb d_Mo_push_81 (by decide) ?_
  refine lv_goto (tgt := 86) hx hb d_Mo_push_82 rfl ?_
  refine p_f Z kc_Mo hP hS hm.1 rfl 0 (by decide) wl_Mo_56 rfl rfl ⟨rfl, rfl⟩ (Nat.le_of_ble_eq_true rfl) rfl d_Mo_push_86 (fun H locs hP hS => ?_)
  have hP : la_P D cls5 La (la_up mu m0 0 3) H := cvm hP la_up_up
  refine lv_iinc (k := 1) (v := 2) hx hb d_Mo_push_89 hl rfl (by decide) (by decide) rfl (fun ls hl => ?_)
  have hl : lv_has ls 4 [(2, .int 2), (3, .int 1), (0, .ref m0), (1, .int 2)] := hl
  refine lv_goto (tgt := 35) hx hb d_Mo_push_92 rfl ?_
  refine lv_iload_n hx hb d_Mo_push_35 rfl (lv_at hl 0 rfl) ?_
  refine lv_iconst (v := 3) hx hb d_Mo_push_36 (by decide) ?_
  refine lv_icmp_gt (tgt := 95) hx hb d_Mo_push_37 rfl (fun br37 => absurd br37 (by decide)) (fun br37 => ?_)
  refine lv_aload_n hx hb d_Mo_push_40 rfl (lv_at hl 2 rfl) ?_
  refine g_i (v := 3) Z kc_Mo hP hm.1 rfl 0 (by decide) wl_Mo_56 rfl rfl la_up_s d_Mo_push_41 ?_
  refine lv_if_ne (tgt := 95) hx hb d_Mo_push_44 rfl (fun br44 => ?_) (fun br44 => absurd br44 (by decide))
  refine lv_aload_n hx hb d_Mo_push_95 rfl (lv_at hl 2 rfl) ?_
  refine g_i (v := 3) Z kc_Mo hP hm.1 rfl 0 (by decide) wl_Mo_56 rfl rfl la_up_s d_Mo_push_96 ?_
  refine lv_if_eq (tgt := 104) hx hb d_Mo_push_99 rfl (fun br99 => absurd br99 (by decide)) (fun br99 => ?_)
  refine lv_iconst (v := 0) hx hb d_Mo_push_102 (by decide) ?_
  exact W.iret hx hb hr (fun t ht hW => ⟨rfl, by rw [ht]; exact cvm hP (rfl), hS.F ht⟩) hS.2.2 d_Mo_push_103
set_option maxHeartbeats 4000000 in
set_option maxRecDepth 100000 in
theorem c_Mo_push_3_12 (l : Launch) (D : va_G) (E : Nat → ClassId) (La : la_L) {m0 : Nat} (hm : isMo E La m0) (mu : la_M) {w0 : Nat} (hw : mu (m0 + 5) 2 = nI w0) (hw0 : 0 < w0) (hw4 : w0 < 40) {p0 v0 : Nat} (po0 : mu (m0 + 11) 1 = nI p0) (pw0 : mu (m0 + 5) 1 = nI v0) (pv0 : v0 ≤ p0) (pf0 : p0 < 24) {p2 : Nat} (po2 : mu (m0 + 11) 5 = nI p2) (pf2 : 24 ≤ p2) (pg2 : p2 < 2 ^ 31)  : cw l y_Mo_push b_Mo_push 4 (some .int) 2 53 D E La [.ref m0, .int 2] mu (some (.int 0)) (la_up mu m0 0 3) := by
  refine cw_begin R_Mo (by decide) rfl (Nat.le_of_ble_eq_true rfl) ?_
  intro p e s m below meth c ls Z hr hlocks hP hS hl
  have hx := Z.1
  have hb := Z.2.1
  have hK : va_K D cls5 (tyE E) s := Z.2.2.2.2.2
  have hl : lv_has ls 4 [(0, .ref m0), (1, .int 2)] := hl
  refine lv_aload_n hx hb d_Mo_push_0 rfl (lv_at hl 0 rfl) ?_
  refine lv_iload_n hx hb d_Mo_push_1 rfl (lv_at hl 1 rfl) ?_
  refine cr_S Z ks_Mo_94 (c_Mo_isClient_y l D E La mu (k := 1) (by decide)) hP [.ref m0] rfl rfl hl.1 (Nat.le_of_ble_eq_true rfl) ⟨by decide, by decide⟩ ⟨Nat.le_refl _, Nat.le_refl _⟩ d_Mo_push_2 ?_
  refine lv_if_ne (tgt := 12) hx hb d_Mo_push_5 rfl (fun br5 => ?_) (fun br5 => absurd br5 (by decide))
  refine lv_aload_n hx hb d_Mo_push_12 rfl (lv_at hl 0 rfl) ?_
  refine g_f (v := .ref (m0 + 5)) Z kc_Mo hP hm.1 rfl 5 (by decide) wl_Mo_23 rfl rfl d_Mo_push_13 ?_
  refine lv_iload_n hx hb d_Mo_push_16 rfl (lv_at hl 1 rfl) ?_
  refine lv_iconst (v := 1) hx hb d_Mo_push_17 (by decide) ?_
  refine cr_S Z ks_Mo_87 (c_Mo_line_u l D E La mu (k := 1) (u := 1) (by decide)) hP [.ref (m0 + 5), .ref m0] rfl rfl hl.1 (Nat.le_of_ble_eq_true rfl) ⟨by decide, by decide⟩ ⟨Nat.le_refl _, Nat.le_refl _⟩ d_Mo_push_18 ?_
  refine la_ialdv (v := (nI w0)) hx hb hK hP 0 hm.2.2.2.2.2.1 rfl rfl 2 rfl (by decide) (by decide) hw d_Mo_push_21 ?_
  refine lv_if_ne (tgt := 29) hx hb d_Mo_push_22 rfl (fun br22 => ?_) (fun br22 => absurd br22 (nI_ne0 hw0 (by omega)))
  refine lv_iconst (v := 0) hx hb d_Mo_push_29 (by decide) ?_
  refine p_f Z kc_Mo hP hS hm.1 rfl 0 (by decide) wl_Mo_56 rfl rfl ⟨rfl, rfl⟩ (Nat.le_of_ble_eq_true rfl) rfl d_Mo_push_30 (fun H locs hP hS => ?_)
  refine lv_iconst (v := 1) hx hb d_Mo_push_33 (by decide) ?_
  refine lv_istore_n hx hb d_Mo_push_34 rfl hl (by decide) rfl (fun ls hl => ?_)
  have hl : lv_has ls 4 [(2, .int 1), (0, .ref m0), (1, .int 2)] := hl
  refine lv_iload_n hx hb d_Mo_push_35 rfl (lv_at hl 0 rfl) ?_
  refine lv_iconst (v := 3) hx hb d_Mo_push_36 (by decide) ?_
  refine lv_icmp_gt (tgt := 95) hx hb d_Mo_push_37 rfl (fun br37 => absurd br37 (by decide)) (fun br37 => ?_)
  refine lv_aload_n hx hb d_Mo_push_40 rfl (lv_at hl 1 rfl) ?_
  refine g_i (v := 0) Z kc_Mo hP hm.1 rfl 0 (by decide) wl_Mo_56 rfl rfl la_up_s d_Mo_push_41 ?_
  refine lv_if_ne (tgt := 95) hx hb d_Mo_push_44 rfl (fun br44 => absurd (rfl) br44) (fun br44 => ?_)
  refine lv_iload_n hx hb d_Mo_push_47 rfl (lv_at hl 0 rfl) ?_
  refine lv_iconst (v := 0) hx hb d_Mo_push_48 (by decide) ?_
  refine cr_S Z ks_Mo_87 (c_Mo_line_d l D E La (la_up mu m0 0 0) (k := 0) (u := 0) rfl) hP [] rfl rfl hl.1 (Nat.le_of_ble_eq_true rfl) ⟨by decide, by decide⟩ ⟨Nat.le_refl _, Nat.le_refl _⟩ d_Mo_push_49 ?_
  refine lv_istore_n hx hb d_Mo_push_52 rfl hl (by decide) rfl (fun ls hl => ?_)
  have hl : lv_has ls 4 [(3, .int 1), (2, .int 1), (0, .ref m0), (1, .int 2)] := hl
  refine lv_aload_n hx hb d_Mo_push_53 rfl (lv_at hl 2 rfl) ?_
  refine lv_iload_n hx hb d_Mo_push_54 rfl (lv_at hl 1 rfl) ?_
  refine lv_iload_n hx hb d_Mo_push_55 rfl (lv_at hl 3 rfl) ?_
  refine lv_icmp_eq (tgt := 85) hx hb d_Mo_push_56 rfl (fun br56 => absurd br56 (by decide)) (fun br56 => ?_)
  refine lv_aload_n hx hb d_Mo_push_59 rfl (lv_at hl 2 rfl) ?_
  refine g_f (v := .ref (m0 + 11)) Z kc_Mo hP hm.1 rfl 11 (by decide) wl_Mo_41 rfl rfl d_Mo_push_60 ?_
  refine lv_iload_n hx hb d_Mo_push_63 rfl (lv_at hl 0 rfl) ?_
  refine la_ialdv (v := (nI p0)) hx hb hK hP 0 hm.2.2.2.2.2.2.2.2.2.2.2.1 rfl rfl 1 rfl (by decide) (by decide) ((la_up_k (by decide)).trans po0) d_Mo_push_64 ?_
  refine lv_bipush (v := 24) hx hb d_Mo_push_65 (by decide) ?_
  refine lv_icmp_ge (tgt := 81) hx hb d_Mo_push_67 rfl (fun br67 => absurd br67 (nI_ge (b := 24) pf0 (by decide))) (fun br67 => ?_)
  refine lv_aload_n hx hb d_Mo_push_70 rfl (lv_at hl 2 rfl) ?_
  refine g_f (v := .ref (m0 + 5)) Z kc_Mo hP hm.1 rfl 5 (by decide) wl_Mo_23 rfl rfl d_Mo_push_71 ?_
  refine lv_iload_n hx hb d_Mo_push_74 rfl (lv_at hl 0 rfl) ?_
  refine la_ialdv (v := (nI v0)) hx hb hK hP 0 hm.2.2.2.2.2.1 rfl rfl 1 rfl (by decide) (by decide) ((la_up_k (by decide)).trans pw0) d_Mo_push_75 ?_
  refine lv_bipush (v := 24) hx hb d_Mo_push_76 (by decide) ?_
  refine lv_icmp_lt (tgt := 85) hx hb d_Mo_push_78 rfl (fun br78 => ?_) (fun br78 => absurd (nI_lt (b := 24) (Nat.lt_of_le_of_lt pv0 pf0) (by decide)) br78)
  refine lv_iconst (v := 0) hx hb d_Mo_push_85 (by decide) ?_
  refine p_f Z kc_Mo hP hS hm.1 rfl 0 (by decide) wl_Mo_56 rfl rfl ⟨rfl, rfl⟩ (Nat.le_of_ble_eq_true rfl) rfl d_Mo_push_86 (fun H locs hP hS => ?_)
  have hP : la_P D cls5 La (la_up mu m0 0 0) H := cvm hP la_up_up
  refine lv_iinc (k := 1) (v := 2) hx hb d_Mo_push_89 hl rfl (by decide) (by decide) rfl (fun ls hl => ?_)
  have hl : lv_has ls 4 [(2, .int 2), (3, .int 1), (0, .ref m0), (1, .int 2)] := hl
  refine lv_goto (tgt := 35) hx hb d_Mo_push_92 rfl ?_
  refine lv_iload_n hx hb d_Mo_push_35 rfl (lv_at hl 0 rfl) ?_
  refine lv_iconst (v := 3) hx hb d_Mo_push_36 (by decide) ?_
  refine lv_icmp_gt (tgt := 95) hx hb d_Mo_push_37 rfl (fun br37 => absurd br37 (by decide)) (fun br37 => ?_)
  refine lv_aload_n hx hb d_Mo_push_40 rfl (lv_at hl 2 rfl) ?_
  refine g_i (v := 0) Z kc_Mo hP hm.1 rfl 0 (by decide) wl_Mo_56 rfl rfl la_up_s d_Mo_push_41 ?_
  refine lv_if_ne (tgt := 95) hx hb d_Mo_push_44 rfl (fun br44 => absurd (rfl) br44) (fun br44 => ?_)
  refine lv_iload_n hx hb d_Mo_push_47 rfl (lv_at hl 0 rfl) ?_
  refine lv_iconst (v := 0) hx hb d_Mo_push_48 (by decide) ?_
  refine cr_S Z ks_Mo_87 (c_Mo_line_d l D E La (la_up mu m0 0 0) (k := 1) (u := 0) rfl) hP [] rfl rfl hl.1 (Nat.le_of_ble_eq_true rfl) ⟨by decide, by decide⟩ ⟨Nat.le_refl _, Nat.le_refl _⟩ d_Mo_push_49 ?_
  refine lv_istore_n hx hb d_Mo_push_52 rfl hl (by decide) rfl (fun ls hl => ?_)
  have hl : lv_has ls 4 [(3, .int 3), (2, .int 2), (0, .ref m0), (1, .int 2)] := hl
  refine lv_aload_n hx hb d_Mo_push_53 rfl (lv_at hl 2 rfl) ?_
  refine lv_iload_n hx hb d_Mo_push_54 rfl (lv_at hl 1 rfl) ?_
  refine lv_iload_n hx hb d_Mo_push_55 rfl (lv_at hl 3 rfl) ?_
  refine lv_icmp_eq (tgt := 85) hx hb d_Mo_push_56 rfl (fun br56 => ?_) (fun br56 => absurd (rfl) br56)
  refine lv_iconst (v := 0) hx hb d_Mo_push_85 (by decide) ?_
  refine p_f Z kc_Mo hP hS hm.1 rfl 0 (by decide) wl_Mo_56 rfl rfl ⟨rfl, rfl⟩ (Nat.le_of_ble_eq_true rfl) rfl d_Mo_push_86 (fun H locs hP hS => ?_)
  have hP : la_P D cls5 La (la_up mu m0 0 0) H := cvm hP la_up_up
  refine lv_iinc (k := 1) (v := 3) hx hb d_Mo_push_89 hl rfl (by decide) (by decide) rfl (fun ls hl => ?_)
  have hl : lv_has ls 4 [(2, .int 3), (3, .int 3), (0, .ref m0), (1, .int 2)] := hl
  refine lv_goto (tgt := 35) hx hb d_Mo_push_92 rfl ?_
  refine lv_iload_n hx hb d_Mo_push_35 rfl (lv_at hl 0 rfl) ?_
  refine lv_iconst (v := 3) hx hb d_Mo_push_36 (by decide) ?_
  refine lv_icmp_gt (tgt := 95) hx hb d_Mo_push_37 rfl (fun br37 => absurd br37 (by decide)) (fun br37 => ?_)
  refine lv_aload_n hx hb d_Mo_push_40 rfl (lv_at hl 2 rfl) ?_
  refine g_i (v := 0) Z kc_Mo hP hm.1 rfl 0 (by decide) wl_Mo_56 rfl rfl la_up_s d_Mo_push_41 ?_
  refine lv_if_ne (tgt := 95) hx hb d_Mo_push_44 rfl (fun br44 => absurd (rfl) br44) (fun br44 => ?_)
  refine lv_iload_n hx hb d_Mo_push_47 rfl (lv_at hl 0 rfl) ?_
  refine lv_iconst (v := 0) hx hb d_Mo_push_48 (by decide) ?_
  refine cr_S Z ks_Mo_87 (c_Mo_line_d l D E La (la_up mu m0 0 0) (k := 2) (u := 0) rfl) hP [] rfl rfl hl.1 (Nat.le_of_ble_eq_true rfl) ⟨by decide, by decide⟩ ⟨Nat.le_refl _, Nat.le_refl _⟩ d_Mo_push_49 ?_
  refine lv_istore_n hx hb d_Mo_push_52 rfl hl (by decide) rfl (fun ls hl => ?_)
  have hl : lv_has ls 4 [(3, .int 5), (2, .int 3), (0, .ref m0), (1, .int 2)] := hl
  refine lv_aload_n hx hb d_Mo_push_53 rfl (lv_at hl 2 rfl) ?_
  refine lv_iload_n hx hb d_Mo_push_54 rfl (lv_at hl 1 rfl) ?_
  refine lv_iload_n hx hb d_Mo_push_55 rfl (lv_at hl 3 rfl) ?_
  refine lv_icmp_eq (tgt := 85) hx hb d_Mo_push_56 rfl (fun br56 => absurd br56 (by decide)) (fun br56 => ?_)
  refine lv_aload_n hx hb d_Mo_push_59 rfl (lv_at hl 2 rfl) ?_
  refine g_f (v := .ref (m0 + 11)) Z kc_Mo hP hm.1 rfl 11 (by decide) wl_Mo_41 rfl rfl d_Mo_push_60 ?_
  refine lv_iload_n hx hb d_Mo_push_63 rfl (lv_at hl 0 rfl) ?_
  refine la_ialdv (v := (nI p2)) hx hb hK hP 0 hm.2.2.2.2.2.2.2.2.2.2.2.1 rfl rfl 5 rfl (by decide) (by decide) ((la_up_k (by decide)).trans po2) d_Mo_push_64 ?_
  refine lv_bipush (v := 24) hx hb d_Mo_push_65 (by decide) ?_
  refine lv_icmp_ge (tgt := 81) hx hb d_Mo_push_67 rfl (fun br67 => ?_) (fun br67 => absurd (nI_le (a := 24) pf2 (by omega)) br67)
  refine lv_iconst (v := 3) hx hb d_Mo_push_81 (by decide) ?_
  refine lv_goto (tgt := 86) hx hb d_Mo_push_82 rfl ?_
  refine p_f Z kc_Mo hP hS hm.1 rfl 0 (by decide) wl_Mo_56 rfl rfl ⟨rfl, rfl⟩ (Nat.le_of_ble_eq_true rfl) rfl d_Mo_push_86 (fun H locs hP hS => ?_)
  have hP : la_P D cls5 La (la_up mu m0 0 3) H := cvm hP la_up_up
  refine lv_iinc (k := 1) (v := 4) hx hb d_Mo_push_89 hl rfl (by decide) (by decide) rfl (fun ls hl => ?_)
  have hl : lv_has ls 4 [(2, .int 4), (3, .int 5), (0, .ref m0), (1, .int 2)] := hl
  refine lv_goto (tgt := 35) hx hb d_Mo_push_92 rfl ?_
  refine lv_iload_n hx hb d_Mo_push_35 rfl (lv_at hl 0 rfl) ?_
  refine lv_iconst (v := 3) hx hb d_Mo_push_36 (by decide) ?_
  refine lv_icmp_gt (tgt := 95) hx hb d_Mo_push_37 rfl (fun br37 => ?_) (fun br37 => absurd (by decide) br37)
  refine lv_aload_n hx hb d_Mo_push_95 rfl (lv_at hl 2 rfl) ?_
  refine g_i (v := 3) Z kc_Mo hP hm.1 rfl 0 (by decide) wl_Mo_56 rfl rfl la_up_s d_Mo_push_96 ?_
  refine lv_if_eq (tgt := 104) hx hb d_Mo_push_99 rfl (fun br99 => absurd br99 (by decide)) (fun br99 => ?_)
  refine lv_iconst (v := 0) hx hb d_Mo_push_102 (by decide) ?_
  exact W.iret hx hb hr (fun t ht hW => ⟨rfl, by rw [ht]; exact cvm hP (rfl), hS.F ht⟩) hS.2.2 d_Mo_push_103
set_option maxHeartbeats 4000000 in
set_option maxRecDepth 100000 in
theorem c_Mo_push_0_1 (l : Launch) (D : va_G) (E : Nat → ClassId) (La : la_L) {m0 : Nat} (hm : isMo E La m0) (mu : la_M) {w0 : Nat} (hw : mu (m0 + 5) 2 = nI w0) (hw0 : 0 < w0) (hw4 : w0 < 40) {p0 v0 : Nat} (po0 : mu (m0 + 11) 1 = nI p0) (pw0 : mu (m0 + 5) 1 = nI v0) (pv0 : v0 ≤ p0) (pf0 : p0 < 24) {p2 v2 : Nat} (po2 : mu (m0 + 11) 5 = nI p2) (pw2 : mu (m0 + 5) 5 = nI v2) (pv2 : v2 ≤ p2) (pf2 : p2 < 24) {mu1 : la_M} (hG : cw l y_Mo_get b_Mo_get 9 none 1 25 D E La [.ref m0, .int (nI 2), .int (nI 0)] (la_up mu m0 0 0) none mu1) {t0 : Nat} (qo0 : mu1 (m0 + 11) 1 = nI p0) (qw0 : mu1 (m0 + 5) 1 = nI v0) (qt0 : mu1 (m0 + 3) 1 = nI t0) {t2 : Nat} (qo2 : mu1 (m0 + 11) 5 = nI p2) (qw2 : mu1 (m0 + 5) 5 = nI v2) (qt2 : mu1 (m0 + 3) 5 = nI t2)  : cw l y_Mo_push b_Mo_push 4 (some .int) 2 53 D E La [.ref m0, .int 2] mu (some (.int (mu1 m0 16))) (md_send (md_send mu1 m0 1 v0 p0 t0) m0 5 v2 p2 t2) := by
  refine cw_begin R_Mo (by decide) rfl (Nat.le_of_ble_eq_true rfl) ?_
  intro p e s m below meth c ls Z hr hlocks hP hS hl
  have hx := Z.1
  have hb := Z.2.1
  have hK : va_K D cls5 (tyE E) s := Z.2.2.2.2.2
  have hl : lv_has ls 4 [(0, .ref m0), (1, .int 2)] := hl
  have r11 := (show (md_send mu1 m0 1 v0 p0 t0) (m0 + 11) 5 = nI p2 by simp only [md_send]; rw [la_up_n (by omega), la_up_k (by decide), la_up_n (by omega), la_up_n (by omega), la_up_n (by omega), la_up_n (by omega), la_up_n (by omega), la_up_n (by omega), la_up_n (by omega), la_up_n (by omega), la_up_n (by omega), la_up_n (by omega)]; exact qo2)
  have r5 := (show (md_send mu1 m0 1 v0 p0 t0) (m0 + 5) 5 = nI v2 by simp only [md_send]; rw [la_up_n (by omega), la_up_n (by omega), la_up_n (by omega), la_up_n (by omega), la_up_n (by omega), la_up_n (by omega), la_up_k (by decide), la_up_n (by omega), la_up_n (by omega), la_up_n (by omega), la_up_n (by omega), la_up_n (by omega)]; exact qw2)
  have r3 := (show (md_send mu1 m0 1 v0 p0 t0) (m0 + 3) 5 = nI t2 by simp only [md_send]; rw [la_up_k (by decide), la_up_n (by omega), la_up_n (by omega), la_up_n (by omega), la_up_n (by omega), la_up_n (by omega), la_up_n (by omega), la_up_n (by omega), la_up_n (by omega), la_up_n (by omega), la_up_n (by omega), la_up_n (by omega)]; exact qt2)
  refine lv_aload_n hx hb d_Mo_push_0 rfl (lv_at hl 0 rfl) ?_
  refine lv_iload_n hx hb d_Mo_push_1 rfl (lv_at hl 1 rfl) ?_
  refine cr_S Z ks_Mo_94 (c_Mo_isClient_y l D E La mu (k := 1) (by decide)) hP [.ref m0] rfl rfl hl.1 (Nat.le_of_ble_eq_true rfl) ⟨by decide, by decide⟩ ⟨Nat.le_refl _, Nat.le_refl _⟩ d_Mo_push_2 ?_
  refine lv_if_ne (tgt := 12) hx hb d_Mo_push_5 rfl (fun br5 => ?_) (fun br5 => absurd br5 (by decide))
  refine lv_aload_n hx hb d_Mo_push_12 rfl (lv_at hl 0 rfl) ?_
  refine g_f (v := .ref (m0 + 5)) Z kc_Mo hP hm.1 rfl 5 (by decide) wl_Mo_23 rfl rfl d_Mo_push_13 ?_
  refine lv_iload_n hx hb d_Mo_push_16 rfl (lv_at hl 1 rfl) ?_
  refine lv_iconst (v := 1) hx hb d_Mo_push_17 (by decide) ?_
  refine cr_S Z ks_Mo_87 (c_Mo_line_u l D E La mu (k := 1) (u := 1) (by decide)) hP [.ref (m0 + 5), .ref m0] rfl rfl hl.1 (Nat.le_of_ble_eq_true rfl) ⟨by decide, by decide⟩ ⟨Nat.le_refl _, Nat.le_refl _⟩ d_Mo_push_18 ?_
  refine la_ialdv (v := (nI w0)) hx hb hK hP 0 hm.2.2.2.2.2.1 rfl rfl 2 rfl (by decide) (by decide) hw d_Mo_push_21 ?_
  refine lv_if_ne (tgt := 29) hx hb d_Mo_push_22 rfl (fun br22 => ?_) (fun br22 => absurd br22 (nI_ne0 hw0 (by omega)))
  refine lv_iconst (v := 0) hx hb d_Mo_push_29 (by decide) ?_
  refine p_f Z kc_Mo hP hS hm.1 rfl 0 (by decide) wl_Mo_56 rfl rfl ⟨rfl, rfl⟩ (Nat.le_of_ble_eq_true rfl) rfl d_Mo_push_30 (fun H locs hP hS => ?_)
  refine lv_iconst (v := 1) hx hb d_Mo_push_33 (by decide) ?_
  refine lv_istore_n hx hb d_Mo_push_34 rfl hl (by decide) rfl (fun ls hl => ?_)
  have hl : lv_has ls 4 [(2, .int 1), (0, .ref m0), (1, .int 2)] := hl
  refine lv_iload_n hx hb d_Mo_push_35 rfl (lv_at hl 0 rfl) ?_
  refine lv_iconst (v := 3) hx hb d_Mo_push_36 (by decide) ?_
  refine lv_icmp_gt (tgt := 95) hx hb d_Mo_push_37 rfl (fun br37 => absurd br37 (by decide)) (fun br37 => ?_)
  refine lv_aload_n hx hb d_Mo_push_40 rfl (lv_at hl 1 rfl) ?_
  refine g_i (v := 0) Z kc_Mo hP hm.1 rfl 0 (by decide) wl_Mo_56 rfl rfl la_up_s d_Mo_push_41 ?_
  refine lv_if_ne (tgt := 95) hx hb d_Mo_push_44 rfl (fun br44 => absurd (rfl) br44) (fun br44 => ?_)
  refine lv_iload_n hx hb d_Mo_push_47 rfl (lv_at hl 0 rfl) ?_
  refine lv_iconst (v := 0) hx hb d_Mo_push_48 (by decide) ?_
  refine cr_S Z ks_Mo_87 (c_Mo_line_d l D E La (la_up mu m0 0 0) (k := 0) (u := 0) rfl) hP [] rfl rfl hl.1 (Nat.le_of_ble_eq_true rfl) ⟨by decide, by decide⟩ ⟨Nat.le_refl _, Nat.le_refl _⟩ d_Mo_push_49 ?_
  refine lv_istore_n hx hb d_Mo_push_52 rfl hl (by decide) rfl (fun ls hl => ?_)
  have hl : lv_has ls 4 [(3, .int 1), (2, .int 1), (0, .ref m0), (1, .int 2)] := hl
  refine lv_aload_n hx hb d_Mo_push_53 rfl (lv_at hl 2 rfl) ?_
  refine lv_iload_n hx hb d_Mo_push_54 rfl (lv_at hl 1 rfl) ?_
  refine lv_iload_n hx hb d_Mo_push_55 rfl (lv_at hl 3 rfl) ?_
  refine lv_icmp_eq (tgt := 85) hx hb d_Mo_push_56 rfl (fun br56 => absurd br56 (by decide)) (fun br56 => ?_)
  refine lv_aload_n hx hb d_Mo_push_59 rfl (lv_at hl 2 rfl) ?_
  refine g_f (v := .ref (m0 + 11)) Z kc_Mo hP hm.1 rfl 11 (by decide) wl_Mo_41 rfl rfl d_Mo_push_60 ?_
  refine lv_iload_n hx hb d_Mo_push_63 rfl (lv_at hl 0 rfl) ?_
  refine la_ialdv (v := (nI p0)) hx hb hK hP 0 hm.2.2.2.2.2.2.2.2.2.2.2.1 rfl rfl 1 rfl (by decide) (by decide) ((la_up_k (by decide)).trans po0) d_Mo_push_64 ?_
  refine lv_bipush (v := 24) hx hb d_Mo_push_65 (by decide) ?_
  refine lv_icmp_ge (tgt := 81) hx hb d_Mo_push_67 rfl (fun br67 => absurd br67 (nI_ge (b := 24) pf0 (by decide))) (fun br67 => ?_)
  refine lv_aload_n hx hb d_Mo_push_70 rfl (lv_at hl 2 rfl) ?_
  refine g_f (v := .ref (m0 + 5)) Z kc_Mo hP hm.1 rfl 5 (by decide) wl_Mo_23 rfl rfl d_Mo_push_71 ?_
  refine lv_iload_n hx hb d_Mo_push_74 rfl (lv_at hl 0 rfl) ?_
  refine la_ialdv (v := (nI v0)) hx hb hK hP 0 hm.2.2.2.2.2.1 rfl rfl 1 rfl (by decide) (by decide) ((la_up_k (by decide)).trans pw0) d_Mo_push_75 ?_
  refine lv_bipush (v := 24) hx hb d_Mo_push_76 (by decide) ?_
  refine lv_icmp_lt (tgt := 85) hx hb d_Mo_push_78 rfl (fun br78 => ?_) (fun br78 => absurd (nI_lt (b := 24) (Nat.lt_of_le_of_lt pv0 pf0) (by decide)) br78)
  refine lv_iconst (v := 0) hx hb d_Mo_push_85 (by decide) ?_
  refine p_f Z kc_Mo hP hS hm.1 rfl 0 (by decide) wl_Mo_56 rfl rfl ⟨rfl, rfl⟩ (Nat.le_of_ble_eq_true rfl) rfl d_Mo_push_86 (fun H locs hP hS => ?_)
  have hP : la_P D cls5 La (la_up mu m0 0 0) H := cvm hP la_up_up
  refine lv_iinc (k := 1) (v := 2) hx hb d_Mo_push_89 hl rfl (by decide) (by decide) rfl (fun ls hl => ?_)
  have hl : lv_has ls 4 [(2, .int 2), (3, .int 1), (0, .ref m0), (1, .int 2)] := hl
  refine lv_goto (tgt := 35) hx hb d_Mo_push_92 rfl ?_
  refine lv_iload_n hx hb d_Mo_push_35 rfl (lv_at hl 0 rfl) ?_
  refine lv_iconst (v := 3) hx hb d_Mo_push_36 (by decide) ?_
  refine lv_icmp_gt (tgt := 95) hx hb d_Mo_push_37 rfl (fun br37 => absurd br37 (by decide)) (fun br37 => ?_)
  refine lv_aload_n hx hb d_Mo_push_40 rfl (lv_at hl 2 rfl) ?_
  refine g_i (v := 0) Z kc_Mo hP hm.1 rfl 0 (by decide) wl_Mo_56 rfl rfl la_up_s d_Mo_push_41 ?_
  refine lv_if_ne (tgt := 95) hx hb d_Mo_push_44 rfl (fun br44 => absurd (rfl) br44) (fun br44 => ?_)
  refine lv_iload_n hx hb d_Mo_push_47 rfl (lv_at hl 0 rfl) ?_
  refine lv_iconst (v := 0) hx hb d_Mo_push_48 (by decide) ?_
  refine cr_S Z ks_Mo_87 (c_Mo_line_d l D E La (la_up mu m0 0 0) (k := 1) (u := 0) rfl) hP [] rfl rfl hl.1 (Nat.le_of_ble_eq_true rfl) ⟨by decide, by decide⟩ ⟨Nat.le_refl _, Nat.le_refl _⟩ d_Mo_push_49 ?_
  refine lv_istore_n hx hb d_Mo_push_52 rfl hl (by decide) rfl (fun ls hl => ?_)
  have hl : lv_has ls 4 [(3, .int 3), (2, .int 2), (0, .ref m0), (1, .int 2)] := hl
  refine lv_aload_n hx hb d_Mo_push_53 rfl (lv_at hl 2 rfl) ?_
  refine lv_iload_n hx hb d_Mo_push_54 rfl (lv_at hl 1 rfl) ?_
  refine lv_iload_n hx hb d_Mo_push_55 rfl (lv_at hl 3 rfl) ?_
  refine lv_icmp_eq (tgt := 85) hx hb d_Mo_push_56 rfl (fun br56 => ?_) (fun br56 => absurd (rfl) br56)
  refine lv_iconst (v := 0) hx hb d_Mo_push_85 (by decide) ?_
  refine p_f Z kc_Mo hP hS hm.1 rfl 0 (by decide) wl_Mo_56 rfl rfl ⟨rfl, rfl⟩ (Nat.le_of_ble_eq_true rfl) rfl d_Mo_push_86 (fun H locs hP hS => ?_)
  have hP : la_P D cls5 La (la_up mu m0 0 0) H := cvm hP la_up_up
  refine lv_iinc (k := 1) (v := 3) hx hb d_Mo_push_89 hl rfl (by decide) (by decide) rfl (fun ls hl => ?_)
  have hl : lv_has ls 4 [(2, .int 3), (3, .int 3), (0, .ref m0), (1, .int 2)] := hl
  refine lv_goto (tgt := 35) hx hb d_Mo_push_92 rfl ?_
  refine lv_iload_n hx hb d_Mo_push_35 rfl (lv_at hl 0 rfl) ?_
  refine lv_iconst (v := 3) hx hb d_Mo_push_36 (by decide) ?_
  refine lv_icmp_gt (tgt := 95) hx hb d_Mo_push_37 rfl (fun br37 => absurd br37 (by decide)) (fun br37 => ?_)
  refine lv_aload_n hx hb d_Mo_push_40 rfl (lv_at hl 2 rfl) ?_
  refine g_i (v := 0) Z kc_Mo hP hm.1 rfl 0 (by decide) wl_Mo_56 rfl rfl la_up_s d_Mo_push_41 ?_
  refine lv_if_ne (tgt := 95) hx hb d_Mo_push_44 rfl (fun br44 => absurd (rfl) br44) (fun br44 => ?_)
  refine lv_iload_n hx hb d_Mo_push_47 rfl (lv_at hl 0 rfl) ?_
  refine lv_iconst (v := 0) hx hb d_Mo_push_48 (by decide) ?_
  refine cr_S Z ks_Mo_87 (c_Mo_line_d l D E La (la_up mu m0 0 0) (k := 2) (u := 0) rfl) hP [] rfl rfl hl.1 (Nat.le_of_ble_eq_true rfl) ⟨by decide, by decide⟩ ⟨Nat.le_refl _, Nat.le_refl _⟩ d_Mo_push_49 ?_
  refine lv_istore_n hx hb d_Mo_push_52 rfl hl (by decide) rfl (fun ls hl => ?_)
  have hl : lv_has ls 4 [(3, .int 5), (2, .int 3), (0, .ref m0), (1, .int 2)] := hl
  refine lv_aload_n hx hb d_Mo_push_53 rfl (lv_at hl 2 rfl) ?_
  refine lv_iload_n hx hb d_Mo_push_54 rfl (lv_at hl 1 rfl) ?_
  refine lv_iload_n hx hb d_Mo_push_55 rfl (lv_at hl 3 rfl) ?_
  refine lv_icmp_eq (tgt := 85) hx hb d_Mo_push_56 rfl (fun br56 => absurd br56 (by decide)) (fun br56 => ?_)
  refine lv_aload_n hx hb d_Mo_push_59 rfl (lv_at hl 2 rfl) ?_
  refine g_f (v := .ref (m0 + 11)) Z kc_Mo hP hm.1 rfl 11 (by decide) wl_Mo_41 rfl rfl d_Mo_push_60 ?_
  refine lv_iload_n hx hb d_Mo_push_63 rfl (lv_at hl 0 rfl) ?_
  refine la_ialdv (v := (nI p2)) hx hb hK hP 0 hm.2.2.2.2.2.2.2.2.2.2.2.1 rfl rfl 5 rfl (by decide) (by decide) ((la_up_k (by decide)).trans po2) d_Mo_push_64 ?_
  refine lv_bipush (v := 24) hx hb d_Mo_push_65 (by decide) ?_
  refine lv_icmp_ge (tgt := 81) hx hb d_Mo_push_67 rfl (fun br67 => absurd br67 (nI_ge (b := 24) pf2 (by decide))) (fun br67 => ?_)
  refine lv_aload_n hx hb d_Mo_push_70 rfl (lv_at hl 2 rfl) ?_
  refine g_f (v := .ref (m0 + 5)) Z kc_Mo hP hm.1 rfl 5 (by decide) wl_Mo_23 rfl rfl d_Mo_push_71 ?_
  refine lv_iload_n hx hb d_Mo_push_74 rfl (lv_at hl 0 rfl) ?_
  refine la_ialdv (v := (nI v2)) hx hb hK hP 0 hm.2.2.2.2.2.1 rfl rfl 5 rfl (by decide) (by decide) ((la_up_k (by decide)).trans pw2) d_Mo_push_75 ?_
  refine lv_bipush (v := 24) hx hb d_Mo_push_76 (by decide) ?_
  refine lv_icmp_lt (tgt := 85) hx hb d_Mo_push_78 rfl (fun br78 => ?_) (fun br78 => absurd (nI_lt (b := 24) (Nat.lt_of_le_of_lt pv2 pf2) (by decide)) br78)
  refine lv_iconst (v := 0) hx hb d_Mo_push_85 (by decide) ?_
  refine p_f Z kc_Mo hP hS hm.1 rfl 0 (by decide) wl_Mo_56 rfl rfl ⟨rfl, rfl⟩ (Nat.le_of_ble_eq_true rfl) rfl d_Mo_push_86 (fun H locs hP hS => ?_)
  have hP : la_P D cls5 La (la_up mu m0 0 0) H := cvm hP la_up_up
  refine lv_iinc (k := 1) (v := 4) hx hb d_Mo_push_89 hl rfl (by decide) (by decide) rfl (fun ls hl => ?_)
  have hl : lv_has ls 4 [(2, .int 4), (3, .int 5), (0, .ref m0), (1, .int 2)] := hl
  refine lv_goto (tgt := 35) hx hb d_Mo_push_92 rfl ?_
  refine lv_iload_n hx hb d_Mo_push_35 rfl (lv_at hl 0 rfl) ?_
  refine lv_iconst (v := 3) hx hb d_Mo_push_36 (by decide) ?_
  refine lv_icmp_gt (tgt := 95) hx hb d_Mo_push_37 rfl (fun br37 => ?_) (fun br37 => absurd (by decide) br37)
  refine lv_aload_n hx hb d_Mo_push_95 rfl (lv_at hl 2 rfl) ?_
  refine g_i (v := 0) Z kc_Mo hP hm.1 rfl 0 (by decide) wl_Mo_56 rfl rfl la_up_s d_Mo_push_96 ?_
  refine lv_if_eq (tgt := 104) hx hb d_Mo_push_99 rfl (fun br99 => ?_) (fun br99 => absurd (by decide) br99)
  refine lv_aload_n hx hb d_Mo_push_104 rfl (lv_at hl 2 rfl) ?_
  refine lv_iload_n hx hb d_Mo_push_105 rfl (lv_at hl 3 rfl) ?_
  refine lv_iconst (v := 1) hx hb d_Mo_push_106 (by decide) ?_
  refine cr_S Z ks_Mo_87 (c_Mo_line_u l D E La (la_up mu m0 0 0) (k := 1) (u := 1) (by decide)) hP [.ref m0] rfl rfl hl.1 (Nat.le_of_ble_eq_true rfl) ⟨by decide, by decide⟩ ⟨Nat.le_refl _, Nat.le_refl _⟩ d_Mo_push_107 ?_
  refine lv_iconst (v := 0) hx hb d_Mo_push_110 (by decide) ?_
  refine cw_V Z kv_Mo_105 (hG) hP hS (fun _ h => h) (la_recv hK hP kc_Mo hm.1 rfl) [] rfl rfl hl.1 (Nat.le_of_ble_eq_true rfl) ⟨by decide, by decide⟩ ⟨Nat.le_refl _, Nat.le_refl _⟩ d_Mo_push_111 (fun H locs hP hkp hS => ?_)
  refine lv_aload_n hx hb d_Mo_push_114 rfl (lv_at hl 2 rfl) ?_
  refine g_f Z kc_Mo hP hm.1 rfl 16 (by decide) wl_Mo_60 rfl rfl d_Mo_push_115 ?_
  refine lv_istore_n hx hb d_Mo_push_118 rfl hl (by decide) rfl (fun ls hl => ?_)
  have hl : lv_has ls 4 [(2, .int (mu1 m0 16)), (3, .int 5), (0, .ref m0), (1, .int 2)] := hl
  refine lv_iconst (v := 1) hx hb d_Mo_push_119 (by decide) ?_
  refine lv_istore_n hx hb d_Mo_push_120 rfl hl (by decide) rfl (fun ls hl => ?_)
  have hl : lv_has ls 4 [(3, .int 1), (2, .int (mu1 m0 16)), (0, .ref m0), (1, .int 2)] := hl
  refine lv_iload_n hx hb d_Mo_push_121 rfl (lv_at hl 0 rfl) ?_
  refine lv_iconst (v := 3) hx hb d_Mo_push_122 (by decide) ?_
  refine lv_icmp_gt (tgt := 146) hx hb d_Mo_push_123 rfl (fun br123 => absurd br123 (by decide)) (fun br123 => ?_)
  refine lv_iload_n hx hb d_Mo_push_126 rfl (lv_at hl 0 rfl) ?_
  refine lv_iload_n hx hb d_Mo_push_127 rfl (lv_at hl 3 rfl) ?_
  refine lv_icmp_eq (tgt := 140) hx hb d_Mo_push_128 rfl (fun br128 => absurd br128 (by decide)) (fun br128 => ?_)
  refine lv_aload_n hx hb d_Mo_push_131 rfl (lv_at hl 2 rfl) ?_
  refine lv_iload_n hx hb d_Mo_push_132 rfl (lv_at hl 0 rfl) ?_
  refine lv_iconst (v := 0) hx hb d_Mo_push_133 (by decide) ?_
  refine cr_S Z ks_Mo_87 (c_Mo_line_d l D E La mu1 (k := 0) (u := 0) rfl) hP [.ref m0] rfl rfl hl.1 (Nat.le_of_ble_eq_true rfl) ⟨by decide, by decide⟩ ⟨Nat.le_refl _, Nat.le_refl _⟩ d_Mo_push_134 ?_
  refine cw_V Z kv_Mo_91 (c_Mo_send l D E La hm mu1 (by decide) qw0 (by omega) qo0 (by omega) qt0) hP hS (fun _ h => h) (la_recv hK hP kc_Mo hm.1 rfl) [] rfl rfl hl.1 (Nat.le_of_ble_eq_true rfl) ⟨by decide, by decide⟩ ⟨Nat.le_refl _, Nat.le_refl _⟩ d_Mo_push_137 (fun H locs hP hkp hS => ?_)
  refine lv_iinc (k := 0) (v := 2) hx hb d_Mo_push_140 hl rfl (by decide) (by decide) rfl (fun ls hl => ?_)
  have hl : lv_has ls 4 [(3, .int 2), (2, .int (mu1 m0 16)), (0, .ref m0), (1, .int 2)] := hl
  refine lv_goto (tgt := 121) hx hb d_Mo_push_143 rfl ?_
  refine lv_iload_n hx hb d_Mo_push_121 rfl (lv_at hl 0 rfl) ?_
  refine lv_iconst (v := 3) hx hb d_Mo_push_122 (by decide) ?_
  refine lv_icmp_gt (tgt := 146) hx hb d_Mo_push_123 rfl (fun br123 => absurd br123 (by decide)) (fun br123 => ?_)
  refine lv_iload_n hx hb d_Mo_push_126 rfl (lv_at hl 0 rfl) ?_
  refine lv_iload_n hx hb d_Mo_push_127 rfl (lv_at hl 3 rfl) ?_
  refine lv_icmp_eq (tgt := 140) hx hb d_Mo_push_128 rfl (fun br128 => ?_) (fun br128 => absurd (rfl) br128)
  refine lv_iinc (k := 0) (v := 3) hx hb d_Mo_push_140 hl rfl (by decide) (by decide) rfl (fun ls hl => ?_)
  have hl : lv_has ls 4 [(3, .int 3), (2, .int (mu1 m0 16)), (0, .ref m0), (1, .int 2)] := hl
  refine lv_goto (tgt := 121) hx hb d_Mo_push_143 rfl ?_
  refine lv_iload_n hx hb d_Mo_push_121 rfl (lv_at hl 0 rfl) ?_
  refine lv_iconst (v := 3) hx hb d_Mo_push_122 (by decide) ?_
  refine lv_icmp_gt (tgt := 146) hx hb d_Mo_push_123 rfl (fun br123 => absurd br123 (by decide)) (fun br123 => ?_)
  refine lv_iload_n hx hb d_Mo_push_126 rfl (lv_at hl 0 rfl) ?_
  refine lv_iload_n hx hb d_Mo_push_127 rfl (lv_at hl 3 rfl) ?_
  refine lv_icmp_eq (tgt := 140) hx hb d_Mo_push_128 rfl (fun br128 => absurd br128 (by decide)) (fun br128 => ?_)
  refine lv_aload_n hx hb d_Mo_push_131 rfl (lv_at hl 2 rfl) ?_
  refine lv_iload_n hx hb d_Mo_push_132 rfl (lv_at hl 0 rfl) ?_
  refine lv_iconst (v := 0) hx hb d_Mo_push_133 (by decide) ?_
  refine cr_S Z ks_Mo_87 (c_Mo_line_d l D E La (md_send mu1 m0 1 v0 p0 t0) (k := 2) (u := 0) rfl) hP [.ref m0] rfl rfl hl.1 (Nat.le_of_ble_eq_true rfl) ⟨by decide, by decide⟩ ⟨Nat.le_refl _, Nat.le_refl _⟩ d_Mo_push_134 ?_
  refine cw_V Z kv_Mo_91 (c_Mo_send l D E La hm (md_send mu1 m0 1 v0 p0 t0) (by decide) r5 (by omega) r11 (by omega) r3) hP hS (fun _ h => h) (la_recv hK hP kc_Mo hm.1 rfl) [] rfl rfl hl.1 (Nat.le_of_ble_eq_true rfl) ⟨by decide, by decide⟩ ⟨Nat.le_refl _, Nat.le_refl _⟩ d_Mo_push_137 (fun H locs hP hkp hS => ?_)
  refine lv_iinc (k := 0) (v := 4) hx hb d_Mo_push_140 hl rfl (by decide) (by decide) rfl (fun ls hl => ?_)
  have hl : lv_has ls 4 [(3, .int 4), (2, .int (mu1 m0 16)), (0, .ref m0), (1, .int 2)] := hl
  refine lv_goto (tgt := 121) hx hb d_Mo_push_143 rfl ?_
  refine lv_iload_n hx hb d_Mo_push_121 rfl (lv_at hl 0 rfl) ?_
  refine lv_iconst (v := 3) hx hb d_Mo_push_122 (by decide) ?_
  refine lv_icmp_gt (tgt := 146) hx hb d_Mo_push_123 rfl (fun br123 => ?_) (fun br123 => absurd (by decide) br123)
  refine lv_iload_n hx hb d_Mo_push_146 rfl (lv_at hl 1 rfl) ?_
  exact W.iret hx hb hr (fun t ht hW => ⟨rfl, by rw [ht]; exact cvm hP (rfl), hS.F ht⟩) hS.2.2 d_Mo_push_147
set_option maxHeartbeats 4000000 in
set_option maxRecDepth 100000 in
theorem c_Mo_push_3_20 (l : Launch) (D : va_G) (E : Nat → ClassId) (La : la_L) {m0 : Nat} (hm : isMo E La m0) (mu : la_M) {w0 : Nat} (hw : mu (m0 + 5) 4 = nI w0) (hw0 : 0 < w0) (hw4 : w0 < 40) {p0 : Nat} (po0 : mu (m0 + 11) 1 = nI p0) (pf0 : 24 ≤ p0) (pg0 : p0 < 2 ^ 31)  : cw l y_Mo_push b_Mo_push 4 (some .int) 2 53 D E La [.ref m0, .int 3] mu (some (.int 0)) (la_up mu m0 0 3) := by
  refine cw_begin R_Mo (by decide) rfl (Nat.le_of_ble_eq_true rfl) ?_
  intro p e s m below meth c ls Z hr hlocks hP hS hl
  have hx := Z.1
  have hb := Z.2.1
  have hK : va_K D cls5 (tyE E) s := Z.2.2.2.2.2
  have hl : lv_has ls 4 [(0, .ref m0), (1, .int 3)] := hl
  refine lv_aload_n hx hb d_Mo_push_0 rfl (lv_at hl 0 rfl) ?_
  refine lv_iload_n hx hb d_Mo_push_1 rfl (lv_at hl 1 rfl) ?_
  refine cr_S Z ks_Mo_94 (c_Mo_isClient_y l D E La mu (k := 2) (by decide)) hP [.ref m0] rfl rfl hl.1 (Nat.le_of_ble_eq_true rfl) ⟨by decide, by decide⟩ ⟨Nat.le_refl _, Nat.le_refl _⟩ d_Mo_push_2 ?_
  refine lv_if_ne (tgt := 12) hx hb d_Mo_push_5 rfl (fun br5 => ?_) (fun br5 => absurd br5 (by decide))
  refine lv_aload_n hx hb d_Mo_push_12 rfl (lv_at hl 0 rfl) ?_
  refine g_f (v := .ref (m0 + 5)) Z kc_Mo hP hm.1 rfl 5 (by decide) wl_Mo_23 rfl rfl d_Mo_push_13 ?_
  refine lv_iload_n hx hb d_Mo_push_16 rfl (lv_at hl 1 rfl) ?_
  refine lv_iconst (v := 1) hx hb d_Mo_push_17 (by decide) ?_
  refine cr_S Z ks_Mo_87 (c_Mo_line_u l D E La mu (k := 2) (u := 1) (by decide)) hP [.ref (m0 + 5), .ref m0] rfl rfl hl.1 (Nat.le_of_ble_eq_true rfl) ⟨by decide, by decide⟩ ⟨Nat.le_refl _, Nat.le_refl _⟩ d_Mo_push_18 ?_
  refine la_ialdv (v := (nI w0)) hx hb hK hP 0 hm.2.2.2.2.2.1 rfl rfl 4 rfl (by decide) (by decide) hw d_Mo_push_21 ?_
  refine lv_if_ne (tgt := 29) hx hb d_Mo_push_22 rfl (fun br22 => ?_) (fun br22 => absurd br22 (nI_ne0 hw0 (by omega)))
  refine lv_iconst (v := 0) hx hb d_Mo_push_29 (by decide) ?_
  refine p_f Z kc_Mo hP hS hm.1 rfl 0 (by decide) wl_Mo_56 rfl rfl ⟨rfl, rfl⟩ (Nat.le_of_ble_eq_true rfl) rfl d_Mo_push_30 (fun H locs hP hS => ?_)
  refine lv_iconst (v := 1) hx hb d_Mo_push_33 (by decide) ?_
  refine lv_istore_n hx hb d_Mo_push_34 rfl hl (by decide) rfl (fun ls hl => ?_)
  have hl : lv_has ls 4 [(2, .int 1), (0, .ref m0), (1, .int 3)] := hl
  refine lv_iload_n hx hb d_Mo_push_35 rfl (lv_at hl 0 rfl) ?_
  refine lv_iconst (v := 3) hx hb d_Mo_push_36 (by decide) ?_
  refine lv_icmp_gt (tgt := 95) hx hb d_Mo_push_37 rfl (fun br37 => absurd br37 (by decide)) (fun br37 => ?_)
  refine lv_aload_n hx hb d_Mo_push_40 rfl (lv_at hl 1 rfl) ?_
  refine g_i (v := 0) Z kc_Mo hP hm.1 rfl 0 (by decide) wl_Mo_56 rfl rfl la_up_s d_Mo_push_41 ?_
  refine lv_if_ne (tgt := 95) hx hb d_Mo_push_44 rfl (fun br44 => absurd (rfl) br44) (fun br44 => ?_)
  refine lv_iload_n hx hb d_Mo_push_47 rfl (lv_at hl 0 rfl) ?_
  refine lv_iconst (v := 0) hx hb d_Mo_push_48 (by decide) ?_
  refine cr_S Z ks_Mo_87 (c_Mo_line_d l D E La (la_up mu m0 0 0) (k := 0) (u := 0) rfl) hP [] rfl rfl hl.1 (Nat.le_of_ble_eq_true rfl) ⟨by decide, by decide⟩ ⟨Nat.le_refl _, Nat.le_refl _⟩ d_Mo_push_49 ?_
  refine lv_istore_n hx hb d_Mo_push_52 rfl hl (by decide) rfl (fun ls hl => ?_)
  have hl : lv_has ls 4 [(3, .int 1), (2, .int 1), (0, .ref m0), (1, .int 3)] := hl
  refine lv_aload_n hx hb d_Mo_push_53 rfl (lv_at hl 2 rfl) ?_
  refine lv_iload_n hx hb d_Mo_push_54 rfl (lv_at hl 1 rfl) ?_
  refine lv_iload_n hx hb d_Mo_push_55 rfl (lv_at hl 3 rfl) ?_
  refine lv_icmp_eq (tgt := 85) hx hb d_Mo_push_56 rfl (fun br56 => absurd br56 (by decide)) (fun br56 => ?_)
  refine lv_aload_n hx hb d_Mo_push_59 rfl (lv_at hl 2 rfl) ?_
  refine g_f (v := .ref (m0 + 11)) Z kc_Mo hP hm.1 rfl 11 (by decide) wl_Mo_41 rfl rfl d_Mo_push_60 ?_
  refine lv_iload_n hx hb d_Mo_push_63 rfl (lv_at hl 0 rfl) ?_
  refine la_ialdv (v := (nI p0)) hx hb hK hP 0 hm.2.2.2.2.2.2.2.2.2.2.2.1 rfl rfl 1 rfl (by decide) (by decide) ((la_up_k (by decide)).trans po0) d_Mo_push_64 ?_
  refine lv_bipush (v := 24) hx hb d_Mo_push_65 (by decide) ?_
  refine lv_icmp_ge (tgt := 81) hx hb d_Mo_push_67 rfl (fun br67 => ?_) (fun br67 => absurd (nI_le (a := 24) pf0 (by omega)) br67)
  refine lv_iconst (v := 3) hx hb d_Mo_push_81 (by decide) ?_
  refine lv_goto (tgt := 86) hx hb d_Mo_push_82 rfl ?_
  refine p_f Z kc_Mo hP hS hm.1 rfl 0 (by decide) wl_Mo_56 rfl rfl ⟨rfl, rfl⟩ (Nat.le_of_ble_eq_true rfl) rfl d_Mo_push_86 (fun H locs hP hS => ?_)
  have hP : la_P D cls5 La (la_up mu m0 0 3) H := cvm hP la_up_up
  refine lv_iinc (k := 1) (v := 2) hx hb d_Mo_push_89 hl rfl (by decide) (by decide) rfl (fun ls hl => ?_)
  have hl : lv_has ls 4 [(2, .int 2), (3, .int 1), (0, .ref m0), (1, .int 3)] := hl
  refine lv_goto (tgt := 35) hx hb d_Mo_push_92 rfl ?_
  refine lv_iload_n hx hb d_Mo_push_35 rfl (lv_at hl 0 rfl) ?_
  refine lv_iconst (v := 3) hx hb d_Mo_push_36 (by decide) ?_
  refine lv_icmp_gt (tgt := 95) hx hb d_Mo_push_37 rfl (fun br37 => absurd br37 (by decide)) (fun br37 => ?_)
  refine lv_aload_n hx hb d_Mo_push_40 rfl (lv_at hl 2 rfl) ?_
  refine g_i (v := 3) Z kc_Mo hP hm.1 rfl 0 (by decide) wl_Mo_56 rfl rfl la_up_s d_Mo_push_41 ?_
  refine lv_if_ne (tgt := 95) hx hb d_Mo_push_44 rfl (fun br44 => ?_) (fun br44 => absurd br44 (by decide))
  refine lv_aload_n hx hb d_Mo_push_95 rfl (lv_at hl 2 rfl) ?_
  refine g_i (v := 3) Z kc_Mo hP hm.1 rfl 0 (by decide) wl_Mo_56 rfl rfl la_up_s d_Mo_push_96 ?_
  refine lv_if_eq (tgt := 104) hx hb d_Mo_push_99 rfl (fun br99 => absurd br99 (by decide)) (fun br99 => ?_)
  refine lv_iconst (v := 0) hx hb d_Mo_push_102 (by decide) ?_
  exact W.iret hx hb hr (fun t ht hW => ⟨rfl, by rw [ht]; exact cvm hP (rfl), hS.F ht⟩) hS.2.2 d_Mo_push_103
set_option maxHeartbeats 4000000 in
set_option maxRecDepth 100000 in
theorem c_Mo_push_3_21 (l : Launch) (D : va_G) (E : Nat → ClassId) (La : la_L) {m0 : Nat} (hm : isMo E La m0) (mu : la_M) {w0 : Nat} (hw : mu (m0 + 5) 4 = nI w0) (hw0 : 0 < w0) (hw4 : w0 < 40) {p0 v0 : Nat} (po0 : mu (m0 + 11) 1 = nI p0) (pw0 : mu (m0 + 5) 1 = nI v0) (pv0 : v0 ≤ p0) (pf0 : p0 < 24) {p1 : Nat} (po1 : mu (m0 + 11) 3 = nI p1) (pf1 : 24 ≤ p1) (pg1 : p1 < 2 ^ 31)  : cw l y_Mo_push b_Mo_push 4 (some .int) 2 53 D E La [.ref m0, .int 3] mu (some (.int 0)) (la_up mu m0 0 3) := by
  refine cw_begin R_Mo (by decide) rfl (Nat.le_of_ble_eq_true rfl) ?_
  intro p e s m below meth c ls Z hr hlocks hP hS hl
  have hx := Z.1
  have hb := Z.2.1
  have hK : va_K D cls5 (tyE E) s := Z.2.2.2.2.2
  have hl : lv_has ls 4 [(0, .ref m0), (1, .int 3)] := hl
  refine lv_aload_n hx hb d_Mo_push_0 rfl (lv_at hl 0 rfl) ?_
  refine lv_iload_n hx hb d_Mo_push_1 rfl (lv_at hl 1 rfl) ?_
  refine cr_S Z ks_Mo_94 (c_Mo_isClient_y l D E La mu (k := 2) (by decide)) hP [.ref m0] rfl rfl hl.1 (Nat.le_of_ble_eq_true rfl) ⟨by decide, by decide⟩ ⟨Nat.le_refl _, Nat.le_refl _⟩ d_Mo_push_2 ?_
  refine lv_if_ne (tgt := 12) hx hb d_Mo_push_5 rfl (fun br5 => ?_) (fun br5 => absurd br5 (by decide))
  refine lv_aload_n hx hb d_Mo_push_12 rfl (lv_at hl 0 rfl) ?_
  refine g_f (v := .ref (m0 + 5)) Z kc_Mo hP hm.1 rfl 5 (by decide) wl_Mo_23 rfl rfl d_Mo_push_13 ?_
  refine lv_iload_n hx hb d_Mo_push_16 rfl (lv_at hl 1 rfl) ?_
  refine lv_iconst (v := 1) hx hb d_Mo_push_17 (by decide) ?_
  refine cr_S Z ks_Mo_87 (c_Mo_line_u l D E La mu (k := 2) (u := 1) (by decide)) hP [.ref (m0 + 5), .ref m0] rfl rfl hl.1 (Nat.le_of_ble_eq_true rfl) ⟨by decide, by decide⟩ ⟨Nat.le_refl _, Nat.le_refl _⟩ d_Mo_push_18 ?_
  refine la_ialdv (v := (nI w0)) hx hb hK hP 0 hm.2.2.2.2.2.1 rfl rfl 4 rfl (by decide) (by decide) hw d_Mo_push_21 ?_
  refine lv_if_ne (tgt := 29) hx hb d_Mo_push_22 rfl (fun br22 => ?_) (fun br22 => absurd br22 (nI_ne0 hw0 (by omega)))
  refine lv_iconst (v := 0) hx hb d_Mo_push_29 (by decide) ?_
  refine p_f Z kc_Mo hP hS hm.1 rfl 0 (by decide) wl_Mo_56 rfl rfl ⟨rfl, rfl⟩ (Nat.le_of_ble_eq_true rfl) rfl d_Mo_push_30 (fun H locs hP hS => ?_)
  refine lv_iconst (v := 1) hx hb d_Mo_push_33 (by decide) ?_
  refine lv_istore_n hx hb d_Mo_push_34 rfl hl (by decide) rfl (fun ls hl => ?_)
  have hl : lv_has ls 4 [(2, .int 1), (0, .ref m0), (1, .int 3)] := hl
  refine lv_iload_n hx hb d_Mo_push_35 rfl (lv_at hl 0 rfl) ?_
  refine lv_iconst (v := 3) hx hb d_Mo_push_36 (by decide) ?_
  refine lv_icmp_gt (tgt := 95) hx hb d_Mo_push_37 rfl (fun br37 => absurd br37 (by decide)) (fun br37 => ?_)
  refine lv_aload_n hx hb d_Mo_push_40 rfl (lv_at hl 1 rfl) ?_
  refine g_i (v := 0) Z kc_Mo hP hm.1 rfl 0 (by decide) wl_Mo_56 rfl rfl la_up_s d_Mo_push_41 ?_
  refine lv_if_ne (tgt := 95) hx hb d_Mo_push_44 rfl (fun br44 => absurd (rfl) br44) (fun br44 => ?_)
  refine lv_iload_n hx hb d_Mo_push_47 rfl (lv_at hl 0 rfl) ?_
  refine lv_iconst (v := 0) hx hb d_Mo_push_48 (by decide) ?_
  refine cr_S Z ks_Mo_87 (c_Mo_line_d l D E La (la_up mu m0 0 0) (k := 0) (u := 0) rfl) hP [] rfl rfl hl.1 (Nat.le_of_ble_eq_true rfl) ⟨by decide, by decide⟩ ⟨Nat.le_refl _, Nat.le_refl _⟩ d_Mo_push_49 ?_
  refine lv_istore_n hx hb d_Mo_push_52 rfl hl (by decide) rfl (fun ls hl => ?_)
  have hl : lv_has ls 4 [(3, .int 1), (2, .int 1), (0, .ref m0), (1, .int 3)] := hl
  refine lv_aload_n hx hb d_Mo_push_53 rfl (lv_at hl 2 rfl) ?_
  refine lv_iload_n hx hb d_Mo_push_54 rfl (lv_at hl 1 rfl) ?_
  refine lv_iload_n hx hb d_Mo_push_55 rfl (lv_at hl 3 rfl) ?_
  refine lv_icmp_eq (tgt := 85) hx hb d_Mo_push_56 rfl (fun br56 => absurd br56 (by decide)) (fun br56 => ?_)
  refine lv_aload_n hx hb d_Mo_push_59 rfl (lv_at hl 2 rfl) ?_
  refine g_f (v := .ref (m0 + 11)) Z kc_Mo hP hm.1 rfl 11 (by decide) wl_Mo_41 rfl rfl d_Mo_push_60 ?_
  refine lv_iload_n hx hb d_Mo_push_63 rfl (lv_at hl 0 rfl) ?_
  refine la_ialdv (v := (nI p0)) hx hb hK hP 0 hm.2.2.2.2.2.2.2.2.2.2.2.1 rfl rfl 1 rfl (by decide) (by decide) ((la_up_k (by decide)).trans po0) d_Mo_push_64 ?_
  refine lv_bipush (v := 24) hx hb d_Mo_push_65 (by decide) ?_
  refine lv_icmp_ge (tgt := 81) hx hb d_Mo_push_67 rfl (fun br67 => absurd br67 (nI_ge (b := 24) pf0 (by decide))) (fun br67 => ?_)
  refine lv_aload_n hx hb d_Mo_push_70 rfl (lv_at hl 2 rfl) ?_
  refine g_f (v := .ref (m0 + 5)) Z kc_Mo hP hm.1 rfl 5 (by decide) wl_Mo_23 rfl rfl d_Mo_push_71 ?_
  refine lv_iload_n hx hb d_Mo_push_74 rfl (lv_at hl 0 rfl) ?_
  refine la_ialdv (v := (nI v0)) hx hb hK hP 0 hm.2.2.2.2.2.1 rfl rfl 1 rfl (by decide) (by decide) ((la_up_k (by decide)).trans pw0) d_Mo_push_75 ?_
  refine lv_bipush (v := 24) hx hb d_Mo_push_76 (by decide) ?_
  refine lv_icmp_lt (tgt := 85) hx hb d_Mo_push_78 rfl (fun br78 => ?_) (fun br78 => absurd (nI_lt (b := 24) (Nat.lt_of_le_of_lt pv0 pf0) (by decide)) br78)
  refine lv_iconst (v := 0) hx hb d_Mo_push_85 (by decide) ?_
  refine p_f Z kc_Mo hP hS hm.1 rfl 0 (by decide) wl_Mo_56 rfl rfl ⟨rfl, rfl⟩ (Nat.le_of_ble_eq_true rfl) rfl d_Mo_push_86 (fun H locs hP hS => ?_)
  have hP : la_P D cls5 La (la_up mu m0 0 0) H := cvm hP la_up_up
  refine lv_iinc (k := 1) (v := 2) hx hb d_Mo_push_89 hl rfl (by decide) (by decide) rfl (fun ls hl => ?_)
  have hl : lv_has ls 4 [(2, .int 2), (3, .int 1), (0, .ref m0), (1, .int 3)] := hl
  refine lv_goto (tgt := 35) hx hb d_Mo_push_92 rfl ?_
  refine lv_iload_n hx hb d_Mo_push_35 rfl (lv_at hl 0 rfl) ?_
  refine lv_iconst (v := 3) hx hb d_Mo_push_36 (by decide) ?_
  refine lv_icmp_gt (tgt := 95) hx hb d_Mo_push_37 rfl (fun br37 => absurd br37 (by decide)) (fun br37 => ?_)
  refine lv_aload_n hx hb d_Mo_push_40 rfl (lv_at hl 2 rfl) ?_
  refine g_i (v := 0) Z kc_Mo hP hm.1 rfl 0 (by decide) wl_Mo_56 rfl rfl la_up_s d_Mo_push_41 ?_
  refine lv_if_ne (tgt := 95) hx hb d_Mo_push_44 rfl (fun br44 => absurd (rfl) br44) (fun br44 => ?_)
  refine lv_iload_n hx hb d_Mo_push_47 rfl (lv_at hl 0 rfl) ?_
  refine lv_iconst (v := 0) hx hb d_Mo_push_48 (by decide) ?_
  refine cr_S Z ks_Mo_87 (c_Mo_line_d l D E La (la_up mu m0 0 0) (k := 1) (u := 0) rfl) hP [] rfl rfl hl.1 (Nat.le_of_ble_eq_true rfl) ⟨by decide, by decide⟩ ⟨Nat.le_refl _, Nat.le_refl _⟩ d_Mo_push_49 ?_
  refine lv_istore_n hx hb d_Mo_push_52 rfl hl (by decide) rfl (fun ls hl => ?_)
  have hl : lv_has ls 4 [(3, .int 3), (2, .int 2), (0, .ref m0), (1, .int 3)] := hl
  refine lv_aload_n hx hb d_Mo_push_53 rfl (lv_at hl 2 rfl) ?_
  refine lv_iload_n hx hb d_Mo_push_54 rfl (lv_at hl 1 rfl) ?_
  refine lv_iload_n hx hb d_Mo_push_55 rfl (lv_at hl 3 rfl) ?_
  refine lv_icmp_eq (tgt := 85) hx hb d_Mo_push_56 rfl (fun br56 => absurd br56 (by decide)) (fun br56 => ?_)
  refine lv_aload_n hx hb d_Mo_push_59 rfl (lv_at hl 2 rfl) ?_
  refine g_f (v := .ref (m0 + 11)) Z kc_Mo hP hm.1 rfl 11 (by decide) wl_Mo_41 rfl rfl d_Mo_push_60 ?_
  refine lv_iload_n hx hb d_Mo_push_63 rfl (lv_at hl 0 rfl) ?_
  refine la_ialdv (v := (nI p1)) hx hb hK hP 0 hm.2.2.2.2.2.2.2.2.2.2.2.1 rfl rfl 3 rfl (by decide) (by decide) ((la_up_k (by decide)).trans po1) d_Mo_push_64 ?_
  refine lv_bipush (v := 24) hx hb d_Mo_push_65 (by decide) ?_
  refine lv_icmp_ge (tgt := 81) hx hb d_Mo_push_67 rfl (fun br67 => ?_) (fun br67 => absurd (nI_le (a := 24) pf1 (by omega)) br67)
  refine lv_iconst (v := 3) hx hb d_Mo_push_81 (by decide) ?_
  refine lv_goto (tgt := 86) hx hb d_Mo_push_82 rfl ?_
  refine p_f Z kc_Mo hP hS hm.1 rfl 0 (by decide) wl_Mo_56 rfl rfl ⟨rfl, rfl⟩ (Nat.le_of_ble_eq_true rfl) rfl d_Mo_push_86 (fun H locs hP hS => ?_)
  have hP : la_P D cls5 La (la_up mu m0 0 3) H := cvm hP la_up_up
  refine lv_iinc (k := 1) (v := 3) hx hb d_Mo_push_89 hl rfl (by decide) (by decide) rfl (fun ls hl => ?_)
  have hl : lv_has ls 4 [(2, .int 3), (3, .int 3), (0, .ref m0), (1, .int 3)] := hl
  refine lv_goto (tgt := 35) hx hb d_Mo_push_92 rfl ?_
  refine lv_iload_n hx hb d_Mo_push_35 rfl (lv_at hl 0 rfl) ?_
  refine lv_iconst (v := 3) hx hb d_Mo_push_36 (by decide) ?_
  refine lv_icmp_gt (tgt := 95) hx hb d_Mo_push_37 rfl (fun br37 => absurd br37 (by decide)) (fun br37 => ?_)
  refine lv_aload_n hx hb d_Mo_push_40 rfl (lv_at hl 2 rfl) ?_
  refine g_i (v := 3) Z kc_Mo hP hm.1 rfl 0 (by decide) wl_Mo_56 rfl rfl la_up_s d_Mo_push_41 ?_
  refine lv_if_ne (tgt := 95) hx hb d_Mo_push_44 rfl (fun br44 => ?_) (fun br44 => absurd br44 (by decide))
  refine lv_aload_n hx hb d_Mo_push_95 rfl (lv_at hl 2 rfl) ?_
  refine g_i (v := 3) Z kc_Mo hP hm.1 rfl 0 (by decide) wl_Mo_56 rfl rfl la_up_s d_Mo_push_96 ?_
  refine lv_if_eq (tgt := 104) hx hb d_Mo_push_99 rfl (fun br99 => absurd br99 (by decide)) (fun br99 => ?_)
  refine lv_iconst (v := 0) hx hb d_Mo_push_102 (by decide) ?_
  exact W.iret hx hb hr (fun t ht hW => ⟨rfl, by rw [ht]; exact cvm hP (rfl), hS.F ht⟩) hS.2.2 d_Mo_push_103
set_option maxHeartbeats 4000000 in
set_option maxRecDepth 100000 in
theorem c_Mo_push_0_2 (l : Launch) (D : va_G) (E : Nat → ClassId) (La : la_L) {m0 : Nat} (hm : isMo E La m0) (mu : la_M) {w0 : Nat} (hw : mu (m0 + 5) 4 = nI w0) (hw0 : 0 < w0) (hw4 : w0 < 40) {p0 v0 : Nat} (po0 : mu (m0 + 11) 1 = nI p0) (pw0 : mu (m0 + 5) 1 = nI v0) (pv0 : v0 ≤ p0) (pf0 : p0 < 24) {p1 v1 : Nat} (po1 : mu (m0 + 11) 3 = nI p1) (pw1 : mu (m0 + 5) 3 = nI v1) (pv1 : v1 ≤ p1) (pf1 : p1 < 24) {mu1 : la_M} (hG : cw l y_Mo_get b_Mo_get 9 none 1 25 D E La [.ref m0, .int (nI 4), .int (nI 0)] (la_up mu m0 0 0) none mu1) {t0 : Nat} (qo0 : mu1 (m0 + 11) 1 = nI p0) (qw0 : mu1 (m0 + 5) 1 = nI v0) (qt0 : mu1 (m0 + 3) 1 = nI t0) {t1 : Nat} (qo1 : mu1 (m0 + 11) 3 = nI p1) (qw1 : mu1 (m0 + 5) 3 = nI v1) (qt1 : mu1 (m0 + 3) 3 = nI t1)  : cw l y_Mo_push b_Mo_push 4 (some .int) 2 53 D E La [.ref m0, .int 3] mu (some (.int (mu1 m0 16))) (md_send (md_send mu1 m0 1 v0 p0 t0) m0 3 v1 p1 t1) := by
  refine cw_begin R_Mo (by decide) rfl (Nat.le_of_ble_eq_true rfl) ?_
  intro p e s m below meth c ls Z hr hlocks hP hS hl
  have hx := Z.1
  have hb := Z.2.1
  have hK : va_K D cls5 (tyE E) s := Z.2.2.2.2.2
  have hl : lv_has ls 4 [(0, .ref m0), (1, .int 3)] := hl
  have r11 := (show (md_send mu1 m0 1 v0 p0 t0) (m0 + 11) 3 = nI p1 by simp only [md_send]; rw [la_up_n (by omega), la_up_k (by decide), la_up_n (by omega), la_up_n (by omega), la_up_n (by omega), la_up_n (by omega), la_up_n (by omega), la_up_n (by omega), la_up_n (by omega), la_up_n (by omega), la_up_n (by omega), la_up_n (by omega)]; exact qo1)
  have r5 := (show (md_send mu1 m0 1 v0 p0 t0) (m0 + 5) 3 = nI v1 by simp only [md_send]; rw [la_up_n (by omega), la_up_n (by omega), la_up_n (by omega), la_up_n (by omega), la_up_n (by omega), la_up_n (by omega), la_up_k (by decide), la_up_n (by omega), la_up_n (by omega), la_up_n (by omega), la_up_n (by omega), la_up_n (by omega)]; exact qw1)
  have r3 := (show (md_send mu1 m0 1 v0 p0 t0) (m0 + 3) 3 = nI t1 by simp only [md_send]; rw [la_up_k (by decide), la_up_n (by omega), la_up_n (by omega), la_up_n (by omega), la_up_n (by omega), la_up_n (by omega), la_up_n (by omega), la_up_n (by omega), la_up_n (by omega), la_up_n (by omega), la_up_n (by omega), la_up_n (by omega)]; exact qt1)
  refine lv_aload_n hx hb d_Mo_push_0 rfl (lv_at hl 0 rfl) ?_
  refine lv_iload_n hx hb d_Mo_push_1 rfl (lv_at hl 1 rfl) ?_
  refine cr_S Z ks_Mo_94 (c_Mo_isClient_y l D E La mu (k := 2) (by decide)) hP [.ref m0] rfl rfl hl.1 (Nat.le_of_ble_eq_true rfl) ⟨by decide, by decide⟩ ⟨Nat.le_refl _, Nat.le_refl _⟩ d_Mo_push_2 ?_
  refine lv_if_ne (tgt := 12) hx hb d_Mo_push_5 rfl (fun br5 => ?_) (fun br5 => absurd br5 (by decide))
  refine lv_aload_n hx hb d_Mo_push_12 rfl (lv_at hl 0 rfl) ?_
  refine g_f (v := .ref (m0 + 5)) Z kc_Mo hP hm.1 rfl 5 (by decide) wl_Mo_23 rfl rfl d_Mo_push_13 ?_
  refine lv_iload_n hx hb d_Mo_push_16 rfl (lv_at hl 1 rfl) ?_
  refine lv_iconst (v := 1) hx hb d_Mo_push_17 (by decide) ?_
  refine cr_S Z ks_Mo_87 (c_Mo_line_u l D E La mu (k := 2) (u := 1) (by decide)) hP [.ref (m0 + 5), .ref m0] rfl rfl hl.1 (Nat.le_of_ble_eq_true rfl) ⟨by decide, by decide⟩ ⟨Nat.le_refl _, Nat.le_refl _⟩ d_Mo_push_18 ?_
  refine la_ialdv (v := (nI w0)) hx hb hK hP 0 hm.2.2.2.2.2.1 rfl rfl 4 rfl (by decide) (by decide) hw d_Mo_push_21 ?_
  refine lv_if_ne (tgt := 29) hx hb d_Mo_push_22 rfl (fun br22 => ?_) (fun br22 => absurd br22 (nI_ne0 hw0 (by omega)))
  refine lv_iconst (v := 0) hx hb d_Mo_push_29 (by decide) ?_
  refine p_f Z kc_Mo hP hS hm.1 rfl 0 (by decide) wl_Mo_56 rfl rfl ⟨rfl, rfl⟩ (Nat.le_of_ble_eq_true rfl) rfl d_Mo_push_30 (fun H locs hP hS => ?_)
  refine lv_iconst (v := 1) hx hb d_Mo_push_33 (by decide) ?_
  refine lv_istore_n hx hb d_Mo_push_34 rfl hl (by decide) rfl (fun ls hl => ?_)
  have hl : lv_has ls 4 [(2, .int 1), (0, .ref m0), (1, .int 3)] := hl
  refine lv_iload_n hx hb d_Mo_push_35 rfl (lv_at hl 0 rfl) ?_
  refine lv_iconst (v := 3) hx hb d_Mo_push_36 (by decide) ?_
  refine lv_icmp_gt (tgt := 95) hx hb d_Mo_push_37 rfl (fun br37 => absurd br37 (by decide)) (fun br37 => ?_)
  refine lv_aload_n hx hb d_Mo_push_40 rfl (lv_at hl 1 rfl) ?_
  refine g_i (v := 0) Z kc_Mo hP hm.1 rfl 0 (by decide) wl_Mo_56 rfl rfl la_up_s d_Mo_push_41 ?_
  refine lv_if_ne (tgt := 95) hx hb d_Mo_push_44 rfl (fun br44 => absurd (rfl) br44) (fun br44 => ?_)
  refine lv_iload_n hx hb d_Mo_push_47 rfl (lv_at hl 0 rfl) ?_
  refine lv_iconst (v := 0) hx hb d_Mo_push_48 (by decide) ?_
  refine cr_S Z ks_Mo_87 (c_Mo_line_d l D E La (la_up mu m0 0 0) (k := 0) (u := 0) rfl) hP [] rfl rfl hl.1 (Nat.le_of_ble_eq_true rfl) ⟨by decide, by decide⟩ ⟨Nat.le_refl _, Nat.le_refl _⟩ d_Mo_push_49 ?_
  refine lv_istore_n hx hb d_Mo_push_52 rfl hl (by decide) rfl (fun ls hl => ?_)
  have hl : lv_has ls 4 [(3, .int 1), (2, .int 1), (0, .ref m0), (1, .int 3)] := hl
  refine lv_aload_n hx hb d_Mo_push_53 rfl (lv_at hl 2 rfl) ?_
  refine lv_iload_n hx hb d_Mo_push_54 rfl (lv_at hl 1 rfl) ?_
  refine lv_iload_n hx hb d_Mo_push_55 rfl (lv_at hl 3 rfl) ?_
  refine lv_icmp_eq (tgt := 85) hx hb d_Mo_push_56 rfl (fun br56 => absurd br56 (by decide)) (fun br56 => ?_)
  refine lv_aload_n hx hb d_Mo_push_59 rfl (lv_at hl 2 rfl) ?_
  refine g_f (v := .ref (m0 + 11)) Z kc_Mo hP hm.1 rfl 11 (by decide) wl_Mo_41 rfl rfl d_Mo_push_60 ?_
  refine lv_iload_n hx hb d_Mo_push_63 rfl (lv_at hl 0 rfl) ?_
  refine la_ialdv (v := (nI p0)) hx hb hK hP 0 hm.2.2.2.2.2.2.2.2.2.2.2.1 rfl rfl 1 rfl (by decide) (by decide) ((la_up_k (by decide)).trans po0) d_Mo_push_64 ?_
  refine lv_bipush (v := 24) hx hb d_Mo_push_65 (by decide) ?_
  refine lv_icmp_ge (tgt := 81) hx hb d_Mo_push_67 rfl (fun br67 => absurd br67 (nI_ge (b := 24) pf0 (by decide))) (fun br67 => ?_)
  refine lv_aload_n hx hb d_Mo_push_70 rfl (lv_at hl 2 rfl) ?_
  refine g_f (v := .ref (m0 + 5)) Z kc_Mo hP hm.1 rfl 5 (by decide) wl_Mo_23 rfl rfl d_Mo_push_71 ?_
  refine lv_iload_n hx hb d_Mo_push_74 rfl (lv_at hl 0 rfl) ?_
  refine la_ialdv (v := (nI v0)) hx hb hK hP 0 hm.2.2.2.2.2.1 rfl rfl 1 rfl (by decide) (by decide) ((la_up_k (by decide)).trans pw0) d_Mo_push_75 ?_
  refine lv_bipush (v := 24) hx hb d_Mo_push_76 (by decide) ?_
  refine lv_icmp_lt (tgt := 85) hx hb d_Mo_push_78 rfl (fun br78 => ?_) (fun br78 => absurd (nI_lt (b := 24) (Nat.lt_of_le_of_lt pv0 pf0) (by decide)) br78)
  refine lv_iconst (v := 0) hx hb d_Mo_push_85 (by decide) ?_
  refine p_f Z kc_Mo hP hS hm.1 rfl 0 (by decide) wl_Mo_56 rfl rfl ⟨rfl, rfl⟩ (Nat.le_of_ble_eq_true rfl) rfl d_Mo_push_86 (fun H locs hP hS => ?_)
  have hP : la_P D cls5 La (la_up mu m0 0 0) H := cvm hP la_up_up
  refine lv_iinc (k := 1) (v := 2) hx hb d_Mo_push_89 hl rfl (by decide) (by decide) rfl (fun ls hl => ?_)
  have hl : lv_has ls 4 [(2, .int 2), (3, .int 1), (0, .ref m0), (1, .int 3)] := hl
  refine lv_goto (tgt := 35) hx hb d_Mo_push_92 rfl ?_
  refine lv_iload_n hx hb d_Mo_push_35 rfl (lv_at hl 0 rfl) ?_
  refine lv_iconst (v := 3) hx hb d_Mo_push_36 (by decide) ?_
  refine lv_icmp_gt (tgt := 95) hx hb d_Mo_push_37 rfl (fun br37 => absurd br37 (by decide)) (fun br37 => ?_)
  refine lv_aload_n hx hb d_Mo_push_40 rfl (lv_at hl 2 rfl) ?_
  refine g_i (v := 0) Z kc_Mo hP hm.1 rfl 0 (by decide) wl_Mo_56 rfl rfl la_up_s d_Mo_push_41 ?_
  refine lv_if_ne (tgt := 95) hx hb d_Mo_push_44 rfl (fun br44 => absurd (rfl) br44) (fun br44 => ?_)
  refine lv_iload_n hx hb d_Mo_push_47 rfl (lv_at hl 0 rfl) ?_
  refine lv_iconst (v := 0) hx hb d_Mo_push_48 (by decide) ?_
  refine cr_S Z ks_Mo_87 (c_Mo_line_d l D E La (la_up mu m0 0 0) (k := 1) (u := 0) rfl) hP [] rfl rfl hl.1 (Nat.le_of_ble_eq_true rfl) ⟨by decide, by decide⟩ ⟨Nat.le_refl _, Nat.le_refl _⟩ d_Mo_push_49 ?_
  refine lv_istore_n hx hb d_Mo_push_52 rfl hl (by decide) rfl (fun ls hl => ?_)
  have hl : lv_has ls 4 [(3, .int 3), (2, .int 2), (0, .ref m0), (1, .int 3)] := hl
  refine lv_aload_n hx hb d_Mo_push_53 rfl (lv_at hl 2 rfl) ?_
  refine lv_iload_n hx hb d_Mo_push_54 rfl (lv_at hl 1 rfl) ?_
  refine lv_iload_n hx hb d_Mo_push_55 rfl (lv_at hl 3 rfl) ?_
  refine lv_icmp_eq (tgt := 85) hx hb d_Mo_push_56 rfl (fun br56 => absurd br56 (by decide)) (fun br56 => ?_)
  refine lv_aload_n hx hb d_Mo_push_59 rfl (lv_at hl 2 rfl) ?_
  refine g_f (v := .ref (m0 + 11)) Z kc_Mo hP hm.1 rfl 11 (by decide) wl_Mo_41 rfl rfl d_Mo_push_60 ?_
  refine lv_iload_n hx hb d_Mo_push_63 rfl (lv_at hl 0 rfl) ?_
  refine la_ialdv (v := (nI p1)) hx hb hK hP 0 hm.2.2.2.2.2.2.2.2.2.2.2.1 rfl rfl 3 rfl (by decide) (by decide) ((la_up_k (by decide)).trans po1) d_Mo_push_64 ?_
  refine lv_bipush (v := 24) hx hb d_Mo_push_65 (by decide) ?_
  refine lv_icmp_ge (tgt := 81) hx hb d_Mo_push_67 rfl (fun br67 => absurd br67 (nI_ge (b := 24) pf1 (by decide))) (fun br67 => ?_)
  refine lv_aload_n hx hb d_Mo_push_70 rfl (lv_at hl 2 rfl) ?_
  refine g_f (v := .ref (m0 + 5)) Z kc_Mo hP hm.1 rfl 5 (by decide) wl_Mo_23 rfl rfl d_Mo_push_71 ?_
  refine lv_iload_n hx hb d_Mo_push_74 rfl (lv_at hl 0 rfl) ?_
  refine la_ialdv (v := (nI v1)) hx hb hK hP 0 hm.2.2.2.2.2.1 rfl rfl 3 rfl (by decide) (by decide) ((la_up_k (by decide)).trans pw1) d_Mo_push_75 ?_
  refine lv_bipush (v := 24) hx hb d_Mo_push_76 (by decide) ?_
  refine lv_icmp_lt (tgt := 85) hx hb d_Mo_push_78 rfl (fun br78 => ?_) (fun br78 => absurd (nI_lt (b := 24) (Nat.lt_of_le_of_lt pv1 pf1) (by decide)) br78)
  refine lv_iconst (v := 0) hx hb d_Mo_push_85 (by decide) ?_
  refine p_f Z kc_Mo hP hS hm.1 rfl 0 (by decide) wl_Mo_56 rfl rfl ⟨rfl, rfl⟩ (Nat.le_of_ble_eq_true rfl) rfl d_Mo_push_86 (fun H locs hP hS => ?_)
  have hP : la_P D cls5 La (la_up mu m0 0 0) H := cvm hP la_up_up
  refine lv_iinc (k := 1) (v := 3) hx hb d_Mo_push_89 hl rfl (by decide) (by decide) rfl (fun ls hl => ?_)
  have hl : lv_has ls 4 [(2, .int 3), (3, .int 3), (0, .ref m0), (1, .int 3)] := hl
  refine lv_goto (tgt := 35) hx hb d_Mo_push_92 rfl ?_
  refine lv_iload_n hx hb d_Mo_push_35 rfl (lv_at hl 0 rfl) ?_
  refine lv_iconst (v := 3) hx hb d_Mo_push_36 (by decide) ?_
  refine lv_icmp_gt (tgt := 95) hx hb d_Mo_push_37 rfl (fun br37 => absurd br37 (by decide)) (fun br37 => ?_)
  refine lv_aload_n hx hb d_Mo_push_40 rfl (lv_at hl 2 rfl) ?_
  refine g_i (v := 0) Z kc_Mo hP hm.1 rfl 0 (by decide) wl_Mo_56 rfl rfl la_up_s d_Mo_push_41 ?_
  refine lv_if_ne (tgt := 95) hx hb d_Mo_push_44 rfl (fun br44 => absurd (rfl) br44) (fun br44 => ?_)
  refine lv_iload_n hx hb d_Mo_push_47 rfl (lv_at hl 0 rfl) ?_
  refine lv_iconst (v := 0) hx hb d_Mo_push_48 (by decide) ?_
  refine cr_S Z ks_Mo_87 (c_Mo_line_d l D E La (la_up mu m0 0 0) (k := 2) (u := 0) rfl) hP [] rfl rfl hl.1 (Nat.le_of_ble_eq_true rfl) ⟨by decide, by decide⟩ ⟨Nat.le_refl _, Nat.le_refl _⟩ d_Mo_push_49 ?_
  refine lv_istore_n hx hb d_Mo_push_52 rfl hl (by decide) rfl (fun ls hl => ?_)
  have hl : lv_has ls 4 [(3, .int 5), (2, .int 3), (0, .ref m0), (1, .int 3)] := hl
  refine lv_aload_n hx hb d_Mo_push_53 rfl (lv_at hl 2 rfl) ?_
  refine lv_iload_n hx hb d_Mo_push_54 rfl (lv_at hl 1 rfl) ?_
  refine lv_iload_n hx hb d_Mo_push_55 rfl (lv_at hl 3 rfl) ?_
  refine lv_icmp_eq (tgt := 85) hx hb d_Mo_push_56 rfl (fun br56 => ?_) (fun br56 => absurd (rfl) br56)
  refine lv_iconst (v := 0) hx hb d_Mo_push_85 (by decide) ?_
  refine p_f Z kc_Mo hP hS hm.1 rfl 0 (by decide) wl_Mo_56 rfl rfl ⟨rfl, rfl⟩ (Nat.le_of_ble_eq_true rfl) rfl d_Mo_push_86 (fun H locs hP hS => ?_)
  have hP : la_P D cls5 La (la_up mu m0 0 0) H := cvm hP la_up_up
  refine lv_iinc (k := 1) (v := 4) hx hb d_Mo_push_89 hl rfl (by decide) (by decide) rfl (fun ls hl => ?_)
  have hl : lv_has ls 4 [(2, .int 4), (3, .int 5), (0, .ref m0), (1, .int 3)] := hl
  refine lv_goto (tgt := 35) hx hb d_Mo_push_92 rfl ?_
  refine lv_iload_n hx hb d_Mo_push_35 rfl (lv_at hl 0 rfl) ?_
  refine lv_iconst (v := 3) hx hb d_Mo_push_36 (by decide) ?_
  refine lv_icmp_gt (tgt := 95) hx hb d_Mo_push_37 rfl (fun br37 => ?_) (fun br37 => absurd (by decide) br37)
  refine lv_aload_n hx hb d_Mo_push_95 rfl (lv_at hl 2 rfl) ?_
  refine g_i (v := 0) Z kc_Mo hP hm.1 rfl 0 (by decide) wl_Mo_56 rfl rfl la_up_s d_Mo_push_96 ?_
  refine lv_if_eq (tgt := 104) hx hb d_Mo_push_99 rfl (fun br99 => ?_) (fun br99 => absurd (by decide) br99)
  refine lv_aload_n hx hb d_Mo_push_104 rfl (lv_at hl 2 rfl) ?_
  refine lv_iload_n hx hb d_Mo_push_105 rfl (lv_at hl 3 rfl) ?_
  refine lv_iconst (v := 1) hx hb d_Mo_push_106 (by decide) ?_
  refine cr_S Z ks_Mo_87 (c_Mo_line_u l D E La (la_up mu m0 0 0) (k := 2) (u := 1) (by decide)) hP [.ref m0] rfl rfl hl.1 (Nat.le_of_ble_eq_true rfl) ⟨by decide, by decide⟩ ⟨Nat.le_refl _, Nat.le_refl _⟩ d_Mo_push_107 ?_
  refine lv_iconst (v := 0) hx hb d_Mo_push_110 (by decide) ?_
  refine cw_V Z kv_Mo_105 (hG) hP hS (fun _ h => h) (la_recv hK hP kc_Mo hm.1 rfl) [] rfl rfl hl.1 (Nat.le_of_ble_eq_true rfl) ⟨by decide, by decide⟩ ⟨Nat.le_refl _, Nat.le_refl _⟩ d_Mo_push_111 (fun H locs hP hkp hS => ?_)
  refine lv_aload_n hx hb d_Mo_push_114 rfl (lv_at hl 2 rfl) ?_
  refine g_f Z kc_Mo hP hm.1 rfl 16 (by decide) wl_Mo_60 rfl rfl d_Mo_push_115 ?_
  refine lv_istore_n hx hb d_Mo_push_118 rfl hl (by decide) rfl (fun ls hl => ?_)
  have hl : lv_has ls 4 [(2, .int (mu1 m0 16)), (3, .int 5), (0, .ref m0), (1, .int 3)] := hl
  refine lv_iconst (v := 1) hx hb d_Mo_push_119 (by decide) ?_
  refine lv_istore_n hx hb d_Mo_push_120 rfl hl (by decide) rfl (fun ls hl => ?_)
  have hl : lv_has ls 4 [(3, .int 1), (2, .int (mu1 m0 16)), (0, .ref m0), (1, .int 3)] := hl
  refine lv_iload_n hx hb d_Mo_push_121 rfl (lv_at hl 0 rfl) ?_
  refine lv_iconst (v := 3) hx hb d_Mo_push_122 (by decide) ?_
  refine lv_icmp_gt (tgt := 146) hx hb d_Mo_push_123 rfl (fun br123 => absurd br123 (by decide)) (fun br123 => ?_)
  refine lv_iload_n hx hb d_Mo_push_126 rfl (lv_at hl 0 rfl) ?_
  refine lv_iload_n hx hb d_Mo_push_127 rfl (lv_at hl 3 rfl) ?_
  refine lv_icmp_eq (tgt := 140) hx hb d_Mo_push_128 rfl (fun br128 => absurd br128 (by decide)) (fun br128 => ?_)
  refine lv_aload_n hx hb d_Mo_push_131 rfl (lv_at hl 2 rfl) ?_
  refine lv_iload_n hx hb d_Mo_push_132 rfl (lv_at hl 0 rfl) ?_
  refine lv_iconst (v := 0) hx hb d_Mo_push_133 (by decide) ?_
  refine cr_S Z ks_Mo_87 (c_Mo_line_d l D E La mu1 (k := 0) (u := 0) rfl) hP [.ref m0] rfl rfl hl.1 (Nat.le_of_ble_eq_true rfl) ⟨by decide, by decide⟩ ⟨Nat.le_refl _, Nat.le_refl _⟩ d_Mo_push_134 ?_
  refine cw_V Z kv_Mo_91 (c_Mo_send l D E La hm mu1 (by decide) qw0 (by omega) qo0 (by omega) qt0) hP hS (fun _ h => h) (la_recv hK hP kc_Mo hm.1 rfl) [] rfl rfl hl.1 (Nat.le_of_ble_eq_true rfl) ⟨by decide, by decide⟩ ⟨Nat.le_refl _, Nat.le_refl _⟩ d_Mo_push_137 (fun H locs hP hkp hS => ?_)
  refine lv_iinc (k := 0) (v := 2) hx hb d_Mo_push_140 hl rfl (by decide) (by decide) rfl (fun ls hl => ?_)
  have hl : lv_has ls 4 [(3, .int 2), (2, .int (mu1 m0 16)), (0, .ref m0), (1, .int 3)] := hl
  refine lv_goto (tgt := 121) hx hb d_Mo_push_143 rfl ?_
  refine lv_iload_n hx hb d_Mo_push_121 rfl (lv_at hl 0 rfl) ?_
  refine lv_iconst (v := 3) hx hb d_Mo_push_122 (by decide) ?_
  refine lv_icmp_gt (tgt := 146) hx hb d_Mo_push_123 rfl (fun br123 => absurd br123 (by decide)) (fun br123 => ?_)
  refine lv_iload_n hx hb d_Mo_push_126 rfl (lv_at hl 0 rfl) ?_
  refine lv_iload_n hx hb d_Mo_push_127 rfl (lv_at hl 3 rfl) ?_
  refine lv_icmp_eq (tgt := 140) hx hb d_Mo_push_128 rfl (fun br128 => absurd br128 (by decide)) (fun br128 => ?_)
  refine lv_aload_n hx hb d_Mo_push_131 rfl (lv_at hl 2 rfl) ?_
  refine lv_iload_n hx hb d_Mo_push_132 rfl (lv_at hl 0 rfl) ?_
  refine lv_iconst (v := 0) hx hb d_Mo_push_133 (by decide) ?_
  refine cr_S Z ks_Mo_87 (c_Mo_line_d l D E La (md_send mu1 m0 1 v0 p0 t0) (k := 1) (u := 0) rfl) hP [.ref m0] rfl rfl hl.1 (Nat.le_of_ble_eq_true rfl) ⟨by decide, by decide⟩ ⟨Nat.le_refl _, Nat.le_refl _⟩ d_Mo_push_134 ?_
  refine cw_V Z kv_Mo_91 (c_Mo_send l D E La hm (md_send mu1 m0 1 v0 p0 t0) (by decide) r5 (by omega) r11 (by omega) r3) hP hS (fun _ h => h) (la_recv hK hP kc_Mo hm.1 rfl) [] rfl rfl hl.1 (Nat.le_of_ble_eq_true rfl) ⟨by decide, by decide⟩ ⟨Nat.le_refl _, Nat.le_refl _⟩ d_Mo_push_137 (fun H locs hP hkp hS => ?_)
  refine lv_iinc (k := 0) (v := 3) hx hb d_Mo_push_140 hl rfl (by decide) (by decide) rfl (fun ls hl => ?_)
  have hl : lv_has ls 4 [(3, .int 3), (2, .int (mu1 m0 16)), (0, .ref m0), (1, .int 3)] := hl
  refine lv_goto (tgt := 121) hx hb d_Mo_push_143 rfl ?_
  refine lv_iload_n hx hb d_Mo_push_121 rfl (lv_at hl 0 rfl) ?_
  refine lv_iconst (v := 3) hx hb d_Mo_push_122 (by decide) ?_
  refine lv_icmp_gt (tgt := 146) hx hb d_Mo_push_123 rfl (fun br123 => absurd br123 (by decide)) (fun br123 => ?_)
  refine lv_iload_n hx hb d_Mo_push_126 rfl (lv_at hl 0 rfl) ?_
  refine lv_iload_n hx hb d_Mo_push_127 rfl (lv_at hl 3 rfl) ?_
  refine lv_icmp_eq (tgt := 140) hx hb d_Mo_push_128 rfl (fun br128 => ?_) (fun br128 => absurd (rfl) br128)
  refine lv_iinc (k := 0) (v := 4) hx hb d_Mo_push_140 hl rfl (by decide) (by decide) rfl (fun ls hl => ?_)
  have hl : lv_has ls 4 [(3, .int 4), (2, .int (mu1 m0 16)), (0, .ref m0), (1, .int 3)] := hl
  refine lv_goto (tgt := 121) hx hb d_Mo_push_143 rfl ?_
  refine lv_iload_n hx hb d_Mo_push_121 rfl (lv_at hl 0 rfl) ?_
  refine lv_iconst (v := 3) hx hb d_Mo_push_122 (by decide) ?_
  refine lv_icmp_gt (tgt := 146) hx hb d_Mo_push_123 rfl (fun br123 => ?_) (fun br123 => absurd (by decide) br123)
  refine lv_iload_n hx hb d_Mo_push_146 rfl (lv_at hl 1 rfl) ?_
  exact W.iret hx hb hr (fun t ht hW => ⟨rfl, by rw [ht]; exact cvm hP (rfl), hS.F ht⟩) hS.2.2 d_Mo_push_147
set_option maxHeartbeats 4000000 in
set_option maxRecDepth 100000 in
theorem c_Mo_waiting_1 (l : Launch) (D : va_G) (E : Nat → ClassId) (La : la_L) {m0 : Nat} (hm : isMo E La m0) (mu : la_M) {cl u : Int32} (hc : cl < 1 ∨ 3 < cl) : cw l y_Mo_waiting b_Mo_waiting 3 (some .int) 1 21 D E La [.ref m0, .int cl, .int u] mu (some (.int 0)) (la_up mu m0 0 1) := by
  refine cw_begin R_Mo (by decide) rfl (Nat.le_of_ble_eq_true rfl) ?_
  intro p e s m below meth c ls Z hr hlocks hP hS hl
  have hx := Z.1
  have hb := Z.2.1
  have hK : va_K D cls5 (tyE E) s := Z.2.2.2.2.2
  have hl : lv_has ls 3 [(0, .ref m0), (1, .int cl), (2, .int u)] := hl
  refine lv_aload_n hx hb d_Mo_waiting_0 rfl (lv_at hl 0 rfl) ?_
  refine lv_iload_n hx hb d_Mo_waiting_1 rfl (lv_at hl 1 rfl) ?_
  refine cr_S Z ks_Mo_94 (c_Mo_isClient_n l D E La mu hc) hP [.ref m0] rfl rfl hl.1 (Nat.le_of_ble_eq_true rfl) ⟨by decide, by decide⟩ ⟨Nat.le_refl _, Nat.le_refl _⟩ d_Mo_waiting_2 ?_
  refine lv_if_eq (tgt := 12) hx hb d_Mo_waiting_5 rfl (fun br5 => ?_) (fun br5 => absurd (by decide) br5)
  refine lv_iconst (v := 1) hx hb d_Mo_waiting_12 (by decide) ?_
  refine p_f Z kc_Mo hP hS hm.1 rfl 0 (by decide) wl_Mo_56 rfl rfl ⟨rfl, rfl⟩ (Nat.le_of_ble_eq_true rfl) rfl d_Mo_waiting_13 (fun H locs hP hS => ?_)
  refine lv_aload_n hx hb d_Mo_waiting_16 rfl (lv_at hl 0 rfl) ?_
  refine g_i (v := 1) Z kc_Mo hP hm.1 rfl 0 (by decide) wl_Mo_56 rfl rfl la_up_s d_Mo_waiting_17 ?_
  refine lv_if_ne (tgt := 36) hx hb d_Mo_waiting_20 rfl (fun br20 => ?_) (fun br20 => absurd br20 (by decide))
  refine lv_iconst (v := 0) hx hb d_Mo_waiting_36 (by decide) ?_
  exact W.iret hx hb hr (fun t ht hW => ⟨rfl, by rw [ht]; exact cvm hP (rfl), hS.F ht⟩) hS.2.2 d_Mo_waiting_37
set_option maxHeartbeats 4000000 in
set_option maxRecDepth 100000 in
theorem c_Mo_waiting_0 (l : Launch) (D : va_G) (E : Nat → ClassId) (La : la_L) {m0 : Nat} (hm : isMo E La m0) (mu : la_M) {k : Nat} (hk : k < 3) {u : Int32} {L : Nat} (hL : L < 6) (hln : cr l y_Mo_line b_Mo_line 2 (some .int) 0 0 D E La [.int (nI (k + 1)), .int u] (la_up mu m0 0 0) (some (.int (nI L)))) : cw l y_Mo_waiting b_Mo_waiting 3 (some .int) 1 21 D E La [.ref m0, .int (nI (k + 1)), .int u] mu (some (.int (mu (m0 + 5) L))) (la_up mu m0 0 0) := by
  refine cw_begin R_Mo (by decide) rfl (Nat.le_of_ble_eq_true rfl) ?_
  intro p e s m below meth c ls Z hr hlocks hP hS hl
  have hx := Z.1
  have hb := Z.2.1
  have hK : va_K D cls5 (tyE E) s := Z.2.2.2.2.2
  have hl : lv_has ls 3 [(0, .ref m0), (1, .int (nI (k + 1))), (2, .int u)] := hl
  refine lv_aload_n hx hb d_Mo_waiting_0 rfl (lv_at hl 0 rfl) ?_
  refine lv_iload_n hx hb d_Mo_waiting_1 rfl (lv_at hl 1 rfl) ?_
  refine cr_S Z ks_Mo_94 (c_Mo_isClient_y l D E La mu hk) hP [.ref m0] rfl rfl hl.1 (Nat.le_of_ble_eq_true rfl) ⟨by decide, by decide⟩ ⟨Nat.le_refl _, Nat.le_refl _⟩ d_Mo_waiting_2 ?_
  refine lv_if_eq (tgt := 12) hx hb d_Mo_waiting_5 rfl (fun br5 => absurd br5 (by decide)) (fun br5 => ?_)
  refine lv_iconst (v := 0) hx hb d_Mo_waiting_8 (by decide) ?_
  refine lv_goto (tgt := 13) hx hb d_Mo_waiting_9 rfl ?_
  refine p_f Z kc_Mo hP hS hm.1 rfl 0 (by decide) wl_Mo_56 rfl rfl ⟨rfl, rfl⟩ (Nat.le_of_ble_eq_true rfl) rfl d_Mo_waiting_13 (fun H locs hP hS => ?_)
  refine lv_aload_n hx hb d_Mo_waiting_16 rfl (lv_at hl 0 rfl) ?_
  refine g_i (v := 0) Z kc_Mo hP hm.1 rfl 0 (by decide) wl_Mo_56 rfl rfl la_up_s d_Mo_waiting_17 ?_
  refine lv_if_ne (tgt := 36) hx hb d_Mo_waiting_20 rfl (fun br20 => absurd (rfl) br20) (fun br20 => ?_)
  refine lv_aload_n hx hb d_Mo_waiting_23 rfl (lv_at hl 0 rfl) ?_
  refine g_f (v := .ref (m0 + 5)) Z kc_Mo hP hm.1 rfl 5 (by decide) wl_Mo_23 rfl rfl d_Mo_waiting_24 ?_
  refine lv_iload_n hx hb d_Mo_waiting_27 rfl (lv_at hl 1 rfl) ?_
  refine lv_iload_n hx hb d_Mo_waiting_28 rfl (lv_at hl 2 rfl) ?_
  refine cr_S Z ks_Mo_87 (hln) hP [.ref (m0 + 5)] rfl rfl hl.1 (Nat.le_of_ble_eq_true rfl) ⟨by decide, by decide⟩ ⟨Nat.le_refl _, Nat.le_refl _⟩ d_Mo_waiting_29 ?_
  refine la_ialdv (v := (mu (m0 + 5) L)) hx hb hK hP 0 hm.2.2.2.2.2.1 rfl rfl L rfl hL (by decide) (congrFun (la_up_n (by omega)) L) d_Mo_waiting_32 ?_
  refine lv_goto (tgt := 37) hx hb d_Mo_waiting_33 rfl ?_
  exact W.iret hx hb hr (fun t ht hW => ⟨rfl, by rw [ht]; exact cvm hP (rfl), hS.F ht⟩) hS.2.2 d_Mo_waiting_37
set_option maxHeartbeats 4000000 in
set_option maxRecDepth 100000 in
theorem c_Mo_got_1 (l : Launch) (D : va_G) (E : Nat → ClassId) (La : la_L) {m0 : Nat} (hm : isMo E La m0) (mu : la_M) {cl u : Int32} (hc : cl < 1 ∨ 3 < cl) : cw l y_Mo_got b_Mo_got 3 (some .int) 1 21 D E La [.ref m0, .int cl, .int u] mu (some (.int 0)) (la_up mu m0 0 1) := by
  refine cw_begin R_Mo (by decide) rfl (Nat.le_of_ble_eq_true rfl) ?_
  intro p e s m below meth c ls Z hr hlocks hP hS hl
  have hx := Z.1
  have hb := Z.2.1
  have hK : va_K D cls5 (tyE E) s := Z.2.2.2.2.2
  have hl : lv_has ls 3 [(0, .ref m0), (1, .int cl), (2, .int u)] := hl
  refine lv_aload_n hx hb d_Mo_got_0 rfl (lv_at hl 0 rfl) ?_
  refine lv_iload_n hx hb d_Mo_got_1 rfl (lv_at hl 1 rfl) ?_
  refine cr_S Z ks_Mo_94 (c_Mo_isClient_n l D E La mu hc) hP [.ref m0] rfl rfl hl.1 (Nat.le_of_ble_eq_true rfl) ⟨by decide, by decide⟩ ⟨Nat.le_refl _, Nat.le_refl _⟩ d_Mo_got_2 ?_
  refine lv_if_eq (tgt := 12) hx hb d_Mo_got_5 rfl (fun br5 => ?_) (fun br5 => absurd (by decide) br5)
  refine lv_iconst (v := 1) hx hb d_Mo_got_12 (by decide) ?_
  refine p_f Z kc_Mo hP hS hm.1 rfl 0 (by decide) wl_Mo_56 rfl rfl ⟨rfl, rfl⟩ (Nat.le_of_ble_eq_true rfl) rfl d_Mo_got_13 (fun H locs hP hS => ?_)
  refine lv_aload_n hx hb d_Mo_got_16 rfl (lv_at hl 0 rfl) ?_
  refine g_i (v := 1) Z kc_Mo hP hm.1 rfl 0 (by decide) wl_Mo_56 rfl rfl la_up_s d_Mo_got_17 ?_
  refine lv_if_ne (tgt := 36) hx hb d_Mo_got_20 rfl (fun br20 => ?_) (fun br20 => absurd br20 (by decide))
  refine lv_iconst (v := 0) hx hb d_Mo_got_36 (by decide) ?_
  exact W.iret hx hb hr (fun t ht hW => ⟨rfl, by rw [ht]; exact cvm hP (rfl), hS.F ht⟩) hS.2.2 d_Mo_got_37
set_option maxHeartbeats 4000000 in
set_option maxRecDepth 100000 in
theorem c_Mo_got_0 (l : Launch) (D : va_G) (E : Nat → ClassId) (La : la_L) {m0 : Nat} (hm : isMo E La m0) (mu : la_M) {k : Nat} (hk : k < 3) {u : Int32} {L : Nat} (hL : L < 6) (hln : cr l y_Mo_line b_Mo_line 2 (some .int) 0 0 D E La [.int (nI (k + 1)), .int u] (la_up mu m0 0 0) (some (.int (nI L)))) : cw l y_Mo_got b_Mo_got 3 (some .int) 1 21 D E La [.ref m0, .int (nI (k + 1)), .int u] mu (some (.int (mu (m0 + 4) L))) (la_up mu m0 0 0) := by
  refine cw_begin R_Mo (by decide) rfl (Nat.le_of_ble_eq_true rfl) ?_
  intro p e s m below meth c ls Z hr hlocks hP hS hl
  have hx := Z.1
  have hb := Z.2.1
  have hK : va_K D cls5 (tyE E) s := Z.2.2.2.2.2
  have hl : lv_has ls 3 [(0, .ref m0), (1, .int (nI (k + 1))), (2, .int u)] := hl
  refine lv_aload_n hx hb d_Mo_got_0 rfl (lv_at hl 0 rfl) ?_
  refine lv_iload_n hx hb d_Mo_got_1 rfl (lv_at hl 1 rfl) ?_
  refine cr_S Z ks_Mo_94 (c_Mo_isClient_y l D E La mu hk) hP [.ref m0] rfl rfl hl.1 (Nat.le_of_ble_eq_true rfl) ⟨by decide, by decide⟩ ⟨Nat.le_refl _, Nat.le_refl _⟩ d_Mo_got_2 ?_
  refine lv_if_eq (tgt := 12) hx hb d_Mo_got_5 rfl (fun br5 => absurd br5 (by decide)) (fun br5 => ?_)
  refine lv_iconst (v := 0) hx hb d_Mo_got_8 (by decide) ?_
  refine lv_goto (tgt := 13) hx hb d_Mo_got_9 rfl ?_
  refine p_f Z kc_Mo hP hS hm.1 rfl 0 (by decide) wl_Mo_56 rfl rfl ⟨rfl, rfl⟩ (Nat.le_of_ble_eq_true rfl) rfl d_Mo_got_13 (fun H locs hP hS => ?_)
  refine lv_aload_n hx hb d_Mo_got_16 rfl (lv_at hl 0 rfl) ?_
  refine g_i (v := 0) Z kc_Mo hP hm.1 rfl 0 (by decide) wl_Mo_56 rfl rfl la_up_s d_Mo_got_17 ?_
  refine lv_if_ne (tgt := 36) hx hb d_Mo_got_20 rfl (fun br20 => absurd (rfl) br20) (fun br20 => ?_)
  refine lv_aload_n hx hb d_Mo_got_23 rfl (lv_at hl 0 rfl) ?_
  refine g_f (v := .ref (m0 + 4)) Z kc_Mo hP hm.1 rfl 4 (by decide) wl_Mo_20 rfl rfl d_Mo_got_24 ?_
  refine lv_iload_n hx hb d_Mo_got_27 rfl (lv_at hl 1 rfl) ?_
  refine lv_iload_n hx hb d_Mo_got_28 rfl (lv_at hl 2 rfl) ?_
  refine cr_S Z ks_Mo_87 (hln) hP [.ref (m0 + 4)] rfl rfl hl.1 (Nat.le_of_ble_eq_true rfl) ⟨by decide, by decide⟩ ⟨Nat.le_refl _, Nat.le_refl _⟩ d_Mo_got_29 ?_
  refine la_ialdv (v := (mu (m0 + 4) L)) hx hb hK hP 0 hm.2.2.2.2.1 rfl rfl L rfl hL (by decide) (congrFun (la_up_n (by omega)) L) d_Mo_got_32 ?_
  refine lv_goto (tgt := 37) hx hb d_Mo_got_33 rfl ?_
  exact W.iret hx hb hr (fun t ht hW => ⟨rfl, by rw [ht]; exact cvm hP (rfl), hS.F ht⟩) hS.2.2 d_Mo_got_37
set_option maxHeartbeats 4000000 in
set_option maxRecDepth 100000 in
theorem c_Mo_open_1 (l : Launch) (D : va_G) (E : Nat → ClassId) (La : la_L) {m0 : Nat} (hm : isMo E La m0) (mu : la_M) {cl u : Int32} (hc : cl < 1 ∨ 3 < cl) : cw l y_Mo_open b_Mo_open 3 (some .int) 1 21 D E La [.ref m0, .int cl, .int u] mu (some (.int 0)) (la_up mu m0 0 1) := by
  refine cw_begin R_Mo (by decide) rfl (Nat.le_of_ble_eq_true rfl) ?_
  intro p e s m below meth c ls Z hr hlocks hP hS hl
  have hx := Z.1
  have hb := Z.2.1
  have hK : va_K D cls5 (tyE E) s := Z.2.2.2.2.2
  have hl : lv_has ls 3 [(0, .ref m0), (1, .int cl), (2, .int u)] := hl
  refine lv_aload_n hx hb d_Mo_open_0 rfl (lv_at hl 0 rfl) ?_
  refine lv_iload_n hx hb d_Mo_open_1 rfl (lv_at hl 1 rfl) ?_
  refine cr_S Z ks_Mo_94 (c_Mo_isClient_n l D E La mu hc) hP [.ref m0] rfl rfl hl.1 (Nat.le_of_ble_eq_true rfl) ⟨by decide, by decide⟩ ⟨Nat.le_refl _, Nat.le_refl _⟩ d_Mo_open_2 ?_
  refine lv_if_eq (tgt := 12) hx hb d_Mo_open_5 rfl (fun br5 => ?_) (fun br5 => absurd (by decide) br5)
  refine lv_iconst (v := 1) hx hb d_Mo_open_12 (by decide) ?_
  refine p_f Z kc_Mo hP hS hm.1 rfl 0 (by decide) wl_Mo_56 rfl rfl ⟨rfl, rfl⟩ (Nat.le_of_ble_eq_true rfl) rfl d_Mo_open_13 (fun H locs hP hS => ?_)
  refine lv_aload_n hx hb d_Mo_open_16 rfl (lv_at hl 0 rfl) ?_
  refine g_i (v := 1) Z kc_Mo hP hm.1 rfl 0 (by decide) wl_Mo_56 rfl rfl la_up_s d_Mo_open_17 ?_
  refine lv_if_ne (tgt := 36) hx hb d_Mo_open_20 rfl (fun br20 => ?_) (fun br20 => absurd br20 (by decide))
  refine lv_iconst (v := 0) hx hb d_Mo_open_36 (by decide) ?_
  exact W.iret hx hb hr (fun t ht hW => ⟨rfl, by rw [ht]; exact cvm hP (rfl), hS.F ht⟩) hS.2.2 d_Mo_open_37
set_option maxHeartbeats 4000000 in
set_option maxRecDepth 100000 in
theorem c_Mo_open_0 (l : Launch) (D : va_G) (E : Nat → ClassId) (La : la_L) {m0 : Nat} (hm : isMo E La m0) (mu : la_M) {k : Nat} (hk : k < 3) {u : Int32} {L : Nat} (hL : L < 6) (hln : cr l y_Mo_line b_Mo_line 2 (some .int) 0 0 D E La [.int (nI (k + 1)), .int u] (la_up mu m0 0 0) (some (.int (nI L)))) : cw l y_Mo_open b_Mo_open 3 (some .int) 1 21 D E La [.ref m0, .int (nI (k + 1)), .int u] mu (some (.int (mu (m0 + 11) L))) (la_up mu m0 0 0) := by
  refine cw_begin R_Mo (by decide) rfl (Nat.le_of_ble_eq_true rfl) ?_
  intro p e s m below meth c ls Z hr hlocks hP hS hl
  have hx := Z.1
  have hb := Z.2.1
  have hK : va_K D cls5 (tyE E) s := Z.2.2.2.2.2
  have hl : lv_has ls 3 [(0, .ref m0), (1, .int (nI (k + 1))), (2, .int u)] := hl
  refine lv_aload_n hx hb d_Mo_open_0 rfl (lv_at hl 0 rfl) ?_
  refine lv_iload_n hx hb d_Mo_open_1 rfl (lv_at hl 1 rfl) ?_
  refine cr_S Z ks_Mo_94 (c_Mo_isClient_y l D E La mu hk) hP [.ref m0] rfl rfl hl.1 (Nat.le_of_ble_eq_true rfl) ⟨by decide, by decide⟩ ⟨Nat.le_refl _, Nat.le_refl _⟩ d_Mo_open_2 ?_
  refine lv_if_eq (tgt := 12) hx hb d_Mo_open_5 rfl (fun br5 => absurd br5 (by decide)) (fun br5 => ?_)
  refine lv_iconst (v := 0) hx hb d_Mo_open_8 (by decide) ?_
  refine lv_goto (tgt := 13) hx hb d_Mo_open_9 rfl ?_
  refine p_f Z kc_Mo hP hS hm.1 rfl 0 (by decide) wl_Mo_56 rfl rfl ⟨rfl, rfl⟩ (Nat.le_of_ble_eq_true rfl) rfl d_Mo_open_13 (fun H locs hP hS => ?_)
  refine lv_aload_n hx hb d_Mo_open_16 rfl (lv_at hl 0 rfl) ?_
  refine g_i (v := 0) Z kc_Mo hP hm.1 rfl 0 (by decide) wl_Mo_56 rfl rfl la_up_s d_Mo_open_17 ?_
  refine lv_if_ne (tgt := 36) hx hb d_Mo_open_20 rfl (fun br20 => absurd (rfl) br20) (fun br20 => ?_)
  refine lv_aload_n hx hb d_Mo_open_23 rfl (lv_at hl 0 rfl) ?_
  refine g_f (v := .ref (m0 + 11)) Z kc_Mo hP hm.1 rfl 11 (by decide) wl_Mo_41 rfl rfl d_Mo_open_24 ?_
  refine lv_iload_n hx hb d_Mo_open_27 rfl (lv_at hl 1 rfl) ?_
  refine lv_iload_n hx hb d_Mo_open_28 rfl (lv_at hl 2 rfl) ?_
  refine cr_S Z ks_Mo_87 (hln) hP [.ref (m0 + 11)] rfl rfl hl.1 (Nat.le_of_ble_eq_true rfl) ⟨by decide, by decide⟩ ⟨Nat.le_refl _, Nat.le_refl _⟩ d_Mo_open_29 ?_
  refine la_ialdv (v := (mu (m0 + 11) L)) hx hb hK hP 0 hm.2.2.2.2.2.2.2.2.2.2.2.1 rfl rfl L rfl hL (by decide) (congrFun (la_up_n (by omega)) L) d_Mo_open_32 ?_
  refine lv_goto (tgt := 37) hx hb d_Mo_open_33 rfl ?_
  exact W.iret hx hb hr (fun t ht hW => ⟨rfl, by rw [ht]; exact cvm hP (rfl), hS.F ht⟩) hS.2.2 d_Mo_open_37
set_option maxHeartbeats 4000000 in
set_option maxRecDepth 100000 in
theorem c_Mo_change_1 (l : Launch) (D : va_G) (E : Nat → ClassId) (La : la_L) {m0 : Nat} (hm : isMo E La m0) (mu : la_M) {cl u i9 : Int32} (hc : cl < 1 ∨ 3 < cl) : cw l y_Mo_change b_Mo_change 5 (some .int) 1 21 D E La [.ref m0, .int cl, .int u, .int i9] mu (some (.int 0)) (la_up mu m0 0 1) := by
  refine cw_begin R_Mo (by decide) rfl (Nat.le_of_ble_eq_true rfl) ?_
  intro p e s m below meth c ls Z hr hlocks hP hS hl
  have hx := Z.1
  have hb := Z.2.1
  have hK : va_K D cls5 (tyE E) s := Z.2.2.2.2.2
  have hl : lv_has ls 5 [(0, .ref m0), (1, .int cl), (2, .int u), (3, .int i9)] := hl
  refine lv_aload_n hx hb d_Mo_change_0 rfl (lv_at hl 0 rfl) ?_
  refine lv_iload_n hx hb d_Mo_change_1 rfl (lv_at hl 1 rfl) ?_
  refine cr_S Z ks_Mo_94 (c_Mo_isClient_n l D E La mu hc) hP [.ref m0] rfl rfl hl.1 (Nat.le_of_ble_eq_true rfl) ⟨by decide, by decide⟩ ⟨Nat.le_refl _, Nat.le_refl _⟩ d_Mo_change_2 ?_
  refine lv_if_ne (tgt := 12) hx hb d_Mo_change_5 rfl (fun br5 => absurd (rfl) br5) (fun br5 => ?_)
  refine lv_iconst (v := 1) hx hb d_Mo_change_8 (by decide) ?_
  refine lv_goto (tgt := 35) hx hb d_Mo_change_9 rfl ?_
  refine p_f Z kc_Mo hP hS hm.1 rfl 0 (by decide) wl_Mo_56 rfl rfl ⟨rfl, rfl⟩ (Nat.le_of_ble_eq_true rfl) rfl d_Mo_change_35 (fun H locs hP hS => ?_)
  refine lv_aload_n hx hb d_Mo_change_38 rfl (lv_at hl 0 rfl) ?_
  refine g_i (v := 1) Z kc_Mo hP hm.1 rfl 0 (by decide) wl_Mo_56 rfl rfl la_up_s d_Mo_change_39 ?_
  refine lv_if_eq (tgt := 47) hx hb d_Mo_change_42 rfl (fun br42 => absurd br42 (by decide)) (fun br42 => ?_)
  refine lv_iconst (v := 0) hx hb d_Mo_change_45 (by decide) ?_
  exact W.iret hx hb hr (fun t ht hW => ⟨rfl, by rw [ht]; exact cvm hP (rfl), hS.F ht⟩) hS.2.2 d_Mo_change_46
set_option maxHeartbeats 4000000 in
set_option maxRecDepth 100000 in
theorem c_Mo_change_2 (l : Launch) (D : va_G) (E : Nat → ClassId) (La : la_L) {m0 : Nat} (hm : isMo E La m0) (mu : la_M) {k : Nat} (hk : k < 3) {u : Int32} {L : Nat} (hL : L < 6) (hln : ∀ mu : la_M, cr l y_Mo_line b_Mo_line 2 (some .int) 0 0 D E La [.int (nI (k + 1)), .int u] mu (some (.int (nI L)))) {i9 : Int32} {o0 : Nat} (ho : mu (m0 + 11) L = nI o0) (hi : i9 < 0 ∨ nI o0 ≤ i9) : cw l y_Mo_change b_Mo_change 5 (some .int) 1 21 D E La [.ref m0, .int (nI (k + 1)), .int u, .int i9] mu (some (.int 0)) (la_up mu m0 0 2) := by
  refine cw_begin R_Mo (by decide) rfl (Nat.le_of_ble_eq_true rfl) ?_
  intro p e s m below meth c ls Z hr hlocks hP hS hl
  have hx := Z.1
  have hb := Z.2.1
  have hK : va_K D cls5 (tyE E) s := Z.2.2.2.2.2
  have hl : lv_has ls 5 [(0, .ref m0), (1, .int (nI (k + 1))), (2, .int u), (3, .int i9)] := hl
  refine lv_aload_n hx hb d_Mo_change_0 rfl (lv_at hl 0 rfl) ?_
  refine lv_iload_n hx hb d_Mo_change_1 rfl (lv_at hl 1 rfl) ?_
  refine cr_S Z ks_Mo_94 (c_Mo_isClient_y l D E La mu hk) hP [.ref m0] rfl rfl hl.1 (Nat.le_of_ble_eq_true rfl) ⟨by decide, by decide⟩ ⟨Nat.le_refl _, Nat.le_refl _⟩ d_Mo_change_2 ?_
  refine lv_if_ne (tgt := 12) hx hb d_Mo_change_5 rfl (fun br5 => ?_) (fun br5 => absurd br5 (by decide))
  refine lv_iload_n hx hb d_Mo_change_12 rfl (lv_at hl 3 rfl) ?_
  refine lv_if_lt (tgt := 30) hx hb d_Mo_change_13 rfl (fun br13 => ?_) (fun br13 => ?_)
  · skip
    refine lv_iconst (v := 2) hx hb d_Mo_change_30 (by decide) ?_
    refine lv_goto (tgt := 35) hx hb d_Mo_change_31 rfl ?_
    refine p_f Z kc_Mo hP hS hm.1 rfl 0 (by decide) wl_Mo_56 rfl rfl ⟨rfl, rfl⟩ (Nat.le_of_ble_eq_true rfl) rfl d_Mo_change_35 (fun H locs hP hS => ?_)
    refine lv_aload_n hx hb d_Mo_change_38 rfl (lv_at hl 0 rfl) ?_
    refine g_i (v := 2) Z kc_Mo hP hm.1 rfl 0 (by decide) wl_Mo_56 rfl rfl la_up_s d_Mo_change_39 ?_
    refine lv_if_eq (tgt := 47) hx hb d_Mo_change_42 rfl (fun br42 => absurd br42 (by decide)) (fun br42 => ?_)
    refine lv_iconst (v := 0) hx hb d_Mo_change_45 (by decide) ?_
    exact W.iret hx hb hr (fun t ht hW => ⟨rfl, by rw [ht]; exact cvm hP (rfl), hS.F ht⟩) hS.2.2 d_Mo_change_46
  · skip
    refine lv_iload_n hx hb d_Mo_change_16 rfl (lv_at hl 3 rfl) ?_
    refine lv_aload_n hx hb d_Mo_change_17 rfl (lv_at hl 0 rfl) ?_
    refine g_f (v := .ref (m0 + 11)) Z kc_Mo hP hm.1 rfl 11 (by decide) wl_Mo_41 rfl rfl d_Mo_change_18 ?_
    refine lv_iload_n hx hb d_Mo_change_21 rfl (lv_at hl 1 rfl) ?_
    refine lv_iload_n hx hb d_Mo_change_22 rfl (lv_at hl 2 rfl) ?_
    refine cr_S Z ks_Mo_87 (hln mu) hP [.ref (m0 + 11), .int i9, .ref m0] rfl rfl hl.1 (Nat.le_of_ble_eq_true rfl) ⟨by decide, by decide⟩ ⟨Nat.le_refl _, Nat.le_refl _⟩ d_Mo_change_23 ?_
    refine la_ialdv (v := (nI o0)) hx hb hK hP 0 hm.2.2.2.2.2.2.2.2.2.2.2.1 rfl rfl L rfl hL (by decide) ho d_Mo_change_26 ?_
    refine lv_icmp_lt (tgt := 34) hx hb d_Mo_change_27 rfl (fun br27 => absurd br27 (Int32.not_lt.mpr (hi.resolve_left br13))) (fun br27 => ?_)
    refine lv_iconst (v := 2) hx hb d_Mo_change_30 (by decide) ?_
    refine lv_goto (tgt := 35) hx hb d_Mo_change_31 rfl ?_
    refine p_f Z kc_Mo hP hS hm.1 rfl 0 (by decide) wl_Mo_56 rfl rfl ⟨rfl, rfl⟩ (Nat.le_of_ble_eq_true rfl) rfl d_Mo_change_35 (fun H locs hP hS => ?_)
    refine lv_aload_n hx hb d_Mo_change_38 rfl (lv_at hl 0 rfl) ?_
    refine g_i (v := 2) Z kc_Mo hP hm.1 rfl 0 (by decide) wl_Mo_56 rfl rfl la_up_s d_Mo_change_39 ?_
    refine lv_if_eq (tgt := 47) hx hb d_Mo_change_42 rfl (fun br42 => absurd br42 (by decide)) (fun br42 => ?_)
    refine lv_iconst (v := 0) hx hb d_Mo_change_45 (by decide) ?_
    exact W.iret hx hb hr (fun t ht hW => ⟨rfl, by rw [ht]; exact cvm hP (rfl), hS.F ht⟩) hS.2.2 d_Mo_change_46
set_option maxHeartbeats 4000000 in
set_option maxRecDepth 100000 in
theorem c_Mo_change_0n (l : Launch) (D : va_G) (E : Nat → ClassId) (La : la_L) {m0 : Nat} (hm : isMo E La m0) (mu : la_M) {k : Nat} (hk : k < 3) {u : Int32} {L : Nat} (hL : L < 6) (hln : ∀ mu : la_M, cr l y_Mo_line b_Mo_line 2 (some .int) 0 0 D E La [.int (nI (k + 1)), .int u] mu (some (.int (nI L)))) {i0 o0 : Nat} (ho : mu (m0 + 11) L = nI o0) (hi : i0 < o0) (ho4 : o0 < 40) (hk2 : mu (m0 + 12) (40 * L + i0) = 2) : cw l y_Mo_change b_Mo_change 5 (some .int) 1 21 D E La [.ref m0, .int (nI (k + 1)), .int u, .int (nI i0)] mu (some (.int (1000 * 2 + 0 + mu (m0 + 15) (40 * L + i0)))) (la_up mu m0 0 0) := by
  refine cw_begin R_Mo (by decide) rfl (Nat.le_of_ble_eq_true rfl) ?_
  intro p e s m below meth c ls Z hr hlocks hP hS hl
  have hx := Z.1
  have hb := Z.2.1
  have hK : va_K D cls5 (tyE E) s := Z.2.2.2.2.2
  have hl : lv_has ls 5 [(0, .ref m0), (1, .int (nI (k + 1))), (2, .int u), (3, .int (nI i0))] := hl
  refine lv_aload_n hx hb d_Mo_change_0 rfl (lv_at hl 0 rfl) ?_
  refine lv_iload_n hx hb d_Mo_change_1 rfl (lv_at hl 1 rfl) ?_
  refine cr_S Z ks_Mo_94 (c_Mo_isClient_y l D E La mu hk) hP [.ref m0] rfl rfl hl.1 (Nat.le_of_ble_eq_true rfl) ⟨by decide, by decide⟩ ⟨Nat.le_refl _, Nat.le_refl _⟩ d_Mo_change_2 ?_
  refine lv_if_ne (tgt := 12) hx hb d_Mo_change_5 rfl (fun br5 => ?_) (fun br5 => absurd br5 (by decide))
  refine lv_iload_n hx hb d_Mo_change_12 rfl (lv_at hl 3 rfl) ?_
  refine lv_if_lt (tgt := 30) hx hb d_Mo_change_13 rfl (fun br13 => absurd br13 (nI_pos (by omega))) (fun br13 => ?_)
  refine lv_iload_n hx hb d_Mo_change_16 rfl (lv_at hl 3 rfl) ?_
  refine lv_aload_n hx hb d_Mo_change_17 rfl (lv_at hl 0 rfl) ?_
  refine g_f (v := .ref (m0 + 11)) Z kc_Mo hP hm.1 rfl 11 (by decide) wl_Mo_41 rfl rfl d_Mo_change_18 ?_
  refine lv_iload_n hx hb d_Mo_change_21 rfl (lv_at hl 1 rfl) ?_
  refine lv_iload_n hx hb d_Mo_change_22 rfl (lv_at hl 2 rfl) ?_
  refine cr_S Z ks_Mo_87 (hln mu) hP [.ref (m0 + 11), .int (nI i0), .ref m0] rfl rfl hl.1 (Nat.le_of_ble_eq_true rfl) ⟨by decide, by decide⟩ ⟨Nat.le_refl _, Nat.le_refl _⟩ d_Mo_change_23 ?_
  refine la_ialdv (v := (nI o0)) hx hb hK hP 0 hm.2.2.2.2.2.2.2.2.2.2.2.1 rfl rfl L rfl hL (by decide) ho d_Mo_change_26 ?_
  refine lv_icmp_lt (tgt := 34) hx hb d_Mo_change_27 rfl (fun br27 => ?_) (fun br27 => absurd (nI_lt hi (by omega)) br27)
  refine lv_iconst (v := 0) hx hb d_Mo_change_34 (by decide) ?_
  refine p_f Z kc_Mo hP hS hm.1 rfl 0 (by decide) wl_Mo_56 rfl rfl ⟨rfl, rfl⟩ (Nat.le_of_ble_eq_true rfl) rfl d_Mo_change_35 (fun H locs hP hS => ?_)
  refine lv_aload_n hx hb d_Mo_change_38 rfl (lv_at hl 0 rfl) ?_
  refine g_i (v := 0) Z kc_Mo hP hm.1 rfl 0 (by decide) wl_Mo_56 rfl rfl la_up_s d_Mo_change_39 ?_
  refine lv_if_eq (tgt := 47) hx hb d_Mo_change_42 rfl (fun br42 => ?_) (fun br42 => absurd (by decide) br42)
  refine lv_bipush (v := 40) hx hb d_Mo_change_47 (by decide) ?_
  refine lv_iload_n hx hb d_Mo_change_49 rfl (lv_at hl 1 rfl) ?_
  refine lv_iload_n hx hb d_Mo_change_50 rfl (lv_at hl 2 rfl) ?_
  refine cr_S Z ks_Mo_87 (hln (la_up mu m0 0 0)) hP [.int 40] rfl rfl hl.1 (Nat.le_of_ble_eq_true rfl) ⟨by decide, by decide⟩ ⟨Nat.le_refl _, Nat.le_refl _⟩ d_Mo_change_51 ?_
  refine lv_imul hx hb d_Mo_change_54 ?_
  rw [show (40 : Int32) * nI L = nI (40 * L) from pk_mul 40 L]
  refine lv_iload_n hx hb d_Mo_change_55 rfl (lv_at hl 3 rfl) ?_
  refine lv_iadd hx hb d_Mo_change_56 ?_
  rw [nI_add]
  refine lv_istore hx hb d_Mo_change_57 hl (by decide) rfl (fun ls hl => ?_)
  have hl : lv_has ls 5 [(4, .int (nI (40 * L + i0))), (0, .ref m0), (1, .int (nI (k + 1))), (2, .int u), (3, .int (nI i0))] := hl
  refine lv_sipush (v := 1000) hx hb d_Mo_change_59 (by decide) ?_
  refine lv_aload_n hx hb d_Mo_change_62 rfl (lv_at hl 1 rfl) ?_
  refine g_f (v := .ref (m0 + 12)) Z kc_Mo hP hm.1 rfl 12 (by decide) wl_Mo_44 rfl rfl d_Mo_change_63 ?_
  refine lv_iload hx hb d_Mo_change_66 (lv_at hl 0 rfl) ?_
  refine la_ialdv (v := 2) hx hb hK hP 0 hm.2.2.2.2.2.2.2.2.2.2.2.2.1 rfl rfl (40 * L + i0) rfl (by omega) (by decide) ((congrFun (la_up_n (by omega)) (40 * L + i0)).trans hk2) d_Mo_change_68 ?_
  refine lv_imul hx hb d_Mo_change_69 ?_
  refine lv_aload_n hx hb d_Mo_change_70 rfl (lv_at hl 1 rfl) ?_
  refine g_f (v := .ref (m0 + 12)) Z kc_Mo hP hm.1 rfl 12 (by decide) wl_Mo_44 rfl rfl d_Mo_change_71 ?_
  refine lv_iload hx hb d_Mo_change_74 (lv_at hl 0 rfl) ?_
  refine la_ialdv (v := 2) hx hb hK hP 0 hm.2.2.2.2.2.2.2.2.2.2.2.2.1 rfl rfl (40 * L + i0) rfl (by omega) (by decide) ((congrFun (la_up_n (by omega)) (40 * L + i0)).trans hk2) d_Mo_change_76 ?_
  refine lv_iconst (v := 2) hx hb d_Mo_change_77 (by decide) ?_
  refine lv_icmp_ne (tgt := 85) hx hb d_Mo_change_78 rfl (fun br78 => absurd (rfl) br78) (fun br78 => ?_)
  refine lv_iconst (v := 0) hx hb d_Mo_change_81 (by decide) ?_
  refine lv_goto (tgt := 95) hx hb d_Mo_change_82 rfl ?_
  refine lv_iadd hx hb d_Mo_change_95 ?_
  refine lv_aload_n hx hb d_Mo_change_96 rfl (lv_at hl 1 rfl) ?_
  refine g_f (v := .ref (m0 + 15)) Z kc_Mo hP hm.1 rfl 15 (by decide) wl_Mo_53 rfl rfl d_Mo_change_97 ?_
  refine lv_iload hx hb d_Mo_change_100 (lv_at hl 0 rfl) ?_
  refine la_ialdv (v := (mu (m0 + 15) (40 * L + i0))) hx hb hK hP 0 hm.2.2.2.2.2.2.2.2.2.2.2.2.2.2.2 rfl rfl (40 * L + i0) rfl (by omega) (by decide) (congrFun (la_up_n (by omega)) (40 * L + i0)) d_Mo_change_102 ?_
  refine lv_iadd hx hb d_Mo_change_103 ?_
  exact W.iret hx hb hr (fun t ht hW => ⟨rfl, by rw [ht]; exact cvm hP (rfl), hS.F ht⟩) hS.2.2 d_Mo_change_104
set_option maxHeartbeats 4000000 in
set_option maxRecDepth 100000 in
theorem c_Mo_change_0k (l : Launch) (D : va_G) (E : Nat → ClassId) (La : la_L) {m0 : Nat} (hm : isMo E La m0) (mu : la_M) {k : Nat} (hk : k < 3) {u : Int32} {L : Nat} (hL : L < 6) (hln : ∀ mu : la_M, cr l y_Mo_line b_Mo_line 2 (some .int) 0 0 D E La [.int (nI (k + 1)), .int u] mu (some (.int (nI L)))) {i0 o0 : Nat} (ho : mu (m0 + 11) L = nI o0) (hi : i0 < o0) (ho4 : o0 < 40) (hk2 : ¬ mu (m0 + 12) (40 * L + i0) = 2) : cw l y_Mo_change b_Mo_change 5 (some .int) 1 21 D E La [.ref m0, .int (nI (k + 1)), .int u, .int (nI i0)] mu (some (.int (1000 * mu (m0 + 12) (40 * L + i0) + 10 * mu (m0 + 13) (40 * L + i0) + mu (m0 + 15) (40 * L + i0)))) (la_up mu m0 0 0) := by
  refine cw_begin R_Mo (by decide) rfl (Nat.le_of_ble_eq_true rfl) ?_
  intro p e s m below meth c ls Z hr hlocks hP hS hl
  have hx := Z.1
  have hb := Z.2.1
  have hK : va_K D cls5 (tyE E) s := Z.2.2.2.2.2
  have hl : lv_has ls 5 [(0, .ref m0), (1, .int (nI (k + 1))), (2, .int u), (3, .int (nI i0))] := hl
  refine lv_aload_n hx hb d_Mo_change_0 rfl (lv_at hl 0 rfl) ?_
  refine lv_iload_n hx hb d_Mo_change_1 rfl (lv_at hl 1 rfl) ?_
  refine cr_S Z ks_Mo_94 (c_Mo_isClient_y l D E La mu hk) hP [.ref m0] rfl rfl hl.1 (Nat.le_of_ble_eq_true rfl) ⟨by decide, by decide⟩ ⟨Nat.le_refl _, Nat.le_refl _⟩ d_Mo_change_2 ?_
  refine lv_if_ne (tgt := 12) hx hb d_Mo_change_5 rfl (fun br5 => ?_) (fun br5 => absurd br5 (by decide))
  refine lv_iload_n hx hb d_Mo_change_12 rfl (lv_at hl 3 rfl) ?_
  refine lv_if_lt (tgt := 30) hx hb d_Mo_change_13 rfl (fun br13 => absurd br13 (nI_pos (by omega))) (fun br13 => ?_)
  refine lv_iload_n hx hb d_Mo_change_16 rfl (lv_at hl 3 rfl) ?_
  refine lv_aload_n hx hb d_Mo_change_17 rfl (lv_at hl 0 rfl) ?_
  refine g_f (v := .ref (m0 + 11)) Z kc_Mo hP hm.1 rfl 11 (by decide) wl_Mo_41 rfl rfl d_Mo_change_18 ?_
  refine lv_iload_n hx hb d_Mo_change_21 rfl (lv_at hl 1 rfl) ?_
  refine lv_iload_n hx hb d_Mo_change_22 rfl (lv_at hl 2 rfl) ?_
  refine cr_S Z ks_Mo_87 (hln mu) hP [.ref (m0 + 11), .int (nI i0), .ref m0] rfl rfl hl.1 (Nat.le_of_ble_eq_true rfl) ⟨by decide, by decide⟩ ⟨Nat.le_refl _, Nat.le_refl _⟩ d_Mo_change_23 ?_
  refine la_ialdv (v := (nI o0)) hx hb hK hP 0 hm.2.2.2.2.2.2.2.2.2.2.2.1 rfl rfl L rfl hL (by decide) ho d_Mo_change_26 ?_
  refine lv_icmp_lt (tgt := 34) hx hb d_Mo_change_27 rfl (fun br27 => ?_) (fun br27 => absurd (nI_lt hi (by omega)) br27)
  refine lv_iconst (v := 0) hx hb d_Mo_change_34 (by decide) ?_
  refine p_f Z kc_Mo hP hS hm.1 rfl 0 (by decide) wl_Mo_56 rfl rfl ⟨rfl, rfl⟩ (Nat.le_of_ble_eq_true rfl) rfl d_Mo_change_35 (fun H locs hP hS => ?_)
  refine lv_aload_n hx hb d_Mo_change_38 rfl (lv_at hl 0 rfl) ?_
  refine g_i (v := 0) Z kc_Mo hP hm.1 rfl 0 (by decide) wl_Mo_56 rfl rfl la_up_s d_Mo_change_39 ?_
  refine lv_if_eq (tgt := 47) hx hb d_Mo_change_42 rfl (fun br42 => ?_) (fun br42 => absurd (by decide) br42)
  refine lv_bipush (v := 40) hx hb d_Mo_change_47 (by decide) ?_
  refine lv_iload_n hx hb d_Mo_change_49 rfl (lv_at hl 1 rfl) ?_
  refine lv_iload_n hx hb d_Mo_change_50 rfl (lv_at hl 2 rfl) ?_
  refine cr_S Z ks_Mo_87 (hln (la_up mu m0 0 0)) hP [.int 40] rfl rfl hl.1 (Nat.le_of_ble_eq_true rfl) ⟨by decide, by decide⟩ ⟨Nat.le_refl _, Nat.le_refl _⟩ d_Mo_change_51 ?_
  refine lv_imul hx hb d_Mo_change_54 ?_
  rw [show (40 : Int32) * nI L = nI (40 * L) from pk_mul 40 L]
  refine lv_iload_n hx hb d_Mo_change_55 rfl (lv_at hl 3 rfl) ?_
  refine lv_iadd hx hb d_Mo_change_56 ?_
  rw [nI_add]
  refine lv_istore hx hb d_Mo_change_57 hl (by decide) rfl (fun ls hl => ?_)
  have hl : lv_has ls 5 [(4, .int (nI (40 * L + i0))), (0, .ref m0), (1, .int (nI (k + 1))), (2, .int u), (3, .int (nI i0))] := hl
  refine lv_sipush (v := 1000) hx hb d_Mo_change_59 (by decide) ?_
  refine lv_aload_n hx hb d_Mo_change_62 rfl (lv_at hl 1 rfl) ?_
  refine g_f (v := .ref (m0 + 12)) Z kc_Mo hP hm.1 rfl 12 (by decide) wl_Mo_44 rfl rfl d_Mo_change_63 ?_
  refine lv_iload hx hb d_Mo_change_66 (lv_at hl 0 rfl) ?_
  refine la_ialdv (v := (mu (m0 + 12) (40 * L + i0))) hx hb hK hP 0 hm.2.2.2.2.2.2.2.2.2.2.2.2.1 rfl rfl (40 * L + i0) rfl (by omega) (by decide) (congrFun (la_up_n (by omega)) (40 * L + i0)) d_Mo_change_68 ?_
  refine lv_imul hx hb d_Mo_change_69 ?_
  refine lv_aload_n hx hb d_Mo_change_70 rfl (lv_at hl 1 rfl) ?_
  refine g_f (v := .ref (m0 + 12)) Z kc_Mo hP hm.1 rfl 12 (by decide) wl_Mo_44 rfl rfl d_Mo_change_71 ?_
  refine lv_iload hx hb d_Mo_change_74 (lv_at hl 0 rfl) ?_
  refine la_ialdv (v := (mu (m0 + 12) (40 * L + i0))) hx hb hK hP 0 hm.2.2.2.2.2.2.2.2.2.2.2.2.1 rfl rfl (40 * L + i0) rfl (by omega) (by decide) (congrFun (la_up_n (by omega)) (40 * L + i0)) d_Mo_change_76 ?_
  refine lv_iconst (v := 2) hx hb d_Mo_change_77 (by decide) ?_
  refine lv_icmp_ne (tgt := 85) hx hb d_Mo_change_78 rfl (fun br78 => ?_) (fun br78 => absurd br78 (hk2))
  refine lv_bipush (v := 10) hx hb d_Mo_change_85 (by decide) ?_
  refine lv_aload_n hx hb d_Mo_change_87 rfl (lv_at hl 1 rfl) ?_
  refine g_f (v := .ref (m0 + 13)) Z kc_Mo hP hm.1 rfl 13 (by decide) wl_Mo_47 rfl rfl d_Mo_change_88 ?_
  refine lv_iload hx hb d_Mo_change_91 (lv_at hl 0 rfl) ?_
  refine la_ialdv (v := (mu (m0 + 13) (40 * L + i0))) hx hb hK hP 0 hm.2.2.2.2.2.2.2.2.2.2.2.2.2.1 rfl rfl (40 * L + i0) rfl (by omega) (by decide) (congrFun (la_up_n (by omega)) (40 * L + i0)) d_Mo_change_93 ?_
  refine lv_imul hx hb d_Mo_change_94 ?_
  refine lv_iadd hx hb d_Mo_change_95 ?_
  refine lv_aload_n hx hb d_Mo_change_96 rfl (lv_at hl 1 rfl) ?_
  refine g_f (v := .ref (m0 + 15)) Z kc_Mo hP hm.1 rfl 15 (by decide) wl_Mo_53 rfl rfl d_Mo_change_97 ?_
  refine lv_iload hx hb d_Mo_change_100 (lv_at hl 0 rfl) ?_
  refine la_ialdv (v := (mu (m0 + 15) (40 * L + i0))) hx hb hK hP 0 hm.2.2.2.2.2.2.2.2.2.2.2.2.2.2.2 rfl rfl (40 * L + i0) rfl (by omega) (by decide) (congrFun (la_up_n (by omega)) (40 * L + i0)) d_Mo_change_102 ?_
  refine lv_iadd hx hb d_Mo_change_103 ?_
  exact W.iret hx hb hr (fun t ht hW => ⟨rfl, by rw [ht]; exact cvm hP (rfl), hS.F ht⟩) hS.2.2 d_Mo_change_104
set_option maxHeartbeats 4000000 in
set_option maxRecDepth 100000 in
theorem c_Mo_size_1 (l : Launch) (D : va_G) (E : Nat → ClassId) (La : la_L) {m0 : Nat} (hm : isMo E La m0) (mu : la_M) {cl : Int32} (hc : cl < 0 ∨ 3 < cl) : cw l y_Mo_size b_Mo_size 2 (some .int) 1 20 D E La [.ref m0, .int cl] mu (some (.int 0)) (la_up mu m0 0 1) := by
  refine cw_begin R_Mo (by decide) rfl (Nat.le_of_ble_eq_true rfl) ?_
  intro p e s m below meth c ls Z hr hlocks hP hS hl
  have hx := Z.1
  have hb := Z.2.1
  have hK : va_K D cls5 (tyE E) s := Z.2.2.2.2.2
  have hl : lv_has ls 2 [(0, .ref m0), (1, .int cl)] := hl
  refine lv_aload_n hx hb d_Mo_size_0 rfl (lv_at hl 0 rfl) ?_
  refine lv_iload_n hx hb d_Mo_size_1 rfl (lv_at hl 1 rfl) ?_
  refine cr_S Z ks_Mo_109 (c_Mo_isSite_n l D E La mu hc) hP [.ref m0] rfl rfl hl.1 (Nat.le_of_ble_eq_true rfl) ⟨by decide, by decide⟩ ⟨Nat.le_refl _, Nat.le_refl _⟩ d_Mo_size_2 ?_
  refine lv_if_eq (tgt := 12) hx hb d_Mo_size_5 rfl (fun br5 => ?_) (fun br5 => absurd (by decide) br5)
  refine lv_iconst (v := 1) hx hb d_Mo_size_12 (by decide) ?_
  refine p_f Z kc_Mo hP hS hm.1 rfl 0 (by decide) wl_Mo_56 rfl rfl ⟨rfl, rfl⟩ (Nat.le_of_ble_eq_true rfl) rfl d_Mo_size_13 (fun H locs hP hS => ?_)
  refine lv_aload_n hx hb d_Mo_size_16 rfl (lv_at hl 0 rfl) ?_
  refine g_i (v := 1) Z kc_Mo hP hm.1 rfl 0 (by decide) wl_Mo_56 rfl rfl la_up_s d_Mo_size_17 ?_
  refine lv_if_ne (tgt := 32) hx hb d_Mo_size_20 rfl (fun br20 => ?_) (fun br20 => absurd br20 (by decide))
  refine lv_iconst (v := 0) hx hb d_Mo_size_32 (by decide) ?_
  exact W.iret hx hb hr (fun t ht hW => ⟨rfl, by rw [ht]; exact cvm hP (rfl), hS.F ht⟩) hS.2.2 d_Mo_size_33
set_option maxHeartbeats 4000000 in
set_option maxRecDepth 100000 in
theorem c_Mo_size_0 (l : Launch) (D : va_G) (E : Nat → ClassId) (La : la_L) {m0 : Nat} (hm : isMo E La m0) (mu : la_M) {k : Nat} (hk : k < 4) : cw l y_Mo_size b_Mo_size 2 (some .int) 1 20 D E La [.ref m0, .int (nI k)] mu (some (.int (mu (m0 + 1) k))) (la_up mu m0 0 0) := by
  refine cw_begin R_Mo (by decide) rfl (Nat.le_of_ble_eq_true rfl) ?_
  intro p e s m below meth c ls Z hr hlocks hP hS hl
  have hx := Z.1
  have hb := Z.2.1
  have hK : va_K D cls5 (tyE E) s := Z.2.2.2.2.2
  have hl : lv_has ls 2 [(0, .ref m0), (1, .int (nI k))] := hl
  refine lv_aload_n hx hb d_Mo_size_0 rfl (lv_at hl 0 rfl) ?_
  refine lv_iload_n hx hb d_Mo_size_1 rfl (lv_at hl 1 rfl) ?_
  refine cr_S Z ks_Mo_109 (c_Mo_isSite_y l D E La mu hk) hP [.ref m0] rfl rfl hl.1 (Nat.le_of_ble_eq_true rfl) ⟨by decide, by decide⟩ ⟨Nat.le_refl _, Nat.le_refl _⟩ d_Mo_size_2 ?_
  refine lv_if_eq (tgt := 12) hx hb d_Mo_size_5 rfl (fun br5 => absurd br5 (by decide)) (fun br5 => ?_)
  refine lv_iconst (v := 0) hx hb d_Mo_size_8 (by decide) ?_
  refine lv_goto (tgt := 13) hx hb d_Mo_size_9 rfl ?_
  refine p_f Z kc_Mo hP hS hm.1 rfl 0 (by decide) wl_Mo_56 rfl rfl ⟨rfl, rfl⟩ (Nat.le_of_ble_eq_true rfl) rfl d_Mo_size_13 (fun H locs hP hS => ?_)
  refine lv_aload_n hx hb d_Mo_size_16 rfl (lv_at hl 0 rfl) ?_
  refine g_i (v := 0) Z kc_Mo hP hm.1 rfl 0 (by decide) wl_Mo_56 rfl rfl la_up_s d_Mo_size_17 ?_
  refine lv_if_ne (tgt := 32) hx hb d_Mo_size_20 rfl (fun br20 => absurd (rfl) br20) (fun br20 => ?_)
  refine lv_aload_n hx hb d_Mo_size_23 rfl (lv_at hl 0 rfl) ?_
  refine g_f (v := .ref (m0 + 1)) Z kc_Mo hP hm.1 rfl 1 (by decide) wl_Mo_7 rfl rfl d_Mo_size_24 ?_
  refine lv_iload_n hx hb d_Mo_size_27 rfl (lv_at hl 1 rfl) ?_
  refine la_ialdv (v := (mu (m0 + 1) k)) hx hb hK hP 0 hm.2.1 rfl rfl k rfl hk (by decide) (congrFun (la_up_n (by omega)) k) d_Mo_size_28 ?_
  refine lv_goto (tgt := 33) hx hb d_Mo_size_29 rfl ?_
  exact W.iret hx hb hr (fun t ht hW => ⟨rfl, by rw [ht]; exact cvm hP (rfl), hS.F ht⟩) hS.2.2 d_Mo_size_33
set_option maxHeartbeats 4000000 in
set_option maxRecDepth 100000 in
theorem c_Mo_letter_1 (l : Launch) (D : va_G) (E : Nat → ClassId) (La : la_L) {m0 : Nat} (hm : isMo E La m0) (mu : la_M) {cl at0 : Int32} (hc : cl < 0 ∨ 3 < cl) : cw l y_Mo_letter b_Mo_letter 3 (some .int) 1 20 D E La [.ref m0, .int cl, .int at0] mu (some (.int 0)) (la_up mu m0 0 1) := by
  refine cw_begin R_Mo (by decide) rfl (Nat.le_of_ble_eq_true rfl) ?_
  intro p e s m below meth c ls Z hr hlocks hP hS hl
  have hx := Z.1
  have hb := Z.2.1
  have hK : va_K D cls5 (tyE E) s := Z.2.2.2.2.2
  have hl : lv_has ls 3 [(0, .ref m0), (1, .int cl), (2, .int at0)] := hl
  refine lv_aload_n hx hb d_Mo_letter_0 rfl (lv_at hl 0 rfl) ?_
  refine lv_iload_n hx hb d_Mo_letter_1 rfl (lv_at hl 1 rfl) ?_
  refine cr_S Z ks_Mo_109 (c_Mo_isSite_n l D E La mu hc) hP [.ref m0] rfl rfl hl.1 (Nat.le_of_ble_eq_true rfl) ⟨by decide, by decide⟩ ⟨Nat.le_refl _, Nat.le_refl _⟩ d_Mo_letter_2 ?_
  refine lv_if_ne (tgt := 12) hx hb d_Mo_letter_5 rfl (fun br5 => absurd (rfl) br5) (fun br5 => ?_)
  refine lv_iconst (v := 1) hx hb d_Mo_letter_8 (by decide) ?_
  refine lv_goto (tgt := 31) hx hb d_Mo_letter_9 rfl ?_
  refine p_f Z kc_Mo hP hS hm.1 rfl 0 (by decide) wl_Mo_56 rfl rfl ⟨rfl, rfl⟩ (Nat.le_of_ble_eq_true rfl) rfl d_Mo_letter_31 (fun H locs hP hS => ?_)
  refine lv_aload_n hx hb d_Mo_letter_34 rfl (lv_at hl 0 rfl) ?_
  refine g_i (v := 1) Z kc_Mo hP hm.1 rfl 0 (by decide) wl_Mo_56 rfl rfl la_up_s d_Mo_letter_35 ?_
  refine lv_if_ne (tgt := 56) hx hb d_Mo_letter_38 rfl (fun br38 => ?_) (fun br38 => absurd br38 (by decide))
  refine lv_iconst (v := 0) hx hb d_Mo_letter_56 (by decide) ?_
  exact W.iret hx hb hr (fun t ht hW => ⟨rfl, by rw [ht]; exact cvm hP (rfl), hS.F ht⟩) hS.2.2 d_Mo_letter_57
set_option maxHeartbeats 4000000 in
set_option maxRecDepth 100000 in
theorem c_Mo_letter_2 (l : Launch) (D : va_G) (E : Nat → ClassId) (La : la_L) {m0 : Nat} (hm : isMo E La m0) (mu : la_M) {k n : Nat} {at0 : Int32} (hk : k < 4) (hn : mu (m0 + 1) k = nI n) (hat : at0 < 0 ∨ nI n ≤ at0) : cw l y_Mo_letter b_Mo_letter 3 (some .int) 1 20 D E La [.ref m0, .int (nI k), .int at0] mu (some (.int 0)) (la_up mu m0 0 2) := by
  refine cw_begin R_Mo (by decide) rfl (Nat.le_of_ble_eq_true rfl) ?_
  intro p e s m below meth c ls Z hr hlocks hP hS hl
  have hx := Z.1
  have hb := Z.2.1
  have hK : va_K D cls5 (tyE E) s := Z.2.2.2.2.2
  have hl : lv_has ls 3 [(0, .ref m0), (1, .int (nI k)), (2, .int at0)] := hl
  refine lv_aload_n hx hb d_Mo_letter_0 rfl (lv_at hl 0 rfl) ?_
  refine lv_iload_n hx hb d_Mo_letter_1 rfl (lv_at hl 1 rfl) ?_
  refine cr_S Z ks_Mo_109 (c_Mo_isSite_y l D E La mu hk) hP [.ref m0] rfl rfl hl.1 (Nat.le_of_ble_eq_true rfl) ⟨by decide, by decide⟩ ⟨Nat.le_refl _, Nat.le_refl _⟩ d_Mo_letter_2 ?_
  refine lv_if_ne (tgt := 12) hx hb d_Mo_letter_5 rfl (fun br5 => ?_) (fun br5 => absurd br5 (by decide))
  refine lv_iload_n hx hb d_Mo_letter_12 rfl (lv_at hl 2 rfl) ?_
  refine lv_if_lt (tgt := 26) hx hb d_Mo_letter_13 rfl (fun br13 => ?_) (fun br13 => ?_)
  · skip
    refine lv_iconst (v := 2) hx hb d_Mo_letter_26 (by decide) ?_
    refine lv_goto (tgt := 31) hx hb d_Mo_letter_27 rfl ?_
    refine p_f Z kc_Mo hP hS hm.1 rfl 0 (by decide) wl_Mo_56 rfl rfl ⟨rfl, rfl⟩ (Nat.le_of_ble_eq_true rfl) rfl d_Mo_letter_31 (fun H locs hP hS => ?_)
    refine lv_aload_n hx hb d_Mo_letter_34 rfl (lv_at hl 0 rfl) ?_
    refine g_i (v := 2) Z kc_Mo hP hm.1 rfl 0 (by decide) wl_Mo_56 rfl rfl la_up_s d_Mo_letter_35 ?_
    refine lv_if_ne (tgt := 56) hx hb d_Mo_letter_38 rfl (fun br38 => ?_) (fun br38 => absurd br38 (by decide))
    refine lv_iconst (v := 0) hx hb d_Mo_letter_56 (by decide) ?_
    exact W.iret hx hb hr (fun t ht hW => ⟨rfl, by rw [ht]; exact cvm hP (rfl), hS.F ht⟩) hS.2.2 d_Mo_letter_57
  · skip
    refine lv_iload_n hx hb d_Mo_letter_16 rfl (lv_at hl 2 rfl) ?_
    refine lv_aload_n hx hb d_Mo_letter_17 rfl (lv_at hl 0 rfl) ?_
    refine g_f (v := .ref (m0 + 1)) Z kc_Mo hP hm.1 rfl 1 (by decide) wl_Mo_7 rfl rfl d_Mo_letter_18 ?_
    refine lv_iload_n hx hb d_Mo_letter_21 rfl (lv_at hl 1 rfl) ?_
    refine la_ialdv (v := (nI n)) hx hb hK hP 0 hm.2.1 rfl rfl k rfl hk (by decide) hn d_Mo_letter_22 ?_
    refine lv_icmp_lt (tgt := 30) hx hb d_Mo_letter_23 rfl (fun br23 => absurd br23 (Int32.not_lt.mpr (hat.resolve_left br13))) (fun br23 => ?_)
    refine lv_iconst (v := 2) hx hb d_Mo_letter_26 (by decide) ?_
    refine lv_goto (tgt := 31) hx hb d_Mo_letter_27 rfl ?_
    refine p_f Z kc_Mo hP hS hm.1 rfl 0 (by decide) wl_Mo_56 rfl rfl ⟨rfl, rfl⟩ (Nat.le_of_ble_eq_true rfl) rfl d_Mo_letter_31 (fun H locs hP hS => ?_)
    refine lv_aload_n hx hb d_Mo_letter_34 rfl (lv_at hl 0 rfl) ?_
    refine g_i (v := 2) Z kc_Mo hP hm.1 rfl 0 (by decide) wl_Mo_56 rfl rfl la_up_s d_Mo_letter_35 ?_
    refine lv_if_ne (tgt := 56) hx hb d_Mo_letter_38 rfl (fun br38 => ?_) (fun br38 => absurd br38 (by decide))
    refine lv_iconst (v := 0) hx hb d_Mo_letter_56 (by decide) ?_
    exact W.iret hx hb hr (fun t ht hW => ⟨rfl, by rw [ht]; exact cvm hP (rfl), hS.F ht⟩) hS.2.2 d_Mo_letter_57
set_option maxHeartbeats 4000000 in
set_option maxRecDepth 100000 in
theorem c_Mo_letter_0 (l : Launch) (D : va_G) (E : Nat → ClassId) (La : la_L) {m0 : Nat} (hm : isMo E La m0) (mu : la_M) {k n q : Nat} (hk : k < 4) (hn : mu (m0 + 1) k = nI n) (hq : q < n) (h64 : n ≤ 64) : cw l y_Mo_letter b_Mo_letter 3 (some .int) 1 20 D E La [.ref m0, .int (nI k), .int (nI q)] mu (some (.int (mu (m0 + 2) (200 * k + q)))) (la_up mu m0 0 0) := by
  refine cw_begin R_Mo (by decide) rfl (Nat.le_of_ble_eq_true rfl) ?_
  intro p e s m below meth c ls Z hr hlocks hP hS hl
  have hx := Z.1
  have hb := Z.2.1
  have hK : va_K D cls5 (tyE E) s := Z.2.2.2.2.2
  have hl : lv_has ls 3 [(0, .ref m0), (1, .int (nI k)), (2, .int (nI q))] := hl
  refine lv_aload_n hx hb d_Mo_letter_0 rfl (lv_at hl 0 rfl) ?_
  refine lv_iload_n hx hb d_Mo_letter_1 rfl (lv_at hl 1 rfl) ?_
  refine cr_S Z ks_Mo_109 (c_Mo_isSite_y l D E La mu hk) hP [.ref m0] rfl rfl hl.1 (Nat.le_of_ble_eq_true rfl) ⟨by decide, by decide⟩ ⟨Nat.le_refl _, Nat.le_refl _⟩ d_Mo_letter_2 ?_
  refine lv_if_ne (tgt := 12) hx hb d_Mo_letter_5 rfl (fun br5 => ?_) (fun br5 => absurd br5 (by decide))
  refine lv_iload_n hx hb d_Mo_letter_12 rfl (lv_at hl 2 rfl) ?_
  refine lv_if_lt (tgt := 26) hx hb d_Mo_letter_13 rfl (fun br13 => absurd br13 (nI_pos (by omega))) (fun br13 => ?_)
  refine lv_iload_n hx hb d_Mo_letter_16 rfl (lv_at hl 2 rfl) ?_
  refine lv_aload_n hx hb d_Mo_letter_17 rfl (lv_at hl 0 rfl) ?_
  refine g_f (v := .ref (m0 + 1)) Z kc_Mo hP hm.1 rfl 1 (by decide) wl_Mo_7 rfl rfl d_Mo_letter_18 ?_
  refine lv_iload_n hx hb d_Mo_letter_21 rfl (lv_at hl 1 rfl) ?_
  refine la_ialdv (v := (nI n)) hx hb hK hP 0 hm.2.1 rfl rfl k rfl hk (by decide) hn d_Mo_letter_22 ?_
  refine lv_icmp_lt (tgt := 30) hx hb d_Mo_letter_23 rfl (fun br23 => ?_) (fun br23 => absurd (nI_lt hq (by omega)) br23)
  refine lv_iconst (v := 0) hx hb d_Mo_letter_30 (by decide) ?_
  refine p_f Z kc_Mo hP hS hm.1 rfl 0 (by decide) wl_Mo_56 rfl rfl ⟨rfl, rfl⟩ (Nat.le_of_ble_eq_true rfl) rfl d_Mo_letter_31 (fun H locs hP hS => ?_)
  refine lv_aload_n hx hb d_Mo_letter_34 rfl (lv_at hl 0 rfl) ?_
  refine g_i (v := 0) Z kc_Mo hP hm.1 rfl 0 (by decide) wl_Mo_56 rfl rfl la_up_s d_Mo_letter_35 ?_
  refine lv_if_ne (tgt := 56) hx hb d_Mo_letter_38 rfl (fun br38 => absurd (rfl) br38) (fun br38 => ?_)
  refine lv_aload_n hx hb d_Mo_letter_41 rfl (lv_at hl 0 rfl) ?_
  refine g_f (v := .ref (m0 + 2)) Z kc_Mo hP hm.1 rfl 2 (by decide) wl_Mo_13 rfl rfl d_Mo_letter_42 ?_
  refine lv_sipush (v := 200) hx hb d_Mo_letter_45 (by decide) ?_
  refine lv_iload_n hx hb d_Mo_letter_48 rfl (lv_at hl 1 rfl) ?_
  refine lv_imul hx hb d_Mo_letter_49 ?_
  rw [show (200 : Int32) * nI k = nI (200 * k) from pk_mul 200 k]
  refine lv_iload_n hx hb d_Mo_letter_50 rfl (lv_at hl 2 rfl) ?_
  refine lv_iadd hx hb d_Mo_letter_51 ?_
  rw [nI_add]
  refine la_caldv (v := (mu (m0 + 2) (200 * k + q))) hx hb hK hP 1 hm.2.2.1 rfl rfl (200 * k + q) rfl (by omega) (by decide) (congrFun (la_up_n (by omega)) (200 * k + q)) d_Mo_letter_52 ?_
  refine lv_goto (tgt := 57) hx hb d_Mo_letter_53 rfl ?_
  exact W.iret hx hb hr (fun t ht hW => ⟨rfl, by rw [ht]; exact cvm hP (rfl), hS.F ht⟩) hS.2.2 d_Mo_letter_57
set_option maxHeartbeats 4000000 in
set_option maxRecDepth 100000 in
theorem c_Mo_quiet_y (l : Launch) (D : va_G) (E : Nat → ClassId) (La : la_L) {m0 : Nat} (hm : isMo E La m0) (mu : la_M) {w0 w1 w2 w3 w4 w5 : Nat} (hw0 : mu (m0 + 5) 0 = nI w0) (hv0 : w0 < 40) (hw1 : mu (m0 + 5) 1 = nI w1) (hv1 : w1 < 40) (hw2 : mu (m0 + 5) 2 = nI w2) (hv2 : w2 < 40) (hw3 : mu (m0 + 5) 3 = nI w3) (hv3 : w3 < 40) (hw4 : mu (m0 + 5) 4 = nI w4) (hv4 : w4 < 40) (hw5 : mu (m0 + 5) 5 = nI w5) (hv5 : w5 < 40) (hs : 0 + w0 + w1 + w2 + w3 + w4 + w5 = 0) : cw l y_Mo_quiet b_Mo_quiet 3 (some .boolean) 0 0 D E La [.ref m0] mu (some (.int 1)) (la_up mu m0 0 0) := by
  refine cw_begin R_Mo (by decide) rfl (Nat.le_of_ble_eq_true rfl) ?_
  intro p e s m below meth c ls Z hr hlocks hP hS hl
  have hx := Z.1
  have hb := Z.2.1
  have hK : va_K D cls5 (tyE E) s := Z.2.2.2.2.2
  have hl : lv_has ls 3 [(0, .ref m0)] := hl
  refine lv_aload_n hx hb d_Mo_quiet_0 rfl (lv_at hl 0 rfl) ?_
  refine lv_iconst (v := 0) hx hb d_Mo_quiet_1 (by decide) ?_
  refine p_f Z kc_Mo hP hS hm.1 rfl 0 (by decide) wl_Mo_56 rfl rfl ⟨rfl, rfl⟩ (Nat.le_of_ble_eq_true rfl) rfl d_Mo_quiet_2 (fun H locs hP hS => ?_)
  refine lv_iconst (v := 0) hx hb d_Mo_quiet_5 (by decide) ?_
  refine lv_istore_n hx hb d_Mo_quiet_6 rfl hl (by decide) rfl (fun ls hl => ?_)
  have hl : lv_has ls 3 [(1, .int 0), (0, .ref m0)] := hl
  refine lv_iconst (v := 0) hx hb d_Mo_quiet_7 (by decide) ?_
  refine lv_istore_n hx hb d_Mo_quiet_8 rfl hl (by decide) rfl (fun ls hl => ?_)
  have hl : lv_has ls 3 [(2, .int 0), (1, .int 0), (0, .ref m0)] := hl
  refine lv_iload_n hx hb d_Mo_quiet_9 rfl (lv_at hl 0 rfl) ?_
  refine lv_bipush (v := 6) hx hb d_Mo_quiet_10 (by decide) ?_
  refine lv_icmp_ge (tgt := 30) hx hb d_Mo_quiet_12 rfl (fun br12 => absurd br12 (by decide)) (fun br12 => ?_)
  refine lv_iload_n hx hb d_Mo_quiet_15 rfl (lv_at hl 1 rfl) ?_
  refine lv_aload_n hx hb d_Mo_quiet_16 rfl (lv_at hl 2 rfl) ?_
  refine g_f (v := .ref (m0 + 5)) Z kc_Mo hP hm.1 rfl 5 (by decide) wl_Mo_23 rfl rfl d_Mo_quiet_17 ?_
  refine lv_iload_n hx hb d_Mo_quiet_20 rfl (lv_at hl 0 rfl) ?_
  refine la_ialdv (v := (nI w0)) hx hb hK hP 0 hm.2.2.2.2.2.1 rfl rfl 0 rfl (by decide) (by decide) ((congrFun (la_up_n (by omega)) 0).trans hw0) d_Mo_quiet_21 ?_
  refine lv_iadd hx hb d_Mo_quiet_22 ?_
  rw [show (0 : Int32) + nI w0 = nI (0 + w0) from nI_add _ _]
  refine lv_istore_n hx hb d_Mo_quiet_23 rfl hl (by decide) rfl (fun ls hl => ?_)
  have hl : lv_has ls 3 [(1, .int (nI (0 + w0))), (2, .int 0), (0, .ref m0)] := hl
  refine lv_iinc (k := 1) (v := 1) hx hb d_Mo_quiet_24 hl rfl (by decide) (by decide) rfl (fun ls hl => ?_)
  have hl : lv_has ls 3 [(2, .int 1), (1, .int (nI (0 + w0))), (0, .ref m0)] := hl
  refine lv_goto (tgt := 9) hx hb d_Mo_quiet_27 rfl ?_
  refine lv_iload_n hx hb d_Mo_quiet_9 rfl (lv_at hl 0 rfl) ?_
  refine lv_bipush (v := 6) hx hb d_Mo_quiet_10 (by decide) ?_
  refine lv_icmp_ge (tgt := 30) hx hb d_Mo_quiet_12 rfl (fun br12 => absurd br12 (by decide)) (fun br12 => ?_)
  refine lv_iload_n hx hb d_Mo_quiet_15 rfl (lv_at hl 1 rfl) ?_
  refine lv_aload_n hx hb d_Mo_quiet_16 rfl (lv_at hl 2 rfl) ?_
  refine g_f (v := .ref (m0 + 5)) Z kc_Mo hP hm.1 rfl 5 (by decide) wl_Mo_23 rfl rfl d_Mo_quiet_17 ?_
  refine lv_iload_n hx hb d_Mo_quiet_20 rfl (lv_at hl 0 rfl) ?_
  refine la_ialdv (v := (nI w1)) hx hb hK hP 0 hm.2.2.2.2.2.1 rfl rfl 1 rfl (by decide) (by decide) ((la_up_k (by decide)).trans hw1) d_Mo_quiet_21 ?_
  refine lv_iadd hx hb d_Mo_quiet_22 ?_
  rw [show (nI (0 + w0)) + nI w1 = nI (0 + w0 + w1) from nI_add _ _]
  refine lv_istore_n hx hb d_Mo_quiet_23 rfl hl (by decide) rfl (fun ls hl => ?_)
  have hl : lv_has ls 3 [(1, .int (nI (0 + w0 + w1))), (2, .int 1), (0, .ref m0)] := hl
  refine lv_iinc (k := 1) (v := 2) hx hb d_Mo_quiet_24 hl rfl (by decide) (by decide) rfl (fun ls hl => ?_)
  have hl : lv_has ls 3 [(2, .int 2), (1, .int (nI (0 + w0 + w1))), (0, .ref m0)] := hl
  refine lv_goto (tgt := 9) hx hb d_Mo_quiet_27 rfl ?_
  refine lv_iload_n hx hb d_Mo_quiet_9 rfl (lv_at hl 0 rfl) ?_
  refine lv_bipush (v := 6) hx hb d_Mo_quiet_10 (by decide) ?_
  refine lv_icmp_ge (tgt := 30) hx hb d_Mo_quiet_12 rfl (fun br12 => absurd br12 (by decide)) (fun br12 => ?_)
  refine lv_iload_n hx hb d_Mo_quiet_15 rfl (lv_at hl 1 rfl) ?_
  refine lv_aload_n hx hb d_Mo_quiet_16 rfl (lv_at hl 2 rfl) ?_
  refine g_f (v := .ref (m0 + 5)) Z kc_Mo hP hm.1 rfl 5 (by decide) wl_Mo_23 rfl rfl d_Mo_quiet_17 ?_
  refine lv_iload_n hx hb d_Mo_quiet_20 rfl (lv_at hl 0 rfl) ?_
  refine la_ialdv (v := (nI w2)) hx hb hK hP 0 hm.2.2.2.2.2.1 rfl rfl 2 rfl (by decide) (by decide) ((la_up_k (by decide)).trans hw2) d_Mo_quiet_21 ?_
  refine lv_iadd hx hb d_Mo_quiet_22 ?_
  rw [show (nI (0 + w0 + w1)) + nI w2 = nI (0 + w0 + w1 + w2) from nI_add _ _]
  refine lv_istore_n hx hb d_Mo_quiet_23 rfl hl (by decide) rfl (fun ls hl => ?_)
  have hl : lv_has ls 3 [(1, .int (nI (0 + w0 + w1 + w2))), (2, .int 2), (0, .ref m0)] := hl
  refine lv_iinc (k := 1) (v := 3) hx hb d_Mo_quiet_24 hl rfl (by decide) (by decide) rfl (fun ls hl => ?_)
  have hl : lv_has ls 3 [(2, .int 3), (1, .int (nI (0 + w0 + w1 + w2))), (0, .ref m0)] := hl
  refine lv_goto (tgt := 9) hx hb d_Mo_quiet_27 rfl ?_
  refine lv_iload_n hx hb d_Mo_quiet_9 rfl (lv_at hl 0 rfl) ?_
  refine lv_bipush (v := 6) hx hb d_Mo_quiet_10 (by decide) ?_
  refine lv_icmp_ge (tgt := 30) hx hb d_Mo_quiet_12 rfl (fun br12 => absurd br12 (by decide)) (fun br12 => ?_)
  refine lv_iload_n hx hb d_Mo_quiet_15 rfl (lv_at hl 1 rfl) ?_
  refine lv_aload_n hx hb d_Mo_quiet_16 rfl (lv_at hl 2 rfl) ?_
  refine g_f (v := .ref (m0 + 5)) Z kc_Mo hP hm.1 rfl 5 (by decide) wl_Mo_23 rfl rfl d_Mo_quiet_17 ?_
  refine lv_iload_n hx hb d_Mo_quiet_20 rfl (lv_at hl 0 rfl) ?_
  refine la_ialdv (v := (nI w3)) hx hb hK hP 0 hm.2.2.2.2.2.1 rfl rfl 3 rfl (by decide) (by decide) ((la_up_k (by decide)).trans hw3) d_Mo_quiet_21 ?_
  refine lv_iadd hx hb d_Mo_quiet_22 ?_
  rw [show (nI (0 + w0 + w1 + w2)) + nI w3 = nI (0 + w0 + w1 + w2 + w3) from nI_add _ _]
  refine lv_istore_n hx hb d_Mo_quiet_23 rfl hl (by decide) rfl (fun ls hl => ?_)
  have hl : lv_has ls 3 [(1, .int (nI (0 + w0 + w1 + w2 + w3))), (2, .int 3), (0, .ref m0)] := hl
  refine lv_iinc (k := 1) (v := 4) hx hb d_Mo_quiet_24 hl rfl (by decide) (by decide) rfl (fun ls hl => ?_)
  have hl : lv_has ls 3 [(2, .int 4), (1, .int (nI (0 + w0 + w1 + w2 + w3))), (0, .ref m0)] := hl
  refine lv_goto (tgt := 9) hx hb d_Mo_quiet_27 rfl ?_
  refine lv_iload_n hx hb d_Mo_quiet_9 rfl (lv_at hl 0 rfl) ?_
  refine lv_bipush (v := 6) hx hb d_Mo_quiet_10 (by decide) ?_
  refine lv_icmp_ge (tgt := 30) hx hb d_Mo_quiet_12 rfl (fun br12 => absurd br12 (by decide)) (fun br12 => ?_)
  refine lv_iload_n hx hb d_Mo_quiet_15 rfl (lv_at hl 1 rfl) ?_
  refine lv_aload_n hx hb d_Mo_quiet_16 rfl (lv_at hl 2 rfl) ?_
  refine g_f (v := .ref (m0 + 5)) Z kc_Mo hP hm.1 rfl 5 (by decide) wl_Mo_23 rfl rfl d_Mo_quiet_17 ?_
  refine lv_iload_n hx hb d_Mo_quiet_20 rfl (lv_at hl 0 rfl) ?_
  refine la_ialdv (v := (nI w4)) hx hb hK hP 0 hm.2.2.2.2.2.1 rfl rfl 4 rfl (by decide) (by decide) ((la_up_k (by decide)).trans hw4) d_Mo_quiet_21 ?_
  refine lv_iadd hx hb d_Mo_quiet_22 ?_
  rw [show (nI (0 + w0 + w1 + w2 + w3)) + nI w4 = nI (0 + w0 + w1 + w2 + w3 + w4) from nI_add _ _]
  refine lv_istore_n hx hb d_Mo_quiet_23 rfl hl (by decide) rfl (fun ls hl => ?_)
  have hl : lv_has ls 3 [(1, .int (nI (0 + w0 + w1 + w2 + w3 + w4))), (2, .int 4), (0, .ref m0)] := hl
  refine lv_iinc (k := 1) (v := 5) hx hb d_Mo_quiet_24 hl rfl (by decide) (by decide) rfl (fun ls hl => ?_)
  have hl : lv_has ls 3 [(2, .int 5), (1, .int (nI (0 + w0 + w1 + w2 + w3 + w4))), (0, .ref m0)] := hl
  refine lv_goto (tgt := 9) hx hb d_Mo_quiet_27 rfl ?_
  refine lv_iload_n hx hb d_Mo_quiet_9 rfl (lv_at hl 0 rfl) ?_
  refine lv_bipush (v := 6) hx hb d_Mo_quiet_10 (by decide) ?_
  refine lv_icmp_ge (tgt := 30) hx hb d_Mo_quiet_12 rfl (fun br12 => absurd br12 (by decide)) (fun br12 => ?_)
  refine lv_iload_n hx hb d_Mo_quiet_15 rfl (lv_at hl 1 rfl) ?_
  refine lv_aload_n hx hb d_Mo_quiet_16 rfl (lv_at hl 2 rfl) ?_
  refine g_f (v := .ref (m0 + 5)) Z kc_Mo hP hm.1 rfl 5 (by decide) wl_Mo_23 rfl rfl d_Mo_quiet_17 ?_
  refine lv_iload_n hx hb d_Mo_quiet_20 rfl (lv_at hl 0 rfl) ?_
  refine la_ialdv (v := (nI w5)) hx hb hK hP 0 hm.2.2.2.2.2.1 rfl rfl 5 rfl (by decide) (by decide) ((la_up_k (by decide)).trans hw5) d_Mo_quiet_21 ?_
  refine lv_iadd hx hb d_Mo_quiet_22 ?_
  rw [show (nI (0 + w0 + w1 + w2 + w3 + w4)) + nI w5 = nI (0 + w0 + w1 + w2 + w3 + w4 + w5) from nI_add _ _]
  refine lv_istore_n hx hb d_Mo_quiet_23 rfl hl (by decide) rfl (fun ls hl => ?_)
  have hl : lv_has ls 3 [(1, .int (nI (0 + w0 + w1 + w2 + w3 + w4 + w5))), (2, .int 5), (0, .ref m0)] := hl
  refine lv_iinc (k := 1) (v := 6) hx hb d_Mo_quiet_24 hl rfl (by decide) (by decide) rfl (fun ls hl => ?_)
  have hl : lv_has ls 3 [(2, .int 6), (1, .int (nI (0 + w0 + w1 + w2 + w3 + w4 + w5))), (0, .ref m0)] := hl
  refine lv_goto (tgt := 9) hx hb d_Mo_quiet_27 rfl ?_
  refine lv_iload_n hx hb d_Mo_quiet_9 rfl (lv_at hl 0 rfl) ?_
  refine lv_bipush (v := 6) hx hb d_Mo_quiet_10 (by decide) ?_
  refine lv_icmp_ge (tgt := 30) hx hb d_Mo_quiet_12 rfl (fun br12 => ?_) (fun br12 => absurd (by decide) br12)
  refine lv_iload_n hx hb d_Mo_quiet_30 rfl (lv_at hl 1 rfl) ?_
  refine lv_if_ne (tgt := 38) hx hb d_Mo_quiet_31 rfl (fun br31 => absurd (by rw [hs]; rfl) br31) (fun br31 => ?_)
  refine lv_iconst (v := 1) hx hb d_Mo_quiet_34 (by decide) ?_
  refine lv_goto (tgt := 39) hx hb d_Mo_quiet_35 rfl ?_
  exact W.zret hx hb hr (by decide) (fun t ht hW => ⟨rfl, by rw [ht]; exact cvm hP (rfl), hS.F ht⟩) hS.2.2 d_Mo_quiet_39
set_option maxHeartbeats 4000000 in
set_option maxRecDepth 100000 in
theorem c_Mo_quiet_n (l : Launch) (D : va_G) (E : Nat → ClassId) (La : la_L) {m0 : Nat} (hm : isMo E La m0) (mu : la_M) {w0 w1 w2 w3 w4 w5 : Nat} (hw0 : mu (m0 + 5) 0 = nI w0) (hv0 : w0 < 40) (hw1 : mu (m0 + 5) 1 = nI w1) (hv1 : w1 < 40) (hw2 : mu (m0 + 5) 2 = nI w2) (hv2 : w2 < 40) (hw3 : mu (m0 + 5) 3 = nI w3) (hv3 : w3 < 40) (hw4 : mu (m0 + 5) 4 = nI w4) (hv4 : w4 < 40) (hw5 : mu (m0 + 5) 5 = nI w5) (hv5 : w5 < 40) (hs : ¬ 0 + w0 + w1 + w2 + w3 + w4 + w5 = 0) : cw l y_Mo_quiet b_Mo_quiet 3 (some .boolean) 0 0 D E La [.ref m0] mu (some (.int 0)) (la_up mu m0 0 0) := by
  refine cw_begin R_Mo (by decide) rfl (Nat.le_of_ble_eq_true rfl) ?_
  intro p e s m below meth c ls Z hr hlocks hP hS hl
  have hx := Z.1
  have hb := Z.2.1
  have hK : va_K D cls5 (tyE E) s := Z.2.2.2.2.2
  have hl : lv_has ls 3 [(0, .ref m0)] := hl
  refine lv_aload_n hx hb d_Mo_quiet_0 rfl (lv_at hl 0 rfl) ?_
  refine lv_iconst (v := 0) hx hb d_Mo_quiet_1 (by decide) ?_
  refine p_f Z kc_Mo hP hS hm.1 rfl 0 (by decide) wl_Mo_56 rfl rfl ⟨rfl, rfl⟩ (Nat.le_of_ble_eq_true rfl) rfl d_Mo_quiet_2 (fun H locs hP hS => ?_)
  refine lv_iconst (v := 0) hx hb d_Mo_quiet_5 (by decide) ?_
  refine lv_istore_n hx hb d_Mo_quiet_6 rfl hl (by decide) rfl (fun ls hl => ?_)
  have hl : lv_has ls 3 [(1, .int 0), (0, .ref m0)] := hl
  refine lv_iconst (v := 0) hx hb d_Mo_quiet_7 (by decide) ?_
  refine lv_istore_n hx hb d_Mo_quiet_8 rfl hl (by decide) rfl (fun ls hl => ?_)
  have hl : lv_has ls 3 [(2, .int 0), (1, .int 0), (0, .ref m0)] := hl
  refine lv_iload_n hx hb d_Mo_quiet_9 rfl (lv_at hl 0 rfl) ?_
  refine lv_bipush (v := 6) hx hb d_Mo_quiet_10 (by decide) ?_
  refine lv_icmp_ge (tgt := 30) hx hb d_Mo_quiet_12 rfl (fun br12 => absurd br12 (by decide)) (fun br12 => ?_)
  refine lv_iload_n hx hb d_Mo_quiet_15 rfl (lv_at hl 1 rfl) ?_
  refine lv_aload_n hx hb d_Mo_quiet_16 rfl (lv_at hl 2 rfl) ?_
  refine g_f (v := .ref (m0 + 5)) Z kc_Mo hP hm.1 rfl 5 (by decide) wl_Mo_23 rfl rfl d_Mo_quiet_17 ?_
  refine lv_iload_n hx hb d_Mo_quiet_20 rfl (lv_at hl 0 rfl) ?_
  refine la_ialdv (v := (nI w0)) hx hb hK hP 0 hm.2.2.2.2.2.1 rfl rfl 0 rfl (by decide) (by decide) ((congrFun (la_up_n (by omega)) 0).trans hw0) d_Mo_quiet_21 ?_
  refine lv_iadd hx hb d_Mo_quiet_22 ?_
  rw [show (0 : Int32) + nI w0 = nI (0 + w0) from nI_add _ _]
  refine lv_istore_n hx hb d_Mo_quiet_23 rfl hl (by decide) rfl (fun ls hl => ?_)
  have hl : lv_has ls 3 [(1, .int (nI (0 + w0))), (2, .int 0), (0, .ref m0)] := hl
  refine lv_iinc (k := 1) (v := 1) hx hb d_Mo_quiet_24 hl rfl (by decide) (by decide) rfl (fun ls hl => ?_)
  have hl : lv_has ls 3 [(2, .int 1), (1, .int (nI (0 + w0))), (0, .ref m0)] := hl
  refine lv_goto (tgt := 9) hx hb d_Mo_quiet_27 rfl ?_
  refine lv_iload_n hx hb d_Mo_quiet_9 rfl (lv_at hl 0 rfl) ?_
  refine lv_bipush (v := 6) hx hb d_Mo_quiet_10 (by decide) ?_
  refine lv_icmp_ge (tgt := 30) hx hb d_Mo_quiet_12 rfl (fun br12 => absurd br12 (by decide)) (fun br12 => ?_)
  refine lv_iload_n hx hb d_Mo_quiet_15 rfl (lv_at hl 1 rfl) ?_
  refine lv_aload_n hx hb d_Mo_quiet_16 rfl (lv_at hl 2 rfl) ?_
  refine g_f (v := .ref (m0 + 5)) Z kc_Mo hP hm.1 rfl 5 (by decide) wl_Mo_23 rfl rfl d_Mo_quiet_17 ?_
  refine lv_iload_n hx hb d_Mo_quiet_20 rfl (lv_at hl 0 rfl) ?_
  refine la_ialdv (v := (nI w1)) hx hb hK hP 0 hm.2.2.2.2.2.1 rfl rfl 1 rfl (by decide) (by decide) ((la_up_k (by decide)).trans hw1) d_Mo_quiet_21 ?_
  refine lv_iadd hx hb d_Mo_quiet_22 ?_
  rw [show (nI (0 + w0)) + nI w1 = nI (0 + w0 + w1) from nI_add _ _]
  refine lv_istore_n hx hb d_Mo_quiet_23 rfl hl (by decide) rfl (fun ls hl => ?_)
  have hl : lv_has ls 3 [(1, .int (nI (0 + w0 + w1))), (2, .int 1), (0, .ref m0)] := hl
  refine lv_iinc (k := 1) (v := 2) hx hb d_Mo_quiet_24 hl rfl (by decide) (by decide) rfl (fun ls hl => ?_)
  have hl : lv_has ls 3 [(2, .int 2), (1, .int (nI (0 + w0 + w1))), (0, .ref m0)] := hl
  refine lv_goto (tgt := 9) hx hb d_Mo_quiet_27 rfl ?_
  refine lv_iload_n hx hb d_Mo_quiet_9 rfl (lv_at hl 0 rfl) ?_
  refine lv_bipush (v := 6) hx hb d_Mo_quiet_10 (by decide) ?_
  refine lv_icmp_ge (tgt := 30) hx hb d_Mo_quiet_12 rfl (fun br12 => absurd br12 (by decide)) (fun br12 => ?_)
  refine lv_iload_n hx hb d_Mo_quiet_15 rfl (lv_at hl 1 rfl) ?_
  refine lv_aload_n hx hb d_Mo_quiet_16 rfl (lv_at hl 2 rfl) ?_
  refine g_f (v := .ref (m0 + 5)) Z kc_Mo hP hm.1 rfl 5 (by decide) wl_Mo_23 rfl rfl d_Mo_quiet_17 ?_
  refine lv_iload_n hx hb d_Mo_quiet_20 rfl (lv_at hl 0 rfl) ?_
  refine la_ialdv (v := (nI w2)) hx hb hK hP 0 hm.2.2.2.2.2.1 rfl rfl 2 rfl (by decide) (by decide) ((la_up_k (by decide)).trans hw2) d_Mo_quiet_21 ?_
  refine lv_iadd hx hb d_Mo_quiet_22 ?_
  rw [show (nI (0 + w0 + w1)) + nI w2 = nI (0 + w0 + w1 + w2) from nI_add _ _]
  refine lv_istore_n hx hb d_Mo_quiet_23 rfl hl (by decide) rfl (fun ls hl => ?_)
  have hl : lv_has ls 3 [(1, .int (nI (0 + w0 + w1 + w2))), (2, .int 2), (0, .ref m0)] := hl
  refine lv_iinc (k := 1) (v := 3) hx hb d_Mo_quiet_24 hl rfl (by decide) (by decide) rfl (fun ls hl => ?_)
  have hl : lv_has ls 3 [(2, .int 3), (1, .int (nI (0 + w0 + w1 + w2))), (0, .ref m0)] := hl
  refine lv_goto (tgt := 9) hx hb d_Mo_quiet_27 rfl ?_
  refine lv_iload_n hx hb d_Mo_quiet_9 rfl (lv_at hl 0 rfl) ?_
  refine lv_bipush (v := 6) hx hb d_Mo_quiet_10 (by decide) ?_
  refine lv_icmp_ge (tgt := 30) hx hb d_Mo_quiet_12 rfl (fun br12 => absurd br12 (by decide)) (fun br12 => ?_)
  refine lv_iload_n hx hb d_Mo_quiet_15 rfl (lv_at hl 1 rfl) ?_
  refine lv_aload_n hx hb d_Mo_quiet_16 rfl (lv_at hl 2 rfl) ?_
  refine g_f (v := .ref (m0 + 5)) Z kc_Mo hP hm.1 rfl 5 (by decide) wl_Mo_23 rfl rfl d_Mo_quiet_17 ?_
  refine lv_iload_n hx hb d_Mo_quiet_20 rfl (lv_at hl 0 rfl) ?_
  refine la_ialdv (v := (nI w3)) hx hb hK hP 0 hm.2.2.2.2.2.1 rfl rfl 3 rfl (by decide) (by decide) ((la_up_k (by decide)).trans hw3) d_Mo_quiet_21 ?_
  refine lv_iadd hx hb d_Mo_quiet_22 ?_
  rw [show (nI (0 + w0 + w1 + w2)) + nI w3 = nI (0 + w0 + w1 + w2 + w3) from nI_add _ _]
  refine lv_istore_n hx hb d_Mo_quiet_23 rfl hl (by decide) rfl (fun ls hl => ?_)
  have hl : lv_has ls 3 [(1, .int (nI (0 + w0 + w1 + w2 + w3))), (2, .int 3), (0, .ref m0)] := hl
  refine lv_iinc (k := 1) (v := 4) hx hb d_Mo_quiet_24 hl rfl (by decide) (by decide) rfl (fun ls hl => ?_)
  have hl : lv_has ls 3 [(2, .int 4), (1, .int (nI (0 + w0 + w1 + w2 + w3))), (0, .ref m0)] := hl
  refine lv_goto (tgt := 9) hx hb d_Mo_quiet_27 rfl ?_
  refine lv_iload_n hx hb d_Mo_quiet_9 rfl (lv_at hl 0 rfl) ?_
  refine lv_bipush (v := 6) hx hb d_Mo_quiet_10 (by decide) ?_
  refine lv_icmp_ge (tgt := 30) hx hb d_Mo_quiet_12 rfl (fun br12 => absurd br12 (by decide)) (fun br12 => ?_)
  refine lv_iload_n hx hb d_Mo_quiet_15 rfl (lv_at hl 1 rfl) ?_
  refine lv_aload_n hx hb d_Mo_quiet_16 rfl (lv_at hl 2 rfl) ?_
  refine g_f (v := .ref (m0 + 5)) Z kc_Mo hP hm.1 rfl 5 (by decide) wl_Mo_23 rfl rfl d_Mo_quiet_17 ?_
  refine lv_iload_n hx hb d_Mo_quiet_20 rfl (lv_at hl 0 rfl) ?_
  refine la_ialdv (v := (nI w4)) hx hb hK hP 0 hm.2.2.2.2.2.1 rfl rfl 4 rfl (by decide) (by decide) ((la_up_k (by decide)).trans hw4) d_Mo_quiet_21 ?_
  refine lv_iadd hx hb d_Mo_quiet_22 ?_
  rw [show (nI (0 + w0 + w1 + w2 + w3)) + nI w4 = nI (0 + w0 + w1 + w2 + w3 + w4) from nI_add _ _]
  refine lv_istore_n hx hb d_Mo_quiet_23 rfl hl (by decide) rfl (fun ls hl => ?_)
  have hl : lv_has ls 3 [(1, .int (nI (0 + w0 + w1 + w2 + w3 + w4))), (2, .int 4), (0, .ref m0)] := hl
  refine lv_iinc (k := 1) (v := 5) hx hb d_Mo_quiet_24 hl rfl (by decide) (by decide) rfl (fun ls hl => ?_)
  have hl : lv_has ls 3 [(2, .int 5), (1, .int (nI (0 + w0 + w1 + w2 + w3 + w4))), (0, .ref m0)] := hl
  refine lv_goto (tgt := 9) hx hb d_Mo_quiet_27 rfl ?_
  refine lv_iload_n hx hb d_Mo_quiet_9 rfl (lv_at hl 0 rfl) ?_
  refine lv_bipush (v := 6) hx hb d_Mo_quiet_10 (by decide) ?_
  refine lv_icmp_ge (tgt := 30) hx hb d_Mo_quiet_12 rfl (fun br12 => absurd br12 (by decide)) (fun br12 => ?_)
  refine lv_iload_n hx hb d_Mo_quiet_15 rfl (lv_at hl 1 rfl) ?_
  refine lv_aload_n hx hb d_Mo_quiet_16 rfl (lv_at hl 2 rfl) ?_
  refine g_f (v := .ref (m0 + 5)) Z kc_Mo hP hm.1 rfl 5 (by decide) wl_Mo_23 rfl rfl d_Mo_quiet_17 ?_
  refine lv_iload_n hx hb d_Mo_quiet_20 rfl (lv_at hl 0 rfl) ?_
  refine la_ialdv (v := (nI w5)) hx hb hK hP 0 hm.2.2.2.2.2.1 rfl rfl 5 rfl (by decide) (by decide) ((la_up_k (by decide)).trans hw5) d_Mo_quiet_21 ?_
  refine lv_iadd hx hb d_Mo_quiet_22 ?_
  rw [show (nI (0 + w0 + w1 + w2 + w3 + w4)) + nI w5 = nI (0 + w0 + w1 + w2 + w3 + w4 + w5) from nI_add _ _]
  refine lv_istore_n hx hb d_Mo_quiet_23 rfl hl (by decide) rfl (fun ls hl => ?_)
  have hl : lv_has ls 3 [(1, .int (nI (0 + w0 + w1 + w2 + w3 + w4 + w5))), (2, .int 5), (0, .ref m0)] := hl
  refine lv_iinc (k := 1) (v := 6) hx hb d_Mo_quiet_24 hl rfl (by decide) (by decide) rfl (fun ls hl => ?_)
  have hl : lv_has ls 3 [(2, .int 6), (1, .int (nI (0 + w0 + w1 + w2 + w3 + w4 + w5))), (0, .ref m0)] := hl
  refine lv_goto (tgt := 9) hx hb d_Mo_quiet_27 rfl ?_
  refine lv_iload_n hx hb d_Mo_quiet_9 rfl (lv_at hl 0 rfl) ?_
  refine lv_bipush (v := 6) hx hb d_Mo_quiet_10 (by decide) ?_
  refine lv_icmp_ge (tgt := 30) hx hb d_Mo_quiet_12 rfl (fun br12 => ?_) (fun br12 => absurd (by decide) br12)
  refine lv_iload_n hx hb d_Mo_quiet_30 rfl (lv_at hl 1 rfl) ?_
  refine lv_if_ne (tgt := 38) hx hb d_Mo_quiet_31 rfl (fun br31 => ?_) (fun br31 => absurd br31 (nI_ne0 (by omega) (by omega)))
  refine lv_iconst (v := 0) hx hb d_Mo_quiet_38 (by decide) ?_
  exact W.zret hx hb hr (by decide) (fun t ht hW => ⟨rfl, by rw [ht]; exact cvm hP (rfl), hS.F ht⟩) hS.2.2 d_Mo_quiet_39
