/-! EditRelay$Change: kind 0, place 1, letter 2, origin 3 (written by wip/whole/p10.py) -/
theorem cvm {D : va_G} {La : la_L} {mu mu1 : la_M} {H : Heap} (h : la_P D cls5 La mu H) (e : mu = mu1) : la_P D cls5 La mu1 H := e ▸ h
def ch_copy (mu : la_M) (d s : Nat) : la_M := la_up (la_up (la_up (la_up mu d 0 (mu s 0)) d 1 (mu s 1)) d 2 (mu s 2)) d 3 (mu s 3)
def ch_ins (mu : la_M) (h : Nat) (q o : Int32) : la_M := if q < mu h 1 ∨ (q = mu h 1 ∧ (mu h 0 = 1 ∨ o < mu h 3)) then la_up mu h 1 (mu h 1 + 1) else mu
def ch_del (mu : la_M) (h : Nat) (q : Int32) : la_M := if q < mu h 1 then la_up mu h 1 (mu h 1 - 1) else if q = mu h 1 ∧ mu h 0 = 1 then la_up (la_up mu h 0 2) h 1 0 else mu
def ch_fit (mu : la_M) (h : Nat) (k q o : Int32) : la_M := if mu h 0 = 2 then mu else if k = 0 then ch_ins mu h q o else if k = 1 then ch_del mu h q else mu
def ch_both (mu : la_M) (a b : Nat) : la_M := ch_fit (ch_fit mu a (mu b 0) (mu b 1) (mu b 3)) b (mu a 0) (mu a 1) (ch_fit mu a (mu b 0) (mu b 1) (mu b 3) a 3)
set_option maxHeartbeats 4000000 in
set_option maxRecDepth 100000 in
theorem c_Ch_copyFrom (l : Launch) (D : va_G) (E : Nat → ClassId) (La : la_L) {d0 s0 : Nat} (hd : La d0 = some sh_Ch) (hs : La s0 = some sh_Ch) (mu : la_M) (hc : chz (mu s0 2)) : cw l y_Ch_copyFrom b_Ch_copyFrom 2 none 0 0 D E La [.ref d0, .ref s0] mu none (ch_copy mu d0 s0) := by
  refine cw_begin R_Ch (by decide) rfl (Nat.le_of_ble_eq_true rfl) ?_
  intro p e s m below meth c ls Z hr hlocks hP hS hl
  have hx := Z.1
  have hb := Z.2.1
  have hK : va_K D cls5 (tyE E) s := Z.2.2.2.2.2
  have hl : lv_has ls 2 [(0, .ref d0), (1, .ref s0)] := hl
  refine lv_aload_n hx hb d_Ch_copyFrom_0 rfl (lv_at hl 0 rfl) ?_
  refine lv_aload_n hx hb d_Ch_copyFrom_1 rfl (lv_at hl 1 rfl) ?_
  refine g_f Z kc_Ch hP hs rfl 0 (by decide) wl_Ch_9 rfl rfl d_Ch_copyFrom_2 ?_
  refine p_f Z kc_Ch hP hS hd rfl 0 (by decide) wl_Ch_9 rfl rfl ⟨rfl, rfl⟩ (Nat.le_of_ble_eq_true rfl) rfl d_Ch_copyFrom_5 (fun H locs hP hS => ?_)
  refine lv_aload_n hx hb d_Ch_copyFrom_8 rfl (lv_at hl 0 rfl) ?_
  refine lv_aload_n hx hb d_Ch_copyFrom_9 rfl (lv_at hl 1 rfl) ?_
  refine g_i (v := (mu s0 1)) Z kc_Ch hP hs rfl 1 (by decide) wl_Ch_15 rfl rfl (la_up_k (by decide)) d_Ch_copyFrom_10 ?_
  refine p_f Z kc_Ch hP hS hd rfl 1 (by decide) wl_Ch_15 rfl rfl ⟨rfl, rfl⟩ (Nat.le_of_ble_eq_true rfl) rfl d_Ch_copyFrom_13 (fun H locs hP hS => ?_)
  refine lv_aload_n hx hb d_Ch_copyFrom_16 rfl (lv_at hl 0 rfl) ?_
  refine lv_aload_n hx hb d_Ch_copyFrom_17 rfl (lv_at hl 1 rfl) ?_
  refine g_i (v := (mu s0 2)) Z kc_Ch hP hs rfl 2 (by decide) wl_Ch_18 rfl rfl ((la_up_k (by decide)).trans (la_up_k (by decide))) d_Ch_copyFrom_18 ?_
  refine p_f Z kc_Ch hP hS hd rfl 2 (by decide) wl_Ch_18 rfl rfl hc (Nat.le_of_ble_eq_true rfl) rfl d_Ch_copyFrom_21 (fun H locs hP hS => ?_)
  refine lv_aload_n hx hb d_Ch_copyFrom_24 rfl (lv_at hl 0 rfl) ?_
  refine lv_aload_n hx hb d_Ch_copyFrom_25 rfl (lv_at hl 1 rfl) ?_
  refine g_i (v := (mu s0 3)) Z kc_Ch hP hs rfl 3 (by decide) wl_Ch_22 rfl rfl ((la_up_k (by decide)).trans ((la_up_k (by decide)).trans (la_up_k (by decide)))) d_Ch_copyFrom_26 ?_
  refine p_f Z kc_Ch hP hS hd rfl 3 (by decide) wl_Ch_22 rfl rfl ⟨rfl, rfl⟩ (Nat.le_of_ble_eq_true rfl) rfl d_Ch_copyFrom_29 (fun H locs hP hS => ?_)
  exact W.vret hx hb hr (fun t ht hW => ⟨rfl, by rw [ht]; exact cvm hP (rfl), hS.F ht⟩) hS.2.2 d_Ch_copyFrom_32
set_option maxHeartbeats 4000000 in
set_option maxRecDepth 100000 in
theorem c_Ch_fitToInsert (l : Launch) (D : va_G) (E : Nat → ClassId) (La : la_L) {h : Nat} (hh : La h = some sh_Ch) (mu : la_M) (q o : Int32) : cw l y_Ch_fitToInsert b_Ch_fitToInsert 4 none 0 0 D E La [.ref h, .int q, .int o] mu none (ch_ins mu h q o) := by
  refine cw_begin R_Ch (by decide) rfl (Nat.le_of_ble_eq_true rfl) ?_
  intro p e s m below meth c ls Z hr hlocks hP hS hl
  have hx := Z.1
  have hb := Z.2.1
  have hK : va_K D cls5 (tyE E) s := Z.2.2.2.2.2
  have hl : lv_has ls 4 [(0, .ref h), (1, .int q), (2, .int o)] := hl
  refine lv_aload_n hx hb d_Ch_fitToInsert_0 rfl (lv_at hl 0 rfl) ?_
  refine g_f Z kc_Ch hP hh rfl 0 (by decide) wl_Ch_9 rfl rfl d_Ch_fitToInsert_1 ?_
  refine lv_iconst (v := 1) hx hb d_Ch_fitToInsert_4 (by decide) ?_
  refine lv_icmp_eq (tgt := 16) hx hb d_Ch_fitToInsert_5 rfl (fun br5 => ?_) (fun br5 => ?_)
  · skip
    refine lv_iconst (v := 1) hx hb d_Ch_fitToInsert_16 (by decide) ?_
    refine lv_goto (tgt := 21) hx hb d_Ch_fitToInsert_17 rfl ?_
    refine lv_istore_n hx hb d_Ch_fitToInsert_21 rfl hl (by decide) rfl (fun ls hl => ?_)
    have hl : lv_has ls 4 [(3, .int 1), (0, .ref h), (1, .int q), (2, .int o)] := hl
    refine lv_iload_n hx hb d_Ch_fitToInsert_22 rfl (lv_at hl 2 rfl) ?_
    refine lv_aload_n hx hb d_Ch_fitToInsert_23 rfl (lv_at hl 1 rfl) ?_
    refine g_f Z kc_Ch hP hh rfl 1 (by decide) wl_Ch_15 rfl rfl d_Ch_fitToInsert_24 ?_
    refine lv_icmp_lt (tgt := 42) hx hb d_Ch_fitToInsert_27 rfl (fun br27 => ?_) (fun br27 => ?_)
    · skip
      refine lv_aload_n hx hb d_Ch_fitToInsert_42 rfl (lv_at hl 1 rfl) ?_
      refine lv_dup hx hb d_Ch_fitToInsert_43 rfl ?_
      refine g_f Z kc_Ch hP hh rfl 1 (by decide) wl_Ch_15 rfl rfl d_Ch_fitToInsert_44 ?_
      refine lv_iconst (v := 1) hx hb d_Ch_fitToInsert_47 (by decide) ?_
      refine lv_iadd hx hb d_Ch_fitToInsert_48 ?_
      refine p_f Z kc_Ch hP hS hh rfl 1 (by decide) wl_Ch_15 rfl rfl ⟨rfl, rfl⟩ (Nat.le_of_ble_eq_true rfl) rfl d_Ch_fitToInsert_49 (fun H locs hP hS => ?_)
      exact W.vret hx hb hr (fun t ht hW => ⟨rfl, by rw [ht]; exact cvm hP (by simp [ch_ins, br5, br27]), hS.F ht⟩) hS.2.2 d_Ch_fitToInsert_52
    · skip
      refine lv_iload_n hx hb d_Ch_fitToInsert_30 rfl (lv_at hl 2 rfl) ?_
      refine lv_aload_n hx hb d_Ch_fitToInsert_31 rfl (lv_at hl 1 rfl) ?_
      refine g_f Z kc_Ch hP hh rfl 1 (by decide) wl_Ch_15 rfl rfl d_Ch_fitToInsert_32 ?_
      refine lv_icmp_ne (tgt := 52) hx hb d_Ch_fitToInsert_35 rfl (fun br35 => ?_) (fun br35 => ?_)
      · skip
        exact W.vret hx hb hr (fun t ht hW => ⟨rfl, by rw [ht]; exact cvm hP (by simp [ch_ins, br5, br27, br35]), hS.F ht⟩) hS.2.2 d_Ch_fitToInsert_52
      · skip
        refine lv_iload_n hx hb d_Ch_fitToInsert_38 rfl (lv_at hl 0 rfl) ?_
        refine lv_if_eq (tgt := 52) hx hb d_Ch_fitToInsert_39 rfl (fun br39 => absurd br39 (by decide)) (fun br39 => ?_)
        refine lv_aload_n hx hb d_Ch_fitToInsert_42 rfl (lv_at hl 1 rfl) ?_
        refine lv_dup hx hb d_Ch_fitToInsert_43 rfl ?_
        refine g_f Z kc_Ch hP hh rfl 1 (by decide) wl_Ch_15 rfl rfl d_Ch_fitToInsert_44 ?_
        refine lv_iconst (v := 1) hx hb d_Ch_fitToInsert_47 (by decide) ?_
        refine lv_iadd hx hb d_Ch_fitToInsert_48 ?_
        refine p_f Z kc_Ch hP hS hh rfl 1 (by decide) wl_Ch_15 rfl rfl ⟨rfl, rfl⟩ (Nat.le_of_ble_eq_true rfl) rfl d_Ch_fitToInsert_49 (fun H locs hP hS => ?_)
        exact W.vret hx hb hr (fun t ht hW => ⟨rfl, by rw [ht]; exact cvm hP (by simp [ch_ins, br5, br27, br35, br39]), hS.F ht⟩) hS.2.2 d_Ch_fitToInsert_52
  · skip
    refine lv_iload_n hx hb d_Ch_fitToInsert_8 rfl (lv_at hl 2 rfl) ?_
    refine lv_aload_n hx hb d_Ch_fitToInsert_9 rfl (lv_at hl 0 rfl) ?_
    refine g_f Z kc_Ch hP hh rfl 3 (by decide) wl_Ch_22 rfl rfl d_Ch_fitToInsert_10 ?_
    refine lv_icmp_ge (tgt := 20) hx hb d_Ch_fitToInsert_13 rfl (fun br13 => ?_) (fun br13 => ?_)
    · skip
      refine lv_iconst (v := 0) hx hb d_Ch_fitToInsert_20 (by decide) ?_
      refine lv_istore_n hx hb d_Ch_fitToInsert_21 rfl hl (by decide) rfl (fun ls hl => ?_)
      have hl : lv_has ls 4 [(3, .int 0), (0, .ref h), (1, .int q), (2, .int o)] := hl
      refine lv_iload_n hx hb d_Ch_fitToInsert_22 rfl (lv_at hl 2 rfl) ?_
      refine lv_aload_n hx hb d_Ch_fitToInsert_23 rfl (lv_at hl 1 rfl) ?_
      refine g_f Z kc_Ch hP hh rfl 1 (by decide) wl_Ch_15 rfl rfl d_Ch_fitToInsert_24 ?_
      refine lv_icmp_lt (tgt := 42) hx hb d_Ch_fitToInsert_27 rfl (fun br27 => ?_) (fun br27 => ?_)
      · skip
        refine lv_aload_n hx hb d_Ch_fitToInsert_42 rfl (lv_at hl 1 rfl) ?_
        refine lv_dup hx hb d_Ch_fitToInsert_43 rfl ?_
        refine g_f Z kc_Ch hP hh rfl 1 (by decide) wl_Ch_15 rfl rfl d_Ch_fitToInsert_44 ?_
        refine lv_iconst (v := 1) hx hb d_Ch_fitToInsert_47 (by decide) ?_
        refine lv_iadd hx hb d_Ch_fitToInsert_48 ?_
        refine p_f Z kc_Ch hP hS hh rfl 1 (by decide) wl_Ch_15 rfl rfl ⟨rfl, rfl⟩ (Nat.le_of_ble_eq_true rfl) rfl d_Ch_fitToInsert_49 (fun H locs hP hS => ?_)
        exact W.vret hx hb hr (fun t ht hW => ⟨rfl, by rw [ht]; exact cvm hP (by simp [ch_ins, br5, (Int32.not_lt.mpr br13), br27]), hS.F ht⟩) hS.2.2 d_Ch_fitToInsert_52
      · skip
        refine lv_iload_n hx hb d_Ch_fitToInsert_30 rfl (lv_at hl 2 rfl) ?_
        refine lv_aload_n hx hb d_Ch_fitToInsert_31 rfl (lv_at hl 1 rfl) ?_
        refine g_f Z kc_Ch hP hh rfl 1 (by decide) wl_Ch_15 rfl rfl d_Ch_fitToInsert_32 ?_
        refine lv_icmp_ne (tgt := 52) hx hb d_Ch_fitToInsert_35 rfl (fun br35 => ?_) (fun br35 => ?_)
        · skip
          exact W.vret hx hb hr (fun t ht hW => ⟨rfl, by rw [ht]; exact cvm hP (by simp [ch_ins, br5, (Int32.not_lt.mpr br13), br27, br35]), hS.F ht⟩) hS.2.2 d_Ch_fitToInsert_52
        · skip
          refine lv_iload_n hx hb d_Ch_fitToInsert_38 rfl (lv_at hl 0 rfl) ?_
          refine lv_if_eq (tgt := 52) hx hb d_Ch_fitToInsert_39 rfl (fun br39 => ?_) (fun br39 => absurd (rfl) br39)
          exact W.vret hx hb hr (fun t ht hW => ⟨rfl, by rw [ht]; exact cvm hP (by simp [ch_ins, br5, (Int32.not_lt.mpr br13), br27, br35, br39]), hS.F ht⟩) hS.2.2 d_Ch_fitToInsert_52
    · skip
      refine lv_iconst (v := 1) hx hb d_Ch_fitToInsert_16 (by decide) ?_
      refine lv_goto (tgt := 21) hx hb d_Ch_fitToInsert_17 rfl ?_
      refine lv_istore_n hx hb d_Ch_fitToInsert_21 rfl hl (by decide) rfl (fun ls hl => ?_)
      have hl : lv_has ls 4 [(3, .int 1), (0, .ref h), (1, .int q), (2, .int o)] := hl
      refine lv_iload_n hx hb d_Ch_fitToInsert_22 rfl (lv_at hl 2 rfl) ?_
      refine lv_aload_n hx hb d_Ch_fitToInsert_23 rfl (lv_at hl 1 rfl) ?_
      refine g_f Z kc_Ch hP hh rfl 1 (by decide) wl_Ch_15 rfl rfl d_Ch_fitToInsert_24 ?_
      refine lv_icmp_lt (tgt := 42) hx hb d_Ch_fitToInsert_27 rfl (fun br27 => ?_) (fun br27 => ?_)
      · skip
        refine lv_aload_n hx hb d_Ch_fitToInsert_42 rfl (lv_at hl 1 rfl) ?_
        refine lv_dup hx hb d_Ch_fitToInsert_43 rfl ?_
        refine g_f Z kc_Ch hP hh rfl 1 (by decide) wl_Ch_15 rfl rfl d_Ch_fitToInsert_44 ?_
        refine lv_iconst (v := 1) hx hb d_Ch_fitToInsert_47 (by decide) ?_
        refine lv_iadd hx hb d_Ch_fitToInsert_48 ?_
        refine p_f Z kc_Ch hP hS hh rfl 1 (by decide) wl_Ch_15 rfl rfl ⟨rfl, rfl⟩ (Nat.le_of_ble_eq_true rfl) rfl d_Ch_fitToInsert_49 (fun H locs hP hS => ?_)
        exact W.vret hx hb hr (fun t ht hW => ⟨rfl, by rw [ht]; exact cvm hP (by simp [ch_ins, br5, (Int32.not_le.mp br13), br27]), hS.F ht⟩) hS.2.2 d_Ch_fitToInsert_52
      · skip
        refine lv_iload_n hx hb d_Ch_fitToInsert_30 rfl (lv_at hl 2 rfl) ?_
        refine lv_aload_n hx hb d_Ch_fitToInsert_31 rfl (lv_at hl 1 rfl) ?_
        refine g_f Z kc_Ch hP hh rfl 1 (by decide) wl_Ch_15 rfl rfl d_Ch_fitToInsert_32 ?_
        refine lv_icmp_ne (tgt := 52) hx hb d_Ch_fitToInsert_35 rfl (fun br35 => ?_) (fun br35 => ?_)
        · skip
          exact W.vret hx hb hr (fun t ht hW => ⟨rfl, by rw [ht]; exact cvm hP (by simp [ch_ins, br5, (Int32.not_le.mp br13), br27, br35]), hS.F ht⟩) hS.2.2 d_Ch_fitToInsert_52
        · skip
          refine lv_iload_n hx hb d_Ch_fitToInsert_38 rfl (lv_at hl 0 rfl) ?_
          refine lv_if_eq (tgt := 52) hx hb d_Ch_fitToInsert_39 rfl (fun br39 => absurd br39 (by decide)) (fun br39 => ?_)
          refine lv_aload_n hx hb d_Ch_fitToInsert_42 rfl (lv_at hl 1 rfl) ?_
          refine lv_dup hx hb d_Ch_fitToInsert_43 rfl ?_
          refine g_f Z kc_Ch hP hh rfl 1 (by decide) wl_Ch_15 rfl rfl d_Ch_fitToInsert_44 ?_
          refine lv_iconst (v := 1) hx hb d_Ch_fitToInsert_47 (by decide) ?_
          refine lv_iadd hx hb d_Ch_fitToInsert_48 ?_
          refine p_f Z kc_Ch hP hS hh rfl 1 (by decide) wl_Ch_15 rfl rfl ⟨rfl, rfl⟩ (Nat.le_of_ble_eq_true rfl) rfl d_Ch_fitToInsert_49 (fun H locs hP hS => ?_)
          exact W.vret hx hb hr (fun t ht hW => ⟨rfl, by rw [ht]; exact cvm hP (by simp [ch_ins, br5, (Int32.not_le.mp br13), br27, br35, br39]), hS.F ht⟩) hS.2.2 d_Ch_fitToInsert_52
set_option maxHeartbeats 4000000 in
set_option maxRecDepth 100000 in
theorem c_Ch_fitToDelete (l : Launch) (D : va_G) (E : Nat → ClassId) (La : la_L) {h : Nat} (hh : La h = some sh_Ch) (mu : la_M) (q : Int32) : cw l y_Ch_fitToDelete b_Ch_fitToDelete 2 none 0 0 D E La [.ref h, .int q] mu none (ch_del mu h q) := by
  refine cw_begin R_Ch (by decide) rfl (Nat.le_of_ble_eq_true rfl) ?_
  intro p e s m below meth c ls Z hr hlocks hP hS hl
  have hx := Z.1
  have hb := Z.2.1
  have hK : va_K D cls5 (tyE E) s := Z.2.2.2.2.2
  have hl : lv_has ls 2 [(0, .ref h), (1, .int q)] := hl
  refine lv_iload_n hx hb d_Ch_fitToDelete_0 rfl (lv_at hl 1 rfl) ?_
  refine lv_aload_n hx hb d_Ch_fitToDelete_1 rfl (lv_at hl 0 rfl) ?_
  refine g_f Z kc_Ch hP hh rfl 1 (by decide) wl_Ch_15 rfl rfl d_Ch_fitToDelete_2 ?_
  refine lv_icmp_ge (tgt := 21) hx hb d_Ch_fitToDelete_5 rfl (fun br5 => ?_) (fun br5 => ?_)
  · skip
    refine lv_iload_n hx hb d_Ch_fitToDelete_21 rfl (lv_at hl 1 rfl) ?_
    refine lv_aload_n hx hb d_Ch_fitToDelete_22 rfl (lv_at hl 0 rfl) ?_
    refine g_f Z kc_Ch hP hh rfl 1 (by decide) wl_Ch_15 rfl rfl d_Ch_fitToDelete_23 ?_
    refine lv_icmp_ne (tgt := 47) hx hb d_Ch_fitToDelete_26 rfl (fun br26 => ?_) (fun br26 => ?_)
    · skip
      exact W.vret hx hb hr (fun t ht hW => ⟨rfl, by rw [ht]; exact cvm hP (by simp [ch_del, (Int32.not_lt.mpr br5), br26]), hS.F ht⟩) hS.2.2 d_Ch_fitToDelete_47
    · skip
      refine lv_aload_n hx hb d_Ch_fitToDelete_29 rfl (lv_at hl 0 rfl) ?_
      refine g_f Z kc_Ch hP hh rfl 0 (by decide) wl_Ch_9 rfl rfl d_Ch_fitToDelete_30 ?_
      refine lv_iconst (v := 1) hx hb d_Ch_fitToDelete_33 (by decide) ?_
      refine lv_icmp_ne (tgt := 47) hx hb d_Ch_fitToDelete_34 rfl (fun br34 => ?_) (fun br34 => ?_)
      · skip
        exact W.vret hx hb hr (fun t ht hW => ⟨rfl, by rw [ht]; exact cvm hP (by simp [ch_del, (Int32.not_lt.mpr br5), br26, br34]), hS.F ht⟩) hS.2.2 d_Ch_fitToDelete_47
      · skip
        refine lv_aload_n hx hb d_Ch_fitToDelete_37 rfl (lv_at hl 0 rfl) ?_
        refine lv_iconst (v := 2) hx hb d_Ch_fitToDelete_38 (by decide) ?_
        refine p_f Z kc_Ch hP hS hh rfl 0 (by decide) wl_Ch_9 rfl rfl ⟨rfl, rfl⟩ (Nat.le_of_ble_eq_true rfl) rfl d_Ch_fitToDelete_39 (fun H locs hP hS => ?_)
        refine lv_aload_n hx hb d_Ch_fitToDelete_42 rfl (lv_at hl 0 rfl) ?_
        refine lv_iconst (v := 0) hx hb d_Ch_fitToDelete_43 (by decide) ?_
        refine p_f Z kc_Ch hP hS hh rfl 1 (by decide) wl_Ch_15 rfl rfl ⟨rfl, rfl⟩ (Nat.le_of_ble_eq_true rfl) rfl d_Ch_fitToDelete_44 (fun H locs hP hS => ?_)
        exact W.vret hx hb hr (fun t ht hW => ⟨rfl, by rw [ht]; exact cvm hP (by simp [ch_del, (Int32.not_lt.mpr br5), br26, br34]), hS.F ht⟩) hS.2.2 d_Ch_fitToDelete_47
  · skip
    refine lv_aload_n hx hb d_Ch_fitToDelete_8 rfl (lv_at hl 0 rfl) ?_
    refine lv_dup hx hb d_Ch_fitToDelete_9 rfl ?_
    refine g_f Z kc_Ch hP hh rfl 1 (by decide) wl_Ch_15 rfl rfl d_Ch_fitToDelete_10 ?_
    refine lv_iconst (v := 1) hx hb d_Ch_fitToDelete_13 (by decide) ?_
    refine lv_isub hx hb d_Ch_fitToDelete_14 ?_
    refine p_f Z kc_Ch hP hS hh rfl 1 (by decide) wl_Ch_15 rfl rfl ⟨rfl, rfl⟩ (Nat.le_of_ble_eq_true rfl) rfl d_Ch_fitToDelete_15 (fun H locs hP hS => ?_)
    refine lv_goto (tgt := 47) hx hb d_Ch_fitToDelete_18 rfl ?_
    exact W.vret hx hb hr (fun t ht hW => ⟨rfl, by rw [ht]; exact cvm hP (by simp [ch_del, (Int32.not_le.mp br5)]), hS.F ht⟩) hS.2.2 d_Ch_fitToDelete_47
set_option maxHeartbeats 4000000 in
set_option maxRecDepth 100000 in
theorem c_Ch_fitTo (l : Launch) (D : va_G) (E : Nat → ClassId) (La : la_L) {h : Nat} (hh : La h = some sh_Ch) (mu : la_M) (k q o : Int32) : cw l y_Ch_fitTo b_Ch_fitTo 4 none 1 23 D E La [.ref h, .int k, .int q, .int o] mu none (ch_fit mu h k q o) := by
  refine cw_begin R_Ch (by decide) rfl (Nat.le_of_ble_eq_true rfl) ?_
  intro p e s m below meth c ls Z hr hlocks hP hS hl
  have hx := Z.1
  have hb := Z.2.1
  have hK : va_K D cls5 (tyE E) s := Z.2.2.2.2.2
  have hl : lv_has ls 4 [(0, .ref h), (1, .int k), (2, .int q), (3, .int o)] := hl
  refine lv_aload_n hx hb d_Ch_fitTo_0 rfl (lv_at hl 0 rfl) ?_
  refine g_f Z kc_Ch hP hh rfl 0 (by decide) wl_Ch_9 rfl rfl d_Ch_fitTo_1 ?_
  refine lv_iconst (v := 2) hx hb d_Ch_fitTo_4 (by decide) ?_
  refine lv_icmp_ne (tgt := 9) hx hb d_Ch_fitTo_5 rfl (fun br5 => ?_) (fun br5 => ?_)
  · skip
    refine lv_iload_n hx hb d_Ch_fitTo_9 rfl (lv_at hl 1 rfl) ?_
    refine lv_if_ne (tgt := 22) hx hb d_Ch_fitTo_10 rfl (fun br10 => ?_) (fun br10 => ?_)
    · skip
      refine lv_iload_n hx hb d_Ch_fitTo_22 rfl (lv_at hl 1 rfl) ?_
      refine lv_iconst (v := 1) hx hb d_Ch_fitTo_23 (by decide) ?_
      refine lv_icmp_ne (tgt := 32) hx hb d_Ch_fitTo_24 rfl (fun br24 => ?_) (fun br24 => ?_)
      · skip
        exact W.vret hx hb hr (fun t ht hW => ⟨rfl, by rw [ht]; exact cvm hP (by simp [ch_fit, br5, br10, br24]), hS.F ht⟩) hS.2.2 d_Ch_fitTo_32
      · skip
        refine lv_aload_n hx hb d_Ch_fitTo_27 rfl (lv_at hl 0 rfl) ?_
        refine lv_iload_n hx hb d_Ch_fitTo_28 rfl (lv_at hl 2 rfl) ?_
        refine cw_V Z kv_Ch_33 (c_Ch_fitToDelete l D E La hh mu q) hP hS (fun _ h => h) (la_recv hK hP kc_Ch hh rfl) [] rfl rfl hl.1 (Nat.le_of_ble_eq_true rfl) ⟨by decide, by decide⟩ ⟨Nat.le_refl _, Nat.le_refl _⟩ d_Ch_fitTo_29 (fun H locs hP hkp hS => ?_)
        exact W.vret hx hb hr (fun t ht hW => ⟨rfl, by rw [ht]; exact cvm hP (by simp [ch_fit, br5, br10, br24]), hS.F ht⟩) hS.2.2 d_Ch_fitTo_32
    · skip
      refine lv_aload_n hx hb d_Ch_fitTo_13 rfl (lv_at hl 0 rfl) ?_
      refine lv_iload_n hx hb d_Ch_fitTo_14 rfl (lv_at hl 2 rfl) ?_
      refine lv_iload_n hx hb d_Ch_fitTo_15 rfl (lv_at hl 3 rfl) ?_
      refine cw_V Z kv_Ch_29 (c_Ch_fitToInsert l D E La hh mu q o) hP hS (fun _ h => h) (la_recv hK hP kc_Ch hh rfl) [] rfl rfl hl.1 (Nat.le_of_ble_eq_true rfl) ⟨by decide, by decide⟩ ⟨Nat.le_refl _, Nat.le_refl _⟩ d_Ch_fitTo_16 (fun H locs hP hkp hS => ?_)
      refine lv_goto (tgt := 32) hx hb d_Ch_fitTo_19 rfl ?_
      exact W.vret hx hb hr (fun t ht hW => ⟨rfl, by rw [ht]; exact cvm hP (by simp [ch_fit, br5, br10]), hS.F ht⟩) hS.2.2 d_Ch_fitTo_32
  · skip
    exact W.vret hx hb hr (fun t ht hW => ⟨rfl, by rw [ht]; exact cvm hP (by simp [ch_fit, br5]), hS.F ht⟩) hS.2.2 d_Ch_fitTo_8
set_option maxHeartbeats 4000000 in
set_option maxRecDepth 100000 in
theorem c_Ch_fitToEachOther (l : Launch) (D : va_G) (E : Nat → ClassId) (La : la_L) {a b : Nat} (ha : La a = some sh_Ch) (hb0 : La b = some sh_Ch) (mu : la_M) : cw l y_Ch_fitToEachOther b_Ch_fitToEachOther 4 none 2 46 D E La [.ref a, .ref b] mu none (ch_both mu a b) := by
  refine cw_begin R_Ch (by decide) rfl (Nat.le_of_ble_eq_true rfl) ?_
  intro p e s m below meth c ls Z hr hlocks hP hS hl
  have hx := Z.1
  have hb := Z.2.1
  have hK : va_K D cls5 (tyE E) s := Z.2.2.2.2.2
  have hl : lv_has ls 4 [(0, .ref a), (1, .ref b)] := hl
  refine lv_aload_n hx hb d_Ch_fitToEachOther_0 rfl (lv_at hl 0 rfl) ?_
  refine g_f Z kc_Ch hP ha rfl 0 (by decide) wl_Ch_9 rfl rfl d_Ch_fitToEachOther_1 ?_
  refine lv_istore_n hx hb d_Ch_fitToEachOther_4 rfl hl (by decide) rfl (fun ls hl => ?_)
  have hl : lv_has ls 4 [(2, .int (mu a 0)), (0, .ref a), (1, .ref b)] := hl
  refine lv_aload_n hx hb d_Ch_fitToEachOther_5 rfl (lv_at hl 1 rfl) ?_
  refine g_f Z kc_Ch hP ha rfl 1 (by decide) wl_Ch_15 rfl rfl d_Ch_fitToEachOther_6 ?_
  refine lv_istore_n hx hb d_Ch_fitToEachOther_9 rfl hl (by decide) rfl (fun ls hl => ?_)
  have hl : lv_has ls 4 [(3, .int (mu a 1)), (2, .int (mu a 0)), (0, .ref a), (1, .ref b)] := hl
  refine lv_aload_n hx hb d_Ch_fitToEachOther_10 rfl (lv_at hl 2 rfl) ?_
  refine lv_aload_n hx hb d_Ch_fitToEachOther_11 rfl (lv_at hl 3 rfl) ?_
  refine g_f Z kc_Ch hP hb0 rfl 0 (by decide) wl_Ch_9 rfl rfl d_Ch_fitToEachOther_12 ?_
  refine lv_aload_n hx hb d_Ch_fitToEachOther_15 rfl (lv_at hl 3 rfl) ?_
  refine g_f Z kc_Ch hP hb0 rfl 1 (by decide) wl_Ch_15 rfl rfl d_Ch_fitToEachOther_16 ?_
  refine lv_aload_n hx hb d_Ch_fitToEachOther_19 rfl (lv_at hl 3 rfl) ?_
  refine g_f Z kc_Ch hP hb0 rfl 3 (by decide) wl_Ch_22 rfl rfl d_Ch_fitToEachOther_20 ?_
  refine cw_V Z kv_Ch_25 (c_Ch_fitTo l D E La ha mu (mu b 0) (mu b 1) (mu b 3)) hP hS (fun _ h => h) (la_recv hK hP kc_Ch ha rfl) [] rfl rfl hl.1 (Nat.le_of_ble_eq_true rfl) ⟨by decide, by decide⟩ ⟨Nat.le_refl _, Nat.le_refl _⟩ d_Ch_fitToEachOther_23 (fun H locs hP hkp hS => ?_)
  refine lv_aload_n hx hb d_Ch_fitToEachOther_26 rfl (lv_at hl 3 rfl) ?_
  refine lv_iload_n hx hb d_Ch_fitToEachOther_27 rfl (lv_at hl 1 rfl) ?_
  refine lv_iload_n hx hb d_Ch_fitToEachOther_28 rfl (lv_at hl 0 rfl) ?_
  refine lv_aload_n hx hb d_Ch_fitToEachOther_29 rfl (lv_at hl 2 rfl) ?_
  refine g_f Z kc_Ch hP ha rfl 3 (by decide) wl_Ch_22 rfl rfl d_Ch_fitToEachOther_30 ?_
  refine cw_V Z kv_Ch_25 (c_Ch_fitTo l D E La hb0 (ch_fit mu a (mu b 0) (mu b 1) (mu b 3)) (mu a 0) (mu a 1) ((ch_fit mu a (mu b 0) (mu b 1) (mu b 3)) a 3)) hP hS (fun _ h => h) (la_recv hK hP kc_Ch hb0 rfl) [] rfl rfl hl.1 (Nat.le_of_ble_eq_true rfl) ⟨by decide, by decide⟩ ⟨Nat.le_refl _, Nat.le_refl _⟩ d_Ch_fitToEachOther_33 (fun H locs hP hkp hS => ?_)
  exact W.vret hx hb hr (fun t ht hW => ⟨rfl, by rw [ht]; exact cvm hP (rfl), hS.F ht⟩) hS.2.2 d_Ch_fitToEachOther_36
