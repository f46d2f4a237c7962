/-! EditRelay's methods where they throw (written by wip/whole/p20.py) -/
set_option maxRecDepth 100000 in
theorem kx_xA : (Bundle.ownAtoms R_Er 42 xA x2).all kx_at = true := by decide +kernel
theorem kw_xA : Cond.classLink R_Er 38 xA ∈ gw ∧ Cond.initialized xA ∈ gw := ⟨List.mem_filter.mpr ⟨List.mem_append_right _ (by decide +kernel), by decide +kernel⟩, List.mem_filter.mpr ⟨List.mem_append_right _ (by decide +kernel), by decide +kernel⟩⟩
theorem kx_40 : kx R_Er 38 42 40 xA "no letter" := ⟨kw_xA.1, kw_xA.2, kx_of kx_xA, by decide +kernel, by decide +kernel⟩
set_option maxRecDepth 100000 in
theorem kx_xB : (Bundle.ownAtoms R_Er 53 xB x2).all kx_at = true := by decide +kernel
theorem kw_xB : Cond.classLink R_Er 49 xB ∈ gw ∧ Cond.initialized xB ∈ gw := ⟨List.mem_filter.mpr ⟨List.mem_append_right _ (by decide +kernel), by decide +kernel⟩, List.mem_filter.mpr ⟨List.mem_append_right _ (by decide +kernel), by decide +kernel⟩⟩
theorem kx_51 : kx R_Er 49 53 51 xB "no place to insert at" := ⟨kw_xB.1, kw_xB.2, kx_of kx_xB, by decide +kernel, by decide +kernel⟩
set_option maxRecDepth 100000 in
theorem kx_xU : (Bundle.ownAtoms R_Er 58 xU x2).all kx_at = true := by decide +kernel
theorem kw_xU : Cond.classLink R_Er 54 xU ∈ gw ∧ Cond.initialized xU ∈ gw := ⟨List.mem_filter.mpr ⟨List.mem_append_right _ (by decide +kernel), by decide +kernel⟩, List.mem_filter.mpr ⟨List.mem_append_right _ (by decide +kernel), by decide +kernel⟩⟩
theorem kx_56 : kx R_Er 54 58 56 xU "the text is full" := ⟨kw_xU.1, kw_xU.2, kx_of kx_xU, by decide +kernel, by decide +kernel⟩
theorem kx_86 : kx R_Er 54 58 86 xU "too much is open towards another client" := ⟨kw_xU.1, kw_xU.2, kx_of kx_xU, by decide +kernel, by decide +kernel⟩
theorem kx_109 : kx R_Er 49 53 109 xB "no such open change" := ⟨kw_xB.1, kw_xB.2, kx_of kx_xB, by decide +kernel, by decide +kernel⟩
theorem kx_128 : kx R_Er 38 42 128 xA "no client" := ⟨kw_xA.1, kw_xA.2, kx_of kx_xA, by decide +kernel, by decide +kernel⟩
theorem kx_130 : kx R_Er 38 42 130 xA "no site" := ⟨kw_xA.1, kw_xA.2, kx_of kx_xA, by decide +kernel, by decide +kernel⟩
theorem kx_132 : kx R_Er 49 53 132 xB "no letter there" := ⟨kw_xB.1, kw_xB.2, kx_of kx_xB, by decide +kernel, by decide +kernel⟩
set_option maxRecDepth 100000 in
theorem kx_xS : (Bundle.ownAtoms R_Er 138 xS x2).all kx_at = true := by decide +kernel
theorem kw_xS : Cond.classLink R_Er 134 xS ∈ gw ∧ Cond.initialized xS ∈ gw := ⟨List.mem_filter.mpr ⟨List.mem_append_right _ (by decide +kernel), by decide +kernel⟩, List.mem_filter.mpr ⟨List.mem_append_right _ (by decide +kernel), by decide +kernel⟩⟩
theorem kx_136 : kx R_Er 134 138 136 xS "no message waits" := ⟨kw_xS.1, kw_xS.2, kx_of kx_xS, by decide +kernel, by decide +kernel⟩
theorem kx_139 : kx R_Er 54 58 139 xU "too many changes are open" := ⟨kw_xU.1, kw_xU.2, kx_of kx_xU, by decide +kernel, by decide +kernel⟩
set_option maxHeartbeats 4000000 in
set_option maxRecDepth 100000 in
theorem t_Er_checkClient (l : Launch) (hlt : l.stackTraces = false) (D : va_G) (E : Nat → ClassId) (La : la_L) (mu : la_M) {cl : Int32} (hc : cl < 1 ∨ 3 < cl) : ct l y_Er_checkClient b_Er_checkClient 1 none 6 90 D E La [.int cl] mu xA := by
  refine ct_begin R_Er (by decide) rfl (Nat.le_of_ble_eq_true rfl) ?_
  intro p e s m below meth c ls Z hlocks hemp hP htk hl
  have hx := Z.1
  have hb := Z.2.1
  have hK : va_K D cls5 (tyE E) s := Z.2.2.2.2.2
  have hl : lv_has ls 1 [(0, .int cl)] := hl
  refine lv_iload_n hx hb d_Er_checkClient_0 rfl (lv_at hl 0 rfl) ?_
  refine lv_iconst (v := 1) hx hb d_Er_checkClient_1 (by decide) ?_
  refine lv_icmp_lt (tgt := 10) hx hb d_Er_checkClient_2 rfl (fun br2 => ?_) (fun br2 => ?_)
  · skip
    exact ct_throw Z rfl hlt hemp hlocks kx_128 htk hl.1 d_Er_checkClient_10 d_Er_checkClient_13 d_Er_checkClient_14 d_Er_checkClient_16 d_Er_checkClient_19 ⟨by decide, by decide⟩ ⟨by decide, by decide⟩
  · skip
    refine lv_iload_n hx hb d_Er_checkClient_5 rfl (lv_at hl 0 rfl) ?_
    refine lv_iconst (v := 3) hx hb d_Er_checkClient_6 (by decide) ?_
    refine lv_icmp_le (tgt := 20) hx hb d_Er_checkClient_7 rfl (fun br7 => absurd br7 (Int32.not_le.mpr (hc.resolve_left br2))) (fun br7 => ?_)
    exact ct_throw Z rfl hlt hemp hlocks kx_128 htk hl.1 d_Er_checkClient_10 d_Er_checkClient_13 d_Er_checkClient_14 d_Er_checkClient_16 d_Er_checkClient_19 ⟨by decide, by decide⟩ ⟨by decide, by decide⟩
set_option maxHeartbeats 4000000 in
set_option maxRecDepth 100000 in
theorem t_Er_checkSite (l : Launch) (hlt : l.stackTraces = false) (D : va_G) (E : Nat → ClassId) (La : la_L) (mu : la_M) {cl : Int32} (hc : cl < 0 ∨ 3 < cl) : ct l y_Er_checkSite b_Er_checkSite 1 none 6 90 D E La [.int cl] mu xA := by
  refine ct_begin R_Er (by decide) rfl (Nat.le_of_ble_eq_true rfl) ?_
  intro p e s m below meth c ls Z hlocks hemp hP htk hl
  have hx := Z.1
  have hb := Z.2.1
  have hK : va_K D cls5 (tyE E) s := Z.2.2.2.2.2
  have hl : lv_has ls 1 [(0, .int cl)] := hl
  refine lv_iload_n hx hb d_Er_checkSite_0 rfl (lv_at hl 0 rfl) ?_
  refine lv_if_lt (tgt := 9) hx hb d_Er_checkSite_1 rfl (fun br1 => ?_) (fun br1 => ?_)
  · skip
    exact ct_throw Z rfl hlt hemp hlocks kx_130 htk hl.1 d_Er_checkSite_9 d_Er_checkSite_12 d_Er_checkSite_13 d_Er_checkSite_15 d_Er_checkSite_18 ⟨by decide, by decide⟩ ⟨by decide, by decide⟩
  · skip
    refine lv_iload_n hx hb d_Er_checkSite_4 rfl (lv_at hl 0 rfl) ?_
    refine lv_iconst (v := 3) hx hb d_Er_checkSite_5 (by decide) ?_
    refine lv_icmp_le (tgt := 19) hx hb d_Er_checkSite_6 rfl (fun br6 => absurd br6 (Int32.not_le.mpr (hc.resolve_left br1))) (fun br6 => ?_)
    exact ct_throw Z rfl hlt hemp hlocks kx_130 htk hl.1 d_Er_checkSite_9 d_Er_checkSite_12 d_Er_checkSite_13 d_Er_checkSite_15 d_Er_checkSite_18 ⟨by decide, by decide⟩ ⟨by decide, by decide⟩
set_option maxHeartbeats 4000000 in
set_option maxRecDepth 100000 in
theorem t_Er_checkHasLetter (l : Launch) (hlt : l.stackTraces = false) (D : va_G) (E : Nat → ClassId) (La : la_L) {a0 : Nat} (ha : isTx E La a0) (mu : la_M) {n : Nat} {at0 : Int32} (hn : mu a0 1 = nI n) (hc : at0 < 0 ∨ nI n ≤ at0) : ct l y_Er_checkHasLetter b_Er_checkHasLetter 2 none 6 90 D E La [.ref a0, .int at0] mu xB := by
  refine ct_begin R_Er (by decide) rfl (Nat.le_of_ble_eq_true rfl) ?_
  intro p e s m below meth c ls Z hlocks hemp hP htk hl
  have hx := Z.1
  have hb := Z.2.1
  have hK : va_K D cls5 (tyE E) s := Z.2.2.2.2.2
  have hl : lv_has ls 2 [(0, .ref a0), (1, .int at0)] := hl
  refine lv_iload_n hx hb d_Er_checkHasLetter_0 rfl (lv_at hl 1 rfl) ?_
  refine lv_if_lt (tgt := 12) hx hb d_Er_checkHasLetter_1 rfl (fun br1 => ?_) (fun br1 => ?_)
  · skip
    exact ct_throw Z rfl hlt hemp hlocks kx_132 htk hl.1 d_Er_checkHasLetter_12 d_Er_checkHasLetter_15 d_Er_checkHasLetter_16 d_Er_checkHasLetter_18 d_Er_checkHasLetter_21 ⟨by decide, by decide⟩ ⟨by decide, by decide⟩
  · skip
    refine lv_iload_n hx hb d_Er_checkHasLetter_4 rfl (lv_at hl 1 rfl) ?_
    refine lv_aload_n hx hb d_Er_checkHasLetter_5 rfl (lv_at hl 0 rfl) ?_
    refine g_i (v := (nI n)) Z kc_Tx hP ha.1 rfl 1 (by decide) wl_Er_45 rfl rfl hn d_Er_checkHasLetter_6 ?_
    refine lv_icmp_lt (tgt := 22) hx hb d_Er_checkHasLetter_9 rfl (fun br9 => absurd br9 (Int32.not_lt.mpr (hc.resolve_left br1))) (fun br9 => ?_)
    exact ct_throw Z rfl hlt hemp hlocks kx_132 htk hl.1 d_Er_checkHasLetter_12 d_Er_checkHasLetter_15 d_Er_checkHasLetter_16 d_Er_checkHasLetter_18 d_Er_checkHasLetter_21 ⟨by decide, by decide⟩ ⟨by decide, by decide⟩
set_option maxHeartbeats 4000000 in
set_option maxRecDepth 100000 in
theorem t_Er_checkSomeWaits (l : Launch) (hlt : l.stackTraces = false) (D : va_G) (E : Nat → ClassId) (La : la_L) {w0 r : Nat} (hw : isWy E La w0 r) (mu : la_M) {a : Nat} (h4 : mu w0 4 = nI a) (h6 : mu w0 6 = nI a) : ct l y_Er_checkSomeWaits b_Er_checkSomeWaits 1 none 6 90 D E La [.ref w0] mu xS := by
  refine ct_begin R_Er (by decide) rfl (Nat.le_of_ble_eq_true rfl) ?_
  intro p e s m below meth c ls Z hlocks hemp hP htk hl
  have hx := Z.1
  have hb := Z.2.1
  have hK : va_K D cls5 (tyE E) s := Z.2.2.2.2.2
  have hl : lv_has ls 1 [(0, .ref w0)] := hl
  refine lv_aload_n hx hb d_Er_checkSomeWaits_0 rfl (lv_at hl 0 rfl) ?_
  refine cr_V Z kv_Er_102 (c_Wy_waitingCount l D E La hw mu h4 h6 (Nat.le_refl _)) hP (la_recv hK hP kc_Wy hw.1 rfl) [] rfl rfl hl.1 (Nat.le_of_ble_eq_true rfl) ⟨by decide, by decide⟩ ⟨Nat.zero_le _, Nat.zero_le _⟩ d_Er_checkSomeWaits_1 ?_
  refine lv_if_ne (tgt := 17) hx hb d_Er_checkSomeWaits_4 rfl (fun br4 => absurd (by rw [Nat.sub_self]; rfl) br4) (fun br4 => ?_)
  exact ct_throw Z rfl hlt hemp hlocks kx_136 htk hl.1 d_Er_checkSomeWaits_7 d_Er_checkSomeWaits_10 d_Er_checkSomeWaits_11 d_Er_checkSomeWaits_13 d_Er_checkSomeWaits_16 ⟨by decide, by decide⟩ ⟨by decide, by decide⟩
set_option maxHeartbeats 4000000 in
set_option maxRecDepth 100000 in
theorem t_Er_checkMayMakeChange (l : Launch) (hlt : l.stackTraces = false) (D : va_G) (E : Nat → ClassId) (La : la_L) {b0 : Nat} (he : isEr E La b0) (mu : la_M) {k : Nat} (hk : k < 3) {a b : Nat} (h4 : mu (b0 + 12 + 88 * k) 4 = nI a) (h5 : mu (b0 + 12 + 88 * k) 5 = nI b) (hab : b ≤ a) (ha : a < 2 ^ 31) (hf : 16 ≤ a - b)  : ct l y_Er_checkMayMakeChange b_Er_checkMayMakeChange 2 none 6 90 D E La [.ref b0, .int (nI (k + 1))] mu xU := by
  refine ct_begin R_Er (by decide) rfl (Nat.le_of_ble_eq_true rfl) ?_
  intro p e s m below meth c ls Z hlocks hemp hP htk hl
  have hx := Z.1
  have hb := Z.2.1
  have hK : va_K D cls5 (tyE E) s := Z.2.2.2.2.2
  have hl : lv_has ls 2 [(0, .ref b0), (1, .int (nI (k + 1)))] := hl
  refine lv_aload_n hx hb d_Er_checkMayMakeChange_0 rfl (lv_at hl 0 rfl) ?_
  refine lv_iload_n hx hb d_Er_checkMayMakeChange_1 rfl (lv_at hl 1 rfl) ?_
  refine lv_iconst (v := 1) hx hb d_Er_checkMayMakeChange_2 (by decide) ?_
  refine cr_V Z kv_Er_74 (c_Er_way_u l D E La he mu hk (u := 1) (by decide)) hP (la_recv hK hP kc_Er he.1 rfl) [] rfl rfl hl.1 (Nat.le_of_ble_eq_true rfl) ⟨by decide, by decide⟩ ⟨Nat.zero_le _, Nat.zero_le _⟩ d_Er_checkMayMakeChange_3 ?_
  refine cr_V Z kv_Er_82 (c_Wy_isFull_t l D E La (he.2.2.2.2.2.2.1 k hk) mu h4 h5 hab ha hf) hP (la_recv hK hP kc_Wy (he.2.2.2.2.2.2.1 k hk).1 rfl) [] rfl rfl hl.1 (Nat.le_of_ble_eq_true rfl) ⟨by decide, by decide⟩ ⟨Nat.zero_le _, Nat.zero_le _⟩ d_Er_checkMayMakeChange_6 ?_
  refine lv_if_eq (tgt := 22) hx hb d_Er_checkMayMakeChange_9 rfl (fun br9 => absurd br9 (by decide)) (fun br9 => ?_)
  exact ct_throw Z rfl hlt hemp hlocks kx_139 htk hl.1 d_Er_checkMayMakeChange_12 d_Er_checkMayMakeChange_15 d_Er_checkMayMakeChange_16 d_Er_checkMayMakeChange_18 d_Er_checkMayMakeChange_21 ⟨by decide, by decide⟩ ⟨by decide, by decide⟩
set_option maxHeartbeats 4000000 in
set_option maxRecDepth 100000 in
theorem t_Er_insert_1 (l : Launch) (hlt : l.stackTraces = false) (D : va_G) (E : Nat → ClassId) (La : la_L) {b0 : Nat} (he : isEr E La b0) (mu : la_M) {cl : Int32} (hc : cl < 1 ∨ 3 < cl) {at0 x : Int32} : ct l y_Er_insert b_Er_insert 5 (some .int) 7 111 D E La [.ref b0, .int cl, .int at0, .int x] mu xA := by
  refine ct_begin R_Er (by decide) rfl (Nat.le_of_ble_eq_true rfl) ?_
  intro p e s m below meth c ls Z hlocks hemp hP htk hl
  have hx := Z.1
  have hb := Z.2.1
  have hK : va_K D cls5 (tyE E) s := Z.2.2.2.2.2
  have hl : lv_has ls 5 [(0, .ref b0), (1, .int cl), (2, .int at0), (3, .int x)] := hl
  refine lv_iload_n hx hb d_Er_insert_0 rfl (lv_at hl 1 rfl) ?_
  exact tc_S Z ks_Er_35 (t_Er_checkClient l hlt D E La mu hc) hP htk [] rfl rfl hl.1 (Nat.le_of_ble_eq_true rfl) ⟨by decide, by decide⟩ ⟨Nat.le_refl _, Nat.le_refl _⟩ d_Er_insert_1 (fun H1 q9 ce g1 g2 g3 g4 g5 => tc_out hemp hlocks g3 g4 g5)
set_option maxHeartbeats 4000000 in
set_option maxRecDepth 100000 in
theorem t_Er_insert_1x (l : Launch) (hlt : l.stackTraces = false) (D : va_G) (E : Nat → ClassId) (La : la_L) {b0 : Nat} (he : isEr E La b0) (mu : la_M) {k : Nat} (hk : k < 3) {at0 x : Int32} (hx9 : x < 32 ∨ 126 < x) : ct l y_Er_insert b_Er_insert 5 (some .int) 7 111 D E La [.ref b0, .int (nI (k + 1)), .int at0, .int x] mu xA := by
  refine ct_begin R_Er (by decide) rfl (Nat.le_of_ble_eq_true rfl) ?_
  intro p e s m below meth c ls Z hlocks hemp hP htk hl
  have hx := Z.1
  have hb := Z.2.1
  have hK : va_K D cls5 (tyE E) s := Z.2.2.2.2.2
  have hl : lv_has ls 5 [(0, .ref b0), (1, .int (nI (k + 1))), (2, .int at0), (3, .int x)] := hl
  refine lv_iload_n hx hb d_Er_insert_0 rfl (lv_at hl 1 rfl) ?_
  refine cr_S Z ks_Er_35 (c_Er_checkClient l D E La mu hk) hP [] rfl rfl hl.1 (Nat.le_of_ble_eq_true rfl) ⟨by decide, by decide⟩ ⟨Nat.zero_le _, Nat.zero_le _⟩ d_Er_insert_1 ?_
  refine lv_iload_n hx hb d_Er_insert_4 rfl (lv_at hl 3 rfl) ?_
  refine lv_bipush (v := 32) hx hb d_Er_insert_5 (by decide) ?_
  refine lv_icmp_lt (tgt := 16) hx hb d_Er_insert_7 rfl (fun br7 => ?_) (fun br7 => ?_)
  · skip
    exact ct_throw Z rfl hlt hemp hlocks kx_40 htk hl.1 d_Er_insert_16 d_Er_insert_19 d_Er_insert_20 d_Er_insert_22 d_Er_insert_25 ⟨by decide, by decide⟩ ⟨by decide, by decide⟩
  · skip
    refine lv_iload_n hx hb d_Er_insert_10 rfl (lv_at hl 3 rfl) ?_
    refine lv_bipush (v := 126) hx hb d_Er_insert_11 (by decide) ?_
    refine lv_icmp_le (tgt := 26) hx hb d_Er_insert_13 rfl (fun br13 => absurd br13 (Int32.not_le.mpr (hx9.resolve_left br7))) (fun br13 => ?_)
    exact ct_throw Z rfl hlt hemp hlocks kx_40 htk hl.1 d_Er_insert_16 d_Er_insert_19 d_Er_insert_20 d_Er_insert_22 d_Er_insert_25 ⟨by decide, by decide⟩ ⟨by decide, by decide⟩
set_option maxHeartbeats 4000000 in
set_option maxRecDepth 100000 in
theorem t_Er_insert_2 (l : Launch) (hlt : l.stackTraces = false) (D : va_G) (E : Nat → ClassId) (La : la_L) {b0 : Nat} (he : isEr E La b0) (mu : la_M) {k : Nat} (hk : k < 3) {at0 x : Int32} {n : Nat} (hx1 : ¬ x < 32) (hx2 : x ≤ 126) (hn : mu (b0 + 2 + 2 * (k + 1)) 1 = nI n) (hc : at0 < 0 ∨ nI n < at0) : ct l y_Er_insert b_Er_insert 5 (some .int) 7 111 D E La [.ref b0, .int (nI (k + 1)), .int at0, .int x] mu xB := by
  refine ct_begin R_Er (by decide) rfl (Nat.le_of_ble_eq_true rfl) ?_
  intro p e s m below meth c ls Z hlocks hemp hP htk hl
  have hx := Z.1
  have hb := Z.2.1
  have hK : va_K D cls5 (tyE E) s := Z.2.2.2.2.2
  have hl : lv_has ls 5 [(0, .ref b0), (1, .int (nI (k + 1))), (2, .int at0), (3, .int x)] := hl
  refine lv_iload_n hx hb d_Er_insert_0 rfl (lv_at hl 1 rfl) ?_
  refine cr_S Z ks_Er_35 (c_Er_checkClient l D E La mu hk) hP [] rfl rfl hl.1 (Nat.le_of_ble_eq_true rfl) ⟨by decide, by decide⟩ ⟨Nat.zero_le _, Nat.zero_le _⟩ d_Er_insert_1 ?_
  refine lv_iload_n hx hb d_Er_insert_4 rfl (lv_at hl 3 rfl) ?_
  refine lv_bipush (v := 32) hx hb d_Er_insert_5 (by decide) ?_
  refine lv_icmp_lt (tgt := 16) hx hb d_Er_insert_7 rfl (fun br7 => absurd br7 (hx1)) (fun br7 => ?_)
  refine lv_iload_n hx hb d_Er_insert_10 rfl (lv_at hl 3 rfl) ?_
  refine lv_bipush (v := 126) hx hb d_Er_insert_11 (by decide) ?_
  refine lv_icmp_le (tgt := 26) hx hb d_Er_insert_13 rfl (fun br13 => ?_) (fun br13 => absurd (hx2) br13)
  refine lv_aload_n hx hb d_Er_insert_26 rfl (lv_at hl 0 rfl) ?_
  refine g_f (v := .ref (b0 + 1)) Z kc_Er hP he.1 rfl 0 (by decide) wl_Er_11 rfl rfl d_Er_insert_27 ?_
  refine lv_iload_n hx hb d_Er_insert_30 rfl (lv_at hl 1 rfl) ?_
  refine la_aald (F := (fun k => b0 + 2 + 2 * k)) hx hb hK hP 3 he.2.1 rfl rfl (k + 1) rfl (by omega) (by decide) d_Er_insert_31 ?_
  refine lv_astore hx hb d_Er_insert_32 hl (by decide) rfl (fun ls hl => ?_)
  have hl : lv_has ls 5 [(4, .ref (b0 + 2 + 2 * (k + 1))), (0, .ref b0), (1, .int (nI (k + 1))), (2, .int at0), (3, .int x)] := hl
  refine lv_iload_n hx hb d_Er_insert_34 rfl (lv_at hl 3 rfl) ?_
  refine lv_if_lt (tgt := 47) hx hb d_Er_insert_35 rfl (fun br35 => ?_) (fun br35 => ?_)
  · skip
    exact ct_throw Z rfl hlt hemp hlocks kx_51 htk hl.1 d_Er_insert_47 d_Er_insert_50 d_Er_insert_51 d_Er_insert_53 d_Er_insert_56 ⟨by decide, by decide⟩ ⟨by decide, by decide⟩
  · skip
    refine lv_iload_n hx hb d_Er_insert_38 rfl (lv_at hl 3 rfl) ?_
    refine lv_aload hx hb d_Er_insert_39 (lv_at hl 0 rfl) ?_
    refine g_i (v := (nI n)) Z kc_Tx hP (he.2.2.2.2.2.1 (k + 1) (by omega)).1 rfl 1 (by decide) wl_Er_45 rfl rfl hn d_Er_insert_41 ?_
    refine lv_icmp_le (tgt := 57) hx hb d_Er_insert_44 rfl (fun br44 => absurd br44 (Int32.not_le.mpr (hc.resolve_left br35))) (fun br44 => ?_)
    exact ct_throw Z rfl hlt hemp hlocks kx_51 htk hl.1 d_Er_insert_47 d_Er_insert_50 d_Er_insert_51 d_Er_insert_53 d_Er_insert_56 ⟨by decide, by decide⟩ ⟨by decide, by decide⟩
set_option maxHeartbeats 4000000 in
set_option maxRecDepth 100000 in
theorem t_Er_insert_3n (l : Launch) (hlt : l.stackTraces = false) (D : va_G) (E : Nat → ClassId) (La : la_L) {b0 : Nat} (he : isEr E La b0) (mu : la_M) {k : Nat} (hk : k < 3) {x : Int32} {q n : Nat} (hx1 : ¬ x < 32) (hx2 : x ≤ 126) (hn : mu (b0 + 2 + 2 * (k + 1)) 1 = nI n) (hq : q ≤ n) (hn3 : n < 2 ^ 31) (h40 : 40 ≤ n) : ct l y_Er_insert b_Er_insert 5 (some .int) 7 111 D E La [.ref b0, .int (nI (k + 1)), .int (nI q), .int x] mu xU := by
  refine ct_begin R_Er (by decide) rfl (Nat.le_of_ble_eq_true rfl) ?_
  intro p e s m below meth c ls Z hlocks hemp hP htk hl
  have hx := Z.1
  have hb := Z.2.1
  have hK : va_K D cls5 (tyE E) s := Z.2.2.2.2.2
  have hl : lv_has ls 5 [(0, .ref b0), (1, .int (nI (k + 1))), (2, .int (nI q)), (3, .int x)] := hl
  refine lv_iload_n hx hb d_Er_insert_0 rfl (lv_at hl 1 rfl) ?_
  refine cr_S Z ks_Er_35 (c_Er_checkClient l D E La mu hk) hP [] rfl rfl hl.1 (Nat.le_of_ble_eq_true rfl) ⟨by decide, by decide⟩ ⟨Nat.zero_le _, Nat.zero_le _⟩ d_Er_insert_1 ?_
  refine lv_iload_n hx hb d_Er_insert_4 rfl (lv_at hl 3 rfl) ?_
  refine lv_bipush (v := 32) hx hb d_Er_insert_5 (by decide) ?_
  refine lv_icmp_lt (tgt := 16) hx hb d_Er_insert_7 rfl (fun br7 => absurd br7 (hx1)) (fun br7 => ?_)
  refine lv_iload_n hx hb d_Er_insert_10 rfl (lv_at hl 3 rfl) ?_
  refine lv_bipush (v := 126) hx hb d_Er_insert_11 (by decide) ?_
  refine lv_icmp_le (tgt := 26) hx hb d_Er_insert_13 rfl (fun br13 => ?_) (fun br13 => absurd (hx2) br13)
  refine lv_aload_n hx hb d_Er_insert_26 rfl (lv_at hl 0 rfl) ?_
  refine g_f (v := .ref (b0 + 1)) Z kc_Er hP he.1 rfl 0 (by decide) wl_Er_11 rfl rfl d_Er_insert_27 ?_
  refine lv_iload_n hx hb d_Er_insert_30 rfl (lv_at hl 1 rfl) ?_
  refine la_aald (F := (fun k => b0 + 2 + 2 * k)) hx hb hK hP 3 he.2.1 rfl rfl (k + 1) rfl (by omega) (by decide) d_Er_insert_31 ?_
  refine lv_astore hx hb d_Er_insert_32 hl (by decide) rfl (fun ls hl => ?_)
  have hl : lv_has ls 5 [(4, .ref (b0 + 2 + 2 * (k + 1))), (0, .ref b0), (1, .int (nI (k + 1))), (2, .int (nI q)), (3, .int x)] := hl
  refine lv_iload_n hx hb d_Er_insert_34 rfl (lv_at hl 3 rfl) ?_
  refine lv_if_lt (tgt := 47) hx hb d_Er_insert_35 rfl (fun br35 => absurd br35 (nI_pos (by omega))) (fun br35 => ?_)
  refine lv_iload_n hx hb d_Er_insert_38 rfl (lv_at hl 3 rfl) ?_
  refine lv_aload hx hb d_Er_insert_39 (lv_at hl 0 rfl) ?_
  refine g_i (v := (nI n)) Z kc_Tx hP (he.2.2.2.2.2.1 (k + 1) (by omega)).1 rfl 1 (by decide) wl_Er_45 rfl rfl hn d_Er_insert_41 ?_
  refine lv_icmp_le (tgt := 57) hx hb d_Er_insert_44 rfl (fun br44 => ?_) (fun br44 => absurd (nI_le hq (by omega)) br44)
  refine lv_aload hx hb d_Er_insert_57 (lv_at hl 0 rfl) ?_
  refine g_i (v := (nI n)) Z kc_Tx hP (he.2.2.2.2.2.1 (k + 1) (by omega)).1 rfl 1 (by decide) wl_Er_45 rfl rfl hn d_Er_insert_59 ?_
  refine lv_bipush (v := 40) hx hb d_Er_insert_62 (by decide) ?_
  refine lv_icmp_lt (tgt := 77) hx hb d_Er_insert_64 rfl (fun br64 => absurd br64 (nI_nlt (b := 40) h40 hn3)) (fun br64 => ?_)
  exact ct_throw Z rfl hlt hemp hlocks kx_56 htk hl.1 d_Er_insert_67 d_Er_insert_70 d_Er_insert_71 d_Er_insert_73 d_Er_insert_76 ⟨by decide, by decide⟩ ⟨by decide, by decide⟩
set_option maxHeartbeats 4000000 in
set_option maxRecDepth 100000 in
theorem t_Er_insert_3l (l : Launch) (hlt : l.stackTraces = false) (D : va_G) (E : Nat → ClassId) (La : la_L) {b0 : Nat} (he : isEr E La b0) (mu : la_M) {k : Nat} (hk : k < 3) {x : Int32} {q n : Nat} (hx1 : ¬ x < 32) (hx2 : x ≤ 126) (hn : mu (b0 + 2 + 2 * (k + 1)) 1 = nI n) (hq : q ≤ n) (h40 : n < 40) {a b : Nat} (h4 : mu (b0 + 12 + 88 * k) 4 = nI a) (h5 : mu (b0 + 12 + 88 * k) 5 = nI b) (hab : b ≤ a) (ha : a < 2 ^ 31) (hf : 16 ≤ a - b)  : ct l y_Er_insert b_Er_insert 5 (some .int) 7 111 D E La [.ref b0, .int (nI (k + 1)), .int (nI q), .int x] mu xU := by
  refine ct_begin R_Er (by decide) rfl (Nat.le_of_ble_eq_true rfl) ?_
  intro p e s m below meth c ls Z hlocks hemp hP htk hl
  have hx := Z.1
  have hb := Z.2.1
  have hK : va_K D cls5 (tyE E) s := Z.2.2.2.2.2
  have hl : lv_has ls 5 [(0, .ref b0), (1, .int (nI (k + 1))), (2, .int (nI q)), (3, .int x)] := hl
  refine lv_iload_n hx hb d_Er_insert_0 rfl (lv_at hl 1 rfl) ?_
  refine cr_S Z ks_Er_35 (c_Er_checkClient l D E La mu hk) hP [] rfl rfl hl.1 (Nat.le_of_ble_eq_true rfl) ⟨by decide, by decide⟩ ⟨Nat.zero_le _, Nat.zero_le _⟩ d_Er_insert_1 ?_
  refine lv_iload_n hx hb d_Er_insert_4 rfl (lv_at hl 3 rfl) ?_
  refine lv_bipush (v := 32) hx hb d_Er_insert_5 (by decide) ?_
  refine lv_icmp_lt (tgt := 16) hx hb d_Er_insert_7 rfl (fun br7 => absurd br7 (hx1)) (fun br7 => ?_)
  refine lv_iload_n hx hb d_Er_insert_10 rfl (lv_at hl 3 rfl) ?_
  refine lv_bipush (v := 126) hx hb d_Er_insert_11 (by decide) ?_
  refine lv_icmp_le (tgt := 26) hx hb d_Er_insert_13 rfl (fun br13 => ?_) (fun br13 => absurd (hx2) br13)
  refine lv_aload_n hx hb d_Er_insert_26 rfl (lv_at hl 0 rfl) ?_
  refine g_f (v := .ref (b0 + 1)) Z kc_Er hP he.1 rfl 0 (by decide) wl_Er_11 rfl rfl d_Er_insert_27 ?_
  refine lv_iload_n hx hb d_Er_insert_30 rfl (lv_at hl 1 rfl) ?_
  refine la_aald (F := (fun k => b0 + 2 + 2 * k)) hx hb hK hP 3 he.2.1 rfl rfl (k + 1) rfl (by omega) (by decide) d_Er_insert_31 ?_
  refine lv_astore hx hb d_Er_insert_32 hl (by decide) rfl (fun ls hl => ?_)
  have hl : lv_has ls 5 [(4, .ref (b0 + 2 + 2 * (k + 1))), (0, .ref b0), (1, .int (nI (k + 1))), (2, .int (nI q)), (3, .int x)] := hl
  refine lv_iload_n hx hb d_Er_insert_34 rfl (lv_at hl 3 rfl) ?_
  refine lv_if_lt (tgt := 47) hx hb d_Er_insert_35 rfl (fun br35 => absurd br35 (nI_pos (by omega))) (fun br35 => ?_)
  refine lv_iload_n hx hb d_Er_insert_38 rfl (lv_at hl 3 rfl) ?_
  refine lv_aload hx hb d_Er_insert_39 (lv_at hl 0 rfl) ?_
  refine g_i (v := (nI n)) Z kc_Tx hP (he.2.2.2.2.2.1 (k + 1) (by omega)).1 rfl 1 (by decide) wl_Er_45 rfl rfl hn d_Er_insert_41 ?_
  refine lv_icmp_le (tgt := 57) hx hb d_Er_insert_44 rfl (fun br44 => ?_) (fun br44 => absurd (nI_le hq (by omega)) br44)
  refine lv_aload hx hb d_Er_insert_57 (lv_at hl 0 rfl) ?_
  refine g_i (v := (nI n)) Z kc_Tx hP (he.2.2.2.2.2.1 (k + 1) (by omega)).1 rfl 1 (by decide) wl_Er_45 rfl rfl hn d_Er_insert_59 ?_
  refine lv_bipush (v := 40) hx hb d_Er_insert_62 (by decide) ?_
  refine lv_icmp_lt (tgt := 77) hx hb d_Er_insert_64 rfl (fun br64 => ?_) (fun br64 => absurd (nI_lt (b := 40) h40 (by decide)) br64)
  refine lv_aload_n hx hb d_Er_insert_77 rfl (lv_at hl 1 rfl) ?_
  refine lv_iload_n hx hb d_Er_insert_78 rfl (lv_at hl 2 rfl) ?_
  exact tc_V Z kv_Er_59 (t_Er_checkMayMakeChange l hlt D E La he mu hk h4 h5 hab ha hf) hP htk (la_recv hK hP kc_Er he.1 rfl) [] rfl rfl hl.1 (Nat.le_of_ble_eq_true rfl) ⟨by decide, by decide⟩ ⟨Nat.le_refl _, Nat.le_refl _⟩ d_Er_insert_79 (fun H1 q9 ce g1 g2 g3 g4 g5 => tc_out hemp hlocks g3 g4 g5)
set_option maxHeartbeats 4000000 in
set_option maxRecDepth 100000 in
theorem t_Er_delete_1 (l : Launch) (hlt : l.stackTraces = false) (D : va_G) (E : Nat → ClassId) (La : la_L) {b0 : Nat} (he : isEr E La b0) (mu : la_M) {cl : Int32} (hc : cl < 1 ∨ 3 < cl) {at0 : Int32} : ct l y_Er_delete b_Er_delete 5 (some .int) 7 111 D E La [.ref b0, .int cl, .int at0] mu xA := by
  refine ct_begin R_Er (by decide) rfl (Nat.le_of_ble_eq_true rfl) ?_
  intro p e s m below meth c ls Z hlocks hemp hP htk hl
  have hx := Z.1
  have hb := Z.2.1
  have hK : va_K D cls5 (tyE E) s := Z.2.2.2.2.2
  have hl : lv_has ls 5 [(0, .ref b0), (1, .int cl), (2, .int at0)] := hl
  refine lv_iload_n hx hb d_Er_delete_0 rfl (lv_at hl 1 rfl) ?_
  exact tc_S Z ks_Er_35 (t_Er_checkClient l hlt D E La mu hc) hP htk [] rfl rfl hl.1 (Nat.le_of_ble_eq_true rfl) ⟨by decide, by decide⟩ ⟨Nat.le_refl _, Nat.le_refl _⟩ d_Er_delete_1 (fun H1 q9 ce g1 g2 g3 g4 g5 => tc_out hemp hlocks g3 g4 g5)
set_option maxHeartbeats 4000000 in
set_option maxRecDepth 100000 in
theorem t_Er_delete_2 (l : Launch) (hlt : l.stackTraces = false) (D : va_G) (E : Nat → ClassId) (La : la_L) {b0 : Nat} (he : isEr E La b0) (mu : la_M) {k : Nat} (hk : k < 3) {at0 : Int32} {n : Nat} (hn : mu (b0 + 2 + 2 * (k + 1)) 1 = nI n) (hc : at0 < 0 ∨ nI n ≤ at0) : ct l y_Er_delete b_Er_delete 5 (some .int) 7 111 D E La [.ref b0, .int (nI (k + 1)), .int at0] mu xB := by
  refine ct_begin R_Er (by decide) rfl (Nat.le_of_ble_eq_true rfl) ?_
  intro p e s m below meth c ls Z hlocks hemp hP htk hl
  have hx := Z.1
  have hb := Z.2.1
  have hK : va_K D cls5 (tyE E) s := Z.2.2.2.2.2
  have hl : lv_has ls 5 [(0, .ref b0), (1, .int (nI (k + 1))), (2, .int at0)] := hl
  refine lv_iload_n hx hb d_Er_delete_0 rfl (lv_at hl 1 rfl) ?_
  refine cr_S Z ks_Er_35 (c_Er_checkClient l D E La mu hk) hP [] rfl rfl hl.1 (Nat.le_of_ble_eq_true rfl) ⟨by decide, by decide⟩ ⟨Nat.zero_le _, Nat.zero_le _⟩ d_Er_delete_1 ?_
  refine lv_aload_n hx hb d_Er_delete_4 rfl (lv_at hl 0 rfl) ?_
  refine g_f (v := .ref (b0 + 1)) Z kc_Er hP he.1 rfl 0 (by decide) wl_Er_11 rfl rfl d_Er_delete_5 ?_
  refine lv_iload_n hx hb d_Er_delete_8 rfl (lv_at hl 1 rfl) ?_
  refine la_aald (F := (fun k => b0 + 2 + 2 * k)) hx hb hK hP 3 he.2.1 rfl rfl (k + 1) rfl (by omega) (by decide) d_Er_delete_9 ?_
  refine lv_astore_n hx hb d_Er_delete_10 rfl hl (by decide) rfl (fun ls hl => ?_)
  have hl : lv_has ls 5 [(3, .ref (b0 + 2 + 2 * (k + 1))), (0, .ref b0), (1, .int (nI (k + 1))), (2, .int at0)] := hl
  refine lv_aload_n hx hb d_Er_delete_11 rfl (lv_at hl 0 rfl) ?_
  refine lv_iload_n hx hb d_Er_delete_12 rfl (lv_at hl 3 rfl) ?_
  exact tc_S Z ks_Er_66 (t_Er_checkHasLetter l hlt D E La (he.2.2.2.2.2.1 (k + 1) (by omega)) mu hn hc) hP htk [] rfl rfl hl.1 (Nat.le_of_ble_eq_true rfl) ⟨by decide, by decide⟩ ⟨Nat.le_refl _, Nat.le_refl _⟩ d_Er_delete_13 (fun H1 q9 ce g1 g2 g3 g4 g5 => tc_out hemp hlocks g3 g4 g5)
set_option maxHeartbeats 4000000 in
set_option maxRecDepth 100000 in
theorem t_Er_delete_3 (l : Launch) (hlt : l.stackTraces = false) (D : va_G) (E : Nat → ClassId) (La : la_L) {b0 : Nat} (he : isEr E La b0) (mu : la_M) {k : Nat} (hk : k < 3) {q n : Nat} (hn : mu (b0 + 2 + 2 * (k + 1)) 1 = nI n) (hq : q < n) (hn3 : n < 2 ^ 31) {a b : Nat} (h4 : mu (b0 + 12 + 88 * k) 4 = nI a) (h5 : mu (b0 + 12 + 88 * k) 5 = nI b) (hab : b ≤ a) (ha : a < 2 ^ 31) (hf : 16 ≤ a - b)  : ct l y_Er_delete b_Er_delete 5 (some .int) 7 111 D E La [.ref b0, .int (nI (k + 1)), .int (nI q)] mu xU := by
  refine ct_begin R_Er (by decide) rfl (Nat.le_of_ble_eq_true rfl) ?_
  intro p e s m below meth c ls Z hlocks hemp hP htk hl
  have hx := Z.1
  have hb := Z.2.1
  have hK : va_K D cls5 (tyE E) s := Z.2.2.2.2.2
  have hl : lv_has ls 5 [(0, .ref b0), (1, .int (nI (k + 1))), (2, .int (nI q))] := hl
  refine lv_iload_n hx hb d_Er_delete_0 rfl (lv_at hl 1 rfl) ?_
  refine cr_S Z ks_Er_35 (c_Er_checkClient l D E La mu hk) hP [] rfl rfl hl.1 (Nat.le_of_ble_eq_true rfl) ⟨by decide, by decide⟩ ⟨Nat.zero_le _, Nat.zero_le _⟩ d_Er_delete_1 ?_
  refine lv_aload_n hx hb d_Er_delete_4 rfl (lv_at hl 0 rfl) ?_
  refine g_f (v := .ref (b0 + 1)) Z kc_Er hP he.1 rfl 0 (by decide) wl_Er_11 rfl rfl d_Er_delete_5 ?_
  refine lv_iload_n hx hb d_Er_delete_8 rfl (lv_at hl 1 rfl) ?_
  refine la_aald (F := (fun k => b0 + 2 + 2 * k)) hx hb hK hP 3 he.2.1 rfl rfl (k + 1) rfl (by omega) (by decide) d_Er_delete_9 ?_
  refine lv_astore_n hx hb d_Er_delete_10 rfl hl (by decide) rfl (fun ls hl => ?_)
  have hl : lv_has ls 5 [(3, .ref (b0 + 2 + 2 * (k + 1))), (0, .ref b0), (1, .int (nI (k + 1))), (2, .int (nI q))] := hl
  refine lv_aload_n hx hb d_Er_delete_11 rfl (lv_at hl 0 rfl) ?_
  refine lv_iload_n hx hb d_Er_delete_12 rfl (lv_at hl 3 rfl) ?_
  refine cr_S Z ks_Er_66 (c_Er_checkHasLetter l D E La (he.2.2.2.2.2.1 (k + 1) (by omega)) mu hn hq hn3) hP [] rfl rfl hl.1 (Nat.le_of_ble_eq_true rfl) ⟨by decide, by decide⟩ ⟨Nat.zero_le _, Nat.zero_le _⟩ d_Er_delete_13 ?_
  refine lv_aload_n hx hb d_Er_delete_16 rfl (lv_at hl 1 rfl) ?_
  refine lv_iload_n hx hb d_Er_delete_17 rfl (lv_at hl 2 rfl) ?_
  exact tc_V Z kv_Er_59 (t_Er_checkMayMakeChange l hlt D E La he mu hk h4 h5 hab ha hf) hP htk (la_recv hK hP kc_Er he.1 rfl) [] rfl rfl hl.1 (Nat.le_of_ble_eq_true rfl) ⟨by decide, by decide⟩ ⟨Nat.le_refl _, Nat.le_refl _⟩ d_Er_delete_18 (fun H1 q9 ce g1 g2 g3 g4 g5 => tc_out hemp hlocks g3 g4 g5)
set_option maxHeartbeats 4000000 in
set_option maxRecDepth 100000 in
theorem t_Er_nod_1 (l : Launch) (hlt : l.stackTraces = false) (D : va_G) (E : Nat → ClassId) (La : la_L) {b0 : Nat} (he : isEr E La b0) (mu : la_M) {cl : Int32} (hc : cl < 1 ∨ 3 < cl)  : ct l y_Er_nod b_Er_nod 2 none 7 111 D E La [.ref b0, .int cl] mu xA := by
  refine ct_begin R_Er (by decide) rfl (Nat.le_of_ble_eq_true rfl) ?_
  intro p e s m below meth c ls Z hlocks hemp hP htk hl
  have hx := Z.1
  have hb := Z.2.1
  have hK : va_K D cls5 (tyE E) s := Z.2.2.2.2.2
  have hl : lv_has ls 2 [(0, .ref b0), (1, .int cl)] := hl
  refine lv_iload_n hx hb d_Er_nod_0 rfl (lv_at hl 1 rfl) ?_
  exact tc_S Z ks_Er_35 (t_Er_checkClient l hlt D E La mu hc) hP htk [] rfl rfl hl.1 (Nat.le_of_ble_eq_true rfl) ⟨by decide, by decide⟩ ⟨Nat.le_refl _, Nat.le_refl _⟩ d_Er_nod_1 (fun H1 q9 ce g1 g2 g3 g4 g5 => tc_out hemp hlocks g3 g4 g5)
set_option maxHeartbeats 4000000 in
set_option maxRecDepth 100000 in
theorem t_Er_nod_2 (l : Launch) (hlt : l.stackTraces = false) (D : va_G) (E : Nat → ClassId) (La : la_L) {b0 : Nat} (he : isEr E La b0) (mu : la_M) {k : Nat} (hk : k < 3) {a b : Nat} (h4 : mu (b0 + 12 + 88 * k) 4 = nI a) (h5 : mu (b0 + 12 + 88 * k) 5 = nI b) (hab : b ≤ a) (ha : a < 2 ^ 31) (hf : 16 ≤ a - b)  : ct l y_Er_nod b_Er_nod 2 none 7 111 D E La [.ref b0, .int (nI (k + 1))] mu xU := by
  refine ct_begin R_Er (by decide) rfl (Nat.le_of_ble_eq_true rfl) ?_
  intro p e s m below meth c ls Z hlocks hemp hP htk hl
  have hx := Z.1
  have hb := Z.2.1
  have hK : va_K D cls5 (tyE E) s := Z.2.2.2.2.2
  have hl : lv_has ls 2 [(0, .ref b0), (1, .int (nI (k + 1)))] := hl
  refine lv_iload_n hx hb d_Er_nod_0 rfl (lv_at hl 1 rfl) ?_
  refine cr_S Z ks_Er_35 (c_Er_checkClient l D E La mu hk) hP [] rfl rfl hl.1 (Nat.le_of_ble_eq_true rfl) ⟨by decide, by decide⟩ ⟨Nat.zero_le _, Nat.zero_le _⟩ d_Er_nod_1 ?_
  refine lv_aload_n hx hb d_Er_nod_4 rfl (lv_at hl 0 rfl) ?_
  refine lv_iload_n hx hb d_Er_nod_5 rfl (lv_at hl 1 rfl) ?_
  exact tc_V Z kv_Er_59 (t_Er_checkMayMakeChange l hlt D E La he mu hk h4 h5 hab ha hf) hP htk (la_recv hK hP kc_Er he.1 rfl) [] rfl rfl hl.1 (Nat.le_of_ble_eq_true rfl) ⟨by decide, by decide⟩ ⟨Nat.le_refl _, Nat.le_refl _⟩ d_Er_nod_6 (fun H1 q9 ce g1 g2 g3 g4 g5 => tc_out hemp hlocks g3 g4 g5)
set_option maxHeartbeats 4000000 in
set_option maxRecDepth 100000 in
theorem t_Er_pull_1 (l : Launch) (hlt : l.stackTraces = false) (D : va_G) (E : Nat → ClassId) (La : la_L) {b0 : Nat} (he : isEr E La b0) (mu : la_M) {cl : Int32} (hc : cl < 1 ∨ 3 < cl)  : ct l y_Er_pull b_Er_pull 2 (some .int) 7 110 D E La [.ref b0, .int cl] mu xA := by
  refine ct_begin R_Er (by decide) rfl (Nat.le_of_ble_eq_true rfl) ?_
  intro p e s m below meth c ls Z hlocks hemp hP htk hl
  have hx := Z.1
  have hb := Z.2.1
  have hK : va_K D cls5 (tyE E) s := Z.2.2.2.2.2
  have hl : lv_has ls 2 [(0, .ref b0), (1, .int cl)] := hl
  refine lv_iload_n hx hb d_Er_pull_0 rfl (lv_at hl 1 rfl) ?_
  exact tc_S Z ks_Er_35 (t_Er_checkClient l hlt D E La mu hc) hP htk [] rfl rfl hl.1 (Nat.le_of_ble_eq_true rfl) ⟨by decide, by decide⟩ ⟨Nat.le_refl _, Nat.le_refl _⟩ d_Er_pull_1 (fun H1 q9 ce g1 g2 g3 g4 g5 => tc_out hemp hlocks g3 g4 g5)
set_option maxHeartbeats 4000000 in
set_option maxRecDepth 100000 in
theorem t_Er_pull_2 (l : Launch) (hlt : l.stackTraces = false) (D : va_G) (E : Nat → ClassId) (La : la_L) {b0 : Nat} (he : isEr E La b0) (mu : la_M) {k : Nat} (hk : k < 3) {a : Nat} (h4 : mu (b0 + 48 + 88 * k) 4 = nI a) (h6 : mu (b0 + 48 + 88 * k) 6 = nI a) : ct l y_Er_pull b_Er_pull 2 (some .int) 7 110 D E La [.ref b0, .int (nI (k + 1))] mu xS := by
  refine ct_begin R_Er (by decide) rfl (Nat.le_of_ble_eq_true rfl) ?_
  intro p e s m below meth c ls Z hlocks hemp hP htk hl
  have hx := Z.1
  have hb := Z.2.1
  have hK : va_K D cls5 (tyE E) s := Z.2.2.2.2.2
  have hl : lv_has ls 2 [(0, .ref b0), (1, .int (nI (k + 1)))] := hl
  refine lv_iload_n hx hb d_Er_pull_0 rfl (lv_at hl 1 rfl) ?_
  refine cr_S Z ks_Er_35 (c_Er_checkClient l D E La mu hk) hP [] rfl rfl hl.1 (Nat.le_of_ble_eq_true rfl) ⟨by decide, by decide⟩ ⟨Nat.zero_le _, Nat.zero_le _⟩ d_Er_pull_1 ?_
  refine lv_aload_n hx hb d_Er_pull_4 rfl (lv_at hl 0 rfl) ?_
  refine lv_iload_n hx hb d_Er_pull_5 rfl (lv_at hl 1 rfl) ?_
  refine lv_iconst (v := 0) hx hb d_Er_pull_6 (by decide) ?_
  refine cr_V Z kv_Er_74 (c_Er_way_d l D E La he mu hk (u := 0) rfl) hP (la_recv hK hP kc_Er he.1 rfl) [] rfl rfl hl.1 (Nat.le_of_ble_eq_true rfl) ⟨by decide, by decide⟩ ⟨Nat.zero_le _, Nat.zero_le _⟩ d_Er_pull_7 ?_
  exact tc_S Z ks_Er_78 (t_Er_checkSomeWaits l hlt D E La (he.2.2.2.2.2.2.2 k hk) mu h4 h6) hP htk [] rfl rfl hl.1 (Nat.le_of_ble_eq_true rfl) ⟨by decide, by decide⟩ ⟨Nat.le_refl _, Nat.le_refl _⟩ d_Er_pull_10 (fun H1 q9 ce g1 g2 g3 g4 g5 => tc_out hemp hlocks g3 g4 g5)
set_option maxHeartbeats 4000000 in
set_option maxRecDepth 100000 in
theorem t_Er_push_1 (l : Launch) (hlt : l.stackTraces = false) (D : va_G) (E : Nat → ClassId) (La : la_L) {b0 : Nat} (he : isEr E La b0) (mu : la_M) {cl : Int32} (hc : cl < 1 ∨ 3 < cl)  : ct l y_Er_push b_Er_push 4 (some .int) 7 110 D E La [.ref b0, .int cl] mu xA := by
  refine ct_begin R_Er (by decide) rfl (Nat.le_of_ble_eq_true rfl) ?_
  intro p e s m below meth c ls Z hlocks hemp hP htk hl
  have hx := Z.1
  have hb := Z.2.1
  have hK : va_K D cls5 (tyE E) s := Z.2.2.2.2.2
  have hl : lv_has ls 4 [(0, .ref b0), (1, .int cl)] := hl
  refine lv_iload_n hx hb d_Er_push_0 rfl (lv_at hl 1 rfl) ?_
  exact tc_S Z ks_Er_35 (t_Er_checkClient l hlt D E La mu hc) hP htk [] rfl rfl hl.1 (Nat.le_of_ble_eq_true rfl) ⟨by decide, by decide⟩ ⟨Nat.le_refl _, Nat.le_refl _⟩ d_Er_push_1 (fun H1 q9 ce g1 g2 g3 g4 g5 => tc_out hemp hlocks g3 g4 g5)
set_option maxHeartbeats 4000000 in
set_option maxRecDepth 100000 in
theorem t_Er_push_2 (l : Launch) (hlt : l.stackTraces = false) (D : va_G) (E : Nat → ClassId) (La : la_L) {b0 : Nat} (he : isEr E La b0) (mu : la_M) {k : Nat} (hk : k < 3) {a : Nat} (h4 : mu (b0 + 12 + 88 * k) 4 = nI a) (h6 : mu (b0 + 12 + 88 * k) 6 = nI a) : ct l y_Er_push b_Er_push 4 (some .int) 7 110 D E La [.ref b0, .int (nI (k + 1))] mu xS := by
  refine ct_begin R_Er (by decide) rfl (Nat.le_of_ble_eq_true rfl) ?_
  intro p e s m below meth c ls Z hlocks hemp hP htk hl
  have hx := Z.1
  have hb := Z.2.1
  have hK : va_K D cls5 (tyE E) s := Z.2.2.2.2.2
  have hl : lv_has ls 4 [(0, .ref b0), (1, .int (nI (k + 1)))] := hl
  refine lv_iload_n hx hb d_Er_push_0 rfl (lv_at hl 1 rfl) ?_
  refine cr_S Z ks_Er_35 (c_Er_checkClient l D E La mu hk) hP [] rfl rfl hl.1 (Nat.le_of_ble_eq_true rfl) ⟨by decide, by decide⟩ ⟨Nat.zero_le _, Nat.zero_le _⟩ d_Er_push_1 ?_
  refine lv_aload_n hx hb d_Er_push_4 rfl (lv_at hl 0 rfl) ?_
  refine lv_iload_n hx hb d_Er_push_5 rfl (lv_at hl 1 rfl) ?_
  refine lv_iconst (v := 1) hx hb d_Er_push_6 (by decide) ?_
  refine cr_V Z kv_Er_74 (c_Er_way_u l D E La he mu hk (u := 1) (by decide)) hP (la_recv hK hP kc_Er he.1 rfl) [] rfl rfl hl.1 (Nat.le_of_ble_eq_true rfl) ⟨by decide, by decide⟩ ⟨Nat.zero_le _, Nat.zero_le _⟩ d_Er_push_7 ?_
  exact tc_S Z ks_Er_78 (t_Er_checkSomeWaits l hlt D E La (he.2.2.2.2.2.2.1 k hk) mu h4 h6) hP htk [] rfl rfl hl.1 (Nat.le_of_ble_eq_true rfl) ⟨by decide, by decide⟩ ⟨Nat.le_refl _, Nat.le_refl _⟩ d_Er_push_10 (fun H1 q9 ce g1 g2 g3 g4 g5 => tc_out hemp hlocks g3 g4 g5)
set_option maxHeartbeats 4000000 in
set_option maxRecDepth 100000 in
theorem t_Er_push_3_01 (l : Launch) (hlt : l.stackTraces = false) (D : va_G) (E : Nat → ClassId) (La : la_L) {b0 : Nat} (he : isEr E La b0) (mu : la_M) {g a : Nat} (h4 : mu (b0 + 12 + 88 * 0) 4 = nI a) (h6 : mu (b0 + 12 + 88 * 0) 6 = nI g) (hga : g < a) (ha : a < 2 ^ 31) {av1 bv1 : Nat} (p4_1 : mu (b0 + 48 + 88 * 1) 4 = nI av1) (p5_1 : mu (b0 + 48 + 88 * 1) 5 = nI bv1) (pab_1 : bv1 ≤ av1) (pa_1 : av1 < 2 ^ 31) (pf_1 : 24 ≤ av1 - bv1)  : ct l y_Er_push b_Er_push 4 (some .int) 7 110 D E La [.ref b0, .int 1] mu xU := by
  refine ct_begin R_Er (by decide) rfl (Nat.le_of_ble_eq_true rfl) ?_
  intro p e s m below meth c ls Z hlocks hemp hP htk hl
  have hx := Z.1
  have hb := Z.2.1
  have hK : va_K D cls5 (tyE E) s := Z.2.2.2.2.2
  have hl : lv_has ls 4 [(0, .ref b0), (1, .int 1)] := hl
  refine lv_iload_n hx hb d_Er_push_0 rfl (lv_at hl 1 rfl) ?_
  refine cr_S Z ks_Er_35 (c_Er_checkClient l D E La mu (k := 0) (by decide)) hP [] rfl rfl hl.1 (Nat.le_of_ble_eq_true rfl) ⟨by decide, by decide⟩ ⟨Nat.zero_le _, Nat.zero_le _⟩ d_Er_push_1 ?_
  refine lv_aload_n hx hb d_Er_push_4 rfl (lv_at hl 0 rfl) ?_
  refine lv_iload_n hx hb d_Er_push_5 rfl (lv_at hl 1 rfl) ?_
  refine lv_iconst (v := 1) hx hb d_Er_push_6 (by decide) ?_
  refine cr_V Z kv_Er_74 (c_Er_way_u l D E La he mu (k := 0) (by decide) (u := 1) (by decide)) hP (la_recv hK hP kc_Er he.1 rfl) [] rfl rfl hl.1 (Nat.le_of_ble_eq_true rfl) ⟨by decide, by decide⟩ ⟨Nat.zero_le _, Nat.zero_le _⟩ d_Er_push_7 ?_
  refine cr_S Z ks_Er_78 (c_Er_checkSomeWaits l D E La (he.2.2.2.2.2.2.1 0 (by decide)) mu h4 h6 hga ha) hP [] rfl rfl hl.1 (Nat.le_of_ble_eq_true rfl) ⟨by decide, by decide⟩ ⟨Nat.zero_le _, Nat.zero_le _⟩ d_Er_push_10 ?_
  refine lv_iconst (v := 1) hx hb d_Er_push_13 (by decide) ?_
  refine lv_istore_n hx hb d_Er_push_14 rfl hl (by decide) rfl (fun ls hl => ?_)
  have hl : lv_has ls 4 [(2, .int 1), (0, .ref b0), (1, .int 1)] := hl
  refine lv_iload_n hx hb d_Er_push_15 rfl (lv_at hl 0 rfl) ?_
  refine lv_iconst (v := 3) hx hb d_Er_push_16 (by decide) ?_
  refine lv_icmp_gt (tgt := 53) hx hb d_Er_push_17 rfl (fun br17 => absurd br17 (by decide)) (fun br17 => ?_)
  refine lv_iload_n hx hb d_Er_push_20 rfl (lv_at hl 0 rfl) ?_
  refine lv_iload_n hx hb d_Er_push_21 rfl (lv_at hl 2 rfl) ?_
  refine lv_icmp_eq (tgt := 47) hx hb d_Er_push_22 rfl (fun br22 => ?_) (fun br22 => absurd (rfl) br22)
  refine lv_iinc (k := 0) (v := 2) hx hb d_Er_push_47 hl rfl (by decide) (by decide) rfl (fun ls hl => ?_)
  have hl : lv_has ls 4 [(2, .int 2), (0, .ref b0), (1, .int 1)] := hl
  refine lv_goto (tgt := 15) hx hb d_Er_push_50 rfl ?_
  refine lv_iload_n hx hb d_Er_push_15 rfl (lv_at hl 0 rfl) ?_
  refine lv_iconst (v := 3) hx hb d_Er_push_16 (by decide) ?_
  refine lv_icmp_gt (tgt := 53) hx hb d_Er_push_17 rfl (fun br17 => absurd br17 (by decide)) (fun br17 => ?_)
  refine lv_iload_n hx hb d_Er_push_20 rfl (lv_at hl 0 rfl) ?_
  refine lv_iload_n hx hb d_Er_push_21 rfl (lv_at hl 2 rfl) ?_
  refine lv_icmp_eq (tgt := 47) hx hb d_Er_push_22 rfl (fun br22 => absurd br22 (by decide)) (fun br22 => ?_)
  refine lv_aload_n hx hb d_Er_push_25 rfl (lv_at hl 1 rfl) ?_
  refine lv_iload_n hx hb d_Er_push_26 rfl (lv_at hl 0 rfl) ?_
  refine lv_iconst (v := 0) hx hb d_Er_push_27 (by decide) ?_
  refine cr_V Z kv_Er_74 (c_Er_way_d l D E La he mu (k := 1) (by decide) (u := 0) rfl) hP (la_recv hK hP kc_Er he.1 rfl) [] rfl rfl hl.1 (Nat.le_of_ble_eq_true rfl) ⟨by decide, by decide⟩ ⟨Nat.zero_le _, Nat.zero_le _⟩ d_Er_push_28 ?_
  refine cr_V Z kv_Er_82 (c_Wy_isFull_t l D E La (he.2.2.2.2.2.2.2 1 (by decide)) mu p4_1 p5_1 pab_1 pa_1 pf_1) hP (la_recv hK hP kc_Wy (he.2.2.2.2.2.2.2 1 (by decide)).1 rfl) [] rfl rfl hl.1 (Nat.le_of_ble_eq_true rfl) ⟨by decide, by decide⟩ ⟨Nat.zero_le _, Nat.zero_le _⟩ d_Er_push_31 ?_
  refine lv_if_eq (tgt := 47) hx hb d_Er_push_34 rfl (fun br34 => absurd br34 (by decide)) (fun br34 => ?_)
  exact ct_throw Z rfl hlt hemp hlocks kx_86 htk hl.1 d_Er_push_37 d_Er_push_40 d_Er_push_41 d_Er_push_43 d_Er_push_46 ⟨by decide, by decide⟩ ⟨by decide, by decide⟩
set_option maxHeartbeats 4000000 in
set_option maxRecDepth 100000 in
theorem t_Er_push_3_02 (l : Launch) (hlt : l.stackTraces = false) (D : va_G) (E : Nat → ClassId) (La : la_L) {b0 : Nat} (he : isEr E La b0) (mu : la_M) {g a : Nat} (h4 : mu (b0 + 12 + 88 * 0) 4 = nI a) (h6 : mu (b0 + 12 + 88 * 0) 6 = nI g) (hga : g < a) (ha : a < 2 ^ 31) {av1 bv1 : Nat} (p4_1 : mu (b0 + 48 + 88 * 1) 4 = nI av1) (p5_1 : mu (b0 + 48 + 88 * 1) 5 = nI bv1) (pab_1 : bv1 ≤ av1) (pa_1 : av1 < 2 ^ 31) (pf_1 : av1 - bv1 < 24) {av2 bv2 : Nat} (p4_2 : mu (b0 + 48 + 88 * 2) 4 = nI av2) (p5_2 : mu (b0 + 48 + 88 * 2) 5 = nI bv2) (pab_2 : bv2 ≤ av2) (pa_2 : av2 < 2 ^ 31) (pf_2 : 24 ≤ av2 - bv2)  : ct l y_Er_push b_Er_push 4 (some .int) 7 110 D E La [.ref b0, .int 1] mu xU := by
  refine ct_begin R_Er (by decide) rfl (Nat.le_of_ble_eq_true rfl) ?_
  intro p e s m below meth c ls Z hlocks hemp hP htk hl
  have hx := Z.1
  have hb := Z.2.1
  have hK : va_K D cls5 (tyE E) s := Z.2.2.2.2.2
  have hl : lv_has ls 4 [(0, .ref b0), (1, .int 1)] := hl
  refine lv_iload_n hx hb d_Er_push_0 rfl (lv_at hl 1 rfl) ?_
  refine cr_S Z ks_Er_35 (c_Er_checkClient l D E La mu (k := 0) (by decide)) hP [] rfl rfl hl.1 (Nat.le_of_ble_eq_true rfl) ⟨by decide, by decide⟩ ⟨Nat.zero_le _, Nat.zero_le _⟩ d_Er_push_1 ?_
  refine lv_aload_n hx hb d_Er_push_4 rfl (lv_at hl 0 rfl) ?_
  refine lv_iload_n hx hb d_Er_push_5 rfl (lv_at hl 1 rfl) ?_
  refine lv_iconst (v := 1) hx hb d_Er_push_6 (by decide) ?_
  refine cr_V Z kv_Er_74 (c_Er_way_u l D E La he mu (k := 0) (by decide) (u := 1) (by decide)) hP (la_recv hK hP kc_Er he.1 rfl) [] rfl rfl hl.1 (Nat.le_of_ble_eq_true rfl) ⟨by decide, by decide⟩ ⟨Nat.zero_le _, Nat.zero_le _⟩ d_Er_push_7 ?_
  refine cr_S Z ks_Er_78 (c_Er_checkSomeWaits l D E La (he.2.2.2.2.2.2.1 0 (by decide)) mu h4 h6 hga ha) hP [] rfl rfl hl.1 (Nat.le_of_ble_eq_true rfl) ⟨by decide, by decide⟩ ⟨Nat.zero_le _, Nat.zero_le _⟩ d_Er_push_10 ?_
  refine lv_iconst (v := 1) hx hb d_Er_push_13 (by decide) ?_
  refine lv_istore_n hx hb d_Er_push_14 rfl hl (by decide) rfl (fun ls hl => ?_)
  have hl : lv_has ls 4 [(2, .int 1), (0, .ref b0), (1, .int 1)] := hl
  refine lv_iload_n hx hb d_Er_push_15 rfl (lv_at hl 0 rfl) ?_
  refine lv_iconst (v := 3) hx hb d_Er_push_16 (by decide) ?_
  refine lv_icmp_gt (tgt := 53) hx hb d_Er_push_17 rfl (fun br17 => absurd br17 (by decide)) (fun br17 => ?_)
  refine lv_iload_n hx hb d_Er_push_20 rfl (lv_at hl 0 rfl) ?_
  refine lv_iload_n hx hb d_Er_push_21 rfl (lv_at hl 2 rfl) ?_
  refine lv_icmp_eq (tgt := 47) hx hb d_Er_push_22 rfl (fun br22 => ?_) (fun br22 => absurd (rfl) br22)
  refine lv_iinc (k := 0) (v := 2) hx hb d_Er_push_47 hl rfl (by decide) (by decide) rfl (fun ls hl => ?_)
  have hl : lv_has ls 4 [(2, .int 2), (0, .ref b0), (1, .int 1)] := hl
  refine lv_goto (tgt := 15) hx hb d_Er_push_50 rfl ?_
  refine lv_iload_n hx hb d_Er_push_15 rfl (lv_at hl 0 rfl) ?_
  refine lv_iconst (v := 3) hx hb d_Er_push_16 (by decide) ?_
  refine lv_icmp_gt (tgt := 53) hx hb d_Er_push_17 rfl (fun br17 => absurd br17 (by decide)) (fun br17 => ?_)
  refine lv_iload_n hx hb d_Er_push_20 rfl (lv_at hl 0 rfl) ?_
  refine lv_iload_n hx hb d_Er_push_21 rfl (lv_at hl 2 rfl) ?_
  refine lv_icmp_eq (tgt := 47) hx hb d_Er_push_22 rfl (fun br22 => absurd br22 (by decide)) (fun br22 => ?_)
  refine lv_aload_n hx hb d_Er_push_25 rfl (lv_at hl 1 rfl) ?_
  refine lv_iload_n hx hb d_Er_push_26 rfl (lv_at hl 0 rfl) ?_
  refine lv_iconst (v := 0) hx hb d_Er_push_27 (by decide) ?_
  refine cr_V Z kv_Er_74 (c_Er_way_d l D E La he mu (k := 1) (by decide) (u := 0) rfl) hP (la_recv hK hP kc_Er he.1 rfl) [] rfl rfl hl.1 (Nat.le_of_ble_eq_true rfl) ⟨by decide, by decide⟩ ⟨Nat.zero_le _, Nat.zero_le _⟩ d_Er_push_28 ?_
  refine cr_V Z kv_Er_82 (c_Wy_isFull_f l D E La (he.2.2.2.2.2.2.2 1 (by decide)) mu p4_1 p5_1 pab_1 pa_1 pf_1) hP (la_recv hK hP kc_Wy (he.2.2.2.2.2.2.2 1 (by decide)).1 rfl) [] rfl rfl hl.1 (Nat.le_of_ble_eq_true rfl) ⟨by decide, by decide⟩ ⟨Nat.zero_le _, Nat.zero_le _⟩ d_Er_push_31 ?_
  refine lv_if_eq (tgt := 47) hx hb d_Er_push_34 rfl (fun br34 => ?_) (fun br34 => absurd (rfl) br34)
  refine lv_iinc (k := 0) (v := 3) hx hb d_Er_push_47 hl rfl (by decide) (by decide) rfl (fun ls hl => ?_)
  have hl : lv_has ls 4 [(2, .int 3), (0, .ref b0), (1, .int 1)] := hl
  refine lv_goto (tgt := 15) hx hb d_Er_push_50 rfl ?_
  refine lv_iload_n hx hb d_Er_push_15 rfl (lv_at hl 0 rfl) ?_
  refine lv_iconst (v := 3) hx hb d_Er_push_16 (by decide) ?_
  refine lv_icmp_gt (tgt := 53) hx hb d_Er_push_17 rfl (fun br17 => absurd br17 (by decide)) (fun br17 => ?_)
  refine lv_iload_n hx hb d_Er_push_20 rfl (lv_at hl 0 rfl) ?_
  refine lv_iload_n hx hb d_Er_push_21 rfl (lv_at hl 2 rfl) ?_
  refine lv_icmp_eq (tgt := 47) hx hb d_Er_push_22 rfl (fun br22 => absurd br22 (by decide)) (fun br22 => ?_)
  refine lv_aload_n hx hb d_Er_push_25 rfl (lv_at hl 1 rfl) ?_
  refine lv_iload_n hx hb d_Er_push_26 rfl (lv_at hl 0 rfl) ?_
  refine lv_iconst (v := 0) hx hb d_Er_push_27 (by decide) ?_
  refine cr_V Z kv_Er_74 (c_Er_way_d l D E La he mu (k := 2) (by decide) (u := 0) rfl) hP (la_recv hK hP kc_Er he.1 rfl) [] rfl rfl hl.1 (Nat.le_of_ble_eq_true rfl) ⟨by decide, by decide⟩ ⟨Nat.zero_le _, Nat.zero_le _⟩ d_Er_push_28 ?_
  refine cr_V Z kv_Er_82 (c_Wy_isFull_t l D E La (he.2.2.2.2.2.2.2 2 (by decide)) mu p4_2 p5_2 pab_2 pa_2 pf_2) hP (la_recv hK hP kc_Wy (he.2.2.2.2.2.2.2 2 (by decide)).1 rfl) [] rfl rfl hl.1 (Nat.le_of_ble_eq_true rfl) ⟨by decide, by decide⟩ ⟨Nat.zero_le _, Nat.zero_le _⟩ d_Er_push_31 ?_
  refine lv_if_eq (tgt := 47) hx hb d_Er_push_34 rfl (fun br34 => absurd br34 (by decide)) (fun br34 => ?_)
  exact ct_throw Z rfl hlt hemp hlocks kx_86 htk hl.1 d_Er_push_37 d_Er_push_40 d_Er_push_41 d_Er_push_43 d_Er_push_46 ⟨by decide, by decide⟩ ⟨by decide, by decide⟩
set_option maxHeartbeats 4000000 in
set_option maxRecDepth 100000 in
theorem t_Er_push_3_10 (l : Launch) (hlt : l.stackTraces = false) (D : va_G) (E : Nat → ClassId) (La : la_L) {b0 : Nat} (he : isEr E La b0) (mu : la_M) {g a : Nat} (h4 : mu (b0 + 12 + 88 * 1) 4 = nI a) (h6 : mu (b0 + 12 + 88 * 1) 6 = nI g) (hga : g < a) (ha : a < 2 ^ 31) {av0 bv0 : Nat} (p4_0 : mu (b0 + 48 + 88 * 0) 4 = nI av0) (p5_0 : mu (b0 + 48 + 88 * 0) 5 = nI bv0) (pab_0 : bv0 ≤ av0) (pa_0 : av0 < 2 ^ 31) (pf_0 : 24 ≤ av0 - bv0)  : ct l y_Er_push b_Er_push 4 (some .int) 7 110 D E La [.ref b0, .int 2] mu xU := by
  refine ct_begin R_Er (by decide) rfl (Nat.le_of_ble_eq_true rfl) ?_
  intro p e s m below meth c ls Z hlocks hemp hP htk hl
  have hx := Z.1
  have hb := Z.2.1
  have hK : va_K D cls5 (tyE E) s := Z.2.2.2.2.2
  have hl : lv_has ls 4 [(0, .ref b0), (1, .int 2)] := hl
  refine lv_iload_n hx hb d_Er_push_0 rfl (lv_at hl 1 rfl) ?_
  refine cr_S Z ks_Er_35 (c_Er_checkClient l D E La mu (k := 1) (by decide)) hP [] rfl rfl hl.1 (Nat.le_of_ble_eq_true rfl) ⟨by decide, by decide⟩ ⟨Nat.zero_le _, Nat.zero_le _⟩ d_Er_push_1 ?_
  refine lv_aload_n hx hb d_Er_push_4 rfl (lv_at hl 0 rfl) ?_
  refine lv_iload_n hx hb d_Er_push_5 rfl (lv_at hl 1 rfl) ?_
  refine lv_iconst (v := 1) hx hb d_Er_push_6 (by decide) ?_
  refine cr_V Z kv_Er_74 (c_Er_way_u l D E La he mu (k := 1) (by decide) (u := 1) (by decide)) hP (la_recv hK hP kc_Er he.1 rfl) [] rfl rfl hl.1 (Nat.le_of_ble_eq_true rfl) ⟨by decide, by decide⟩ ⟨Nat.zero_le _, Nat.zero_le _⟩ d_Er_push_7 ?_
  refine cr_S Z ks_Er_78 (c_Er_checkSomeWaits l D E La (he.2.2.2.2.2.2.1 1 (by decide)) mu h4 h6 hga ha) hP [] rfl rfl hl.1 (Nat.le_of_ble_eq_true rfl) ⟨by decide, by decide⟩ ⟨Nat.zero_le _, Nat.zero_le _⟩ d_Er_push_10 ?_
  refine lv_iconst (v := 1) hx hb d_Er_push_13 (by decide) ?_
  refine lv_istore_n hx hb d_Er_push_14 rfl hl (by decide) rfl (fun ls hl => ?_)
  have hl : lv_has ls 4 [(2, .int 1), (0, .ref b0), (1, .int 2)] := hl
  refine lv_iload_n hx hb d_Er_push_15 rfl (lv_at hl 0 rfl) ?_
  refine lv_iconst (v := 3) hx hb d_Er_push_16 (by decide) ?_
  refine lv_icmp_gt (tgt := 53) hx hb d_Er_push_17 rfl (fun br17 => absurd br17 (by decide)) (fun br17 => ?_)
  refine lv_iload_n hx hb d_Er_push_20 rfl (lv_at hl 0 rfl) ?_
  refine lv_iload_n hx hb d_Er_push_21 rfl (lv_at hl 2 rfl) ?_
  refine lv_icmp_eq (tgt := 47) hx hb d_Er_push_22 rfl (fun br22 => absurd br22 (by decide)) (fun br22 => ?_)
  refine lv_aload_n hx hb d_Er_push_25 rfl (lv_at hl 1 rfl) ?_
  refine lv_iload_n hx hb d_Er_push_26 rfl (lv_at hl 0 rfl) ?_
  refine lv_iconst (v := 0) hx hb d_Er_push_27 (by decide) ?_
  refine cr_V Z kv_Er_74 (c_Er_way_d l D E La he mu (k := 0) (by decide) (u := 0) rfl) hP (la_recv hK hP kc_Er he.1 rfl) [] rfl rfl hl.1 (Nat.le_of_ble_eq_true rfl) ⟨by decide, by decide⟩ ⟨Nat.zero_le _, Nat.zero_le _⟩ d_Er_push_28 ?_
  refine cr_V Z kv_Er_82 (c_Wy_isFull_t l D E La (he.2.2.2.2.2.2.2 0 (by decide)) mu p4_0 p5_0 pab_0 pa_0 pf_0) hP (la_recv hK hP kc_Wy (he.2.2.2.2.2.2.2 0 (by decide)).1 rfl) [] rfl rfl hl.1 (Nat.le_of_ble_eq_true rfl) ⟨by decide, by decide⟩ ⟨Nat.zero_le _, Nat.zero_le _⟩ d_Er_push_31 ?_
  refine lv_if_eq (tgt := 47) hx hb d_Er_push_34 rfl (fun br34 => absurd br34 (by decide)) (fun br34 => ?_)
  exact ct_throw Z rfl hlt hemp hlocks kx_86 htk hl.1 d_Er_push_37 d_Er_push_40 d_Er_push_41 d_Er_push_43 d_Er_push_46 ⟨by decide, by decide⟩ ⟨by decide, by decide⟩
set_option maxHeartbeats 4000000 in
set_option maxRecDepth 100000 in
theorem t_Er_push_3_12 (l : Launch) (hlt : l.stackTraces = false) (D : va_G) (E : Nat → ClassId) (La : la_L) {b0 : Nat} (he : isEr E La b0) (mu : la_M) {g a : Nat} (h4 : mu (b0 + 12 + 88 * 1) 4 = nI a) (h6 : mu (b0 + 12 + 88 * 1) 6 = nI g) (hga : g < a) (ha : a < 2 ^ 31) {av0 bv0 : Nat} (p4_0 : mu (b0 + 48 + 88 * 0) 4 = nI av0) (p5_0 : mu (b0 + 48 + 88 * 0) 5 = nI bv0) (pab_0 : bv0 ≤ av0) (pa_0 : av0 < 2 ^ 31) (pf_0 : av0 - bv0 < 24) {av2 bv2 : Nat} (p4_2 : mu (b0 + 48 + 88 * 2) 4 = nI av2) (p5_2 : mu (b0 + 48 + 88 * 2) 5 = nI bv2) (pab_2 : bv2 ≤ av2) (pa_2 : av2 < 2 ^ 31) (pf_2 : 24 ≤ av2 - bv2)  : ct l y_Er_push b_Er_push 4 (some .int) 7 110 D E La [.ref b0, .int 2] mu xU := by
  refine ct_begin R_Er (by decide) rfl (Nat.le_of_ble_eq_true rfl) ?_
  intro p e s m below meth c ls Z hlocks hemp hP htk hl
  have hx := Z.1
  have hb := Z.2.1
  have hK : va_K D cls5 (tyE E) s := Z.2.2.2.2.2
  have hl : lv_has ls 4 [(0, .ref b0), (1, .int 2)] := hl
  refine lv_iload_n hx hb d_Er_push_0 rfl (lv_at hl 1 rfl) ?_
  refine cr_S Z ks_Er_35 (c_Er_checkClient l D E La mu (k := 1) (by decide)) hP [] rfl rfl hl.1 (Nat.le_of_ble_eq_true rfl) ⟨by decide, by decide⟩ ⟨Nat.zero_le _, Nat.zero_le _⟩ d_Er_push_1 ?_
  refine lv_aload_n hx hb d_Er_push_4 rfl (lv_at hl 0 rfl) ?_
  refine lv_iload_n hx hb d_Er_push_5 rfl (lv_at hl 1 rfl) ?_
  refine lv_iconst (v := 1) hx hb d_Er_push_6 (by decide) ?_
  refine cr_V Z kv_Er_74 (c_Er_way_u l D E La he mu (k := 1) (by decide) (u := 1) (by decide)) hP (la_recv hK hP kc_Er he.1 rfl) [] rfl rfl hl.1 (Nat.le_of_ble_eq_true rfl) ⟨by decide, by decide⟩ ⟨Nat.zero_le _, Nat.zero_le _⟩ d_Er_push_7 ?_
  refine cr_S Z ks_Er_78 (c_Er_checkSomeWaits l D E La (he.2.2.2.2.2.2.1 1 (by decide)) mu h4 h6 hga ha) hP [] rfl rfl hl.1 (Nat.le_of_ble_eq_true rfl) ⟨by decide, by decide⟩ ⟨Nat.zero_le _, Nat.zero_le _⟩ d_Er_push_10 ?_
  refine lv_iconst (v := 1) hx hb d_Er_push_13 (by decide) ?_
  refine lv_istore_n hx hb d_Er_push_14 rfl hl (by decide) rfl (fun ls hl => ?_)
  have hl : lv_has ls 4 [(2, .int 1), (0, .ref b0), (1, .int 2)] := hl
  refine lv_iload_n hx hb d_Er_push_15 rfl (lv_at hl 0 rfl) ?_
  refine lv_iconst (v := 3) hx hb d_Er_push_16 (by decide) ?_
  refine lv_icmp_gt (tgt := 53) hx hb d_Er_push_17 rfl (fun br17 => absurd br17 (by decide)) (fun br17 => ?_)
  refine lv_iload_n hx hb d_Er_push_20 rfl (lv_at hl 0 rfl) ?_
  refine lv_iload_n hx hb d_Er_push_21 rfl (lv_at hl 2 rfl) ?_
  refine lv_icmp_eq (tgt := 47) hx hb d_Er_push_22 rfl (fun br22 => absurd br22 (by decide)) (fun br22 => ?_)
  refine lv_aload_n hx hb d_Er_push_25 rfl (lv_at hl 1 rfl) ?_
  refine lv_iload_n hx hb d_Er_push_26 rfl (lv_at hl 0 rfl) ?_
  refine lv_iconst (v := 0) hx hb d_Er_push_27 (by decide) ?_
  refine cr_V Z kv_Er_74 (c_Er_way_d l D E La he mu (k := 0) (by decide) (u := 0) rfl) hP (la_recv hK hP kc_Er he.1 rfl) [] rfl rfl hl.1 (Nat.le_of_ble_eq_true rfl) ⟨by decide, by decide⟩ ⟨Nat.zero_le _, Nat.zero_le _⟩ d_Er_push_28 ?_
  refine cr_V Z kv_Er_82 (c_Wy_isFull_f l D E La (he.2.2.2.2.2.2.2 0 (by decide)) mu p4_0 p5_0 pab_0 pa_0 pf_0) hP (la_recv hK hP kc_Wy (he.2.2.2.2.2.2.2 0 (by decide)).1 rfl) [] rfl rfl hl.1 (Nat.le_of_ble_eq_true rfl) ⟨by decide, by decide⟩ ⟨Nat.zero_le _, Nat.zero_le _⟩ d_Er_push_31 ?_
  refine lv_if_eq (tgt := 47) hx hb d_Er_push_34 rfl (fun br34 => ?_) (fun br34 => absurd (rfl) br34)
  refine lv_iinc (k := 0) (v := 2) hx hb d_Er_push_47 hl rfl (by decide) (by decide) rfl (fun ls hl => ?_)
  have hl : lv_has ls 4 [(2, .int 2), (0, .ref b0), (1, .int 2)] := hl
  refine lv_goto (tgt := 15) hx hb d_Er_push_50 rfl ?_
  refine lv_iload_n hx hb d_Er_push_15 rfl (lv_at hl 0 rfl) ?_
  refine lv_iconst (v := 3) hx hb d_Er_push_16 (by decide) ?_
  refine lv_icmp_gt (tgt := 53) hx hb d_Er_push_17 rfl (fun br17 => absurd br17 (by decide)) (fun br17 => ?_)
  refine lv_iload_n hx hb d_Er_push_20 rfl (lv_at hl 0 rfl) ?_
  refine lv_iload_n hx hb d_Er_push_21 rfl (lv_at hl 2 rfl) ?_
  refine lv_icmp_eq (tgt := 47) hx hb d_Er_push_22 rfl (fun br22 => ?_) (fun br22 => absurd (rfl) br22)
  refine lv_iinc (k := 0) (v := 3) hx hb d_Er_push_47 hl rfl (by decide) (by decide) rfl (fun ls hl => ?_)
  have hl : lv_has ls 4 [(2, .int 3), (0, .ref b0), (1, .int 2)] := hl
  refine lv_goto (tgt := 15) hx hb d_Er_push_50 rfl ?_
  refine lv_iload_n hx hb d_Er_push_15 rfl (lv_at hl 0 rfl) ?_
  refine lv_iconst (v := 3) hx hb d_Er_push_16 (by decide) ?_
  refine lv_icmp_gt (tgt := 53) hx hb d_Er_push_17 rfl (fun br17 => absurd br17 (by decide)) (fun br17 => ?_)
  refine lv_iload_n hx hb d_Er_push_20 rfl (lv_at hl 0 rfl) ?_
  refine lv_iload_n hx hb d_Er_push_21 rfl (lv_at hl 2 rfl) ?_
  refine lv_icmp_eq (tgt := 47) hx hb d_Er_push_22 rfl (fun br22 => absurd br22 (by decide)) (fun br22 => ?_)
  refine lv_aload_n hx hb d_Er_push_25 rfl (lv_at hl 1 rfl) ?_
  refine lv_iload_n hx hb d_Er_push_26 rfl (lv_at hl 0 rfl) ?_
  refine lv_iconst (v := 0) hx hb d_Er_push_27 (by decide) ?_
  refine cr_V Z kv_Er_74 (c_Er_way_d l D E La he mu (k := 2) (by decide) (u := 0) rfl) hP (la_recv hK hP kc_Er he.1 rfl) [] rfl rfl hl.1 (Nat.le_of_ble_eq_true rfl) ⟨by decide, by decide⟩ ⟨Nat.zero_le _, Nat.zero_le _⟩ d_Er_push_28 ?_
  refine cr_V Z kv_Er_82 (c_Wy_isFull_t l D E La (he.2.2.2.2.2.2.2 2 (by decide)) mu p4_2 p5_2 pab_2 pa_2 pf_2) hP (la_recv hK hP kc_Wy (he.2.2.2.2.2.2.2 2 (by decide)).1 rfl) [] rfl rfl hl.1 (Nat.le_of_ble_eq_true rfl) ⟨by decide, by decide⟩ ⟨Nat.zero_le _, Nat.zero_le _⟩ d_Er_push_31 ?_
  refine lv_if_eq (tgt := 47) hx hb d_Er_push_34 rfl (fun br34 => absurd br34 (by decide)) (fun br34 => ?_)
  exact ct_throw Z rfl hlt hemp hlocks kx_86 htk hl.1 d_Er_push_37 d_Er_push_40 d_Er_push_41 d_Er_push_43 d_Er_push_46 ⟨by decide, by decide⟩ ⟨by decide, by decide⟩
set_option maxHeartbeats 4000000 in
set_option maxRecDepth 100000 in
theorem t_Er_push_3_20 (l : Launch) (hlt : l.stackTraces = false) (D : va_G) (E : Nat → ClassId) (La : la_L) {b0 : Nat} (he : isEr E La b0) (mu : la_M) {g a : Nat} (h4 : mu (b0 + 12 + 88 * 2) 4 = nI a) (h6 : mu (b0 + 12 + 88 * 2) 6 = nI g) (hga : g < a) (ha : a < 2 ^ 31) {av0 bv0 : Nat} (p4_0 : mu (b0 + 48 + 88 * 0) 4 = nI av0) (p5_0 : mu (b0 + 48 + 88 * 0) 5 = nI bv0) (pab_0 : bv0 ≤ av0) (pa_0 : av0 < 2 ^ 31) (pf_0 : 24 ≤ av0 - bv0)  : ct l y_Er_push b_Er_push 4 (some .int) 7 110 D E La [.ref b0, .int 3] mu xU := by
  refine ct_begin R_Er (by decide) rfl (Nat.le_of_ble_eq_true rfl) ?_
  intro p e s m below meth c ls Z hlocks hemp hP htk hl
  have hx := Z.1
  have hb := Z.2.1
  have hK : va_K D cls5 (tyE E) s := Z.2.2.2.2.2
  have hl : lv_has ls 4 [(0, .ref b0), (1, .int 3)] := hl
  refine lv_iload_n hx hb d_Er_push_0 rfl (lv_at hl 1 rfl) ?_
  refine cr_S Z ks_Er_35 (c_Er_checkClient l D E La mu (k := 2) (by decide)) hP [] rfl rfl hl.1 (Nat.le_of_ble_eq_true rfl) ⟨by decide, by decide⟩ ⟨Nat.zero_le _, Nat.zero_le _⟩ d_Er_push_1 ?_
  refine lv_aload_n hx hb d_Er_push_4 rfl (lv_at hl 0 rfl) ?_
  refine lv_iload_n hx hb d_Er_push_5 rfl (lv_at hl 1 rfl) ?_
  refine lv_iconst (v := 1) hx hb d_Er_push_6 (by decide) ?_
  refine cr_V Z kv_Er_74 (c_Er_way_u l D E La he mu (k := 2) (by decide) (u := 1) (by decide)) hP (la_recv hK hP kc_Er he.1 rfl) [] rfl rfl hl.1 (Nat.le_of_ble_eq_true rfl) ⟨by decide, by decide⟩ ⟨Nat.zero_le _, Nat.zero_le _⟩ d_Er_push_7 ?_
  refine cr_S Z ks_Er_78 (c_Er_checkSomeWaits l D E La (he.2.2.2.2.2.2.1 2 (by decide)) mu h4 h6 hga ha) hP [] rfl rfl hl.1 (Nat.le_of_ble_eq_true rfl) ⟨by decide, by decide⟩ ⟨Nat.zero_le _, Nat.zero_le _⟩ d_Er_push_10 ?_
  refine lv_iconst (v := 1) hx hb d_Er_push_13 (by decide) ?_
  refine lv_istore_n hx hb d_Er_push_14 rfl hl (by decide) rfl (fun ls hl => ?_)
  have hl : lv_has ls 4 [(2, .int 1), (0, .ref b0), (1, .int 3)] := hl
  refine lv_iload_n hx hb d_Er_push_15 rfl (lv_at hl 0 rfl) ?_
  refine lv_iconst (v := 3) hx hb d_Er_push_16 (by decide) ?_
  refine lv_icmp_gt (tgt := 53) hx hb d_Er_push_17 rfl (fun br17 => absurd br17 (by decide)) (fun br17 => ?_)
  refine lv_iload_n hx hb d_Er_push_20 rfl (lv_at hl 0 rfl) ?_
  refine lv_iload_n hx hb d_Er_push_21 rfl (lv_at hl 2 rfl) ?_
  refine lv_icmp_eq (tgt := 47) hx hb d_Er_push_22 rfl (fun br22 => absurd br22 (by decide)) (fun br22 => ?_)
  refine lv_aload_n hx hb d_Er_push_25 rfl (lv_at hl 1 rfl) ?_
  refine lv_iload_n hx hb d_Er_push_26 rfl (lv_at hl 0 rfl) ?_
  refine lv_iconst (v := 0) hx hb d_Er_push_27 (by decide) ?_
  refine cr_V Z kv_Er_74 (c_Er_way_d l D E La he mu (k := 0) (by decide) (u := 0) rfl) hP (la_recv hK hP kc_Er he.1 rfl) [] rfl rfl hl.1 (Nat.le_of_ble_eq_true rfl) ⟨by decide, by decide⟩ ⟨Nat.zero_le _, Nat.zero_le _⟩ d_Er_push_28 ?_
  refine cr_V Z kv_Er_82 (c_Wy_isFull_t l D E La (he.2.2.2.2.2.2.2 0 (by decide)) mu p4_0 p5_0 pab_0 pa_0 pf_0) hP (la_recv hK hP kc_Wy (he.2.2.2.2.2.2.2 0 (by decide)).1 rfl) [] rfl rfl hl.1 (Nat.le_of_ble_eq_true rfl) ⟨by decide, by decide⟩ ⟨Nat.zero_le _, Nat.zero_le _⟩ d_Er_push_31 ?_
  refine lv_if_eq (tgt := 47) hx hb d_Er_push_34 rfl (fun br34 => absurd br34 (by decide)) (fun br34 => ?_)
  exact ct_throw Z rfl hlt hemp hlocks kx_86 htk hl.1 d_Er_push_37 d_Er_push_40 d_Er_push_41 d_Er_push_43 d_Er_push_46 ⟨by decide, by decide⟩ ⟨by decide, by decide⟩
set_option maxHeartbeats 4000000 in
set_option maxRecDepth 100000 in
theorem t_Er_push_3_21 (l : Launch) (hlt : l.stackTraces = false) (D : va_G) (E : Nat → ClassId) (La : la_L) {b0 : Nat} (he : isEr E La b0) (mu : la_M) {g a : Nat} (h4 : mu (b0 + 12 + 88 * 2) 4 = nI a) (h6 : mu (b0 + 12 + 88 * 2) 6 = nI g) (hga : g < a) (ha : a < 2 ^ 31) {av0 bv0 : Nat} (p4_0 : mu (b0 + 48 + 88 * 0) 4 = nI av0) (p5_0 : mu (b0 + 48 + 88 * 0) 5 = nI bv0) (pab_0 : bv0 ≤ av0) (pa_0 : av0 < 2 ^ 31) (pf_0 : av0 - bv0 < 24) {av1 bv1 : Nat} (p4_1 : mu (b0 + 48 + 88 * 1) 4 = nI av1) (p5_1 : mu (b0 + 48 + 88 * 1) 5 = nI bv1) (pab_1 : bv1 ≤ av1) (pa_1 : av1 < 2 ^ 31) (pf_1 : 24 ≤ av1 - bv1)  : ct l y_Er_push b_Er_push 4 (some .int) 7 110 D E La [.ref b0, .int 3] mu xU := by
  refine ct_begin R_Er (by decide) rfl (Nat.le_of_ble_eq_true rfl) ?_
  intro p e s m below meth c ls Z hlocks hemp hP htk hl
  have hx := Z.1
  have hb := Z.2.1
  have hK : va_K D cls5 (tyE E) s := Z.2.2.2.2.2
  have hl : lv_has ls 4 [(0, .ref b0), (1, .int 3)] := hl
  refine lv_iload_n hx hb d_Er_push_0 rfl (lv_at hl 1 rfl) ?_
  refine cr_S Z ks_Er_35 (c_Er_checkClient l D E La mu (k := 2) (by decide)) hP [] rfl rfl hl.1 (Nat.le_of_ble_eq_true rfl) ⟨by decide, by decide⟩ ⟨Nat.zero_le _, Nat.zero_le _⟩ d_Er_push_1 ?_
  refine lv_aload_n hx hb d_Er_push_4 rfl (lv_at hl 0 rfl) ?_
  refine lv_iload_n hx hb d_Er_push_5 rfl (lv_at hl 1 rfl) ?_
  refine lv_iconst (v := 1) hx hb d_Er_push_6 (by decide) ?_
  refine cr_V Z kv_Er_74 (c_Er_way_u l D E La he mu (k := 2) (by decide) (u := 1) (by decide)) hP (la_recv hK hP kc_Er he.1 rfl) [] rfl rfl hl.1 (Nat.le_of_ble_eq_true rfl) ⟨by decide, by decide⟩ ⟨Nat.zero_le _, Nat.zero_le _⟩ d_Er_push_7 ?_
  refine cr_S Z ks_Er_78 (c_Er_checkSomeWaits l D E La (he.2.2.2.2.2.2.1 2 (by decide)) mu h4 h6 hga ha) hP [] rfl rfl hl.1 (Nat.le_of_ble_eq_true rfl) ⟨by decide, by decide⟩ ⟨Nat.zero_le _, Nat.zero_le _⟩ d_Er_push_10 ?_
  refine lv_iconst (v := 1) hx hb d_Er_push_13 (by decide) ?_
  refine lv_istore_n hx hb d_Er_push_14 rfl hl (by decide) rfl (fun ls hl => ?_)
  have hl : lv_has ls 4 [(2, .int 1), (0, .ref b0), (1, .int 3)] := hl
  refine lv_iload_n hx hb d_Er_push_15 rfl (lv_at hl 0 rfl) ?_
  refine lv_iconst (v := 3) hx hb d_Er_push_16 (by decide) ?_
  refine lv_icmp_gt (tgt := 53) hx hb d_Er_push_17 rfl (fun br17 => absurd br17 (by decide)) (fun br17 => ?_)
  refine lv_iload_n hx hb d_Er_push_20 rfl (lv_at hl 0 rfl) ?_
  refine lv_iload_n hx hb d_Er_push_21 rfl (lv_at hl 2 rfl) ?_
  refine lv_icmp_eq (tgt := 47) hx hb d_Er_push_22 rfl (fun br22 => absurd br22 (by decide)) (fun br22 => ?_)
  refine lv_aload_n hx hb d_Er_push_25 rfl (lv_at hl 1 rfl) ?_
  refine lv_iload_n hx hb d_Er_push_26 rfl (lv_at hl 0 rfl) ?_
  refine lv_iconst (v := 0) hx hb d_Er_push_27 (by decide) ?_
  refine cr_V Z kv_Er_74 (c_Er_way_d l D E La he mu (k := 0) (by decide) (u := 0) rfl) hP (la_recv hK hP kc_Er he.1 rfl) [] rfl rfl hl.1 (Nat.le_of_ble_eq_true rfl) ⟨by decide, by decide⟩ ⟨Nat.zero_le _, Nat.zero_le _⟩ d_Er_push_28 ?_
  refine cr_V Z kv_Er_82 (c_Wy_isFull_f l D E La (he.2.2.2.2.2.2.2 0 (by decide)) mu p4_0 p5_0 pab_0 pa_0 pf_0) hP (la_recv hK hP kc_Wy (he.2.2.2.2.2.2.2 0 (by decide)).1 rfl) [] rfl rfl hl.1 (Nat.le_of_ble_eq_true rfl) ⟨by decide, by decide⟩ ⟨Nat.zero_le _, Nat.zero_le _⟩ d_Er_push_31 ?_
  refine lv_if_eq (tgt := 47) hx hb d_Er_push_34 rfl (fun br34 => ?_) (fun br34 => absurd (rfl) br34)
  refine lv_iinc (k := 0) (v := 2) hx hb d_Er_push_47 hl rfl (by decide) (by decide) rfl (fun ls hl => ?_)
  have hl : lv_has ls 4 [(2, .int 2), (0, .ref b0), (1, .int 3)] := hl
  refine lv_goto (tgt := 15) hx hb d_Er_push_50 rfl ?_
  refine lv_iload_n hx hb d_Er_push_15 rfl (lv_at hl 0 rfl) ?_
  refine lv_iconst (v := 3) hx hb d_Er_push_16 (by decide) ?_
  refine lv_icmp_gt (tgt := 53) hx hb d_Er_push_17 rfl (fun br17 => absurd br17 (by decide)) (fun br17 => ?_)
  refine lv_iload_n hx hb d_Er_push_20 rfl (lv_at hl 0 rfl) ?_
  refine lv_iload_n hx hb d_Er_push_21 rfl (lv_at hl 2 rfl) ?_
  refine lv_icmp_eq (tgt := 47) hx hb d_Er_push_22 rfl (fun br22 => absurd br22 (by decide)) (fun br22 => ?_)
  refine lv_aload_n hx hb d_Er_push_25 rfl (lv_at hl 1 rfl) ?_
  refine lv_iload_n hx hb d_Er_push_26 rfl (lv_at hl 0 rfl) ?_
  refine lv_iconst (v := 0) hx hb d_Er_push_27 (by decide) ?_
  refine cr_V Z kv_Er_74 (c_Er_way_d l D E La he mu (k := 1) (by decide) (u := 0) rfl) hP (la_recv hK hP kc_Er he.1 rfl) [] rfl rfl hl.1 (Nat.le_of_ble_eq_true rfl) ⟨by decide, by decide⟩ ⟨Nat.zero_le _, Nat.zero_le _⟩ d_Er_push_28 ?_
  refine cr_V Z kv_Er_82 (c_Wy_isFull_t l D E La (he.2.2.2.2.2.2.2 1 (by decide)) mu p4_1 p5_1 pab_1 pa_1 pf_1) hP (la_recv hK hP kc_Wy (he.2.2.2.2.2.2.2 1 (by decide)).1 rfl) [] rfl rfl hl.1 (Nat.le_of_ble_eq_true rfl) ⟨by decide, by decide⟩ ⟨Nat.zero_le _, Nat.zero_le _⟩ d_Er_push_31 ?_
  refine lv_if_eq (tgt := 47) hx hb d_Er_push_34 rfl (fun br34 => absurd br34 (by decide)) (fun br34 => ?_)
  exact ct_throw Z rfl hlt hemp hlocks kx_86 htk hl.1 d_Er_push_37 d_Er_push_40 d_Er_push_41 d_Er_push_43 d_Er_push_46 ⟨by decide, by decide⟩ ⟨by decide, by decide⟩
set_option maxHeartbeats 4000000 in
set_option maxRecDepth 100000 in
theorem t_Er_waiting_1 (l : Launch) (hlt : l.stackTraces = false) (D : va_G) (E : Nat → ClassId) (La : la_L) {b0 : Nat} (he : isEr E La b0) (mu : la_M) {cl : Int32} (hc : cl < 1 ∨ 3 < cl) {u : Int32} : ct l y_Er_waiting b_Er_waiting 3 (some .int) 7 110 D E La [.ref b0, .int cl, .int u] mu xA := by
  refine ct_begin R_Er (by decide) rfl (Nat.le_of_ble_eq_true rfl) ?_
  intro p e s m below meth c ls Z hlocks hemp hP htk hl
  have hx := Z.1
  have hb := Z.2.1
  have hK : va_K D cls5 (tyE E) s := Z.2.2.2.2.2
  have hl : lv_has ls 3 [(0, .ref b0), (1, .int cl), (2, .int u)] := hl
  refine lv_iload_n hx hb d_Er_waiting_0 rfl (lv_at hl 1 rfl) ?_
  exact tc_S Z ks_Er_35 (t_Er_checkClient l hlt D E La mu hc) hP htk [] rfl rfl hl.1 (Nat.le_of_ble_eq_true rfl) ⟨by decide, by decide⟩ ⟨Nat.le_refl _, Nat.le_refl _⟩ d_Er_waiting_1 (fun H1 q9 ce g1 g2 g3 g4 g5 => tc_out hemp hlocks g3 g4 g5)
set_option maxHeartbeats 4000000 in
set_option maxRecDepth 100000 in
theorem t_Er_got_1 (l : Launch) (hlt : l.stackTraces = false) (D : va_G) (E : Nat → ClassId) (La : la_L) {b0 : Nat} (he : isEr E La b0) (mu : la_M) {cl : Int32} (hc : cl < 1 ∨ 3 < cl) {u : Int32} : ct l y_Er_got b_Er_got 3 (some .int) 7 110 D E La [.ref b0, .int cl, .int u] mu xA := by
  refine ct_begin R_Er (by decide) rfl (Nat.le_of_ble_eq_true rfl) ?_
  intro p e s m below meth c ls Z hlocks hemp hP htk hl
  have hx := Z.1
  have hb := Z.2.1
  have hK : va_K D cls5 (tyE E) s := Z.2.2.2.2.2
  have hl : lv_has ls 3 [(0, .ref b0), (1, .int cl), (2, .int u)] := hl
  refine lv_iload_n hx hb d_Er_got_0 rfl (lv_at hl 1 rfl) ?_
  exact tc_S Z ks_Er_35 (t_Er_checkClient l hlt D E La mu hc) hP htk [] rfl rfl hl.1 (Nat.le_of_ble_eq_true rfl) ⟨by decide, by decide⟩ ⟨Nat.le_refl _, Nat.le_refl _⟩ d_Er_got_1 (fun H1 q9 ce g1 g2 g3 g4 g5 => tc_out hemp hlocks g3 g4 g5)
set_option maxHeartbeats 4000000 in
set_option maxRecDepth 100000 in
theorem t_Er_open_1 (l : Launch) (hlt : l.stackTraces = false) (D : va_G) (E : Nat → ClassId) (La : la_L) {b0 : Nat} (he : isEr E La b0) (mu : la_M) {cl : Int32} (hc : cl < 1 ∨ 3 < cl) {u : Int32} : ct l y_Er_open b_Er_open 3 (some .int) 7 110 D E La [.ref b0, .int cl, .int u] mu xA := by
  refine ct_begin R_Er (by decide) rfl (Nat.le_of_ble_eq_true rfl) ?_
  intro p e s m below meth c ls Z hlocks hemp hP htk hl
  have hx := Z.1
  have hb := Z.2.1
  have hK : va_K D cls5 (tyE E) s := Z.2.2.2.2.2
  have hl : lv_has ls 3 [(0, .ref b0), (1, .int cl), (2, .int u)] := hl
  refine lv_iload_n hx hb d_Er_open_0 rfl (lv_at hl 1 rfl) ?_
  exact tc_S Z ks_Er_35 (t_Er_checkClient l hlt D E La mu hc) hP htk [] rfl rfl hl.1 (Nat.le_of_ble_eq_true rfl) ⟨by decide, by decide⟩ ⟨Nat.le_refl _, Nat.le_refl _⟩ d_Er_open_1 (fun H1 q9 ce g1 g2 g3 g4 g5 => tc_out hemp hlocks g3 g4 g5)
set_option maxHeartbeats 4000000 in
set_option maxRecDepth 100000 in
theorem t_Er_change_1 (l : Launch) (hlt : l.stackTraces = false) (D : va_G) (E : Nat → ClassId) (La : la_L) {b0 : Nat} (he : isEr E La b0) (mu : la_M) {cl : Int32} (hc : cl < 1 ∨ 3 < cl) {u i9 : Int32} : ct l y_Er_change b_Er_change 6 (some .int) 7 110 D E La [.ref b0, .int cl, .int u, .int i9] mu xA := by
  refine ct_begin R_Er (by decide) rfl (Nat.le_of_ble_eq_true rfl) ?_
  intro p e s m below meth c ls Z hlocks hemp hP htk hl
  have hx := Z.1
  have hb := Z.2.1
  have hK : va_K D cls5 (tyE E) s := Z.2.2.2.2.2
  have hl : lv_has ls 6 [(0, .ref b0), (1, .int cl), (2, .int u), (3, .int i9)] := hl
  refine lv_iload_n hx hb d_Er_change_0 rfl (lv_at hl 1 rfl) ?_
  exact tc_S Z ks_Er_35 (t_Er_checkClient l hlt D E La mu hc) hP htk [] rfl rfl hl.1 (Nat.le_of_ble_eq_true rfl) ⟨by decide, by decide⟩ ⟨Nat.le_refl _, Nat.le_refl _⟩ d_Er_change_1 (fun H1 q9 ce g1 g2 g3 g4 g5 => tc_out hemp hlocks g3 g4 g5)
set_option maxHeartbeats 4000000 in
set_option maxRecDepth 100000 in
theorem t_Er_change_2 (l : Launch) (hlt : l.stackTraces = false) (D : va_G) (E : Nat → ClassId) (La : la_L) {b0 : Nat} (he : isEr E La b0) (mu : la_M) {k : Nat} (hk : k < 3) {w0 r : Nat} {u : Int32} (hw : isWy E La w0 r) (hway : cr l y_Er_way b_Er_way 3 (some (.object "EditRelay$Way")) 0 0 D E La [.ref b0, .int (nI (k + 1)), .int u] mu (some (.ref w0))) {i9 : Int32} {a b : Nat} (h4 : mu w0 4 = nI a) (h5 : mu w0 5 = nI b) (hab : b ≤ a) (hc : i9 < 0 ∨ nI (a - b) ≤ i9) : ct l y_Er_change b_Er_change 6 (some .int) 7 110 D E La [.ref b0, .int (nI (k + 1)), .int u, .int i9] mu xB := by
  refine ct_begin R_Er (by decide) rfl (Nat.le_of_ble_eq_true rfl) ?_
  intro p e s m below meth c ls Z hlocks hemp hP htk hl
  have hx := Z.1
  have hb := Z.2.1
  have hK : va_K D cls5 (tyE E) s := Z.2.2.2.2.2
  have hl : lv_has ls 6 [(0, .ref b0), (1, .int (nI (k + 1))), (2, .int u), (3, .int i9)] := hl
  refine lv_iload_n hx hb d_Er_change_0 rfl (lv_at hl 1 rfl) ?_
  refine cr_S Z ks_Er_35 (c_Er_checkClient l D E La mu hk) hP [] rfl rfl hl.1 (Nat.le_of_ble_eq_true rfl) ⟨by decide, by decide⟩ ⟨Nat.zero_le _, Nat.zero_le _⟩ d_Er_change_1 ?_
  refine lv_aload_n hx hb d_Er_change_4 rfl (lv_at hl 0 rfl) ?_
  refine lv_iload_n hx hb d_Er_change_5 rfl (lv_at hl 1 rfl) ?_
  refine lv_iload_n hx hb d_Er_change_6 rfl (lv_at hl 2 rfl) ?_
  refine cr_V Z kv_Er_74 (hway) hP (la_recv hK hP kc_Er he.1 rfl) [] rfl rfl hl.1 (Nat.le_of_ble_eq_true rfl) ⟨by decide, by decide⟩ ⟨Nat.zero_le _, Nat.zero_le _⟩ d_Er_change_7 ?_
  refine lv_astore hx hb d_Er_change_10 hl (by decide) rfl (fun ls hl => ?_)
  have hl : lv_has ls 6 [(4, .ref w0), (0, .ref b0), (1, .int (nI (k + 1))), (2, .int u), (3, .int i9)] := hl
  refine lv_iload_n hx hb d_Er_change_12 rfl (lv_at hl 4 rfl) ?_
  refine lv_if_lt (tgt := 25) hx hb d_Er_change_13 rfl (fun br13 => ?_) (fun br13 => ?_)
  · skip
    exact ct_throw Z rfl hlt hemp hlocks kx_109 htk hl.1 d_Er_change_25 d_Er_change_28 d_Er_change_29 d_Er_change_31 d_Er_change_34 ⟨by decide, by decide⟩ ⟨by decide, by decide⟩
  · skip
    refine lv_iload_n hx hb d_Er_change_16 rfl (lv_at hl 4 rfl) ?_
    refine lv_aload hx hb d_Er_change_17 (lv_at hl 0 rfl) ?_
    refine cr_V Z kv_Er_106 (c_Wy_openCount l D E La hw mu h4 h5 hab) hP (la_recv hK hP kc_Wy hw.1 rfl) [.int i9] rfl rfl hl.1 (Nat.le_of_ble_eq_true rfl) ⟨by decide, by decide⟩ ⟨Nat.zero_le _, Nat.zero_le _⟩ d_Er_change_19 ?_
    refine lv_icmp_lt (tgt := 35) hx hb d_Er_change_22 rfl (fun br22 => absurd br22 (Int32.not_lt.mpr (hc.resolve_left br13))) (fun br22 => ?_)
    exact ct_throw Z rfl hlt hemp hlocks kx_109 htk hl.1 d_Er_change_25 d_Er_change_28 d_Er_change_29 d_Er_change_31 d_Er_change_34 ⟨by decide, by decide⟩ ⟨by decide, by decide⟩
set_option maxHeartbeats 4000000 in
set_option maxRecDepth 100000 in
theorem t_Er_size_1 (l : Launch) (hlt : l.stackTraces = false) (D : va_G) (E : Nat → ClassId) (La : la_L) {b0 : Nat} (he : isEr E La b0) (mu : la_M) {cl : Int32} (hc : cl < 0 ∨ 3 < cl)  : ct l y_Er_size b_Er_size 2 (some .int) 7 110 D E La [.ref b0, .int cl] mu xA := by
  refine ct_begin R_Er (by decide) rfl (Nat.le_of_ble_eq_true rfl) ?_
  intro p e s m below meth c ls Z hlocks hemp hP htk hl
  have hx := Z.1
  have hb := Z.2.1
  have hK : va_K D cls5 (tyE E) s := Z.2.2.2.2.2
  have hl : lv_has ls 2 [(0, .ref b0), (1, .int cl)] := hl
  refine lv_iload_n hx hb d_Er_size_0 rfl (lv_at hl 1 rfl) ?_
  exact tc_S Z ks_Er_121 (t_Er_checkSite l hlt D E La mu hc) hP htk [] rfl rfl hl.1 (Nat.le_of_ble_eq_true rfl) ⟨by decide, by decide⟩ ⟨Nat.le_refl _, Nat.le_refl _⟩ d_Er_size_1 (fun H1 q9 ce g1 g2 g3 g4 g5 => tc_out hemp hlocks g3 g4 g5)
set_option maxHeartbeats 4000000 in
set_option maxRecDepth 100000 in
theorem t_Er_letter_1 (l : Launch) (hlt : l.stackTraces = false) (D : va_G) (E : Nat → ClassId) (La : la_L) {b0 : Nat} (he : isEr E La b0) (mu : la_M) {cl : Int32} (hc : cl < 0 ∨ 3 < cl) {at0 : Int32} : ct l y_Er_letter b_Er_letter 4 (some .int) 7 111 D E La [.ref b0, .int cl, .int at0] mu xA := by
  refine ct_begin R_Er (by decide) rfl (Nat.le_of_ble_eq_true rfl) ?_
  intro p e s m below meth c ls Z hlocks hemp hP htk hl
  have hx := Z.1
  have hb := Z.2.1
  have hK : va_K D cls5 (tyE E) s := Z.2.2.2.2.2
  have hl : lv_has ls 4 [(0, .ref b0), (1, .int cl), (2, .int at0)] := hl
  refine lv_iload_n hx hb d_Er_letter_0 rfl (lv_at hl 1 rfl) ?_
  exact tc_S Z ks_Er_121 (t_Er_checkSite l hlt D E La mu hc) hP htk [] rfl rfl hl.1 (Nat.le_of_ble_eq_true rfl) ⟨by decide, by decide⟩ ⟨Nat.le_refl _, Nat.le_refl _⟩ d_Er_letter_1 (fun H1 q9 ce g1 g2 g3 g4 g5 => tc_out hemp hlocks g3 g4 g5)
set_option maxHeartbeats 4000000 in
set_option maxRecDepth 100000 in
theorem t_Er_letter_2 (l : Launch) (hlt : l.stackTraces = false) (D : va_G) (E : Nat → ClassId) (La : la_L) {b0 : Nat} (he : isEr E La b0) (mu : la_M) {k : Nat} (hk : k < 4) {at0 : Int32} {n : Nat} (hn : mu (b0 + 2 + 2 * k) 1 = nI n) (hc : at0 < 0 ∨ nI n ≤ at0) : ct l y_Er_letter b_Er_letter 4 (some .int) 7 111 D E La [.ref b0, .int (nI k), .int at0] mu xB := by
  refine ct_begin R_Er (by decide) rfl (Nat.le_of_ble_eq_true rfl) ?_
  intro p e s m below meth c ls Z hlocks hemp hP htk hl
  have hx := Z.1
  have hb := Z.2.1
  have hK : va_K D cls5 (tyE E) s := Z.2.2.2.2.2
  have hl : lv_has ls 4 [(0, .ref b0), (1, .int (nI k)), (2, .int at0)] := hl
  refine lv_iload_n hx hb d_Er_letter_0 rfl (lv_at hl 1 rfl) ?_
  refine cr_S Z ks_Er_121 (c_Er_checkSite l D E La mu hk) hP [] rfl rfl hl.1 (Nat.le_of_ble_eq_true rfl) ⟨by decide, by decide⟩ ⟨Nat.zero_le _, Nat.zero_le _⟩ d_Er_letter_1 ?_
  refine lv_aload_n hx hb d_Er_letter_4 rfl (lv_at hl 0 rfl) ?_
  refine g_f (v := .ref (b0 + 1)) Z kc_Er hP he.1 rfl 0 (by decide) wl_Er_11 rfl rfl d_Er_letter_5 ?_
  refine lv_iload_n hx hb d_Er_letter_8 rfl (lv_at hl 1 rfl) ?_
  refine la_aald (F := (fun k => b0 + 2 + 2 * k)) hx hb hK hP 3 he.2.1 rfl rfl k rfl hk (by decide) d_Er_letter_9 ?_
  refine lv_astore_n hx hb d_Er_letter_10 rfl hl (by decide) rfl (fun ls hl => ?_)
  have hl : lv_has ls 4 [(3, .ref (b0 + 2 + 2 * k)), (0, .ref b0), (1, .int (nI k)), (2, .int at0)] := hl
  refine lv_aload_n hx hb d_Er_letter_11 rfl (lv_at hl 0 rfl) ?_
  refine lv_iload_n hx hb d_Er_letter_12 rfl (lv_at hl 3 rfl) ?_
  exact tc_S Z ks_Er_66 (t_Er_checkHasLetter l hlt D E La (he.2.2.2.2.2.1 k hk) mu hn hc) hP htk [] rfl rfl hl.1 (Nat.le_of_ble_eq_true rfl) ⟨by decide, by decide⟩ ⟨Nat.le_refl _, Nat.le_refl _⟩ d_Er_letter_13 (fun H1 q9 ce g1 g2 g3 g4 g5 => tc_out hemp hlocks g3 g4 g5)
