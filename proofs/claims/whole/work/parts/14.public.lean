/-! EditRelay's public methods where they return (written by wip/whole/p14.py) -/
theorem wy_send_n {mu : la_M} {w0 r c0 n z : Nat} {x : Int32} (h1 : z ≠ w0) (h2 : z ≠ w0 + 3) (h3 : z ≠ w0 + 4 + 2 * (n % r)) (h4 : z ≠ w0 + 5 + 2 * (n % r)) : wy_send mu w0 r c0 n x z = mu z := by
  unfold wy_send
  rw [la_up_n h1, la_up_n h2, ch_copy_n h4, ch_copy_n h3]
theorem tx_do_1 {mu : la_M} {a0 k q n : Nat} {x : Int32} (hn : mu a0 1 = nI n) : tx_do mu a0 k q n x a0 1 = nI (if k = 0 then n + 1 else if k = 1 then n - 1 else n) := by
  unfold tx_do
  by_cases h0 : k = 0
  · rw [if_pos h0, if_pos h0]
    exact la_up_s
  · rw [if_neg h0, if_neg h0]
    by_cases h1 : k = 1
    · rw [if_pos h1, if_pos h1]
      exact la_up_s
    · rw [if_neg h1, if_neg h1]
      exact hn
set_option maxHeartbeats 4000000 in
set_option maxRecDepth 100000 in
theorem c_Er_insert (l : Launch) (D : va_G) (E : Nat → ClassId) (La : la_L) {b0 : Nat} (he : isEr E La b0) (mu : la_M) {k : Nat} (hk : k < 3) {q n a b : Nat} {x : Int32} (hx1 : ¬ x < 32) (hx2 : x ≤ 126) (hx0 : chz x) (hn : mu (b0 + 2 + 2 * (k + 1)) 1 = nI n) (hq : q ≤ n) (hn40 : n < 40) (hz : ∀ j, chz (mu ((b0 + 2 + 2 * (k + 1)) + 1) j)) (h4 : mu (b0 + 12 + 88 * k) 4 = nI a) (h5 : mu (b0 + 12 + 88 * k) 5 = nI b) (hab : b ≤ a) (ha : a < 2 ^ 31) (hf : a - b < 16) : cw l y_Er_insert b_Er_insert 5 (some .int) 4 90 D E La [.ref b0, .int (nI (k + 1)), .int (nI q), .int x] mu (some (.int (nI (n + 1)))) (er_make mu b0 k 0 q n a x) := by
  refine cw_begin R_Er (by decide) rfl (Nat.le_of_ble_eq_true rfl) ?_
  intro p e s m below meth c ls Z hr hlocks hP hS hl
  have hx := Z.1
  have hb := Z.2.1
  have hK : va_K D cls5 (tyE E) s := Z.2.2.2.2.2
  have hl : lv_has ls 5 [(0, .ref b0), (1, .int (nI (k + 1))), (2, .int (nI q)), (3, .int x)] := hl
  have g1 : (er_make mu b0 k 0 q n a x) (b0 + 2 + 2 * (k + 1)) 1 = nI (n + 1) := by
    have hm := Nat.mod_lt a (show 0 < 16 by decide)
    unfold er_make
    rw [wy_send_n (by omega) (by omega) (by omega) (by omega)]
    exact tx_do_1 (k := 0) (by rw [er_mk_n (by omega)]; exact hn)
  refine lv_iload_n hx hb d_Er_insert_0 rfl (lv_at hl 1 rfl) ?_
  refine cr_S Z ks_Er_35 (c_Er_checkClient l D E La mu hk) hP [] rfl rfl hl.1 (Nat.le_of_ble_eq_true rfl) ⟨by decide, by decide⟩ ⟨Nat.le_refl _, Nat.le_refl _⟩ d_Er_insert_1 ?_
  refine lv_iload_n hx hb d_Er_insert_4 rfl (lv_at hl 3 rfl) ?_
  refine lv_bipush (v := 32) hx hb d_Er_insert_5 (by decide) ?_
  refine lv_icmp_lt (tgt := 16) hx hb d_Er_insert_7 rfl (fun br7 => absurd br7 (hx1)) (fun br7 => ?_)
  refine lv_iload_n hx hb d_Er_insert_10 rfl (lv_at hl 3 rfl) ?_
  refine lv_bipush (v := 126) hx hb d_Er_insert_11 (by decide) ?_
  refine lv_icmp_le (tgt := 26) hx hb d_Er_insert_13 rfl (fun br13 => ?_) (fun br13 => absurd (hx2) br13)
  refine lv_aload_n hx hb d_Er_insert_26 rfl (lv_at hl 0 rfl) ?_
  refine g_f (v := .ref (b0 + 1)) Z kc_Er hP he.1 rfl 0 (by decide) wl_Er_11 rfl rfl d_Er_insert_27 ?_
  refine lv_iload_n hx hb d_Er_insert_30 rfl (lv_at hl 1 rfl) ?_
  refine la_aald (F := (fun k => b0 + 2 + 2 * k)) hx hb hK hP 3 he.2.1 rfl rfl (k + 1) rfl (by omega) (by decide) d_Er_insert_31 ?_
  refine lv_astore hx hb d_Er_insert_32 hl (by decide) rfl (fun ls hl => ?_)
  have hl : lv_has ls 5 [(4, .ref (b0 + 2 + 2 * (k + 1))), (0, .ref b0), (1, .int (nI (k + 1))), (2, .int (nI q)), (3, .int x)] := hl
  refine lv_iload_n hx hb d_Er_insert_34 rfl (lv_at hl 3 rfl) ?_
  refine lv_if_lt (tgt := 47) hx hb d_Er_insert_35 rfl (fun br35 => absurd br35 (nI_pos (by omega))) (fun br35 => ?_)
  refine lv_iload_n hx hb d_Er_insert_38 rfl (lv_at hl 3 rfl) ?_
  refine lv_aload hx hb d_Er_insert_39 (lv_at hl 0 rfl) ?_
  refine g_i (v := (nI n)) Z kc_Tx hP (he.2.2.2.2.2.1 (k + 1) (by omega)).1 rfl 1 (by decide) wl_Er_45 rfl rfl hn d_Er_insert_41 ?_
  refine lv_icmp_le (tgt := 57) hx hb d_Er_insert_44 rfl (fun br44 => ?_) (fun br44 => absurd (nI_le hq (by omega)) br44)
  refine lv_aload hx hb d_Er_insert_57 (lv_at hl 0 rfl) ?_
  refine g_i (v := (nI n)) Z kc_Tx hP (he.2.2.2.2.2.1 (k + 1) (by omega)).1 rfl 1 (by decide) wl_Er_45 rfl rfl hn d_Er_insert_59 ?_
  refine lv_bipush (v := 40) hx hb d_Er_insert_62 (by decide) ?_
  refine lv_icmp_lt (tgt := 77) hx hb d_Er_insert_64 rfl (fun br64 => ?_) (fun br64 => absurd (nI_lt (b := 40) hn40 (by decide)) br64)
  refine lv_aload_n hx hb d_Er_insert_77 rfl (lv_at hl 1 rfl) ?_
  refine lv_iload_n hx hb d_Er_insert_78 rfl (lv_at hl 2 rfl) ?_
  refine cr_V Z kv_Er_59 (c_Er_checkMayMakeChange l D E La he mu hk h4 h5 hab ha hf) hP (la_recv hK hP kc_Er he.1 rfl) [] rfl rfl hl.1 (Nat.le_of_ble_eq_true rfl) ⟨by decide, by decide⟩ ⟨Nat.le_refl _, Nat.le_refl _⟩ d_Er_insert_79 ?_
  refine lv_aload_n hx hb d_Er_insert_82 rfl (lv_at hl 1 rfl) ?_
  refine lv_iload_n hx hb d_Er_insert_83 rfl (lv_at hl 2 rfl) ?_
  refine lv_iconst (v := 0) hx hb d_Er_insert_84 (by decide) ?_
  refine lv_iload_n hx hb d_Er_insert_85 rfl (lv_at hl 3 rfl) ?_
  refine lv_iload_n hx hb d_Er_insert_86 rfl (lv_at hl 4 rfl) ?_
  refine cw_V Z kv_Er_62 (c_Er_makeChange l D E La he mu hk (kd := 0) (q := q) hn (by decide) (fun _ => ⟨hq, by omega⟩) (fun h => by omega) (by omega) hx0 hz h4 ha) hP hS (fun _ h => h) (la_recv hK hP kc_Er he.1 rfl) [] rfl rfl hl.1 (Nat.le_of_ble_eq_true rfl) ⟨by decide, by decide⟩ ⟨Nat.le_refl _, Nat.le_refl _⟩ d_Er_insert_87 (fun H locs hP hkp hS => ?_)
  refine lv_aload hx hb d_Er_insert_90 (lv_at hl 0 rfl) ?_
  refine g_i (v := (nI (n + 1))) Z kc_Tx hP (he.2.2.2.2.2.1 (k + 1) (by omega)).1 rfl 1 (by decide) wl_Er_45 rfl rfl g1 d_Er_insert_92 ?_
  exact W.iret hx hb hr (fun t ht hW => ⟨rfl, by rw [ht]; exact cvm hP (rfl), hS.F ht⟩) hS.2.2 d_Er_insert_95
set_option maxHeartbeats 4000000 in
set_option maxRecDepth 100000 in
theorem c_Er_delete (l : Launch) (D : va_G) (E : Nat → ClassId) (La : la_L) {b0 : Nat} (he : isEr E La b0) (mu : la_M) {k : Nat} (hk : k < 3) {q n a b : Nat} (hn : mu (b0 + 2 + 2 * (k + 1)) 1 = nI n) (hq : q < n) (hn64 : n ≤ 64) (hz : ∀ j, chz (mu ((b0 + 2 + 2 * (k + 1)) + 1) j)) (h4 : mu (b0 + 12 + 88 * k) 4 = nI a) (h5 : mu (b0 + 12 + 88 * k) 5 = nI b) (hab : b ≤ a) (ha : a < 2 ^ 31) (hf : a - b < 16) : cw l y_Er_delete b_Er_delete 5 (some .int) 4 90 D E La [.ref b0, .int (nI (k + 1)), .int (nI q)] mu (some (.int (mu ((b0 + 2 + 2 * (k + 1)) + 1) q))) (er_make mu b0 k 1 q n a (mu ((b0 + 2 + 2 * (k + 1)) + 1) q)) := by
  refine cw_begin R_Er (by decide) rfl (Nat.le_of_ble_eq_true rfl) ?_
  intro p e s m below meth c ls Z hr hlocks hP hS hl
  have hx := Z.1
  have hb := Z.2.1
  have hK : va_K D cls5 (tyE E) s := Z.2.2.2.2.2
  have hl : lv_has ls 5 [(0, .ref b0), (1, .int (nI (k + 1))), (2, .int (nI q))] := hl
  refine lv_iload_n hx hb d_Er_delete_0 rfl (lv_at hl 1 rfl) ?_
  refine cr_S Z ks_Er_35 (c_Er_checkClient l D E La mu hk) hP [] rfl rfl hl.1 (Nat.le_of_ble_eq_true rfl) ⟨by decide, by decide⟩ ⟨Nat.le_refl _, Nat.le_refl _⟩ d_Er_delete_1 ?_
  refine lv_aload_n hx hb d_Er_delete_4 rfl (lv_at hl 0 rfl) ?_
  refine g_f (v := .ref (b0 + 1)) Z kc_Er hP he.1 rfl 0 (by decide) wl_Er_11 rfl rfl d_Er_delete_5 ?_
  refine lv_iload_n hx hb d_Er_delete_8 rfl (lv_at hl 1 rfl) ?_
  refine la_aald (F := (fun k => b0 + 2 + 2 * k)) hx hb hK hP 3 he.2.1 rfl rfl (k + 1) rfl (by omega) (by decide) d_Er_delete_9 ?_
  refine lv_astore_n hx hb d_Er_delete_10 rfl hl (by decide) rfl (fun ls hl => ?_)
  have hl : lv_has ls 5 [(3, .ref (b0 + 2 + 2 * (k + 1))), (0, .ref b0), (1, .int (nI (k + 1))), (2, .int (nI q))] := hl
  refine lv_aload_n hx hb d_Er_delete_11 rfl (lv_at hl 0 rfl) ?_
  refine lv_iload_n hx hb d_Er_delete_12 rfl (lv_at hl 3 rfl) ?_
  refine cr_S Z ks_Er_66 (c_Er_checkHasLetter l D E La (he.2.2.2.2.2.1 (k + 1) (by omega)) mu hn hq (by omega)) hP [] rfl rfl hl.1 (Nat.le_of_ble_eq_true rfl) ⟨by decide, by decide⟩ ⟨Nat.le_refl _, Nat.le_refl _⟩ d_Er_delete_13 ?_
  refine lv_aload_n hx hb d_Er_delete_16 rfl (lv_at hl 1 rfl) ?_
  refine lv_iload_n hx hb d_Er_delete_17 rfl (lv_at hl 2 rfl) ?_
  refine cr_V Z kv_Er_59 (c_Er_checkMayMakeChange l D E La he mu hk h4 h5 hab ha hf) hP (la_recv hK hP kc_Er he.1 rfl) [] rfl rfl hl.1 (Nat.le_of_ble_eq_true rfl) ⟨by decide, by decide⟩ ⟨Nat.le_refl _, Nat.le_refl _⟩ d_Er_delete_18 ?_
  refine lv_aload_n hx hb d_Er_delete_21 rfl (lv_at hl 0 rfl) ?_
  refine g_f (v := .ref ((b0 + 2 + 2 * (k + 1)) + 1)) Z kc_Tx hP (he.2.2.2.2.2.1 (k + 1) (by omega)).1 rfl 0 (by decide) wl_Er_70 rfl rfl d_Er_delete_22 ?_
  refine lv_iload_n hx hb d_Er_delete_25 rfl (lv_at hl 3 rfl) ?_
  refine la_cald hx hb hK hP 1 (he.2.2.2.2.2.1 (k + 1) (by omega)).2 rfl rfl q rfl (by omega) (by decide) d_Er_delete_26 ?_
  refine lv_istore hx hb d_Er_delete_27 hl (by decide) rfl (fun ls hl => ?_)
  have hl : lv_has ls 5 [(4, .int (mu ((b0 + 2 + 2 * (k + 1)) + 1) q)), (3, .ref (b0 + 2 + 2 * (k + 1))), (0, .ref b0), (1, .int (nI (k + 1))), (2, .int (nI q))] := hl
  refine lv_aload_n hx hb d_Er_delete_29 rfl (lv_at hl 2 rfl) ?_
  refine lv_iload_n hx hb d_Er_delete_30 rfl (lv_at hl 3 rfl) ?_
  refine lv_iconst (v := 1) hx hb d_Er_delete_31 (by decide) ?_
  refine lv_iload_n hx hb d_Er_delete_32 rfl (lv_at hl 4 rfl) ?_
  refine lv_iload hx hb d_Er_delete_33 (lv_at hl 0 rfl) ?_
  refine cw_V Z kv_Er_62 (c_Er_makeChange l D E La he mu hk (kd := 1) (q := q) hn (by decide) (fun h => by omega) (fun _ => hq) hn64 (hz q) hz h4 ha) hP hS (fun _ h => h) (la_recv hK hP kc_Er he.1 rfl) [] rfl rfl hl.1 (Nat.le_of_ble_eq_true rfl) ⟨by decide, by decide⟩ ⟨Nat.le_refl _, Nat.le_refl _⟩ d_Er_delete_35 (fun H locs hP hkp hS => ?_)
  refine lv_iload hx hb d_Er_delete_38 (lv_at hl 0 rfl) ?_
  exact W.iret hx hb hr (fun t ht hW => ⟨rfl, by rw [ht]; exact cvm hP (rfl), hS.F ht⟩) hS.2.2 d_Er_delete_40
set_option maxHeartbeats 4000000 in
set_option maxRecDepth 100000 in
theorem c_Er_nod (l : Launch) (D : va_G) (E : Nat → ClassId) (La : la_L) {b0 : Nat} (he : isEr E La b0) (mu : la_M) {k : Nat} (hk : k < 3) {n a b : Nat} (hn : mu (b0 + 2 + 2 * (k + 1)) 1 = nI n) (hn64 : n ≤ 64) (hz : ∀ j, chz (mu ((b0 + 2 + 2 * (k + 1)) + 1) j)) (h4 : mu (b0 + 12 + 88 * k) 4 = nI a) (h5 : mu (b0 + 12 + 88 * k) 5 = nI b) (hab : b ≤ a) (ha : a < 2 ^ 31) (hf : a - b < 16) : cw l y_Er_nod b_Er_nod 2 none 4 90 D E La [.ref b0, .int (nI (k + 1))] mu none (er_make mu b0 k 2 0 n a 32) := by
  refine cw_begin R_Er (by decide) rfl (Nat.le_of_ble_eq_true rfl) ?_
  intro p e s m below meth c ls Z hr hlocks hP hS hl
  have hx := Z.1
  have hb := Z.2.1
  have hK : va_K D cls5 (tyE E) s := Z.2.2.2.2.2
  have hl : lv_has ls 2 [(0, .ref b0), (1, .int (nI (k + 1)))] := hl
  refine lv_iload_n hx hb d_Er_nod_0 rfl (lv_at hl 1 rfl) ?_
  refine cr_S Z ks_Er_35 (c_Er_checkClient l D E La mu hk) hP [] rfl rfl hl.1 (Nat.le_of_ble_eq_true rfl) ⟨by decide, by decide⟩ ⟨Nat.le_refl _, Nat.le_refl _⟩ d_Er_nod_1 ?_
  refine lv_aload_n hx hb d_Er_nod_4 rfl (lv_at hl 0 rfl) ?_
  refine lv_iload_n hx hb d_Er_nod_5 rfl (lv_at hl 1 rfl) ?_
  refine cr_V Z kv_Er_59 (c_Er_checkMayMakeChange l D E La he mu hk h4 h5 hab ha hf) hP (la_recv hK hP kc_Er he.1 rfl) [] rfl rfl hl.1 (Nat.le_of_ble_eq_true rfl) ⟨by decide, by decide⟩ ⟨Nat.le_refl _, Nat.le_refl _⟩ d_Er_nod_6 ?_
  refine lv_aload_n hx hb d_Er_nod_9 rfl (lv_at hl 0 rfl) ?_
  refine lv_iload_n hx hb d_Er_nod_10 rfl (lv_at hl 1 rfl) ?_
  refine lv_iconst (v := 2) hx hb d_Er_nod_11 (by decide) ?_
  refine lv_iconst (v := 0) hx hb d_Er_nod_12 (by decide) ?_
  refine lv_bipush (v := 32) hx hb d_Er_nod_13 (by decide) ?_
  refine cw_V Z kv_Er_62 (c_Er_makeChange l D E La he mu hk (kd := 2) (q := 0) (x := 32) hn (by decide) (fun h => by omega) (fun h => by omega) hn64 ⟨by decide, by decide⟩ hz h4 ha) hP hS (fun _ h => h) (la_recv hK hP kc_Er he.1 rfl) [] rfl rfl hl.1 (Nat.le_of_ble_eq_true rfl) ⟨by decide, by decide⟩ ⟨Nat.le_refl _, Nat.le_refl _⟩ d_Er_nod_15 (fun H locs hP hkp hS => ?_)
  exact W.vret hx hb hr (fun t ht hW => ⟨rfl, by rw [ht]; exact cvm hP (rfl), hS.F ht⟩) hS.2.2 d_Er_nod_18
set_option maxHeartbeats 4000000 in
set_option maxRecDepth 100000 in
theorem c_Er_pull (l : Launch) (D : va_G) (E : Nat → ClassId) (La : la_L) {b0 : Nat} (he : isEr E La b0) (mu : la_M) {k : Nat} (hk : k < 3) {mu1 : la_M} {c0 a g : Nat} (hc0 : La c0 = some sh_Ch) (h4 : mu (b0 + 48 + 88 * k) 4 = nI a) (h6 : mu (b0 + 48 + 88 * k) 6 = nI g) (hga : g < a) (ha : a < 2 ^ 31) (hR : cw l y_Er_receive b_Er_receive 5 (some (.object "EditRelay$Change")) 4 92 D E La [.ref b0, .int (nI (k + 1)), .ref (b0 + 48 + 88 * k), .ref (b0 + 12 + 88 * k)] mu (some (.ref c0)) mu1) : cw l y_Er_pull b_Er_pull 2 (some .int) 5 116 D E La [.ref b0, .int (nI (k + 1))] mu (some (.int (mu1 c0 0))) mu1 := by
  refine cw_begin R_Er (by decide) rfl (Nat.le_of_ble_eq_true rfl) ?_
  intro p e s m below meth c ls Z hr hlocks hP hS hl
  have hx := Z.1
  have hb := Z.2.1
  have hK : va_K D cls5 (tyE E) s := Z.2.2.2.2.2
  have hl : lv_has ls 2 [(0, .ref b0), (1, .int (nI (k + 1)))] := hl
  refine lv_iload_n hx hb d_Er_pull_0 rfl (lv_at hl 1 rfl) ?_
  refine cr_S Z ks_Er_35 (c_Er_checkClient l D E La mu hk) hP [] rfl rfl hl.1 (Nat.le_of_ble_eq_true rfl) ⟨by decide, by decide⟩ ⟨Nat.le_refl _, Nat.le_refl _⟩ d_Er_pull_1 ?_
  refine lv_aload_n hx hb d_Er_pull_4 rfl (lv_at hl 0 rfl) ?_
  refine lv_iload_n hx hb d_Er_pull_5 rfl (lv_at hl 1 rfl) ?_
  refine lv_iconst (v := 0) hx hb d_Er_pull_6 (by decide) ?_
  refine cr_V Z kv_Er_74 (c_Er_way_d l D E La he mu hk (u := 0) rfl) hP (la_recv hK hP kc_Er he.1 rfl) [] rfl rfl hl.1 (Nat.le_of_ble_eq_true rfl) ⟨by decide, by decide⟩ ⟨Nat.le_refl _, Nat.le_refl _⟩ d_Er_pull_7 ?_
  refine cr_S Z ks_Er_78 (c_Er_checkSomeWaits l D E La (he.2.2.2.2.2.2.2 k hk) mu h4 h6 hga ha) hP [] rfl rfl hl.1 (Nat.le_of_ble_eq_true rfl) ⟨by decide, by decide⟩ ⟨Nat.le_refl _, Nat.le_refl _⟩ d_Er_pull_10 ?_
  refine lv_aload_n hx hb d_Er_pull_13 rfl (lv_at hl 0 rfl) ?_
  refine lv_iload_n hx hb d_Er_pull_14 rfl (lv_at hl 1 rfl) ?_
  refine lv_aload_n hx hb d_Er_pull_15 rfl (lv_at hl 0 rfl) ?_
  refine lv_iload_n hx hb d_Er_pull_16 rfl (lv_at hl 1 rfl) ?_
  refine lv_iconst (v := 0) hx hb d_Er_pull_17 (by decide) ?_
  refine cr_V Z kv_Er_74 (c_Er_way_d l D E La he mu hk (u := 0) rfl) hP (la_recv hK hP kc_Er he.1 rfl) [.int (nI (k + 1)), .ref b0] rfl rfl hl.1 (Nat.le_of_ble_eq_true rfl) ⟨by decide, by decide⟩ ⟨Nat.le_refl _, Nat.le_refl _⟩ d_Er_pull_18 ?_
  refine lv_aload_n hx hb d_Er_pull_21 rfl (lv_at hl 0 rfl) ?_
  refine lv_iload_n hx hb d_Er_pull_22 rfl (lv_at hl 1 rfl) ?_
  refine lv_iconst (v := 1) hx hb d_Er_pull_23 (by decide) ?_
  refine cr_V Z kv_Er_74 (c_Er_way_u l D E La he mu hk (u := 1) (by decide)) hP (la_recv hK hP kc_Er he.1 rfl) [.ref (b0 + 48 + 88 * k), .int (nI (k + 1)), .ref b0] rfl rfl hl.1 (Nat.le_of_ble_eq_true rfl) ⟨by decide, by decide⟩ ⟨Nat.le_refl _, Nat.le_refl _⟩ d_Er_pull_24 ?_
  refine cw_V Z kv_Er_88 (hR) hP hS (fun _ h => h) (la_recv hK hP kc_Er he.1 rfl) [] rfl rfl hl.1 (Nat.le_of_ble_eq_true rfl) ⟨by decide, by decide⟩ ⟨Nat.le_refl _, Nat.le_refl _⟩ d_Er_pull_27 (fun H locs hP hkp hS => ?_)
  refine g_f Z kc_Ch hP hc0 rfl 0 (by decide) wl_Er_99 rfl rfl d_Er_pull_30 ?_
  exact W.iret hx hb hr (fun t ht hW => ⟨rfl, by rw [ht]; exact cvm hP (rfl), hS.F ht⟩) hS.2.2 d_Er_pull_33
set_option maxHeartbeats 4000000 in
set_option maxRecDepth 100000 in
theorem c_Er_push_0 (l : Launch) (D : va_G) (E : Nat → ClassId) (La : la_L) {b0 : Nat} (he : isEr E La b0) (mu : la_M) {mu1 : la_M} {g a : Nat} (h4 : mu (b0 + 12 + 88 * 0) 4 = nI a) (h6 : mu (b0 + 12 + 88 * 0) 6 = nI g) (hga : g < a) (ha : a < 2 ^ 31) (hR : cw l y_Er_receive b_Er_receive 5 (some (.object "EditRelay$Change")) 4 92 D E La [.ref b0, .int (nI 0), .ref (b0 + 12 + 88 * 0), .ref (b0 + 48 + 88 * 0)] mu (some (.ref (b0 + 12 + 88 * 0 + 4 + 2 * (g % 16)))) mu1) (hz : chz (mu1 (b0 + 12 + 88 * 0 + 4 + 2 * (g % 16)) 2)) {av1 bv1 : Nat} {xv1 : Int32} (p4_1 : mu (b0 + 48 + 88 * 1) 4 = nI av1) (p5_1 : mu (b0 + 48 + 88 * 1) 5 = nI bv1) (pab_1 : bv1 ≤ av1) (pa_1 : av1 < 2 ^ 31) (pf_1 : av1 - bv1 < 24) (q4_1 : mu1 (b0 + 48 + 88 * 1) 4 = nI av1) (q6_1 : mu1 (b0 + 12 + 88 * 1) 6 = xv1) {av2 bv2 : Nat} {xv2 : Int32} (p4_2 : mu (b0 + 48 + 88 * 2) 4 = nI av2) (p5_2 : mu (b0 + 48 + 88 * 2) 5 = nI bv2) (pab_2 : bv2 ≤ av2) (pa_2 : av2 < 2 ^ 31) (pf_2 : av2 - bv2 < 24) (q4_2 : mu1 (b0 + 48 + 88 * 2) 4 = nI av2) (q6_2 : mu1 (b0 + 12 + 88 * 2) 6 = xv2)  : cw l y_Er_push b_Er_push 4 (some .int) 5 116 D E La [.ref b0, .int 1] mu (some (.int (mu1 (b0 + 12 + 88 * 0 + 4 + 2 * (g % 16)) 0))) (wy_send (wy_send mu1 (b0 + 48 + 88 * 1) 24 (b0 + 12 + 88 * 0 + 4 + 2 * (g % 16)) av1 xv1) (b0 + 48 + 88 * 2) 24 (b0 + 12 + 88 * 0 + 4 + 2 * (g % 16)) av2 xv2) := by
  refine cw_begin R_Er (by decide) rfl (Nat.le_of_ble_eq_true rfl) ?_
  intro p e s m below meth c ls Z hr hlocks hP hS hl
  have hx := Z.1
  have hb := Z.2.1
  have hK : va_K D cls5 (tyE E) s := Z.2.2.2.2.2
  have hl : lv_has ls 4 [(0, .ref b0), (1, .int 1)] := hl
  have m0 := Nat.mod_lt av1 (show 0 < 24 by decide)
  have m1 := Nat.mod_lt av2 (show 0 < 24 by decide)
  have mg := Nat.mod_lt g (show 0 < 16 by decide)
  have r4 : (wy_send mu1 (b0 + 48 + 88 * 1) 24 (b0 + 12 + 88 * 0 + 4 + 2 * (g % 16)) av1 xv1) (b0 + 48 + 88 * 2) 4 = nI av2 := by rw [wy_send_n (by omega) (by omega) (by omega) (by omega)]; exact q4_2
  have r6 : (wy_send mu1 (b0 + 48 + 88 * 1) 24 (b0 + 12 + 88 * 0 + 4 + 2 * (g % 16)) av1 xv1) (b0 + 12 + 88 * 2) 6 = xv2 := by rw [wy_send_n (by omega) (by omega) (by omega) (by omega)]; exact q6_2
  have rz : chz ((wy_send mu1 (b0 + 48 + 88 * 1) 24 (b0 + 12 + 88 * 0 + 4 + 2 * (g % 16)) av1 xv1) (b0 + 12 + 88 * 0 + 4 + 2 * (g % 16)) 2) := by rw [wy_send_n (by omega) (by omega) (by omega) (by omega)]; exact hz
  have r0 : (wy_send (wy_send mu1 (b0 + 48 + 88 * 1) 24 (b0 + 12 + 88 * 0 + 4 + 2 * (g % 16)) av1 xv1) (b0 + 48 + 88 * 2) 24 (b0 + 12 + 88 * 0 + 4 + 2 * (g % 16)) av2 xv2) (b0 + 12 + 88 * 0 + 4 + 2 * (g % 16)) 0 = mu1 (b0 + 12 + 88 * 0 + 4 + 2 * (g % 16)) 0 := by rw [wy_send_n (by omega) (by omega) (by omega) (by omega), wy_send_n (by omega) (by omega) (by omega) (by omega)]
  refine lv_iload_n hx hb d_Er_push_0 rfl (lv_at hl 1 rfl) ?_
  refine cr_S Z ks_Er_35 (c_Er_checkClient l D E La mu (k := 0) (by decide)) hP [] rfl rfl hl.1 (Nat.le_of_ble_eq_true rfl) ⟨by decide, by decide⟩ ⟨Nat.le_refl _, Nat.le_refl _⟩ d_Er_push_1 ?_
  refine lv_aload_n hx hb d_Er_push_4 rfl (lv_at hl 0 rfl) ?_
  refine lv_iload_n hx hb d_Er_push_5 rfl (lv_at hl 1 rfl) ?_
  refine lv_iconst (v := 1) hx hb d_Er_push_6 (by decide) ?_
  refine cr_V Z kv_Er_74 (c_Er_way_u l D E La he mu (k := 0) (by decide) (u := 1) (by decide)) hP (la_recv hK hP kc_Er he.1 rfl) [] rfl rfl hl.1 (Nat.le_of_ble_eq_true rfl) ⟨by decide, by decide⟩ ⟨Nat.le_refl _, Nat.le_refl _⟩ d_Er_push_7 ?_
  refine cr_S Z ks_Er_78 (c_Er_checkSomeWaits l D E La (he.2.2.2.2.2.2.1 0 (by decide)) mu h4 h6 hga ha) hP [] rfl rfl hl.1 (Nat.le_of_ble_eq_true rfl) ⟨by decide, by decide⟩ ⟨Nat.le_refl _, Nat.le_refl _⟩ d_Er_push_10 ?_
  refine lv_iconst (v := 1) hx hb d_Er_push_13 (by decide) ?_
  refine lv_istore_n hx hb d_Er_push_14 rfl hl (by decide) rfl (fun ls hl => ?_)
  have hl : lv_has ls 4 [(2, .int 1), (0, .ref b0), (1, .int 1)] := hl
  refine lv_iload_n hx hb d_Er_push_15 rfl (lv_at hl 0 rfl) ?_
  refine lv_iconst (v := 3) hx hb d_Er_push_16 (by decide) ?_
  refine lv_icmp_gt (tgt := 53) hx hb d_Er_push_17 rfl (fun br17 => absurd br17 (by decide)) (fun br17 => ?_)
  refine lv_iload_n hx hb d_Er_push_20 rfl (lv_at hl 0 rfl) ?_
  refine lv_iload_n hx hb d_Er_push_21 rfl (lv_at hl 2 rfl) ?_
  refine lv_icmp_eq (tgt := 47) hx hb d_Er_push_22 rfl (fun br22 => ?_) (fun br22 => absurd (rfl) br22)
  refine lv_iinc (k := 0) (v := 2) hx hb d_Er_push_47 hl rfl (by decide) (by decide) rfl (fun ls hl => ?_)
  have hl : lv_has ls 4 [(2, .int 2), (0, .ref b0), (1, .int 1)] := hl
  refine lv_goto (tgt := 15) hx hb d_Er_push_50 rfl ?_
  refine lv_iload_n hx hb d_Er_push_15 rfl (lv_at hl 0 rfl) ?_
  refine lv_iconst (v := 3) hx hb d_Er_push_16 (by decide) ?_
  refine lv_icmp_gt (tgt := 53) hx hb d_Er_push_17 rfl (fun br17 => absurd br17 (by decide)) (fun br17 => ?_)
  refine lv_iload_n hx hb d_Er_push_20 rfl (lv_at hl 0 rfl) ?_
  refine lv_iload_n hx hb d_Er_push_21 rfl (lv_at hl 2 rfl) ?_
  refine lv_icmp_eq (tgt := 47) hx hb d_Er_push_22 rfl (fun br22 => absurd br22 (by decide)) (fun br22 => ?_)
  refine lv_aload_n hx hb d_Er_push_25 rfl (lv_at hl 1 rfl) ?_
  refine lv_iload_n hx hb d_Er_push_26 rfl (lv_at hl 0 rfl) ?_
  refine lv_iconst (v := 0) hx hb d_Er_push_27 (by decide) ?_
  refine cr_V Z kv_Er_74 (c_Er_way_d l D E La he mu (k := 1) (by decide) (u := 0) rfl) hP (la_recv hK hP kc_Er he.1 rfl) [] rfl rfl hl.1 (Nat.le_of_ble_eq_true rfl) ⟨by decide, by decide⟩ ⟨Nat.le_refl _, Nat.le_refl _⟩ d_Er_push_28 ?_
  refine cr_V Z kv_Er_82 (c_Wy_isFull_f l D E La (he.2.2.2.2.2.2.2 1 (by decide)) mu p4_1 p5_1 pab_1 pa_1 pf_1) hP (la_recv hK hP kc_Wy (he.2.2.2.2.2.2.2 1 (by decide)).1 rfl) [] rfl rfl hl.1 (Nat.le_of_ble_eq_true rfl) ⟨by decide, by decide⟩ ⟨Nat.le_refl _, Nat.le_refl _⟩ d_Er_push_31 ?_
  refine lv_if_eq (tgt := 47) hx hb d_Er_push_34 rfl (fun br34 => ?_) (fun br34 => absurd (rfl) br34)
  refine lv_iinc (k := 0) (v := 3) hx hb d_Er_push_47 hl rfl (by decide) (by decide) rfl (fun ls hl => ?_)
  have hl : lv_has ls 4 [(2, .int 3), (0, .ref b0), (1, .int 1)] := hl
  refine lv_goto (tgt := 15) hx hb d_Er_push_50 rfl ?_
  refine lv_iload_n hx hb d_Er_push_15 rfl (lv_at hl 0 rfl) ?_
  refine lv_iconst (v := 3) hx hb d_Er_push_16 (by decide) ?_
  refine lv_icmp_gt (tgt := 53) hx hb d_Er_push_17 rfl (fun br17 => absurd br17 (by decide)) (fun br17 => ?_)
  refine lv_iload_n hx hb d_Er_push_20 rfl (lv_at hl 0 rfl) ?_
  refine lv_iload_n hx hb d_Er_push_21 rfl (lv_at hl 2 rfl) ?_
  refine lv_icmp_eq (tgt := 47) hx hb d_Er_push_22 rfl (fun br22 => absurd br22 (by decide)) (fun br22 => ?_)
  refine lv_aload_n hx hb d_Er_push_25 rfl (lv_at hl 1 rfl) ?_
  refine lv_iload_n hx hb d_Er_push_26 rfl (lv_at hl 0 rfl) ?_
  refine lv_iconst (v := 0) hx hb d_Er_push_27 (by decide) ?_
  refine cr_V Z kv_Er_74 (c_Er_way_d l D E La he mu (k := 2) (by decide) (u := 0) rfl) hP (la_recv hK hP kc_Er he.1 rfl) [] rfl rfl hl.1 (Nat.le_of_ble_eq_true rfl) ⟨by decide, by decide⟩ ⟨Nat.le_refl _, Nat.le_refl _⟩ d_Er_push_28 ?_
  refine cr_V Z kv_Er_82 (c_Wy_isFull_f l D E La (he.2.2.2.2.2.2.2 2 (by decide)) mu p4_2 p5_2 pab_2 pa_2 pf_2) hP (la_recv hK hP kc_Wy (he.2.2.2.2.2.2.2 2 (by decide)).1 rfl) [] rfl rfl hl.1 (Nat.le_of_ble_eq_true rfl) ⟨by decide, by decide⟩ ⟨Nat.le_refl _, Nat.le_refl _⟩ d_Er_push_31 ?_
  refine lv_if_eq (tgt := 47) hx hb d_Er_push_34 rfl (fun br34 => ?_) (fun br34 => absurd (rfl) br34)
  refine lv_iinc (k := 0) (v := 4) hx hb d_Er_push_47 hl rfl (by decide) (by decide) rfl (fun ls hl => ?_)
  have hl : lv_has ls 4 [(2, .int 4), (0, .ref b0), (1, .int 1)] := hl
  refine lv_goto (tgt := 15) hx hb d_Er_push_50 rfl ?_
  refine lv_iload_n hx hb d_Er_push_15 rfl (lv_at hl 0 rfl) ?_
  refine lv_iconst (v := 3) hx hb d_Er_push_16 (by decide) ?_
  refine lv_icmp_gt (tgt := 53) hx hb d_Er_push_17 rfl (fun br17 => ?_) (fun br17 => absurd (by decide) br17)
  refine lv_aload_n hx hb d_Er_push_53 rfl (lv_at hl 1 rfl) ?_
  refine lv_iconst (v := 0) hx hb d_Er_push_54 (by decide) ?_
  refine lv_aload_n hx hb d_Er_push_55 rfl (lv_at hl 1 rfl) ?_
  refine lv_iload_n hx hb d_Er_push_56 rfl (lv_at hl 2 rfl) ?_
  refine lv_iconst (v := 1) hx hb d_Er_push_57 (by decide) ?_
  refine cr_V Z kv_Er_74 (c_Er_way_u l D E La he mu (k := 0) (by decide) (u := 1) (by decide)) hP (la_recv hK hP kc_Er he.1 rfl) [.int 0, .ref b0] rfl rfl hl.1 (Nat.le_of_ble_eq_true rfl) ⟨by decide, by decide⟩ ⟨Nat.le_refl _, Nat.le_refl _⟩ d_Er_push_58 ?_
  refine lv_aload_n hx hb d_Er_push_61 rfl (lv_at hl 1 rfl) ?_
  refine lv_iload_n hx hb d_Er_push_62 rfl (lv_at hl 2 rfl) ?_
  refine lv_iconst (v := 0) hx hb d_Er_push_63 (by decide) ?_
  refine cr_V Z kv_Er_74 (c_Er_way_d l D E La he mu (k := 0) (by decide) (u := 0) rfl) hP (la_recv hK hP kc_Er he.1 rfl) [.ref (b0 + 12 + 88 * 0), .int 0, .ref b0] rfl rfl hl.1 (Nat.le_of_ble_eq_true rfl) ⟨by decide, by decide⟩ ⟨Nat.le_refl _, Nat.le_refl _⟩ d_Er_push_64 ?_
  refine cw_V Z kv_Er_88 (hR) hP hS (fun _ h => h) (la_recv hK hP kc_Er he.1 rfl) [] rfl rfl hl.1 (Nat.le_of_ble_eq_true rfl) ⟨by decide, by decide⟩ ⟨Nat.le_refl _, Nat.le_refl _⟩ d_Er_push_67 (fun H locs hP hkp hS => ?_)
  refine lv_astore_n hx hb d_Er_push_70 rfl hl (by decide) rfl (fun ls hl => ?_)
  have hl : lv_has ls 4 [(2, .ref (b0 + 12 + 88 * 0 + 4 + 2 * (g % 16))), (0, .ref b0), (1, .int 1)] := hl
  refine lv_iconst (v := 1) hx hb d_Er_push_71 (by decide) ?_
  refine lv_istore_n hx hb d_Er_push_72 rfl hl (by decide) rfl (fun ls hl => ?_)
  have hl : lv_has ls 4 [(3, .int 1), (2, .ref (b0 + 12 + 88 * 0 + 4 + 2 * (g % 16))), (0, .ref b0), (1, .int 1)] := hl
  refine lv_iload_n hx hb d_Er_push_73 rfl (lv_at hl 0 rfl) ?_
  refine lv_iconst (v := 3) hx hb d_Er_push_74 (by decide) ?_
  refine lv_icmp_gt (tgt := 108) hx hb d_Er_push_75 rfl (fun br75 => absurd br75 (by decide)) (fun br75 => ?_)
  refine lv_iload_n hx hb d_Er_push_78 rfl (lv_at hl 0 rfl) ?_
  refine lv_iload_n hx hb d_Er_push_79 rfl (lv_at hl 3 rfl) ?_
  refine lv_icmp_eq (tgt := 102) hx hb d_Er_push_80 rfl (fun br80 => ?_) (fun br80 => absurd (rfl) br80)
  refine lv_iinc (k := 0) (v := 2) hx hb d_Er_push_102 hl rfl (by decide) (by decide) rfl (fun ls hl => ?_)
  have hl : lv_has ls 4 [(3, .int 2), (2, .ref (b0 + 12 + 88 * 0 + 4 + 2 * (g % 16))), (0, .ref b0), (1, .int 1)] := hl
  refine lv_goto (tgt := 73) hx hb d_Er_push_105 rfl ?_
  refine lv_iload_n hx hb d_Er_push_73 rfl (lv_at hl 0 rfl) ?_
  refine lv_iconst (v := 3) hx hb d_Er_push_74 (by decide) ?_
  refine lv_icmp_gt (tgt := 108) hx hb d_Er_push_75 rfl (fun br75 => absurd br75 (by decide)) (fun br75 => ?_)
  refine lv_iload_n hx hb d_Er_push_78 rfl (lv_at hl 0 rfl) ?_
  refine lv_iload_n hx hb d_Er_push_79 rfl (lv_at hl 3 rfl) ?_
  refine lv_icmp_eq (tgt := 102) hx hb d_Er_push_80 rfl (fun br80 => absurd br80 (by decide)) (fun br80 => ?_)
  refine lv_aload_n hx hb d_Er_push_83 rfl (lv_at hl 2 rfl) ?_
  refine lv_iload_n hx hb d_Er_push_84 rfl (lv_at hl 0 rfl) ?_
  refine lv_iconst (v := 0) hx hb d_Er_push_85 (by decide) ?_
  refine cr_V Z kv_Er_74 (c_Er_way_d l D E La he mu1 (k := 1) (by decide) (u := 0) rfl) hP (la_recv hK hP kc_Er he.1 rfl) [] rfl rfl hl.1 (Nat.le_of_ble_eq_true rfl) ⟨by decide, by decide⟩ ⟨Nat.le_refl _, Nat.le_refl _⟩ d_Er_push_86 ?_
  refine lv_aload_n hx hb d_Er_push_89 rfl (lv_at hl 1 rfl) ?_
  refine lv_aload_n hx hb d_Er_push_90 rfl (lv_at hl 2 rfl) ?_
  refine lv_iload_n hx hb d_Er_push_91 rfl (lv_at hl 0 rfl) ?_
  refine lv_iconst (v := 1) hx hb d_Er_push_92 (by decide) ?_
  refine cr_V Z kv_Er_74 (c_Er_way_u l D E La he mu1 (k := 1) (by decide) (u := 1) (by decide)) hP (la_recv hK hP kc_Er he.1 rfl) [.ref (b0 + 12 + 88 * 0 + 4 + 2 * (g % 16)), .ref (b0 + 48 + 88 * 1)] rfl rfl hl.1 (Nat.le_of_ble_eq_true rfl) ⟨by decide, by decide⟩ ⟨Nat.le_refl _, Nat.le_refl _⟩ d_Er_push_93 ?_
  refine g_i (v := xv1) Z kc_Wy hP (he.2.2.2.2.2.2.1 1 (by decide)).1 rfl 6 (by decide) wl_Er_92 rfl rfl q6_1 d_Er_push_96 ?_
  refine cw_V Z kv_Er_95 (c_Wy_send l D E La (he.2.2.2.2.2.2.2 1 (by decide)) mu1 ((he.2.2.2.2.2.2.1 0 (by decide)).2.2.2.2.1 _ (Nat.mod_lt _ (by decide))).1 q4_1 pa_1 hz xv1) hP hS (fun _ h => h) (la_recv hK hP kc_Wy (he.2.2.2.2.2.2.2 1 (by decide)).1 rfl) [] rfl rfl hl.1 (Nat.le_of_ble_eq_true rfl) ⟨by decide, by decide⟩ ⟨Nat.le_refl _, Nat.le_refl _⟩ d_Er_push_99 (fun H locs hP hkp hS => ?_)
  refine lv_iinc (k := 0) (v := 3) hx hb d_Er_push_102 hl rfl (by decide) (by decide) rfl (fun ls hl => ?_)
  have hl : lv_has ls 4 [(3, .int 3), (2, .ref (b0 + 12 + 88 * 0 + 4 + 2 * (g % 16))), (0, .ref b0), (1, .int 1)] := hl
  refine lv_goto (tgt := 73) hx hb d_Er_push_105 rfl ?_
  refine lv_iload_n hx hb d_Er_push_73 rfl (lv_at hl 0 rfl) ?_
  refine lv_iconst (v := 3) hx hb d_Er_push_74 (by decide) ?_
  refine lv_icmp_gt (tgt := 108) hx hb d_Er_push_75 rfl (fun br75 => absurd br75 (by decide)) (fun br75 => ?_)
  refine lv_iload_n hx hb d_Er_push_78 rfl (lv_at hl 0 rfl) ?_
  refine lv_iload_n hx hb d_Er_push_79 rfl (lv_at hl 3 rfl) ?_
  refine lv_icmp_eq (tgt := 102) hx hb d_Er_push_80 rfl (fun br80 => absurd br80 (by decide)) (fun br80 => ?_)
  refine lv_aload_n hx hb d_Er_push_83 rfl (lv_at hl 2 rfl) ?_
  refine lv_iload_n hx hb d_Er_push_84 rfl (lv_at hl 0 rfl) ?_
  refine lv_iconst (v := 0) hx hb d_Er_push_85 (by decide) ?_
  refine cr_V Z kv_Er_74 (c_Er_way_d l D E La he (wy_send mu1 (b0 + 48 + 88 * 1) 24 (b0 + 12 + 88 * 0 + 4 + 2 * (g % 16)) av1 xv1) (k := 2) (by decide) (u := 0) rfl) hP (la_recv hK hP kc_Er he.1 rfl) [] rfl rfl hl.1 (Nat.le_of_ble_eq_true rfl) ⟨by decide, by decide⟩ ⟨Nat.le_refl _, Nat.le_refl _⟩ d_Er_push_86 ?_
  refine lv_aload_n hx hb d_Er_push_89 rfl (lv_at hl 1 rfl) ?_
  refine lv_aload_n hx hb d_Er_push_90 rfl (lv_at hl 2 rfl) ?_
  refine lv_iload_n hx hb d_Er_push_91 rfl (lv_at hl 0 rfl) ?_
  refine lv_iconst (v := 1) hx hb d_Er_push_92 (by decide) ?_
  refine cr_V Z kv_Er_74 (c_Er_way_u l D E La he (wy_send mu1 (b0 + 48 + 88 * 1) 24 (b0 + 12 + 88 * 0 + 4 + 2 * (g % 16)) av1 xv1) (k := 2) (by decide) (u := 1) (by decide)) hP (la_recv hK hP kc_Er he.1 rfl) [.ref (b0 + 12 + 88 * 0 + 4 + 2 * (g % 16)), .ref (b0 + 48 + 88 * 2)] rfl rfl hl.1 (Nat.le_of_ble_eq_true rfl) ⟨by decide, by decide⟩ ⟨Nat.le_refl _, Nat.le_refl _⟩ d_Er_push_93 ?_
  refine g_i (v := xv2) Z kc_Wy hP (he.2.2.2.2.2.2.1 2 (by decide)).1 rfl 6 (by decide) wl_Er_92 rfl rfl r6 d_Er_push_96 ?_
  refine cw_V Z kv_Er_95 (c_Wy_send l D E La (he.2.2.2.2.2.2.2 2 (by decide)) (wy_send mu1 (b0 + 48 + 88 * 1) 24 (b0 + 12 + 88 * 0 + 4 + 2 * (g % 16)) av1 xv1) ((he.2.2.2.2.2.2.1 0 (by decide)).2.2.2.2.1 _ (Nat.mod_lt _ (by decide))).1 r4 pa_2 rz xv2) hP hS (fun _ h => h) (la_recv hK hP kc_Wy (he.2.2.2.2.2.2.2 2 (by decide)).1 rfl) [] rfl rfl hl.1 (Nat.le_of_ble_eq_true rfl) ⟨by decide, by decide⟩ ⟨Nat.le_refl _, Nat.le_refl _⟩ d_Er_push_99 (fun H locs hP hkp hS => ?_)
  refine lv_iinc (k := 0) (v := 4) hx hb d_Er_push_102 hl rfl (by decide) (by decide) rfl (fun ls hl => ?_)
  have hl : lv_has ls 4 [(3, .int 4), (2, .ref (b0 + 12 + 88 * 0 + 4 + 2 * (g % 16))), (0, .ref b0), (1, .int 1)] := hl
  refine lv_goto (tgt := 73) hx hb d_Er_push_105 rfl ?_
  refine lv_iload_n hx hb d_Er_push_73 rfl (lv_at hl 0 rfl) ?_
  refine lv_iconst (v := 3) hx hb d_Er_push_74 (by decide) ?_
  refine lv_icmp_gt (tgt := 108) hx hb d_Er_push_75 rfl (fun br75 => ?_) (fun br75 => absurd (by decide) br75)
  refine lv_aload_n hx hb d_Er_push_108 rfl (lv_at hl 1 rfl) ?_
  refine g_i (v := (mu1 (b0 + 12 + 88 * 0 + 4 + 2 * (g % 16)) 0)) Z kc_Ch hP ((he.2.2.2.2.2.2.1 0 (by decide)).2.2.2.2.1 _ (Nat.mod_lt _ (by decide))).1 rfl 0 (by decide) wl_Er_99 rfl rfl r0 d_Er_push_109 ?_
  exact W.iret hx hb hr (fun t ht hW => ⟨rfl, by rw [ht]; exact cvm hP (rfl), hS.F ht⟩) hS.2.2 d_Er_push_112
set_option maxHeartbeats 4000000 in
set_option maxRecDepth 100000 in
theorem c_Er_push_1 (l : Launch) (D : va_G) (E : Nat → ClassId) (La : la_L) {b0 : Nat} (he : isEr E La b0) (mu : la_M) {mu1 : la_M} {g a : Nat} (h4 : mu (b0 + 12 + 88 * 1) 4 = nI a) (h6 : mu (b0 + 12 + 88 * 1) 6 = nI g) (hga : g < a) (ha : a < 2 ^ 31) (hR : cw l y_Er_receive b_Er_receive 5 (some (.object "EditRelay$Change")) 4 92 D E La [.ref b0, .int (nI 0), .ref (b0 + 12 + 88 * 1), .ref (b0 + 48 + 88 * 1)] mu (some (.ref (b0 + 12 + 88 * 1 + 4 + 2 * (g % 16)))) mu1) (hz : chz (mu1 (b0 + 12 + 88 * 1 + 4 + 2 * (g % 16)) 2)) {av0 bv0 : Nat} {xv0 : Int32} (p4_0 : mu (b0 + 48 + 88 * 0) 4 = nI av0) (p5_0 : mu (b0 + 48 + 88 * 0) 5 = nI bv0) (pab_0 : bv0 ≤ av0) (pa_0 : av0 < 2 ^ 31) (pf_0 : av0 - bv0 < 24) (q4_0 : mu1 (b0 + 48 + 88 * 0) 4 = nI av0) (q6_0 : mu1 (b0 + 12 + 88 * 0) 6 = xv0) {av2 bv2 : Nat} {xv2 : Int32} (p4_2 : mu (b0 + 48 + 88 * 2) 4 = nI av2) (p5_2 : mu (b0 + 48 + 88 * 2) 5 = nI bv2) (pab_2 : bv2 ≤ av2) (pa_2 : av2 < 2 ^ 31) (pf_2 : av2 - bv2 < 24) (q4_2 : mu1 (b0 + 48 + 88 * 2) 4 = nI av2) (q6_2 : mu1 (b0 + 12 + 88 * 2) 6 = xv2)  : cw l y_Er_push b_Er_push 4 (some .int) 5 116 D E La [.ref b0, .int 2] mu (some (.int (mu1 (b0 + 12 + 88 * 1 + 4 + 2 * (g % 16)) 0))) (wy_send (wy_send mu1 (b0 + 48 + 88 * 0) 24 (b0 + 12 + 88 * 1 + 4 + 2 * (g % 16)) av0 xv0) (b0 + 48 + 88 * 2) 24 (b0 + 12 + 88 * 1 + 4 + 2 * (g % 16)) av2 xv2) := by
  refine cw_begin R_Er (by decide) rfl (Nat.le_of_ble_eq_true rfl) ?_
  intro p e s m below meth c ls Z hr hlocks hP hS hl
  have hx := Z.1
  have hb := Z.2.1
  have hK : va_K D cls5 (tyE E) s := Z.2.2.2.2.2
  have hl : lv_has ls 4 [(0, .ref b0), (1, .int 2)] := hl
  have m0 := Nat.mod_lt av0 (show 0 < 24 by decide)
  have m1 := Nat.mod_lt av2 (show 0 < 24 by decide)
  have mg := Nat.mod_lt g (show 0 < 16 by decide)
  have r4 : (wy_send mu1 (b0 + 48 + 88 * 0) 24 (b0 + 12 + 88 * 1 + 4 + 2 * (g % 16)) av0 xv0) (b0 + 48 + 88 * 2) 4 = nI av2 := by rw [wy_send_n (by omega) (by omega) (by omega) (by omega)]; exact q4_2
  have r6 : (wy_send mu1 (b0 + 48 + 88 * 0) 24 (b0 + 12 + 88 * 1 + 4 + 2 * (g % 16)) av0 xv0) (b0 + 12 + 88 * 2) 6 = xv2 := by rw [wy_send_n (by omega) (by omega) (by omega) (by omega)]; exact q6_2
  have rz : chz ((wy_send mu1 (b0 + 48 + 88 * 0) 24 (b0 + 12 + 88 * 1 + 4 + 2 * (g % 16)) av0 xv0) (b0 + 12 + 88 * 1 + 4 + 2 * (g % 16)) 2) := by rw [wy_send_n (by omega) (by omega) (by omega) (by omega)]; exact hz
  have r0 : (wy_send (wy_send mu1 (b0 + 48 + 88 * 0) 24 (b0 + 12 + 88 * 1 + 4 + 2 * (g % 16)) av0 xv0) (b0 + 48 + 88 * 2) 24 (b0 + 12 + 88 * 1 + 4 + 2 * (g % 16)) av2 xv2) (b0 + 12 + 88 * 1 + 4 + 2 * (g % 16)) 0 = mu1 (b0 + 12 + 88 * 1 + 4 + 2 * (g % 16)) 0 := by rw [wy_send_n (by omega) (by omega) (by omega) (by omega), wy_send_n (by omega) (by omega) (by omega) (by omega)]
  refine lv_iload_n hx hb d_Er_push_0 rfl (lv_at hl 1 rfl) ?_
  refine cr_S Z ks_Er_35 (c_Er_checkClient l D E La mu (k := 1) (by decide)) hP [] rfl rfl hl.1 (Nat.le_of_ble_eq_true rfl) ⟨by decide, by decide⟩ ⟨Nat.le_refl _, Nat.le_refl _⟩ d_Er_push_1 ?_
  refine lv_aload_n hx hb d_Er_push_4 rfl (lv_at hl 0 rfl) ?_
  refine lv_iload_n hx hb d_Er_push_5 rfl (lv_at hl 1 rfl) ?_
  refine lv_iconst (v := 1) hx hb d_Er_push_6 (by decide) ?_
  refine cr_V Z kv_Er_74 (c_Er_way_u l D E La he mu (k := 1) (by decide) (u := 1) (by decide)) hP (la_recv hK hP kc_Er he.1 rfl) [] rfl rfl hl.1 (Nat.le_of_ble_eq_true rfl) ⟨by decide, by decide⟩ ⟨Nat.le_refl _, Nat.le_refl _⟩ d_Er_push_7 ?_
  refine cr_S Z ks_Er_78 (c_Er_checkSomeWaits l D E La (he.2.2.2.2.2.2.1 1 (by decide)) mu h4 h6 hga ha) hP [] rfl rfl hl.1 (Nat.le_of_ble_eq_true rfl) ⟨by decide, by decide⟩ ⟨Nat.le_refl _, Nat.le_refl _⟩ d_Er_push_10 ?_
  refine lv_iconst (v := 1) hx hb d_Er_push_13 (by decide) ?_
  refine lv_istore_n hx hb d_Er_push_14 rfl hl (by decide) rfl (fun ls hl => ?_)
  have hl : lv_has ls 4 [(2, .int 1), (0, .ref b0), (1, .int 2)] := hl
  refine lv_iload_n hx hb d_Er_push_15 rfl (lv_at hl 0 rfl) ?_
  refine lv_iconst (v := 3) hx hb d_Er_push_16 (by decide) ?_
  refine lv_icmp_gt (tgt := 53) hx hb d_Er_push_17 rfl (fun br17 => absurd br17 (by decide)) (fun br17 => ?_)
  refine lv_iload_n hx hb d_Er_push_20 rfl (lv_at hl 0 rfl) ?_
  refine lv_iload_n hx hb d_Er_push_21 rfl (lv_at hl 2 rfl) ?_
  refine lv_icmp_eq (tgt := 47) hx hb d_Er_push_22 rfl (fun br22 => absurd br22 (by decide)) (fun br22 => ?_)
  refine lv_aload_n hx hb d_Er_push_25 rfl (lv_at hl 1 rfl) ?_
  refine lv_iload_n hx hb d_Er_push_26 rfl (lv_at hl 0 rfl) ?_
  refine lv_iconst (v := 0) hx hb d_Er_push_27 (by decide) ?_
  refine cr_V Z kv_Er_74 (c_Er_way_d l D E La he mu (k := 0) (by decide) (u := 0) rfl) hP (la_recv hK hP kc_Er he.1 rfl) [] rfl rfl hl.1 (Nat.le_of_ble_eq_true rfl) ⟨by decide, by decide⟩ ⟨Nat.le_refl _, Nat.le_refl _⟩ d_Er_push_28 ?_
  refine cr_V Z kv_Er_82 (c_Wy_isFull_f l D E La (he.2.2.2.2.2.2.2 0 (by decide)) mu p4_0 p5_0 pab_0 pa_0 pf_0) hP (la_recv hK hP kc_Wy (he.2.2.2.2.2.2.2 0 (by decide)).1 rfl) [] rfl rfl hl.1 (Nat.le_of_ble_eq_true rfl) ⟨by decide, by decide⟩ ⟨Nat.le_refl _, Nat.le_refl _⟩ d_Er_push_31 ?_
  refine lv_if_eq (tgt := 47) hx hb d_Er_push_34 rfl (fun br34 => ?_) (fun br34 => absurd (rfl) br34)
  refine lv_iinc (k := 0) (v := 2) hx hb d_Er_push_47 hl rfl (by decide) (by decide) rfl (fun ls hl => ?_)
  have hl : lv_has ls 4 [(2, .int 2), (0, .ref b0), (1, .int 2)] := hl
  refine lv_goto (tgt := 15) hx hb d_Er_push_50 rfl ?_
  refine lv_iload_n hx hb d_Er_push_15 rfl (lv_at hl 0 rfl) ?_
  refine lv_iconst (v := 3) hx hb d_Er_push_16 (by decide) ?_
  refine lv_icmp_gt (tgt := 53) hx hb d_Er_push_17 rfl (fun br17 => absurd br17 (by decide)) (fun br17 => ?_)
  refine lv_iload_n hx hb d_Er_push_20 rfl (lv_at hl 0 rfl) ?_
  refine lv_iload_n hx hb d_Er_push_21 rfl (lv_at hl 2 rfl) ?_
  refine lv_icmp_eq (tgt := 47) hx hb d_Er_push_22 rfl (fun br22 => ?_) (fun br22 => absurd (rfl) br22)
  refine lv_iinc (k := 0) (v := 3) hx hb d_Er_push_47 hl rfl (by decide) (by decide) rfl (fun ls hl => ?_)
  have hl : lv_has ls 4 [(2, .int 3), (0, .ref b0), (1, .int 2)] := hl
  refine lv_goto (tgt := 15) hx hb d_Er_push_50 rfl ?_
  refine lv_iload_n hx hb d_Er_push_15 rfl (lv_at hl 0 rfl) ?_
  refine lv_iconst (v := 3) hx hb d_Er_push_16 (by decide) ?_
  refine lv_icmp_gt (tgt := 53) hx hb d_Er_push_17 rfl (fun br17 => absurd br17 (by decide)) (fun br17 => ?_)
  refine lv_iload_n hx hb d_Er_push_20 rfl (lv_at hl 0 rfl) ?_
  refine lv_iload_n hx hb d_Er_push_21 rfl (lv_at hl 2 rfl) ?_
  refine lv_icmp_eq (tgt := 47) hx hb d_Er_push_22 rfl (fun br22 => absurd br22 (by decide)) (fun br22 => ?_)
  refine lv_aload_n hx hb d_Er_push_25 rfl (lv_at hl 1 rfl) ?_
  refine lv_iload_n hx hb d_Er_push_26 rfl (lv_at hl 0 rfl) ?_
  refine lv_iconst (v := 0) hx hb d_Er_push_27 (by decide) ?_
  refine cr_V Z kv_Er_74 (c_Er_way_d l D E La he mu (k := 2) (by decide) (u := 0) rfl) hP (la_recv hK hP kc_Er he.1 rfl) [] rfl rfl hl.1 (Nat.le_of_ble_eq_true rfl) ⟨by decide, by decide⟩ ⟨Nat.le_refl _, Nat.le_refl _⟩ d_Er_push_28 ?_
  refine cr_V Z kv_Er_82 (c_Wy_isFull_f l D E La (he.2.2.2.2.2.2.2 2 (by decide)) mu p4_2 p5_2 pab_2 pa_2 pf_2) hP (la_recv hK hP kc_Wy (he.2.2.2.2.2.2.2 2 (by decide)).1 rfl) [] rfl rfl hl.1 (Nat.le_of_ble_eq_true rfl) ⟨by decide, by decide⟩ ⟨Nat.le_refl _, Nat.le_refl _⟩ d_Er_push_31 ?_
  refine lv_if_eq (tgt := 47) hx hb d_Er_push_34 rfl (fun br34 => ?_) (fun br34 => absurd (rfl) br34)
  refine lv_iinc (k := 0) (v := 4) hx hb d_Er_push_47 hl rfl (by decide) (by decide) rfl (fun ls hl => ?_)
  have hl : lv_has ls 4 [(2, .int 4), (0, .ref b0), (1, .int 2)] := hl
  refine lv_goto (tgt := 15) hx hb d_Er_push_50 rfl ?_
  refine lv_iload_n hx hb d_Er_push_15 rfl (lv_at hl 0 rfl) ?_
  refine lv_iconst (v := 3) hx hb d_Er_push_16 (by decide) ?_
  refine lv_icmp_gt (tgt := 53) hx hb d_Er_push_17 rfl (fun br17 => ?_) (fun br17 => absurd (by decide) br17)
  refine lv_aload_n hx hb d_Er_push_53 rfl (lv_at hl 1 rfl) ?_
  refine lv_iconst (v := 0) hx hb d_Er_push_54 (by decide) ?_
  refine lv_aload_n hx hb d_Er_push_55 rfl (lv_at hl 1 rfl) ?_
  refine lv_iload_n hx hb d_Er_push_56 rfl (lv_at hl 2 rfl) ?_
  refine lv_iconst (v := 1) hx hb d_Er_push_57 (by decide) ?_
  refine cr_V Z kv_Er_74 (c_Er_way_u l D E La he mu (k := 1) (by decide) (u := 1) (by decide)) hP (la_recv hK hP kc_Er he.1 rfl) [.int 0, .ref b0] rfl rfl hl.1 (Nat.le_of_ble_eq_true rfl) ⟨by decide, by decide⟩ ⟨Nat.le_refl _, Nat.le_refl _⟩ d_Er_push_58 ?_
  refine lv_aload_n hx hb d_Er_push_61 rfl (lv_at hl 1 rfl) ?_
  refine lv_iload_n hx hb d_Er_push_62 rfl (lv_at hl 2 rfl) ?_
  refine lv_iconst (v := 0) hx hb d_Er_push_63 (by decide) ?_
  refine cr_V Z kv_Er_74 (c_Er_way_d l D E La he mu (k := 1) (by decide) (u := 0) rfl) hP (la_recv hK hP kc_Er he.1 rfl) [.ref (b0 + 12 + 88 * 1), .int 0, .ref b0] rfl rfl hl.1 (Nat.le_of_ble_eq_true rfl) ⟨by decide, by decide⟩ ⟨Nat.le_refl _, Nat.le_refl _⟩ d_Er_push_64 ?_
  refine cw_V Z kv_Er_88 (hR) hP hS (fun _ h => h) (la_recv hK hP kc_Er he.1 rfl) [] rfl rfl hl.1 (Nat.le_of_ble_eq_true rfl) ⟨by decide, by decide⟩ ⟨Nat.le_refl _, Nat.le_refl _⟩ d_Er_push_67 (fun H locs hP hkp hS => ?_)
  refine lv_astore_n hx hb d_Er_push_70 rfl hl (by decide) rfl (fun ls hl => ?_)
  have hl : lv_has ls 4 [(2, .ref (b0 + 12 + 88 * 1 + 4 + 2 * (g % 16))), (0, .ref b0), (1, .int 2)] := hl
  refine lv_iconst (v := 1) hx hb d_Er_push_71 (by decide) ?_
  refine lv_istore_n hx hb d_Er_push_72 rfl hl (by decide) rfl (fun ls hl => ?_)
  have hl : lv_has ls 4 [(3, .int 1), (2, .ref (b0 + 12 + 88 * 1 + 4 + 2 * (g % 16))), (0, .ref b0), (1, .int 2)] := hl
  refine lv_iload_n hx hb d_Er_push_73 rfl (lv_at hl 0 rfl) ?_
  refine lv_iconst (v := 3) hx hb d_Er_push_74 (by decide) ?_
  refine lv_icmp_gt (tgt := 108) hx hb d_Er_push_75 rfl (fun br75 => absurd br75 (by decide)) (fun br75 => ?_)
  refine lv_iload_n hx hb d_Er_push_78 rfl (lv_at hl 0 rfl) ?_
  refine lv_iload_n hx hb d_Er_push_79 rfl (lv_at hl 3 rfl) ?_
  refine lv_icmp_eq (tgt := 102) hx hb d_Er_push_80 rfl (fun br80 => absurd br80 (by decide)) (fun br80 => ?_)
  refine lv_aload_n hx hb d_Er_push_83 rfl (lv_at hl 2 rfl) ?_
  refine lv_iload_n hx hb d_Er_push_84 rfl (lv_at hl 0 rfl) ?_
  refine lv_iconst (v := 0) hx hb d_Er_push_85 (by decide) ?_
  refine cr_V Z kv_Er_74 (c_Er_way_d l D E La he mu1 (k := 0) (by decide) (u := 0) rfl) hP (la_recv hK hP kc_Er he.1 rfl) [] rfl rfl hl.1 (Nat.le_of_ble_eq_true rfl) ⟨by decide, by decide⟩ ⟨Nat.le_refl _, Nat.le_refl _⟩ d_Er_push_86 ?_
  refine lv_aload_n hx hb d_Er_push_89 rfl (lv_at hl 1 rfl) ?_
  refine lv_aload_n hx hb d_Er_push_90 rfl (lv_at hl 2 rfl) ?_
  refine lv_iload_n hx hb d_Er_push_91 rfl (lv_at hl 0 rfl) ?_
  refine lv_iconst (v := 1) hx hb d_Er_push_92 (by decide) ?_
  refine cr_V Z kv_Er_74 (c_Er_way_u l D E La he mu1 (k := 0) (by decide) (u := 1) (by decide)) hP (la_recv hK hP kc_Er he.1 rfl) [.ref (b0 + 12 + 88 * 1 + 4 + 2 * (g % 16)), .ref (b0 + 48 + 88 * 0)] rfl rfl hl.1 (Nat.le_of_ble_eq_true rfl) ⟨by decide, by decide⟩ ⟨Nat.le_refl _, Nat.le_refl _⟩ d_Er_push_93 ?_
  refine g_i (v := xv0) Z kc_Wy hP (he.2.2.2.2.2.2.1 0 (by decide)).1 rfl 6 (by decide) wl_Er_92 rfl rfl q6_0 d_Er_push_96 ?_
  refine cw_V Z kv_Er_95 (c_Wy_send l D E La (he.2.2.2.2.2.2.2 0 (by decide)) mu1 ((he.2.2.2.2.2.2.1 1 (by decide)).2.2.2.2.1 _ (Nat.mod_lt _ (by decide))).1 q4_0 pa_0 hz xv0) hP hS (fun _ h => h) (la_recv hK hP kc_Wy (he.2.2.2.2.2.2.2 0 (by decide)).1 rfl) [] rfl rfl hl.1 (Nat.le_of_ble_eq_true rfl) ⟨by decide, by decide⟩ ⟨Nat.le_refl _, Nat.le_refl _⟩ d_Er_push_99 (fun H locs hP hkp hS => ?_)
  refine lv_iinc (k := 0) (v := 2) hx hb d_Er_push_102 hl rfl (by decide) (by decide) rfl (fun ls hl => ?_)
  have hl : lv_has ls 4 [(3, .int 2), (2, .ref (b0 + 12 + 88 * 1 + 4 + 2 * (g % 16))), (0, .ref b0), (1, .int 2)] := hl
  refine lv_goto (tgt := 73) hx hb d_Er_push_105 rfl ?_
  refine lv_iload_n hx hb d_Er_push_73 rfl (lv_at hl 0 rfl) ?_
  refine lv_iconst (v := 3) hx hb d_Er_push_74 (by decide) ?_
  refine lv_icmp_gt (tgt := 108) hx hb d_Er_push_75 rfl (fun br75 => absurd br75 (by decide)) (fun br75 => ?_)
  refine lv_iload_n hx hb d_Er_push_78 rfl (lv_at hl 0 rfl) ?_
  refine lv_iload_n hx hb d_Er_push_79 rfl (lv_at hl 3 rfl) ?_
  refine lv_icmp_eq (tgt := 102) hx hb d_Er_push_80 rfl (fun br80 => ?_) (fun br80 => absurd (rfl) br80)
  refine lv_iinc (k := 0) (v := 3) hx hb d_Er_push_102 hl rfl (by decide) (by decide) rfl (fun ls hl => ?_)
  have hl : lv_has ls 4 [(3, .int 3), (2, .ref (b0 + 12 + 88 * 1 + 4 + 2 * (g % 16))), (0, .ref b0), (1, .int 2)] := hl
  refine lv_goto (tgt := 73) hx hb d_Er_push_105 rfl ?_
  refine lv_iload_n hx hb d_Er_push_73 rfl (lv_at hl 0 rfl) ?_
  refine lv_iconst (v := 3) hx hb d_Er_push_74 (by decide) ?_
  refine lv_icmp_gt (tgt := 108) hx hb d_Er_push_75 rfl (fun br75 => absurd br75 (by decide)) (fun br75 => ?_)
  refine lv_iload_n hx hb d_Er_push_78 rfl (lv_at hl 0 rfl) ?_
  refine lv_iload_n hx hb d_Er_push_79 rfl (lv_at hl 3 rfl) ?_
  refine lv_icmp_eq (tgt := 102) hx hb d_Er_push_80 rfl (fun br80 => absurd br80 (by decide)) (fun br80 => ?_)
  refine lv_aload_n hx hb d_Er_push_83 rfl (lv_at hl 2 rfl) ?_
  refine lv_iload_n hx hb d_Er_push_84 rfl (lv_at hl 0 rfl) ?_
  refine lv_iconst (v := 0) hx hb d_Er_push_85 (by decide) ?_
  refine cr_V Z kv_Er_74 (c_Er_way_d l D E La he (wy_send mu1 (b0 + 48 + 88 * 0) 24 (b0 + 12 + 88 * 1 + 4 + 2 * (g % 16)) av0 xv0) (k := 2) (by decide) (u := 0) rfl) hP (la_recv hK hP kc_Er he.1 rfl) [] rfl rfl hl.1 (Nat.le_of_ble_eq_true rfl) ⟨by decide, by decide⟩ ⟨Nat.le_refl _, Nat.le_refl _⟩ d_Er_push_86 ?_
  refine lv_aload_n hx hb d_Er_push_89 rfl (lv_at hl 1 rfl) ?_
  refine lv_aload_n hx hb d_Er_push_90 rfl (lv_at hl 2 rfl) ?_
  refine lv_iload_n hx hb d_Er_push_91 rfl (lv_at hl 0 rfl) ?_
  refine lv_iconst (v := 1) hx hb d_Er_push_92 (by decide) ?_
  refine cr_V Z kv_Er_74 (c_Er_way_u l D E La he (wy_send mu1 (b0 + 48 + 88 * 0) 24 (b0 + 12 + 88 * 1 + 4 + 2 * (g % 16)) av0 xv0) (k := 2) (by decide) (u := 1) (by decide)) hP (la_recv hK hP kc_Er he.1 rfl) [.ref (b0 + 12 + 88 * 1 + 4 + 2 * (g % 16)), .ref (b0 + 48 + 88 * 2)] rfl rfl hl.1 (Nat.le_of_ble_eq_true rfl) ⟨by decide, by decide⟩ ⟨Nat.le_refl _, Nat.le_refl _⟩ d_Er_push_93 ?_
  refine g_i (v := xv2) Z kc_Wy hP (he.2.2.2.2.2.2.1 2 (by decide)).1 rfl 6 (by decide) wl_Er_92 rfl rfl r6 d_Er_push_96 ?_
  refine cw_V Z kv_Er_95 (c_Wy_send l D E La (he.2.2.2.2.2.2.2 2 (by decide)) (wy_send mu1 (b0 + 48 + 88 * 0) 24 (b0 + 12 + 88 * 1 + 4 + 2 * (g % 16)) av0 xv0) ((he.2.2.2.2.2.2.1 1 (by decide)).2.2.2.2.1 _ (Nat.mod_lt _ (by decide))).1 r4 pa_2 rz xv2) hP hS (fun _ h => h) (la_recv hK hP kc_Wy (he.2.2.2.2.2.2.2 2 (by decide)).1 rfl) [] rfl rfl hl.1 (Nat.le_of_ble_eq_true rfl) ⟨by decide, by decide⟩ ⟨Nat.le_refl _, Nat.le_refl _⟩ d_Er_push_99 (fun H locs hP hkp hS => ?_)
  refine lv_iinc (k := 0) (v := 4) hx hb d_Er_push_102 hl rfl (by decide) (by decide) rfl (fun ls hl => ?_)
  have hl : lv_has ls 4 [(3, .int 4), (2, .ref (b0 + 12 + 88 * 1 + 4 + 2 * (g % 16))), (0, .ref b0), (1, .int 2)] := hl
  refine lv_goto (tgt := 73) hx hb d_Er_push_105 rfl ?_
  refine lv_iload_n hx hb d_Er_push_73 rfl (lv_at hl 0 rfl) ?_
  refine lv_iconst (v := 3) hx hb d_Er_push_74 (by decide) ?_
  refine lv_icmp_gt (tgt := 108) hx hb d_Er_push_75 rfl (fun br75 => ?_) (fun br75 => absurd (by decide) br75)
  refine lv_aload_n hx hb d_Er_push_108 rfl (lv_at hl 1 rfl) ?_
  refine g_i (v := (mu1 (b0 + 12 + 88 * 1 + 4 + 2 * (g % 16)) 0)) Z kc_Ch hP ((he.2.2.2.2.2.2.1 1 (by decide)).2.2.2.2.1 _ (Nat.mod_lt _ (by decide))).1 rfl 0 (by decide) wl_Er_99 rfl rfl r0 d_Er_push_109 ?_
  exact W.iret hx hb hr (fun t ht hW => ⟨rfl, by rw [ht]; exact cvm hP (rfl), hS.F ht⟩) hS.2.2 d_Er_push_112
set_option maxHeartbeats 4000000 in
set_option maxRecDepth 100000 in
theorem c_Er_push_2 (l : Launch) (D : va_G) (E : Nat → ClassId) (La : la_L) {b0 : Nat} (he : isEr E La b0) (mu : la_M) {mu1 : la_M} {g a : Nat} (h4 : mu (b0 + 12 + 88 * 2) 4 = nI a) (h6 : mu (b0 + 12 + 88 * 2) 6 = nI g) (hga : g < a) (ha : a < 2 ^ 31) (hR : cw l y_Er_receive b_Er_receive 5 (some (.object "EditRelay$Change")) 4 92 D E La [.ref b0, .int (nI 0), .ref (b0 + 12 + 88 * 2), .ref (b0 + 48 + 88 * 2)] mu (some (.ref (b0 + 12 + 88 * 2 + 4 + 2 * (g % 16)))) mu1) (hz : chz (mu1 (b0 + 12 + 88 * 2 + 4 + 2 * (g % 16)) 2)) {av0 bv0 : Nat} {xv0 : Int32} (p4_0 : mu (b0 + 48 + 88 * 0) 4 = nI av0) (p5_0 : mu (b0 + 48 + 88 * 0) 5 = nI bv0) (pab_0 : bv0 ≤ av0) (pa_0 : av0 < 2 ^ 31) (pf_0 : av0 - bv0 < 24) (q4_0 : mu1 (b0 + 48 + 88 * 0) 4 = nI av0) (q6_0 : mu1 (b0 + 12 + 88 * 0) 6 = xv0) {av1 bv1 : Nat} {xv1 : Int32} (p4_1 : mu (b0 + 48 + 88 * 1) 4 = nI av1) (p5_1 : mu (b0 + 48 + 88 * 1) 5 = nI bv1) (pab_1 : bv1 ≤ av1) (pa_1 : av1 < 2 ^ 31) (pf_1 : av1 - bv1 < 24) (q4_1 : mu1 (b0 + 48 + 88 * 1) 4 = nI av1) (q6_1 : mu1 (b0 + 12 + 88 * 1) 6 = xv1)  : cw l y_Er_push b_Er_push 4 (some .int) 5 116 D E La [.ref b0, .int 3] mu (some (.int (mu1 (b0 + 12 + 88 * 2 + 4 + 2 * (g % 16)) 0))) (wy_send (wy_send mu1 (b0 + 48 + 88 * 0) 24 (b0 + 12 + 88 * 2 + 4 + 2 * (g % 16)) av0 xv0) (b0 + 48 + 88 * 1) 24 (b0 + 12 + 88 * 2 + 4 + 2 * (g % 16)) av1 xv1) := by
  refine cw_begin R_Er (by decide) rfl (Nat.le_of_ble_eq_true rfl) ?_
  intro p e s m below meth c ls Z hr hlocks hP hS hl
  have hx := Z.1
  have hb := Z.2.1
  have hK : va_K D cls5 (tyE E) s := Z.2.2.2.2.2
  have hl : lv_has ls 4 [(0, .ref b0), (1, .int 3)] := hl
  have m0 := Nat.mod_lt av0 (show 0 < 24 by decide)
  have m1 := Nat.mod_lt av1 (show 0 < 24 by decide)
  have mg := Nat.mod_lt g (show 0 < 16 by decide)
  have r4 : (wy_send mu1 (b0 + 48 + 88 * 0) 24 (b0 + 12 + 88 * 2 + 4 + 2 * (g % 16)) av0 xv0) (b0 + 48 + 88 * 1) 4 = nI av1 := by rw [wy_send_n (by omega) (by omega) (by omega) (by omega)]; exact q4_1
  have r6 : (wy_send mu1 (b0 + 48 + 88 * 0) 24 (b0 + 12 + 88 * 2 + 4 + 2 * (g % 16)) av0 xv0) (b0 + 12 + 88 * 1) 6 = xv1 := by rw [wy_send_n (by omega) (by omega) (by omega) (by omega)]; exact q6_1
  have rz : chz ((wy_send mu1 (b0 + 48 + 88 * 0) 24 (b0 + 12 + 88 * 2 + 4 + 2 * (g % 16)) av0 xv0) (b0 + 12 + 88 * 2 + 4 + 2 * (g % 16)) 2) := by rw [wy_send_n (by omega) (by omega) (by omega) (by omega)]; exact hz
  have r0 : (wy_send (wy_send mu1 (b0 + 48 + 88 * 0) 24 (b0 + 12 + 88 * 2 + 4 + 2 * (g % 16)) av0 xv0) (b0 + 48 + 88 * 1) 24 (b0 + 12 + 88 * 2 + 4 + 2 * (g % 16)) av1 xv1) (b0 + 12 + 88 * 2 + 4 + 2 * (g % 16)) 0 = mu1 (b0 + 12 + 88 * 2 + 4 + 2 * (g % 16)) 0 := by rw [wy_send_n (by omega) (by omega) (by omega) (by omega), wy_send_n (by omega) (by omega) (by omega) (by omega)]
  refine lv_iload_n hx hb d_Er_push_0 rfl (lv_at hl 1 rfl) ?_
  refine cr_S Z ks_Er_35 (c_Er_checkClient l D E La mu (k := 2) (by decide)) hP [] rfl rfl hl.1 (Nat.le_of_ble_eq_true rfl) ⟨by decide, by decide⟩ ⟨Nat.le_refl _, Nat.le_refl _⟩ d_Er_push_1 ?_
  refine lv_aload_n hx hb d_Er_push_4 rfl (lv_at hl 0 rfl) ?_
  refine lv_iload_n hx hb d_Er_push_5 rfl (lv_at hl 1 rfl) ?_
  refine lv_iconst (v := 1) hx hb d_Er_push_6 (by decide) ?_
  refine cr_V Z kv_Er_74 (c_Er_way_u l D E La he mu (k := 2) (by decide) (u := 1) (by decide)) hP (la_recv hK hP kc_Er he.1 rfl) [] rfl rfl hl.1 (Nat.le_of_ble_eq_true rfl) ⟨by decide, by decide⟩ ⟨Nat.le_refl _, Nat.le_refl _⟩ d_Er_push_7 ?_
  refine cr_S Z ks_Er_78 (c_Er_checkSomeWaits l D E La (he.2.2.2.2.2.2.1 2 (by decide)) mu h4 h6 hga ha) hP [] rfl rfl hl.1 (Nat.le_of_ble_eq_true rfl) ⟨by decide, by decide⟩ ⟨Nat.le_refl _, Nat.le_refl _⟩ d_Er_push_10 ?_
  refine lv_iconst (v := 1) hx hb d_Er_push_13 (by decide) ?_
  refine lv_istore_n hx hb d_Er_push_14 rfl hl (by decide) rfl (fun ls hl => ?_)
  have hl : lv_has ls 4 [(2, .int 1), (0, .ref b0), (1, .int 3)] := hl
  refine lv_iload_n hx hb d_Er_push_15 rfl (lv_at hl 0 rfl) ?_
  refine lv_iconst (v := 3) hx hb d_Er_push_16 (by decide) ?_
  refine lv_icmp_gt (tgt := 53) hx hb d_Er_push_17 rfl (fun br17 => absurd br17 (by decide)) (fun br17 => ?_)
  refine lv_iload_n hx hb d_Er_push_20 rfl (lv_at hl 0 rfl) ?_
  refine lv_iload_n hx hb d_Er_push_21 rfl (lv_at hl 2 rfl) ?_
  refine lv_icmp_eq (tgt := 47) hx hb d_Er_push_22 rfl (fun br22 => absurd br22 (by decide)) (fun br22 => ?_)
  refine lv_aload_n hx hb d_Er_push_25 rfl (lv_at hl 1 rfl) ?_
  refine lv_iload_n hx hb d_Er_push_26 rfl (lv_at hl 0 rfl) ?_
  refine lv_iconst (v := 0) hx hb d_Er_push_27 (by decide) ?_
  refine cr_V Z kv_Er_74 (c_Er_way_d l D E La he mu (k := 0) (by decide) (u := 0) rfl) hP (la_recv hK hP kc_Er he.1 rfl) [] rfl rfl hl.1 (Nat.le_of_ble_eq_true rfl) ⟨by decide, by decide⟩ ⟨Nat.le_refl _, Nat.le_refl _⟩ d_Er_push_28 ?_
  refine cr_V Z kv_Er_82 (c_Wy_isFull_f l D E La (he.2.2.2.2.2.2.2 0 (by decide)) mu p4_0 p5_0 pab_0 pa_0 pf_0) hP (la_recv hK hP kc_Wy (he.2.2.2.2.2.2.2 0 (by decide)).1 rfl) [] rfl rfl hl.1 (Nat.le_of_ble_eq_true rfl) ⟨by decide, by decide⟩ ⟨Nat.le_refl _, Nat.le_refl _⟩ d_Er_push_31 ?_
  refine lv_if_eq (tgt := 47) hx hb d_Er_push_34 rfl (fun br34 => ?_) (fun br34 => absurd (rfl) br34)
  refine lv_iinc (k := 0) (v := 2) hx hb d_Er_push_47 hl rfl (by decide) (by decide) rfl (fun ls hl => ?_)
  have hl : lv_has ls 4 [(2, .int 2), (0, .ref b0), (1, .int 3)] := hl
  refine lv_goto (tgt := 15) hx hb d_Er_push_50 rfl ?_
  refine lv_iload_n hx hb d_Er_push_15 rfl (lv_at hl 0 rfl) ?_
  refine lv_iconst (v := 3) hx hb d_Er_push_16 (by decide) ?_
  refine lv_icmp_gt (tgt := 53) hx hb d_Er_push_17 rfl (fun br17 => absurd br17 (by decide)) (fun br17 => ?_)
  refine lv_iload_n hx hb d_Er_push_20 rfl (lv_at hl 0 rfl) ?_
  refine lv_iload_n hx hb d_Er_push_21 rfl (lv_at hl 2 rfl) ?_
  refine lv_icmp_eq (tgt := 47) hx hb d_Er_push_22 rfl (fun br22 => absurd br22 (by decide)) (fun br22 => ?_)
  refine lv_aload_n hx hb d_Er_push_25 rfl (lv_at hl 1 rfl) ?_
  refine lv_iload_n hx hb d_Er_push_26 rfl (lv_at hl 0 rfl) ?_
  refine lv_iconst (v := 0) hx hb d_Er_push_27 (by decide) ?_
  refine cr_V Z kv_Er_74 (c_Er_way_d l D E La he mu (k := 1) (by decide) (u := 0) rfl) hP (la_recv hK hP kc_Er he.1 rfl) [] rfl rfl hl.1 (Nat.le_of_ble_eq_true rfl) ⟨by decide, by decide⟩ ⟨Nat.le_refl _, Nat.le_refl _⟩ d_Er_push_28 ?_
  refine cr_V Z kv_Er_82 (c_Wy_isFull_f l D E La (he.2.2.2.2.2.2.2 1 (by decide)) mu p4_1 p5_1 pab_1 pa_1 pf_1) hP (la_recv hK hP kc_Wy (he.2.2.2.2.2.2.2 1 (by decide)).1 rfl) [] rfl rfl hl.1 (Nat.le_of_ble_eq_true rfl) ⟨by decide, by decide⟩ ⟨Nat.le_refl _, Nat.le_refl _⟩ d_Er_push_31 ?_
  refine lv_if_eq (tgt := 47) hx hb d_Er_push_34 rfl (fun br34 => ?_) (fun br34 => absurd (rfl) br34)
  refine lv_iinc (k := 0) (v := 3) hx hb d_Er_push_47 hl rfl (by decide) (by decide) rfl (fun ls hl => ?_)
  have hl : lv_has ls 4 [(2, .int 3), (0, .ref b0), (1, .int 3)] := hl
  refine lv_goto (tgt := 15) hx hb d_Er_push_50 rfl ?_
  refine lv_iload_n hx hb d_Er_push_15 rfl (lv_at hl 0 rfl) ?_
  refine lv_iconst (v := 3) hx hb d_Er_push_16 (by decide) ?_
  refine lv_icmp_gt (tgt := 53) hx hb d_Er_push_17 rfl (fun br17 => absurd br17 (by decide)) (fun br17 => ?_)
  refine lv_iload_n hx hb d_Er_push_20 rfl (lv_at hl 0 rfl) ?_
  refine lv_iload_n hx hb d_Er_push_21 rfl (lv_at hl 2 rfl) ?_
  refine lv_icmp_eq (tgt := 47) hx hb d_Er_push_22 rfl (fun br22 => ?_) (fun br22 => absurd (rfl) br22)
  refine lv_iinc (k := 0) (v := 4) hx hb d_Er_push_47 hl rfl (by decide) (by decide) rfl (fun ls hl => ?_)
  have hl : lv_has ls 4 [(2, .int 4), (0, .ref b0), (1, .int 3)] := hl
  refine lv_goto (tgt := 15) hx hb d_Er_push_50 rfl ?_
  refine lv_iload_n hx hb d_Er_push_15 rfl (lv_at hl 0 rfl) ?_
  refine lv_iconst (v := 3) hx hb d_Er_push_16 (by decide) ?_
  refine lv_icmp_gt (tgt := 53) hx hb d_Er_push_17 rfl (fun br17 => ?_) (fun br17 => absurd (by decide) br17)
  refine lv_aload_n hx hb d_Er_push_53 rfl (lv_at hl 1 rfl) ?_
  refine lv_iconst (v := 0) hx hb d_Er_push_54 (by decide) ?_
  refine lv_aload_n hx hb d_Er_push_55 rfl (lv_at hl 1 rfl) ?_
  refine lv_iload_n hx hb d_Er_push_56 rfl (lv_at hl 2 rfl) ?_
  refine lv_iconst (v := 1) hx hb d_Er_push_57 (by decide) ?_
  refine cr_V Z kv_Er_74 (c_Er_way_u l D E La he mu (k := 2) (by decide) (u := 1) (by decide)) hP (la_recv hK hP kc_Er he.1 rfl) [.int 0, .ref b0] rfl rfl hl.1 (Nat.le_of_ble_eq_true rfl) ⟨by decide, by decide⟩ ⟨Nat.le_refl _, Nat.le_refl _⟩ d_Er_push_58 ?_
  refine lv_aload_n hx hb d_Er_push_61 rfl (lv_at hl 1 rfl) ?_
  refine lv_iload_n hx hb d_Er_push_62 rfl (lv_at hl 2 rfl) ?_
  refine lv_iconst (v := 0) hx hb d_Er_push_63 (by decide) ?_
  refine cr_V Z kv_Er_74 (c_Er_way_d l D E La he mu (k := 2) (by decide) (u := 0) rfl) hP (la_recv hK hP kc_Er he.1 rfl) [.ref (b0 + 12 + 88 * 2), .int 0, .ref b0] rfl rfl hl.1 (Nat.le_of_ble_eq_true rfl) ⟨by decide, by decide⟩ ⟨Nat.le_refl _, Nat.le_refl _⟩ d_Er_push_64 ?_
  refine cw_V Z kv_Er_88 (hR) hP hS (fun _ h => h) (la_recv hK hP kc_Er he.1 rfl) [] rfl rfl hl.1 (Nat.le_of_ble_eq_true rfl) ⟨by decide, by decide⟩ ⟨Nat.le_refl _, Nat.le_refl _⟩ d_Er_push_67 (fun H locs hP hkp hS => ?_)
  refine lv_astore_n hx hb d_Er_push_70 rfl hl (by decide) rfl (fun ls hl => ?_)
  have hl : lv_has ls 4 [(2, .ref (b0 + 12 + 88 * 2 + 4 + 2 * (g % 16))), (0, .ref b0), (1, .int 3)] := hl
  refine lv_iconst (v := 1) hx hb d_Er_push_71 (by decide) ?_
  refine lv_istore_n hx hb d_Er_push_72 rfl hl (by decide) rfl (fun ls hl => ?_)
  have hl : lv_has ls 4 [(3, .int 1), (2, .ref (b0 + 12 + 88 * 2 + 4 + 2 * (g % 16))), (0, .ref b0), (1, .int 3)] := hl
  refine lv_iload_n hx hb d_Er_push_73 rfl (lv_at hl 0 rfl) ?_
  refine lv_iconst (v := 3) hx hb d_Er_push_74 (by decide) ?_
  refine lv_icmp_gt (tgt := 108) hx hb d_Er_push_75 rfl (fun br75 => absurd br75 (by decide)) (fun br75 => ?_)
  refine lv_iload_n hx hb d_Er_push_78 rfl (lv_at hl 0 rfl) ?_
  refine lv_iload_n hx hb d_Er_push_79 rfl (lv_at hl 3 rfl) ?_
  refine lv_icmp_eq (tgt := 102) hx hb d_Er_push_80 rfl (fun br80 => absurd br80 (by decide)) (fun br80 => ?_)
  refine lv_aload_n hx hb d_Er_push_83 rfl (lv_at hl 2 rfl) ?_
  refine lv_iload_n hx hb d_Er_push_84 rfl (lv_at hl 0 rfl) ?_
  refine lv_iconst (v := 0) hx hb d_Er_push_85 (by decide) ?_
  refine cr_V Z kv_Er_74 (c_Er_way_d l D E La he mu1 (k := 0) (by decide) (u := 0) rfl) hP (la_recv hK hP kc_Er he.1 rfl) [] rfl rfl hl.1 (Nat.le_of_ble_eq_true rfl) ⟨by decide, by decide⟩ ⟨Nat.le_refl _, Nat.le_refl _⟩ d_Er_push_86 ?_
  refine lv_aload_n hx hb d_Er_push_89 rfl (lv_at hl 1 rfl) ?_
  refine lv_aload_n hx hb d_Er_push_90 rfl (lv_at hl 2 rfl) ?_
  refine lv_iload_n hx hb d_Er_push_91 rfl (lv_at hl 0 rfl) ?_
  refine lv_iconst (v := 1) hx hb d_Er_push_92 (by decide) ?_
  refine cr_V Z kv_Er_74 (c_Er_way_u l D E La he mu1 (k := 0) (by decide) (u := 1) (by decide)) hP (la_recv hK hP kc_Er he.1 rfl) [.ref (b0 + 12 + 88 * 2 + 4 + 2 * (g % 16)), .ref (b0 + 48 + 88 * 0)] rfl rfl hl.1 (Nat.le_of_ble_eq_true rfl) ⟨by decide, by decide⟩ ⟨Nat.le_refl _, Nat.le_refl _⟩ d_Er_push_93 ?_
  refine g_i (v := xv0) Z kc_Wy hP (he.2.2.2.2.2.2.1 0 (by decide)).1 rfl 6 (by decide) wl_Er_92 rfl rfl q6_0 d_Er_push_96 ?_
  refine cw_V Z kv_Er_95 (c_Wy_send l D E La (he.2.2.2.2.2.2.2 0 (by decide)) mu1 ((he.2.2.2.2.2.2.1 2 (by decide)).2.2.2.2.1 _ (Nat.mod_lt _ (by decide))).1 q4_0 pa_0 hz xv0) hP hS (fun _ h => h) (la_recv hK hP kc_Wy (he.2.2.2.2.2.2.2 0 (by decide)).1 rfl) [] rfl rfl hl.1 (Nat.le_of_ble_eq_true rfl) ⟨by decide, by decide⟩ ⟨Nat.le_refl _, Nat.le_refl _⟩ d_Er_push_99 (fun H locs hP hkp hS => ?_)
  refine lv_iinc (k := 0) (v := 2) hx hb d_Er_push_102 hl rfl (by decide) (by decide) rfl (fun ls hl => ?_)
  have hl : lv_has ls 4 [(3, .int 2), (2, .ref (b0 + 12 + 88 * 2 + 4 + 2 * (g % 16))), (0, .ref b0), (1, .int 3)] := hl
  refine lv_goto (tgt := 73) hx hb d_Er_push_105 rfl ?_
  refine lv_iload_n hx hb d_Er_push_73 rfl (lv_at hl 0 rfl) ?_
  refine lv_iconst (v := 3) hx hb d_Er_push_74 (by decide) ?_
  refine lv_icmp_gt (tgt := 108) hx hb d_Er_push_75 rfl (fun br75 => absurd br75 (by decide)) (fun br75 => ?_)
  refine lv_iload_n hx hb d_Er_push_78 rfl (lv_at hl 0 rfl) ?_
  refine lv_iload_n hx hb d_Er_push_79 rfl (lv_at hl 3 rfl) ?_
  refine lv_icmp_eq (tgt := 102) hx hb d_Er_push_80 rfl (fun br80 => absurd br80 (by decide)) (fun br80 => ?_)
  refine lv_aload_n hx hb d_Er_push_83 rfl (lv_at hl 2 rfl) ?_
  refine lv_iload_n hx hb d_Er_push_84 rfl (lv_at hl 0 rfl) ?_
  refine lv_iconst (v := 0) hx hb d_Er_push_85 (by decide) ?_
  refine cr_V Z kv_Er_74 (c_Er_way_d l D E La he (wy_send mu1 (b0 + 48 + 88 * 0) 24 (b0 + 12 + 88 * 2 + 4 + 2 * (g % 16)) av0 xv0) (k := 1) (by decide) (u := 0) rfl) hP (la_recv hK hP kc_Er he.1 rfl) [] rfl rfl hl.1 (Nat.le_of_ble_eq_true rfl) ⟨by decide, by decide⟩ ⟨Nat.le_refl _, Nat.le_refl _⟩ d_Er_push_86 ?_
  refine lv_aload_n hx hb d_Er_push_89 rfl (lv_at hl 1 rfl) ?_
  refine lv_aload_n hx hb d_Er_push_90 rfl (lv_at hl 2 rfl) ?_
  refine lv_iload_n hx hb d_Er_push_91 rfl (lv_at hl 0 rfl) ?_
  refine lv_iconst (v := 1) hx hb d_Er_push_92 (by decide) ?_
  refine cr_V Z kv_Er_74 (c_Er_way_u l D E La he (wy_send mu1 (b0 + 48 + 88 * 0) 24 (b0 + 12 + 88 * 2 + 4 + 2 * (g % 16)) av0 xv0) (k := 1) (by decide) (u := 1) (by decide)) hP (la_recv hK hP kc_Er he.1 rfl) [.ref (b0 + 12 + 88 * 2 + 4 + 2 * (g % 16)), .ref (b0 + 48 + 88 * 1)] rfl rfl hl.1 (Nat.le_of_ble_eq_true rfl) ⟨by decide, by decide⟩ ⟨Nat.le_refl _, Nat.le_refl _⟩ d_Er_push_93 ?_
  refine g_i (v := xv1) Z kc_Wy hP (he.2.2.2.2.2.2.1 1 (by decide)).1 rfl 6 (by decide) wl_Er_92 rfl rfl r6 d_Er_push_96 ?_
  refine cw_V Z kv_Er_95 (c_Wy_send l D E La (he.2.2.2.2.2.2.2 1 (by decide)) (wy_send mu1 (b0 + 48 + 88 * 0) 24 (b0 + 12 + 88 * 2 + 4 + 2 * (g % 16)) av0 xv0) ((he.2.2.2.2.2.2.1 2 (by decide)).2.2.2.2.1 _ (Nat.mod_lt _ (by decide))).1 r4 pa_1 rz xv1) hP hS (fun _ h => h) (la_recv hK hP kc_Wy (he.2.2.2.2.2.2.2 1 (by decide)).1 rfl) [] rfl rfl hl.1 (Nat.le_of_ble_eq_true rfl) ⟨by decide, by decide⟩ ⟨Nat.le_refl _, Nat.le_refl _⟩ d_Er_push_99 (fun H locs hP hkp hS => ?_)
  refine lv_iinc (k := 0) (v := 3) hx hb d_Er_push_102 hl rfl (by decide) (by decide) rfl (fun ls hl => ?_)
  have hl : lv_has ls 4 [(3, .int 3), (2, .ref (b0 + 12 + 88 * 2 + 4 + 2 * (g % 16))), (0, .ref b0), (1, .int 3)] := hl
  refine lv_goto (tgt := 73) hx hb d_Er_push_105 rfl ?_
  refine lv_iload_n hx hb d_Er_push_73 rfl (lv_at hl 0 rfl) ?_
  refine lv_iconst (v := 3) hx hb d_Er_push_74 (by decide) ?_
  refine lv_icmp_gt (tgt := 108) hx hb d_Er_push_75 rfl (fun br75 => absurd br75 (by decide)) (fun br75 => ?_)
  refine lv_iload_n hx hb d_Er_push_78 rfl (lv_at hl 0 rfl) ?_
  refine lv_iload_n hx hb d_Er_push_79 rfl (lv_at hl 3 rfl) ?_
  refine lv_icmp_eq (tgt := 102) hx hb d_Er_push_80 rfl (fun br80 => ?_) (fun br80 => absurd (rfl) br80)
  refine lv_iinc (k := 0) (v := 4) hx hb d_Er_push_102 hl rfl (by decide) (by decide) rfl (fun ls hl => ?_)
  have hl : lv_has ls 4 [(3, .int 4), (2, .ref (b0 + 12 + 88 * 2 + 4 + 2 * (g % 16))), (0, .ref b0), (1, .int 3)] := hl
  refine lv_goto (tgt := 73) hx hb d_Er_push_105 rfl ?_
  refine lv_iload_n hx hb d_Er_push_73 rfl (lv_at hl 0 rfl) ?_
  refine lv_iconst (v := 3) hx hb d_Er_push_74 (by decide) ?_
  refine lv_icmp_gt (tgt := 108) hx hb d_Er_push_75 rfl (fun br75 => ?_) (fun br75 => absurd (by decide) br75)
  refine lv_aload_n hx hb d_Er_push_108 rfl (lv_at hl 1 rfl) ?_
  refine g_i (v := (mu1 (b0 + 12 + 88 * 2 + 4 + 2 * (g % 16)) 0)) Z kc_Ch hP ((he.2.2.2.2.2.2.1 2 (by decide)).2.2.2.2.1 _ (Nat.mod_lt _ (by decide))).1 rfl 0 (by decide) wl_Er_99 rfl rfl r0 d_Er_push_109 ?_
  exact W.iret hx hb hr (fun t ht hW => ⟨rfl, by rw [ht]; exact cvm hP (rfl), hS.F ht⟩) hS.2.2 d_Er_push_112
set_option maxHeartbeats 4000000 in
set_option maxRecDepth 100000 in
theorem c_Er_waiting (l : Launch) (D : va_G) (E : Nat → ClassId) (La : la_L) {b0 : Nat} (he : isEr E La b0) (mu : la_M) {k : Nat} (hk : k < 3) {w0 r : Nat} {u : Int32} (hw : isWy E La w0 r) (hway : cr l y_Er_way b_Er_way 3 (some (.object "EditRelay$Way")) 0 0 D E La [.ref b0, .int (nI (k + 1)), .int u] mu (some (.ref w0))) {a b : Nat} (h4 : mu w0 4 = nI a) (h5 : mu w0 6 = nI b) (hab : b ≤ a) : cr l y_Er_waiting b_Er_waiting 3 (some .int) 1 22 D E La [.ref b0, .int (nI (k + 1)), .int u] mu (some (.int (nI (a - b)))) := by
  refine cr_begin R_Er (by decide) rfl (Nat.le_of_ble_eq_true rfl) ?_
  intro p e s m below meth c ls Z hr hlocks hP hl
  have hx := Z.1
  have hb := Z.2.1
  have hK : va_K D cls5 (tyE E) s := Z.2.2.2.2.2
  have hl : lv_has ls 3 [(0, .ref b0), (1, .int (nI (k + 1))), (2, .int u)] := hl
  refine lv_iload_n hx hb d_Er_waiting_0 rfl (lv_at hl 1 rfl) ?_
  refine cr_S Z ks_Er_35 (c_Er_checkClient l D E La mu hk) hP [] rfl rfl hl.1 (Nat.le_of_ble_eq_true rfl) ⟨by decide, by decide⟩ ⟨Nat.le_refl _, Nat.le_refl _⟩ d_Er_waiting_1 ?_
  refine lv_aload_n hx hb d_Er_waiting_4 rfl (lv_at hl 0 rfl) ?_
  refine lv_iload_n hx hb d_Er_waiting_5 rfl (lv_at hl 1 rfl) ?_
  refine lv_iload_n hx hb d_Er_waiting_6 rfl (lv_at hl 2 rfl) ?_
  refine cr_V Z kv_Er_74 (hway) hP (la_recv hK hP kc_Er he.1 rfl) [] rfl rfl hl.1 (Nat.le_of_ble_eq_true rfl) ⟨by decide, by decide⟩ ⟨Nat.le_refl _, Nat.le_refl _⟩ d_Er_waiting_7 ?_
  refine cr_V Z kv_Er_102 (c_Wy_waitingCount l D E La hw mu h4 h5 hab) hP (la_recv hK hP kc_Wy hw.1 rfl) [] rfl rfl hl.1 (Nat.le_of_ble_eq_true rfl) ⟨by decide, by decide⟩ ⟨Nat.le_refl _, Nat.le_refl _⟩ d_Er_waiting_10 ?_
  exact W.iret hx hb hr (fun t ht hW => ⟨rfl, ht⟩) (fun q h => by cases h) d_Er_waiting_13
set_option maxHeartbeats 4000000 in
set_option maxRecDepth 100000 in
theorem c_Er_open (l : Launch) (D : va_G) (E : Nat → ClassId) (La : la_L) {b0 : Nat} (he : isEr E La b0) (mu : la_M) {k : Nat} (hk : k < 3) {w0 r : Nat} {u : Int32} (hw : isWy E La w0 r) (hway : cr l y_Er_way b_Er_way 3 (some (.object "EditRelay$Way")) 0 0 D E La [.ref b0, .int (nI (k + 1)), .int u] mu (some (.ref w0))) {a b : Nat} (h4 : mu w0 4 = nI a) (h5 : mu w0 5 = nI b) (hab : b ≤ a) : cr l y_Er_open b_Er_open 3 (some .int) 1 22 D E La [.ref b0, .int (nI (k + 1)), .int u] mu (some (.int (nI (a - b)))) := by
  refine cr_begin R_Er (by decide) rfl (Nat.le_of_ble_eq_true rfl) ?_
  intro p e s m below meth c ls Z hr hlocks hP hl
  have hx := Z.1
  have hb := Z.2.1
  have hK : va_K D cls5 (tyE E) s := Z.2.2.2.2.2
  have hl : lv_has ls 3 [(0, .ref b0), (1, .int (nI (k + 1))), (2, .int u)] := hl
  refine lv_iload_n hx hb d_Er_open_0 rfl (lv_at hl 1 rfl) ?_
  refine cr_S Z ks_Er_35 (c_Er_checkClient l D E La mu hk) hP [] rfl rfl hl.1 (Nat.le_of_ble_eq_true rfl) ⟨by decide, by decide⟩ ⟨Nat.le_refl _, Nat.le_refl _⟩ d_Er_open_1 ?_
  refine lv_aload_n hx hb d_Er_open_4 rfl (lv_at hl 0 rfl) ?_
  refine lv_iload_n hx hb d_Er_open_5 rfl (lv_at hl 1 rfl) ?_
  refine lv_iload_n hx hb d_Er_open_6 rfl (lv_at hl 2 rfl) ?_
  refine cr_V Z kv_Er_74 (hway) hP (la_recv hK hP kc_Er he.1 rfl) [] rfl rfl hl.1 (Nat.le_of_ble_eq_true rfl) ⟨by decide, by decide⟩ ⟨Nat.le_refl _, Nat.le_refl _⟩ d_Er_open_7 ?_
  refine cr_V Z kv_Er_106 (c_Wy_openCount l D E La hw mu h4 h5 hab) hP (la_recv hK hP kc_Wy hw.1 rfl) [] rfl rfl hl.1 (Nat.le_of_ble_eq_true rfl) ⟨by decide, by decide⟩ ⟨Nat.le_refl _, Nat.le_refl _⟩ d_Er_open_10 ?_
  exact W.iret hx hb hr (fun t ht hW => ⟨rfl, ht⟩) (fun q h => by cases h) d_Er_open_13
set_option maxHeartbeats 4000000 in
set_option maxRecDepth 100000 in
theorem c_Er_got (l : Launch) (D : va_G) (E : Nat → ClassId) (La : la_L) {b0 : Nat} (he : isEr E La b0) (mu : la_M) {k : Nat} (hk : k < 3) {w0 r : Nat} {u : Int32} (hw : isWy E La w0 r) (hway : cr l y_Er_way b_Er_way 3 (some (.object "EditRelay$Way")) 0 0 D E La [.ref b0, .int (nI (k + 1)), .int u] mu (some (.ref w0)))  : cr l y_Er_got b_Er_got 3 (some .int) 1 22 D E La [.ref b0, .int (nI (k + 1)), .int u] mu (some (.int (mu w0 6))) := by
  refine cr_begin R_Er (by decide) rfl (Nat.le_of_ble_eq_true rfl) ?_
  intro p e s m below meth c ls Z hr hlocks hP hl
  have hx := Z.1
  have hb := Z.2.1
  have hK : va_K D cls5 (tyE E) s := Z.2.2.2.2.2
  have hl : lv_has ls 3 [(0, .ref b0), (1, .int (nI (k + 1))), (2, .int u)] := hl
  refine lv_iload_n hx hb d_Er_got_0 rfl (lv_at hl 1 rfl) ?_
  refine cr_S Z ks_Er_35 (c_Er_checkClient l D E La mu hk) hP [] rfl rfl hl.1 (Nat.le_of_ble_eq_true rfl) ⟨by decide, by decide⟩ ⟨Nat.le_refl _, Nat.le_refl _⟩ d_Er_got_1 ?_
  refine lv_aload_n hx hb d_Er_got_4 rfl (lv_at hl 0 rfl) ?_
  refine lv_iload_n hx hb d_Er_got_5 rfl (lv_at hl 1 rfl) ?_
  refine lv_iload_n hx hb d_Er_got_6 rfl (lv_at hl 2 rfl) ?_
  refine cr_V Z kv_Er_74 (hway) hP (la_recv hK hP kc_Er he.1 rfl) [] rfl rfl hl.1 (Nat.le_of_ble_eq_true rfl) ⟨by decide, by decide⟩ ⟨Nat.le_refl _, Nat.le_refl _⟩ d_Er_got_7 ?_
  refine g_f Z kc_Wy hP hw.1 rfl 6 (by decide) wl_Er_92 rfl rfl d_Er_got_10 ?_
  exact W.iret hx hb hr (fun t ht hW => ⟨rfl, ht⟩) (fun q h => by cases h) d_Er_got_13
set_option maxHeartbeats 4000000 in
set_option maxRecDepth 100000 in
theorem c_Er_change (l : Launch) (D : va_G) (E : Nat → ClassId) (La : la_L) {b0 : Nat} (he : isEr E La b0) (mu : la_M) {k : Nat} (hk : k < 3) {w0 r : Nat} {u : Int32} (hw : isWy E La w0 r) (hway : cr l y_Er_way b_Er_way 3 (some (.object "EditRelay$Way")) 0 0 D E La [.ref b0, .int (nI (k + 1)), .int u] mu (some (.ref w0))) {a b i0 : Nat} (h4 : mu w0 4 = nI a) (h5 : mu w0 5 = nI b) (hab : b ≤ a) (ha : a < 2 ^ 31) (hi : i0 < a - b) : cr l y_Er_change b_Er_change 6 (some .int) 3 64 D E La [.ref b0, .int (nI (k + 1)), .int u, .int (nI i0)] mu (some (.int (1000 * mu (w0 + 5 + 2 * ((b + i0) % r)) 0 + 10 * mu (w0 + 5 + 2 * ((b + i0) % r)) 1 + mu (w0 + 5 + 2 * ((b + i0) % r)) 3))) := by
  refine cr_begin R_Er (by decide) rfl (Nat.le_of_ble_eq_true rfl) ?_
  intro p e s m below meth c ls Z hr hlocks hP hl
  have hx := Z.1
  have hb := Z.2.1
  have hK : va_K D cls5 (tyE E) s := Z.2.2.2.2.2
  have hl : lv_has ls 6 [(0, .ref b0), (1, .int (nI (k + 1))), (2, .int u), (3, .int (nI i0))] := hl
  refine lv_iload_n hx hb d_Er_change_0 rfl (lv_at hl 1 rfl) ?_
  refine cr_S Z ks_Er_35 (c_Er_checkClient l D E La mu hk) hP [] rfl rfl hl.1 (Nat.le_of_ble_eq_true rfl) ⟨by decide, by decide⟩ ⟨Nat.le_refl _, Nat.le_refl _⟩ d_Er_change_1 ?_
  refine lv_aload_n hx hb d_Er_change_4 rfl (lv_at hl 0 rfl) ?_
  refine lv_iload_n hx hb d_Er_change_5 rfl (lv_at hl 1 rfl) ?_
  refine lv_iload_n hx hb d_Er_change_6 rfl (lv_at hl 2 rfl) ?_
  refine cr_V Z kv_Er_74 (hway) hP (la_recv hK hP kc_Er he.1 rfl) [] rfl rfl hl.1 (Nat.le_of_ble_eq_true rfl) ⟨by decide, by decide⟩ ⟨Nat.le_refl _, Nat.le_refl _⟩ d_Er_change_7 ?_
  refine lv_astore hx hb d_Er_change_10 hl (by decide) rfl (fun ls hl => ?_)
  have hl : lv_has ls 6 [(4, .ref w0), (0, .ref b0), (1, .int (nI (k + 1))), (2, .int u), (3, .int (nI i0))] := hl
  refine lv_iload_n hx hb d_Er_change_12 rfl (lv_at hl 4 rfl) ?_
  refine lv_if_lt (tgt := 25) hx hb d_Er_change_13 rfl (fun br13 => absurd br13 (nI_pos (by omega))) (fun br13 => ?_)
  refine lv_iload_n hx hb d_Er_change_16 rfl (lv_at hl 4 rfl) ?_
  refine lv_aload hx hb d_Er_change_17 (lv_at hl 0 rfl) ?_
  refine cr_V Z kv_Er_106 (c_Wy_openCount l D E La hw mu h4 h5 hab) hP (la_recv hK hP kc_Wy hw.1 rfl) [.int (nI i0)] rfl rfl hl.1 (Nat.le_of_ble_eq_true rfl) ⟨by decide, by decide⟩ ⟨Nat.le_refl _, Nat.le_refl _⟩ d_Er_change_19 ?_
  refine lv_icmp_lt (tgt := 35) hx hb d_Er_change_22 rfl (fun br22 => ?_) (fun br22 => absurd (nI_lt hi (by omega)) br22)
  refine lv_aload hx hb d_Er_change_35 (lv_at hl 0 rfl) ?_
  refine lv_iload_n hx hb d_Er_change_37 rfl (lv_at hl 4 rfl) ?_
  refine cr_V Z kv_Er_111 (c_Wy_openChange l D E La hw mu h5 (by omega)) hP (la_recv hK hP kc_Wy hw.1 rfl) [] rfl rfl hl.1 (Nat.le_of_ble_eq_true rfl) ⟨by decide, by decide⟩ ⟨Nat.le_refl _, Nat.le_refl _⟩ d_Er_change_38 ?_
  refine lv_astore hx hb d_Er_change_41 hl (by decide) rfl (fun ls hl => ?_)
  have hl : lv_has ls 6 [(5, .ref (w0 + 5 + 2 * ((b + i0) % r))), (4, .ref w0), (0, .ref b0), (1, .int (nI (k + 1))), (2, .int u), (3, .int (nI i0))] := hl
  refine lv_sipush (v := 1000) hx hb d_Er_change_43 (by decide) ?_
  refine lv_aload hx hb d_Er_change_46 (lv_at hl 0 rfl) ?_
  refine g_f Z kc_Ch hP (hw.2.2.2.2.1 _ (Nat.mod_lt _ hw.2.2.2.2.2.1)).2 rfl 0 (by decide) wl_Er_99 rfl rfl d_Er_change_48 ?_
  refine lv_imul hx hb d_Er_change_51 ?_
  refine lv_bipush (v := 10) hx hb d_Er_change_52 (by decide) ?_
  refine lv_aload hx hb d_Er_change_54 (lv_at hl 0 rfl) ?_
  refine g_f Z kc_Ch hP (hw.2.2.2.2.1 _ (Nat.mod_lt _ hw.2.2.2.2.2.1)).2 rfl 1 (by decide) wl_Er_115 rfl rfl d_Er_change_56 ?_
  refine lv_imul hx hb d_Er_change_59 ?_
  refine lv_iadd hx hb d_Er_change_60 ?_
  refine lv_aload hx hb d_Er_change_61 (lv_at hl 0 rfl) ?_
  refine g_f Z kc_Ch hP (hw.2.2.2.2.1 _ (Nat.mod_lt _ hw.2.2.2.2.2.1)).2 rfl 3 (by decide) wl_Er_118 rfl rfl d_Er_change_63 ?_
  refine lv_iadd hx hb d_Er_change_66 ?_
  exact W.iret hx hb hr (fun t ht hW => ⟨rfl, ht⟩) (fun q h => by cases h) d_Er_change_67
set_option maxHeartbeats 4000000 in
set_option maxRecDepth 100000 in
theorem c_Er_size (l : Launch) (D : va_G) (E : Nat → ClassId) (La : la_L) {b0 : Nat} (he : isEr E La b0) (mu : la_M) {j0 : Nat} (hj : j0 < 4) : cr l y_Er_size b_Er_size 2 (some .int) 1 20 D E La [.ref b0, .int (nI j0)] mu (some (.int (mu (b0 + 2 + 2 * j0) 1))) := by
  refine cr_begin R_Er (by decide) rfl (Nat.le_of_ble_eq_true rfl) ?_
  intro p e s m below meth c ls Z hr hlocks hP hl
  have hx := Z.1
  have hb := Z.2.1
  have hK : va_K D cls5 (tyE E) s := Z.2.2.2.2.2
  have hl : lv_has ls 2 [(0, .ref b0), (1, .int (nI j0))] := hl
  refine lv_iload_n hx hb d_Er_size_0 rfl (lv_at hl 1 rfl) ?_
  refine cr_S Z ks_Er_121 (c_Er_checkSite l D E La mu hj) hP [] rfl rfl hl.1 (Nat.le_of_ble_eq_true rfl) ⟨by decide, by decide⟩ ⟨Nat.le_refl _, Nat.le_refl _⟩ d_Er_size_1 ?_
  refine lv_aload_n hx hb d_Er_size_4 rfl (lv_at hl 0 rfl) ?_
  refine g_f (v := .ref (b0 + 1)) Z kc_Er hP he.1 rfl 0 (by decide) wl_Er_11 rfl rfl d_Er_size_5 ?_
  refine lv_iload_n hx hb d_Er_size_8 rfl (lv_at hl 1 rfl) ?_
  refine la_aald (F := (fun k => b0 + 2 + 2 * k)) hx hb hK hP 3 he.2.1 rfl rfl j0 rfl hj (by decide) d_Er_size_9 ?_
  refine g_f Z kc_Tx hP (he.2.2.2.2.2.1 j0 hj).1 rfl 1 (by decide) wl_Er_45 rfl rfl d_Er_size_10 ?_
  exact W.iret hx hb hr (fun t ht hW => ⟨rfl, ht⟩) (fun q h => by cases h) d_Er_size_13
set_option maxHeartbeats 4000000 in
set_option maxRecDepth 100000 in
theorem c_Er_letter (l : Launch) (D : va_G) (E : Nat → ClassId) (La : la_L) {b0 : Nat} (he : isEr E La b0) (mu : la_M) {j0 q n : Nat} (hj : j0 < 4) (hn : mu (b0 + 2 + 2 * j0) 1 = nI n) (hq : q < n) (hn64 : n ≤ 64) : cr l y_Er_letter b_Er_letter 4 (some .int) 1 21 D E La [.ref b0, .int (nI j0), .int (nI q)] mu (some (.int (mu ((b0 + 2 + 2 * j0) + 1) q))) := by
  refine cr_begin R_Er (by decide) rfl (Nat.le_of_ble_eq_true rfl) ?_
  intro p e s m below meth c ls Z hr hlocks hP hl
  have hx := Z.1
  have hb := Z.2.1
  have hK : va_K D cls5 (tyE E) s := Z.2.2.2.2.2
  have hl : lv_has ls 4 [(0, .ref b0), (1, .int (nI j0)), (2, .int (nI q))] := hl
  refine lv_iload_n hx hb d_Er_letter_0 rfl (lv_at hl 1 rfl) ?_
  refine cr_S Z ks_Er_121 (c_Er_checkSite l D E La mu hj) hP [] rfl rfl hl.1 (Nat.le_of_ble_eq_true rfl) ⟨by decide, by decide⟩ ⟨Nat.le_refl _, Nat.le_refl _⟩ d_Er_letter_1 ?_
  refine lv_aload_n hx hb d_Er_letter_4 rfl (lv_at hl 0 rfl) ?_
  refine g_f (v := .ref (b0 + 1)) Z kc_Er hP he.1 rfl 0 (by decide) wl_Er_11 rfl rfl d_Er_letter_5 ?_
  refine lv_iload_n hx hb d_Er_letter_8 rfl (lv_at hl 1 rfl) ?_
  refine la_aald (F := (fun k => b0 + 2 + 2 * k)) hx hb hK hP 3 he.2.1 rfl rfl j0 rfl hj (by decide) d_Er_letter_9 ?_
  refine lv_astore_n hx hb d_Er_letter_10 rfl hl (by decide) rfl (fun ls hl => ?_)
  have hl : lv_has ls 4 [(3, .ref (b0 + 2 + 2 * j0)), (0, .ref b0), (1, .int (nI j0)), (2, .int (nI q))] := hl
  refine lv_aload_n hx hb d_Er_letter_11 rfl (lv_at hl 0 rfl) ?_
  refine lv_iload_n hx hb d_Er_letter_12 rfl (lv_at hl 3 rfl) ?_
  refine cr_S Z ks_Er_66 (c_Er_checkHasLetter l D E La (he.2.2.2.2.2.1 j0 hj) mu hn hq (by omega)) hP [] rfl rfl hl.1 (Nat.le_of_ble_eq_true rfl) ⟨by decide, by decide⟩ ⟨Nat.le_refl _, Nat.le_refl _⟩ d_Er_letter_13 ?_
  refine lv_aload_n hx hb d_Er_letter_16 rfl (lv_at hl 0 rfl) ?_
  refine g_f (v := .ref ((b0 + 2 + 2 * j0) + 1)) Z kc_Tx hP (he.2.2.2.2.2.1 j0 hj).1 rfl 0 (by decide) wl_Er_70 rfl rfl d_Er_letter_17 ?_
  refine lv_iload_n hx hb d_Er_letter_20 rfl (lv_at hl 3 rfl) ?_
  refine la_cald hx hb hK hP 1 (he.2.2.2.2.2.1 j0 hj).2 rfl rfl q rfl (by omega) (by decide) d_Er_letter_21 ?_
  exact W.iret hx hb hr (fun t ht hW => ⟨rfl, ht⟩) (fun q h => by cases h) d_Er_letter_22
set_option maxHeartbeats 4000000 in
set_option maxRecDepth 100000 in
theorem c_Er_alike_y (l : Launch) (D : va_G) (E : Nat → ClassId) (La : la_L) {b0 : Nat} (he : isEr E La b0) (mu : la_M) (s1 : cr l y_Tx_isSameAs b_Tx_isSameAs 3 (some .boolean) 0 0 D E La [.ref (b0 + 2 + 2 * 1), .ref (b0 + 2 + 2 * 0)] mu (some (.int 1))) (s2 : cr l y_Tx_isSameAs b_Tx_isSameAs 3 (some .boolean) 0 0 D E La [.ref (b0 + 2 + 2 * 2), .ref (b0 + 2 + 2 * 0)] mu (some (.int 1))) (s3 : cr l y_Tx_isSameAs b_Tx_isSameAs 3 (some .boolean) 0 0 D E La [.ref (b0 + 2 + 2 * 3), .ref (b0 + 2 + 2 * 0)] mu (some (.int 1))) : cr l y_Er_alike b_Er_alike 2 (some .boolean) 1 22 D E La [.ref b0] mu (some (.int 1)) := by
  refine cr_begin R_Er (by decide) rfl (Nat.le_of_ble_eq_true rfl) ?_
  intro p e s m below meth c ls Z hr hlocks hP hl
  have hx := Z.1
  have hb := Z.2.1
  have hK : va_K D cls5 (tyE E) s := Z.2.2.2.2.2
  have hl : lv_has ls 2 [(0, .ref b0)] := hl
  refine lv_iconst (v := 1) hx hb d_Er_alike_0 (by decide) ?_
  refine lv_istore_n hx hb d_Er_alike_1 rfl hl (by decide) rfl (fun ls hl => ?_)
  have hl : lv_has ls 2 [(1, .int 1), (0, .ref b0)] := hl
  refine lv_iload_n hx hb d_Er_alike_2 rfl (lv_at hl 0 rfl) ?_
  refine lv_iconst (v := 3) hx hb d_Er_alike_3 (by decide) ?_
  refine lv_icmp_gt (tgt := 33) hx hb d_Er_alike_4 rfl (fun br4 => absurd br4 (by decide)) (fun br4 => ?_)
  refine lv_aload_n hx hb d_Er_alike_7 rfl (lv_at hl 1 rfl) ?_
  refine g_f (v := .ref (b0 + 1)) Z kc_Er hP he.1 rfl 0 (by decide) wl_Er_11 rfl rfl d_Er_alike_8 ?_
  refine lv_iload_n hx hb d_Er_alike_11 rfl (lv_at hl 0 rfl) ?_
  refine la_aald (F := (fun k => b0 + 2 + 2 * k)) hx hb hK hP 3 he.2.1 rfl rfl 1 rfl (by decide) (by decide) d_Er_alike_12 ?_
  refine lv_aload_n hx hb d_Er_alike_13 rfl (lv_at hl 1 rfl) ?_
  refine g_f (v := .ref (b0 + 1)) Z kc_Er hP he.1 rfl 0 (by decide) wl_Er_11 rfl rfl d_Er_alike_14 ?_
  refine lv_iconst (v := 0) hx hb d_Er_alike_17 (by decide) ?_
  refine la_aald (F := (fun k => b0 + 2 + 2 * k)) hx hb hK hP 3 he.2.1 rfl rfl 0 rfl (by decide) (by decide) d_Er_alike_18 ?_
  refine cr_V Z kv_Er_124 s1 hP (la_recv hK hP kc_Tx (he.2.2.2.2.2.1 1 (by decide)).1 rfl) [] rfl rfl hl.1 (Nat.le_of_ble_eq_true rfl) ⟨by decide, by decide⟩ ⟨Nat.le_refl _, Nat.le_refl _⟩ d_Er_alike_19 ?_
  refine lv_if_ne (tgt := 27) hx hb d_Er_alike_22 rfl (fun br22 => ?_) (fun br22 => absurd br22 (by decide))
  refine lv_iinc (k := 0) (v := 2) hx hb d_Er_alike_27 hl rfl (by decide) (by decide) rfl (fun ls hl => ?_)
  have hl : lv_has ls 2 [(1, .int 2), (0, .ref b0)] := hl
  refine lv_goto (tgt := 2) hx hb d_Er_alike_30 rfl ?_
  refine lv_iload_n hx hb d_Er_alike_2 rfl (lv_at hl 0 rfl) ?_
  refine lv_iconst (v := 3) hx hb d_Er_alike_3 (by decide) ?_
  refine lv_icmp_gt (tgt := 33) hx hb d_Er_alike_4 rfl (fun br4 => absurd br4 (by decide)) (fun br4 => ?_)
  refine lv_aload_n hx hb d_Er_alike_7 rfl (lv_at hl 1 rfl) ?_
  refine g_f (v := .ref (b0 + 1)) Z kc_Er hP he.1 rfl 0 (by decide) wl_Er_11 rfl rfl d_Er_alike_8 ?_
  refine lv_iload_n hx hb d_Er_alike_11 rfl (lv_at hl 0 rfl) ?_
  refine la_aald (F := (fun k => b0 + 2 + 2 * k)) hx hb hK hP 3 he.2.1 rfl rfl 2 rfl (by decide) (by decide) d_Er_alike_12 ?_
  refine lv_aload_n hx hb d_Er_alike_13 rfl (lv_at hl 1 rfl) ?_
  refine g_f (v := .ref (b0 + 1)) Z kc_Er hP he.1 rfl 0 (by decide) wl_Er_11 rfl rfl d_Er_alike_14 ?_
  refine lv_iconst (v := 0) hx hb d_Er_alike_17 (by decide) ?_
  refine la_aald (F := (fun k => b0 + 2 + 2 * k)) hx hb hK hP 3 he.2.1 rfl rfl 0 rfl (by decide) (by decide) d_Er_alike_18 ?_
  refine cr_V Z kv_Er_124 s2 hP (la_recv hK hP kc_Tx (he.2.2.2.2.2.1 2 (by decide)).1 rfl) [] rfl rfl hl.1 (Nat.le_of_ble_eq_true rfl) ⟨by decide, by decide⟩ ⟨Nat.le_refl _, Nat.le_refl _⟩ d_Er_alike_19 ?_
  refine lv_if_ne (tgt := 27) hx hb d_Er_alike_22 rfl (fun br22 => ?_) (fun br22 => absurd br22 (by decide))
  refine lv_iinc (k := 0) (v := 3) hx hb d_Er_alike_27 hl rfl (by decide) (by decide) rfl (fun ls hl => ?_)
  have hl : lv_has ls 2 [(1, .int 3), (0, .ref b0)] := hl
  refine lv_goto (tgt := 2) hx hb d_Er_alike_30 rfl ?_
  refine lv_iload_n hx hb d_Er_alike_2 rfl (lv_at hl 0 rfl) ?_
  refine lv_iconst (v := 3) hx hb d_Er_alike_3 (by decide) ?_
  refine lv_icmp_gt (tgt := 33) hx hb d_Er_alike_4 rfl (fun br4 => absurd br4 (by decide)) (fun br4 => ?_)
  refine lv_aload_n hx hb d_Er_alike_7 rfl (lv_at hl 1 rfl) ?_
  refine g_f (v := .ref (b0 + 1)) Z kc_Er hP he.1 rfl 0 (by decide) wl_Er_11 rfl rfl d_Er_alike_8 ?_
  refine lv_iload_n hx hb d_Er_alike_11 rfl (lv_at hl 0 rfl) ?_
  refine la_aald (F := (fun k => b0 + 2 + 2 * k)) hx hb hK hP 3 he.2.1 rfl rfl 3 rfl (by decide) (by decide) d_Er_alike_12 ?_
  refine lv_aload_n hx hb d_Er_alike_13 rfl (lv_at hl 1 rfl) ?_
  refine g_f (v := .ref (b0 + 1)) Z kc_Er hP he.1 rfl 0 (by decide) wl_Er_11 rfl rfl d_Er_alike_14 ?_
  refine lv_iconst (v := 0) hx hb d_Er_alike_17 (by decide) ?_
  refine la_aald (F := (fun k => b0 + 2 + 2 * k)) hx hb hK hP 3 he.2.1 rfl rfl 0 rfl (by decide) (by decide) d_Er_alike_18 ?_
  refine cr_V Z kv_Er_124 s3 hP (la_recv hK hP kc_Tx (he.2.2.2.2.2.1 3 (by decide)).1 rfl) [] rfl rfl hl.1 (Nat.le_of_ble_eq_true rfl) ⟨by decide, by decide⟩ ⟨Nat.le_refl _, Nat.le_refl _⟩ d_Er_alike_19 ?_
  refine lv_if_ne (tgt := 27) hx hb d_Er_alike_22 rfl (fun br22 => ?_) (fun br22 => absurd br22 (by decide))
  refine lv_iinc (k := 0) (v := 4) hx hb d_Er_alike_27 hl rfl (by decide) (by decide) rfl (fun ls hl => ?_)
  have hl : lv_has ls 2 [(1, .int 4), (0, .ref b0)] := hl
  refine lv_goto (tgt := 2) hx hb d_Er_alike_30 rfl ?_
  refine lv_iload_n hx hb d_Er_alike_2 rfl (lv_at hl 0 rfl) ?_
  refine lv_iconst (v := 3) hx hb d_Er_alike_3 (by decide) ?_
  refine lv_icmp_gt (tgt := 33) hx hb d_Er_alike_4 rfl (fun br4 => ?_) (fun br4 => absurd (by decide) br4)
  refine lv_iconst (v := 1) hx hb d_Er_alike_33 (by decide) ?_
  exact W.zret hx hb hr (by decide) (fun t ht hW => ⟨rfl, ht⟩) (fun q h => by cases h) d_Er_alike_34
set_option maxHeartbeats 4000000 in
set_option maxRecDepth 100000 in
theorem c_Er_alike_n1 (l : Launch) (D : va_G) (E : Nat → ClassId) (La : la_L) {b0 : Nat} (he : isEr E La b0) (mu : la_M) (s1 : cr l y_Tx_isSameAs b_Tx_isSameAs 3 (some .boolean) 0 0 D E La [.ref (b0 + 2 + 2 * 1), .ref (b0 + 2 + 2 * 0)] mu (some (.int 0))) : cr l y_Er_alike b_Er_alike 2 (some .boolean) 1 22 D E La [.ref b0] mu (some (.int 0)) := by
  refine cr_begin R_Er (by decide) rfl (Nat.le_of_ble_eq_true rfl) ?_
  intro p e s m below meth c ls Z hr hlocks hP hl
  have hx := Z.1
  have hb := Z.2.1
  have hK : va_K D cls5 (tyE E) s := Z.2.2.2.2.2
  have hl : lv_has ls 2 [(0, .ref b0)] := hl
  refine lv_iconst (v := 1) hx hb d_Er_alike_0 (by decide) ?_
  refine lv_istore_n hx hb d_Er_alike_1 rfl hl (by decide) rfl (fun ls hl => ?_)
  have hl : lv_has ls 2 [(1, .int 1), (0, .ref b0)] := hl
  refine lv_iload_n hx hb d_Er_alike_2 rfl (lv_at hl 0 rfl) ?_
  refine lv_iconst (v := 3) hx hb d_Er_alike_3 (by decide) ?_
  refine lv_icmp_gt (tgt := 33) hx hb d_Er_alike_4 rfl (fun br4 => absurd br4 (by decide)) (fun br4 => ?_)
  refine lv_aload_n hx hb d_Er_alike_7 rfl (lv_at hl 1 rfl) ?_
  refine g_f (v := .ref (b0 + 1)) Z kc_Er hP he.1 rfl 0 (by decide) wl_Er_11 rfl rfl d_Er_alike_8 ?_
  refine lv_iload_n hx hb d_Er_alike_11 rfl (lv_at hl 0 rfl) ?_
  refine la_aald (F := (fun k => b0 + 2 + 2 * k)) hx hb hK hP 3 he.2.1 rfl rfl 1 rfl (by decide) (by decide) d_Er_alike_12 ?_
  refine lv_aload_n hx hb d_Er_alike_13 rfl (lv_at hl 1 rfl) ?_
  refine g_f (v := .ref (b0 + 1)) Z kc_Er hP he.1 rfl 0 (by decide) wl_Er_11 rfl rfl d_Er_alike_14 ?_
  refine lv_iconst (v := 0) hx hb d_Er_alike_17 (by decide) ?_
  refine la_aald (F := (fun k => b0 + 2 + 2 * k)) hx hb hK hP 3 he.2.1 rfl rfl 0 rfl (by decide) (by decide) d_Er_alike_18 ?_
  refine cr_V Z kv_Er_124 s1 hP (la_recv hK hP kc_Tx (he.2.2.2.2.2.1 1 (by decide)).1 rfl) [] rfl rfl hl.1 (Nat.le_of_ble_eq_true rfl) ⟨by decide, by decide⟩ ⟨Nat.le_refl _, Nat.le_refl _⟩ d_Er_alike_19 ?_
  refine lv_if_ne (tgt := 27) hx hb d_Er_alike_22 rfl (fun br22 => absurd (rfl) br22) (fun br22 => ?_)
  refine lv_iconst (v := 0) hx hb d_Er_alike_25 (by decide) ?_
  exact W.zret hx hb hr (by decide) (fun t ht hW => ⟨rfl, ht⟩) (fun q h => by cases h) d_Er_alike_26
set_option maxHeartbeats 4000000 in
set_option maxRecDepth 100000 in
theorem c_Er_alike_n2 (l : Launch) (D : va_G) (E : Nat → ClassId) (La : la_L) {b0 : Nat} (he : isEr E La b0) (mu : la_M) (s1 : cr l y_Tx_isSameAs b_Tx_isSameAs 3 (some .boolean) 0 0 D E La [.ref (b0 + 2 + 2 * 1), .ref (b0 + 2 + 2 * 0)] mu (some (.int 1))) (s2 : cr l y_Tx_isSameAs b_Tx_isSameAs 3 (some .boolean) 0 0 D E La [.ref (b0 + 2 + 2 * 2), .ref (b0 + 2 + 2 * 0)] mu (some (.int 0))) : cr l y_Er_alike b_Er_alike 2 (some .boolean) 1 22 D E La [.ref b0] mu (some (.int 0)) := by
  refine cr_begin R_Er (by decide) rfl (Nat.le_of_ble_eq_true rfl) ?_
  intro p e s m below meth c ls Z hr hlocks hP hl
  have hx := Z.1
  have hb := Z.2.1
  have hK : va_K D cls5 (tyE E) s := Z.2.2.2.2.2
  have hl : lv_has ls 2 [(0, .ref b0)] := hl
  refine lv_iconst (v := 1) hx hb d_Er_alike_0 (by decide) ?_
  refine lv_istore_n hx hb d_Er_alike_1 rfl hl (by decide) rfl (fun ls hl => ?_)
  have hl : lv_has ls 2 [(1, .int 1), (0, .ref b0)] := hl
  refine lv_iload_n hx hb d_Er_alike_2 rfl (lv_at hl 0 rfl) ?_
  refine lv_iconst (v := 3) hx hb d_Er_alike_3 (by decide) ?_
  refine lv_icmp_gt (tgt := 33) hx hb d_Er_alike_4 rfl (fun br4 => absurd br4 (by decide)) (fun br4 => ?_)
  refine lv_aload_n hx hb d_Er_alike_7 rfl (lv_at hl 1 rfl) ?_
  refine g_f (v := .ref (b0 + 1)) Z kc_Er hP he.1 rfl 0 (by decide) wl_Er_11 rfl rfl d_Er_alike_8 ?_
  refine lv_iload_n hx hb d_Er_alike_11 rfl (lv_at hl 0 rfl) ?_
  refine la_aald (F := (fun k => b0 + 2 + 2 * k)) hx hb hK hP 3 he.2.1 rfl rfl 1 rfl (by decide) (by decide) d_Er_alike_12 ?_
  refine lv_aload_n hx hb d_Er_alike_13 rfl (lv_at hl 1 rfl) ?_
  refine g_f (v := .ref (b0 + 1)) Z kc_Er hP he.1 rfl 0 (by decide) wl_Er_11 rfl rfl d_Er_alike_14 ?_
  refine lv_iconst (v := 0) hx hb d_Er_alike_17 (by decide) ?_
  refine la_aald (F := (fun k => b0 + 2 + 2 * k)) hx hb hK hP 3 he.2.1 rfl rfl 0 rfl (by decide) (by decide) d_Er_alike_18 ?_
  refine cr_V Z kv_Er_124 s1 hP (la_recv hK hP kc_Tx (he.2.2.2.2.2.1 1 (by decide)).1 rfl) [] rfl rfl hl.1 (Nat.le_of_ble_eq_true rfl) ⟨by decide, by decide⟩ ⟨Nat.le_refl _, Nat.le_refl _⟩ d_Er_alike_19 ?_
  refine lv_if_ne (tgt := 27) hx hb d_Er_alike_22 rfl (fun br22 => ?_) (fun br22 => absurd br22 (by decide))
  refine lv_iinc (k := 0) (v := 2) hx hb d_Er_alike_27 hl rfl (by decide) (by decide) rfl (fun ls hl => ?_)
  have hl : lv_has ls 2 [(1, .int 2), (0, .ref b0)] := hl
  refine lv_goto (tgt := 2) hx hb d_Er_alike_30 rfl ?_
  refine lv_iload_n hx hb d_Er_alike_2 rfl (lv_at hl 0 rfl) ?_
  refine lv_iconst (v := 3) hx hb d_Er_alike_3 (by decide) ?_
  refine lv_icmp_gt (tgt := 33) hx hb d_Er_alike_4 rfl (fun br4 => absurd br4 (by decide)) (fun br4 => ?_)
  refine lv_aload_n hx hb d_Er_alike_7 rfl (lv_at hl 1 rfl) ?_
  refine g_f (v := .ref (b0 + 1)) Z kc_Er hP he.1 rfl 0 (by decide) wl_Er_11 rfl rfl d_Er_alike_8 ?_
  refine lv_iload_n hx hb d_Er_alike_11 rfl (lv_at hl 0 rfl) ?_
  refine la_aald (F := (fun k => b0 + 2 + 2 * k)) hx hb hK hP 3 he.2.1 rfl rfl 2 rfl (by decide) (by decide) d_Er_alike_12 ?_
  refine lv_aload_n hx hb d_Er_alike_13 rfl (lv_at hl 1 rfl) ?_
  refine g_f (v := .ref (b0 + 1)) Z kc_Er hP he.1 rfl 0 (by decide) wl_Er_11 rfl rfl d_Er_alike_14 ?_
  refine lv_iconst (v := 0) hx hb d_Er_alike_17 (by decide) ?_
  refine la_aald (F := (fun k => b0 + 2 + 2 * k)) hx hb hK hP 3 he.2.1 rfl rfl 0 rfl (by decide) (by decide) d_Er_alike_18 ?_
  refine cr_V Z kv_Er_124 s2 hP (la_recv hK hP kc_Tx (he.2.2.2.2.2.1 2 (by decide)).1 rfl) [] rfl rfl hl.1 (Nat.le_of_ble_eq_true rfl) ⟨by decide, by decide⟩ ⟨Nat.le_refl _, Nat.le_refl _⟩ d_Er_alike_19 ?_
  refine lv_if_ne (tgt := 27) hx hb d_Er_alike_22 rfl (fun br22 => absurd (rfl) br22) (fun br22 => ?_)
  refine lv_iconst (v := 0) hx hb d_Er_alike_25 (by decide) ?_
  exact W.zret hx hb hr (by decide) (fun t ht hW => ⟨rfl, ht⟩) (fun q h => by cases h) d_Er_alike_26
set_option maxHeartbeats 4000000 in
set_option maxRecDepth 100000 in
theorem c_Er_alike_n3 (l : Launch) (D : va_G) (E : Nat → ClassId) (La : la_L) {b0 : Nat} (he : isEr E La b0) (mu : la_M) (s1 : cr l y_Tx_isSameAs b_Tx_isSameAs 3 (some .boolean) 0 0 D E La [.ref (b0 + 2 + 2 * 1), .ref (b0 + 2 + 2 * 0)] mu (some (.int 1))) (s2 : cr l y_Tx_isSameAs b_Tx_isSameAs 3 (some .boolean) 0 0 D E La [.ref (b0 + 2 + 2 * 2), .ref (b0 + 2 + 2 * 0)] mu (some (.int 1))) (s3 : cr l y_Tx_isSameAs b_Tx_isSameAs 3 (some .boolean) 0 0 D E La [.ref (b0 + 2 + 2 * 3), .ref (b0 + 2 + 2 * 0)] mu (some (.int 0))) : cr l y_Er_alike b_Er_alike 2 (some .boolean) 1 22 D E La [.ref b0] mu (some (.int 0)) := by
  refine cr_begin R_Er (by decide) rfl (Nat.le_of_ble_eq_true rfl) ?_
  intro p e s m below meth c ls Z hr hlocks hP hl
  have hx := Z.1
  have hb := Z.2.1
  have hK : va_K D cls5 (tyE E) s := Z.2.2.2.2.2
  have hl : lv_has ls 2 [(0, .ref b0)] := hl
  refine lv_iconst (v := 1) hx hb d_Er_alike_0 (by decide) ?_
  refine lv_istore_n hx hb d_Er_alike_1 rfl hl (by decide) rfl (fun ls hl => ?_)
  have hl : lv_has ls 2 [(1, .int 1), (0, .ref b0)] := hl
  refine lv_iload_n hx hb d_Er_alike_2 rfl (lv_at hl 0 rfl) ?_
  refine lv_iconst (v := 3) hx hb d_Er_alike_3 (by decide) ?_
  refine lv_icmp_gt (tgt := 33) hx hb d_Er_alike_4 rfl (fun br4 => absurd br4 (by decide)) (fun br4 => ?_)
  refine lv_aload_n hx hb d_Er_alike_7 rfl (lv_at hl 1 rfl) ?_
  refine g_f (v := .ref (b0 + 1)) Z kc_Er hP he.1 rfl 0 (by decide) wl_Er_11 rfl rfl d_Er_alike_8 ?_
  refine lv_iload_n hx hb d_Er_alike_11 rfl (lv_at hl 0 rfl) ?_
  refine la_aald (F := (fun k => b0 + 2 + 2 * k)) hx hb hK hP 3 he.2.1 rfl rfl 1 rfl (by decide) (by decide) d_Er_alike_12 ?_
  refine lv_aload_n hx hb d_Er_alike_13 rfl (lv_at hl 1 rfl) ?_
  refine g_f (v := .ref (b0 + 1)) Z kc_Er hP he.1 rfl 0 (by decide) wl_Er_11 rfl rfl d_Er_alike_14 ?_
  refine lv_iconst (v := 0) hx hb d_Er_alike_17 (by decide) ?_
  refine la_aald (F := (fun k => b0 + 2 + 2 * k)) hx hb hK hP 3 he.2.1 rfl rfl 0 rfl (by decide) (by decide) d_Er_alike_18 ?_
  refine cr_V Z kv_Er_124 s1 hP (la_recv hK hP kc_Tx (he.2.2.2.2.2.1 1 (by decide)).1 rfl) [] rfl rfl hl.1 (Nat.le_of_ble_eq_true rfl) ⟨by decide, by decide⟩ ⟨Nat.le_refl _, Nat.le_refl _⟩ d_Er_alike_19 ?_
  refine lv_if_ne (tgt := 27) hx hb d_Er_alike_22 rfl (fun br22 => ?_) (fun br22 => absurd br22 (by decide))
  refine lv_iinc (k := 0) (v := 2) hx hb d_Er_alike_27 hl rfl (by decide) (by decide) rfl (fun ls hl => ?_)
  have hl : lv_has ls 2 [(1, .int 2), (0, .ref b0)] := hl
  refine lv_goto (tgt := 2) hx hb d_Er_alike_30 rfl ?_
  refine lv_iload_n hx hb d_Er_alike_2 rfl (lv_at hl 0 rfl) ?_
  refine lv_iconst (v := 3) hx hb d_Er_alike_3 (by decide) ?_
  refine lv_icmp_gt (tgt := 33) hx hb d_Er_alike_4 rfl (fun br4 => absurd br4 (by decide)) (fun br4 => ?_)
  refine lv_aload_n hx hb d_Er_alike_7 rfl (lv_at hl 1 rfl) ?_
  refine g_f (v := .ref (b0 + 1)) Z kc_Er hP he.1 rfl 0 (by decide) wl_Er_11 rfl rfl d_Er_alike_8 ?_
  refine lv_iload_n hx hb d_Er_alike_11 rfl (lv_at hl 0 rfl) ?_
  refine la_aald (F := (fun k => b0 + 2 + 2 * k)) hx hb hK hP 3 he.2.1 rfl rfl 2 rfl (by decide) (by decide) d_Er_alike_12 ?_
  refine lv_aload_n hx hb d_Er_alike_13 rfl (lv_at hl 1 rfl) ?_
  refine g_f (v := .ref (b0 + 1)) Z kc_Er hP he.1 rfl 0 (by decide) wl_Er_11 rfl rfl d_Er_alike_14 ?_
  refine lv_iconst (v := 0) hx hb d_Er_alike_17 (by decide) ?_
  refine la_aald (F := (fun k => b0 + 2 + 2 * k)) hx hb hK hP 3 he.2.1 rfl rfl 0 rfl (by decide) (by decide) d_Er_alike_18 ?_
  refine cr_V Z kv_Er_124 s2 hP (la_recv hK hP kc_Tx (he.2.2.2.2.2.1 2 (by decide)).1 rfl) [] rfl rfl hl.1 (Nat.le_of_ble_eq_true rfl) ⟨by decide, by decide⟩ ⟨Nat.le_refl _, Nat.le_refl _⟩ d_Er_alike_19 ?_
  refine lv_if_ne (tgt := 27) hx hb d_Er_alike_22 rfl (fun br22 => ?_) (fun br22 => absurd br22 (by decide))
  refine lv_iinc (k := 0) (v := 3) hx hb d_Er_alike_27 hl rfl (by decide) (by decide) rfl (fun ls hl => ?_)
  have hl : lv_has ls 2 [(1, .int 3), (0, .ref b0)] := hl
  refine lv_goto (tgt := 2) hx hb d_Er_alike_30 rfl ?_
  refine lv_iload_n hx hb d_Er_alike_2 rfl (lv_at hl 0 rfl) ?_
  refine lv_iconst (v := 3) hx hb d_Er_alike_3 (by decide) ?_
  refine lv_icmp_gt (tgt := 33) hx hb d_Er_alike_4 rfl (fun br4 => absurd br4 (by decide)) (fun br4 => ?_)
  refine lv_aload_n hx hb d_Er_alike_7 rfl (lv_at hl 1 rfl) ?_
  refine g_f (v := .ref (b0 + 1)) Z kc_Er hP he.1 rfl 0 (by decide) wl_Er_11 rfl rfl d_Er_alike_8 ?_
  refine lv_iload_n hx hb d_Er_alike_11 rfl (lv_at hl 0 rfl) ?_
  refine la_aald (F := (fun k => b0 + 2 + 2 * k)) hx hb hK hP 3 he.2.1 rfl rfl 3 rfl (by decide) (by decide) d_Er_alike_12 ?_
  refine lv_aload_n hx hb d_Er_alike_13 rfl (lv_at hl 1 rfl) ?_
  refine g_f (v := .ref (b0 + 1)) Z kc_Er hP he.1 rfl 0 (by decide) wl_Er_11 rfl rfl d_Er_alike_14 ?_
  refine lv_iconst (v := 0) hx hb d_Er_alike_17 (by decide) ?_
  refine la_aald (F := (fun k => b0 + 2 + 2 * k)) hx hb hK hP 3 he.2.1 rfl rfl 0 rfl (by decide) (by decide) d_Er_alike_18 ?_
  refine cr_V Z kv_Er_124 s3 hP (la_recv hK hP kc_Tx (he.2.2.2.2.2.1 3 (by decide)).1 rfl) [] rfl rfl hl.1 (Nat.le_of_ble_eq_true rfl) ⟨by decide, by decide⟩ ⟨Nat.le_refl _, Nat.le_refl _⟩ d_Er_alike_19 ?_
  refine lv_if_ne (tgt := 27) hx hb d_Er_alike_22 rfl (fun br22 => absurd (rfl) br22) (fun br22 => ?_)
  refine lv_iconst (v := 0) hx hb d_Er_alike_25 (by decide) ?_
  exact W.zret hx hb hr (by decide) (fun t ht hW => ⟨rfl, ht⟩) (fun q h => by cases h) d_Er_alike_26
set_option maxHeartbeats 4000000 in
set_option maxRecDepth 100000 in
theorem c_Er_quiet (l : Launch) (D : va_G) (E : Nat → ClassId) (La : la_L) {b0 : Nat} (he : isEr E La b0) (mu : la_M) {sn gt : Nat → Nat} (hq : ∀ j, j < 6 → gt j ≤ sn j ∧ sn j < 2 ^ 31) (hu : ∀ j, j < 3 → mu (b0 + 12 + 88 * j) 4 = nI (sn (2 * j)) ∧ mu (b0 + 12 + 88 * j) 6 = nI (gt (2 * j))) (hd : ∀ j, j < 3 → mu (b0 + 48 + 88 * j) 4 = nI (sn (2 * j + 1)) ∧ mu (b0 + 48 + 88 * j) 6 = nI (gt (2 * j + 1))) : cr l y_Er_quiet b_Er_quiet 2 (some .boolean) 1 22 D E La [.ref b0] mu (some (.int (if (sn 0 - gt 0) + (sn 1 - gt 1) + (sn 2 - gt 2) + (sn 3 - gt 3) + (sn 4 - gt 4) + (sn 5 - gt 5) = 0 then 1 else 0))) := by
  refine cr_begin R_Er (by decide) rfl (Nat.le_of_ble_eq_true rfl) ?_
  intro p e s m below meth c ls Z hr hlocks hP hl
  have hx := Z.1
  have hb := Z.2.1
  have hK : va_K D cls5 (tyE E) s := Z.2.2.2.2.2
  have hl : lv_has ls 2 [(0, .ref b0)] := hl
  refine lv_iconst (v := 1) hx hb d_Er_quiet_0 (by decide) ?_
  refine lv_istore_n hx hb d_Er_quiet_1 rfl hl (by decide) rfl (fun ls hl => ?_)
  have hl : lv_has ls 2 [(1, .int 1), (0, .ref b0)] := hl
  refine lv_iload_n hx hb d_Er_quiet_2 rfl (lv_at hl 0 rfl) ?_
  refine lv_iconst (v := 3) hx hb d_Er_quiet_3 (by decide) ?_
  refine lv_icmp_gt (tgt := 39) hx hb d_Er_quiet_4 rfl (fun br4 => absurd br4 (by decide)) (fun br4 => ?_)
  refine lv_aload_n hx hb d_Er_quiet_7 rfl (lv_at hl 1 rfl) ?_
  refine lv_iload_n hx hb d_Er_quiet_8 rfl (lv_at hl 0 rfl) ?_
  refine lv_iconst (v := 1) hx hb d_Er_quiet_9 (by decide) ?_
  refine cr_V Z kv_Er_74 (c_Er_way_u l D E La he mu (k := 0) (by decide) (u := 1) (by decide)) hP (la_recv hK hP kc_Er he.1 rfl) [] rfl rfl hl.1 (Nat.le_of_ble_eq_true rfl) ⟨by decide, by decide⟩ ⟨Nat.le_refl _, Nat.le_refl _⟩ d_Er_quiet_10 ?_
  refine cr_V Z kv_Er_102 (c_Wy_waitingCount l D E La (he.2.2.2.2.2.2.1 0 (by decide)) mu (a := sn 0) (b := gt 0) (hu 0 (by decide)).1 (hu 0 (by decide)).2 (hq 0 (by decide)).1) hP (la_recv hK hP kc_Wy (he.2.2.2.2.2.2.1 0 (by decide)).1 rfl) [] rfl rfl hl.1 (Nat.le_of_ble_eq_true rfl) ⟨by decide, by decide⟩ ⟨Nat.le_refl _, Nat.le_refl _⟩ d_Er_quiet_13 ?_
  refine lv_if_gt (tgt := 31) hx hb d_Er_quiet_16 rfl (fun br16 => ?_) (fun br16 => ?_)
  · skip
    have f0 := br16
    refine lv_iconst (v := 0) hx hb d_Er_quiet_31 (by decide) ?_
    have hnot : ¬ (sn 0 - gt 0) + (sn 1 - gt 1) + (sn 2 - gt 2) + (sn 3 - gt 3) + (sn 4 - gt 4) + (sn 5 - gt 5) = 0 := by
      intro h9
      have z : sn 0 - gt 0 = 0 := by omega
      rw [z] at f0
      exact absurd f0 (by decide)
    exact W.zret hx hb hr (by decide) (fun t ht hW => ⟨by rw [if_neg hnot], ht⟩) (fun q h => by cases h) d_Er_quiet_32
  · skip
    have f0 := br16
    refine lv_aload_n hx hb d_Er_quiet_19 rfl (lv_at hl 1 rfl) ?_
    refine lv_iload_n hx hb d_Er_quiet_20 rfl (lv_at hl 0 rfl) ?_
    refine lv_iconst (v := 0) hx hb d_Er_quiet_21 (by decide) ?_
    refine cr_V Z kv_Er_74 (c_Er_way_d l D E La he mu (k := 0) (by decide) (u := 0) rfl) hP (la_recv hK hP kc_Er he.1 rfl) [] rfl rfl hl.1 (Nat.le_of_ble_eq_true rfl) ⟨by decide, by decide⟩ ⟨Nat.le_refl _, Nat.le_refl _⟩ d_Er_quiet_22 ?_
    refine cr_V Z kv_Er_102 (c_Wy_waitingCount l D E La (he.2.2.2.2.2.2.2 0 (by decide)) mu (a := sn 1) (b := gt 1) (hd 0 (by decide)).1 (hd 0 (by decide)).2 (hq 1 (by decide)).1) hP (la_recv hK hP kc_Wy (he.2.2.2.2.2.2.2 0 (by decide)).1 rfl) [] rfl rfl hl.1 (Nat.le_of_ble_eq_true rfl) ⟨by decide, by decide⟩ ⟨Nat.le_refl _, Nat.le_refl _⟩ d_Er_quiet_25 ?_
    refine lv_if_le (tgt := 33) hx hb d_Er_quiet_28 rfl (fun br28 => ?_) (fun br28 => ?_)
    · skip
      have f1 := (Int32.not_lt.mpr br28)
      refine lv_iinc (k := 0) (v := 2) hx hb d_Er_quiet_33 hl rfl (by decide) (by decide) rfl (fun ls hl => ?_)
      have hl : lv_has ls 2 [(1, .int 2), (0, .ref b0)] := hl
      refine lv_goto (tgt := 2) hx hb d_Er_quiet_36 rfl ?_
      refine lv_iload_n hx hb d_Er_quiet_2 rfl (lv_at hl 0 rfl) ?_
      refine lv_iconst (v := 3) hx hb d_Er_quiet_3 (by decide) ?_
      refine lv_icmp_gt (tgt := 39) hx hb d_Er_quiet_4 rfl (fun br4 => absurd br4 (by decide)) (fun br4 => ?_)
      refine lv_aload_n hx hb d_Er_quiet_7 rfl (lv_at hl 1 rfl) ?_
      refine lv_iload_n hx hb d_Er_quiet_8 rfl (lv_at hl 0 rfl) ?_
      refine lv_iconst (v := 1) hx hb d_Er_quiet_9 (by decide) ?_
      refine cr_V Z kv_Er_74 (c_Er_way_u l D E La he mu (k := 1) (by decide) (u := 1) (by decide)) hP (la_recv hK hP kc_Er he.1 rfl) [] rfl rfl hl.1 (Nat.le_of_ble_eq_true rfl) ⟨by decide, by decide⟩ ⟨Nat.le_refl _, Nat.le_refl _⟩ d_Er_quiet_10 ?_
      refine cr_V Z kv_Er_102 (c_Wy_waitingCount l D E La (he.2.2.2.2.2.2.1 1 (by decide)) mu (a := sn 2) (b := gt 2) (hu 1 (by decide)).1 (hu 1 (by decide)).2 (hq 2 (by decide)).1) hP (la_recv hK hP kc_Wy (he.2.2.2.2.2.2.1 1 (by decide)).1 rfl) [] rfl rfl hl.1 (Nat.le_of_ble_eq_true rfl) ⟨by decide, by decide⟩ ⟨Nat.le_refl _, Nat.le_refl _⟩ d_Er_quiet_13 ?_
      refine lv_if_gt (tgt := 31) hx hb d_Er_quiet_16 rfl (fun br16 => ?_) (fun br16 => ?_)
      · skip
        have f2 := br16
        refine lv_iconst (v := 0) hx hb d_Er_quiet_31 (by decide) ?_
        have hnot : ¬ (sn 0 - gt 0) + (sn 1 - gt 1) + (sn 2 - gt 2) + (sn 3 - gt 3) + (sn 4 - gt 4) + (sn 5 - gt 5) = 0 := by
          intro h9
          have z : sn 2 - gt 2 = 0 := by omega
          rw [z] at f2
          exact absurd f2 (by decide)
        exact W.zret hx hb hr (by decide) (fun t ht hW => ⟨by rw [if_neg hnot], ht⟩) (fun q h => by cases h) d_Er_quiet_32
      · skip
        have f2 := br16
        refine lv_aload_n hx hb d_Er_quiet_19 rfl (lv_at hl 1 rfl) ?_
        refine lv_iload_n hx hb d_Er_quiet_20 rfl (lv_at hl 0 rfl) ?_
        refine lv_iconst (v := 0) hx hb d_Er_quiet_21 (by decide) ?_
        refine cr_V Z kv_Er_74 (c_Er_way_d l D E La he mu (k := 1) (by decide) (u := 0) rfl) hP (la_recv hK hP kc_Er he.1 rfl) [] rfl rfl hl.1 (Nat.le_of_ble_eq_true rfl) ⟨by decide, by decide⟩ ⟨Nat.le_refl _, Nat.le_refl _⟩ d_Er_quiet_22 ?_
        refine cr_V Z kv_Er_102 (c_Wy_waitingCount l D E La (he.2.2.2.2.2.2.2 1 (by decide)) mu (a := sn 3) (b := gt 3) (hd 1 (by decide)).1 (hd 1 (by decide)).2 (hq 3 (by decide)).1) hP (la_recv hK hP kc_Wy (he.2.2.2.2.2.2.2 1 (by decide)).1 rfl) [] rfl rfl hl.1 (Nat.le_of_ble_eq_true rfl) ⟨by decide, by decide⟩ ⟨Nat.le_refl _, Nat.le_refl _⟩ d_Er_quiet_25 ?_
        refine lv_if_le (tgt := 33) hx hb d_Er_quiet_28 rfl (fun br28 => ?_) (fun br28 => ?_)
        · skip
          have f3 := (Int32.not_lt.mpr br28)
          refine lv_iinc (k := 0) (v := 3) hx hb d_Er_quiet_33 hl rfl (by decide) (by decide) rfl (fun ls hl => ?_)
          have hl : lv_has ls 2 [(1, .int 3), (0, .ref b0)] := hl
          refine lv_goto (tgt := 2) hx hb d_Er_quiet_36 rfl ?_
          refine lv_iload_n hx hb d_Er_quiet_2 rfl (lv_at hl 0 rfl) ?_
          refine lv_iconst (v := 3) hx hb d_Er_quiet_3 (by decide) ?_
          refine lv_icmp_gt (tgt := 39) hx hb d_Er_quiet_4 rfl (fun br4 => absurd br4 (by decide)) (fun br4 => ?_)
          refine lv_aload_n hx hb d_Er_quiet_7 rfl (lv_at hl 1 rfl) ?_
          refine lv_iload_n hx hb d_Er_quiet_8 rfl (lv_at hl 0 rfl) ?_
          refine lv_iconst (v := 1) hx hb d_Er_quiet_9 (by decide) ?_
          refine cr_V Z kv_Er_74 (c_Er_way_u l D E La he mu (k := 2) (by decide) (u := 1) (by decide)) hP (la_recv hK hP kc_Er he.1 rfl) [] rfl rfl hl.1 (Nat.le_of_ble_eq_true rfl) ⟨by decide, by decide⟩ ⟨Nat.le_refl _, Nat.le_refl _⟩ d_Er_quiet_10 ?_
          refine cr_V Z kv_Er_102 (c_Wy_waitingCount l D E La (he.2.2.2.2.2.2.1 2 (by decide)) mu (a := sn 4) (b := gt 4) (hu 2 (by decide)).1 (hu 2 (by decide)).2 (hq 4 (by decide)).1) hP (la_recv hK hP kc_Wy (he.2.2.2.2.2.2.1 2 (by decide)).1 rfl) [] rfl rfl hl.1 (Nat.le_of_ble_eq_true rfl) ⟨by decide, by decide⟩ ⟨Nat.le_refl _, Nat.le_refl _⟩ d_Er_quiet_13 ?_
          refine lv_if_gt (tgt := 31) hx hb d_Er_quiet_16 rfl (fun br16 => ?_) (fun br16 => ?_)
          · skip
            have f4 := br16
            refine lv_iconst (v := 0) hx hb d_Er_quiet_31 (by decide) ?_
            have hnot : ¬ (sn 0 - gt 0) + (sn 1 - gt 1) + (sn 2 - gt 2) + (sn 3 - gt 3) + (sn 4 - gt 4) + (sn 5 - gt 5) = 0 := by
              intro h9
              have z : sn 4 - gt 4 = 0 := by omega
              rw [z] at f4
              exact absurd f4 (by decide)
            exact W.zret hx hb hr (by decide) (fun t ht hW => ⟨by rw [if_neg hnot], ht⟩) (fun q h => by cases h) d_Er_quiet_32
          · skip
            have f4 := br16
            refine lv_aload_n hx hb d_Er_quiet_19 rfl (lv_at hl 1 rfl) ?_
            refine lv_iload_n hx hb d_Er_quiet_20 rfl (lv_at hl 0 rfl) ?_
            refine lv_iconst (v := 0) hx hb d_Er_quiet_21 (by decide) ?_
            refine cr_V Z kv_Er_74 (c_Er_way_d l D E La he mu (k := 2) (by decide) (u := 0) rfl) hP (la_recv hK hP kc_Er he.1 rfl) [] rfl rfl hl.1 (Nat.le_of_ble_eq_true rfl) ⟨by decide, by decide⟩ ⟨Nat.le_refl _, Nat.le_refl _⟩ d_Er_quiet_22 ?_
            refine cr_V Z kv_Er_102 (c_Wy_waitingCount l D E La (he.2.2.2.2.2.2.2 2 (by decide)) mu (a := sn 5) (b := gt 5) (hd 2 (by decide)).1 (hd 2 (by decide)).2 (hq 5 (by decide)).1) hP (la_recv hK hP kc_Wy (he.2.2.2.2.2.2.2 2 (by decide)).1 rfl) [] rfl rfl hl.1 (Nat.le_of_ble_eq_true rfl) ⟨by decide, by decide⟩ ⟨Nat.le_refl _, Nat.le_refl _⟩ d_Er_quiet_25 ?_
            refine lv_if_le (tgt := 33) hx hb d_Er_quiet_28 rfl (fun br28 => ?_) (fun br28 => ?_)
            · skip
              have f5 := (Int32.not_lt.mpr br28)
              refine lv_iinc (k := 0) (v := 4) hx hb d_Er_quiet_33 hl rfl (by decide) (by decide) rfl (fun ls hl => ?_)
              have hl : lv_has ls 2 [(1, .int 4), (0, .ref b0)] := hl
              refine lv_goto (tgt := 2) hx hb d_Er_quiet_36 rfl ?_
              refine lv_iload_n hx hb d_Er_quiet_2 rfl (lv_at hl 0 rfl) ?_
              refine lv_iconst (v := 3) hx hb d_Er_quiet_3 (by decide) ?_
              refine lv_icmp_gt (tgt := 39) hx hb d_Er_quiet_4 rfl (fun br4 => ?_) (fun br4 => absurd (by decide) br4)
              refine lv_iconst (v := 1) hx hb d_Er_quiet_39 (by decide) ?_
              have z0 : sn 0 - gt 0 = 0 := Nat.eq_zero_of_not_pos (fun h9 => f0 (nI_lt (a := 0) h9 (Nat.lt_of_le_of_lt (Nat.sub_le _ _) (hq 0 (by decide)).2)))
              have z1 : sn 1 - gt 1 = 0 := Nat.eq_zero_of_not_pos (fun h9 => f1 (nI_lt (a := 0) h9 (Nat.lt_of_le_of_lt (Nat.sub_le _ _) (hq 1 (by decide)).2)))
              have z2 : sn 2 - gt 2 = 0 := Nat.eq_zero_of_not_pos (fun h9 => f2 (nI_lt (a := 0) h9 (Nat.lt_of_le_of_lt (Nat.sub_le _ _) (hq 2 (by decide)).2)))
              have z3 : sn 3 - gt 3 = 0 := Nat.eq_zero_of_not_pos (fun h9 => f3 (nI_lt (a := 0) h9 (Nat.lt_of_le_of_lt (Nat.sub_le _ _) (hq 3 (by decide)).2)))
              have z4 : sn 4 - gt 4 = 0 := Nat.eq_zero_of_not_pos (fun h9 => f4 (nI_lt (a := 0) h9 (Nat.lt_of_le_of_lt (Nat.sub_le _ _) (hq 4 (by decide)).2)))
              have z5 : sn 5 - gt 5 = 0 := Nat.eq_zero_of_not_pos (fun h9 => f5 (nI_lt (a := 0) h9 (Nat.lt_of_le_of_lt (Nat.sub_le _ _) (hq 5 (by decide)).2)))
              exact W.zret hx hb hr (by decide) (fun t ht hW => ⟨by rw [if_pos (by omega)], ht⟩) (fun q h => by cases h) d_Er_quiet_40
            · skip
              have f5 := (Int32.not_le.mp br28)
              refine lv_iconst (v := 0) hx hb d_Er_quiet_31 (by decide) ?_
              have hnot : ¬ (sn 0 - gt 0) + (sn 1 - gt 1) + (sn 2 - gt 2) + (sn 3 - gt 3) + (sn 4 - gt 4) + (sn 5 - gt 5) = 0 := by
                intro h9
                have z : sn 5 - gt 5 = 0 := by omega
                rw [z] at f5
                exact absurd f5 (by decide)
              exact W.zret hx hb hr (by decide) (fun t ht hW => ⟨by rw [if_neg hnot], ht⟩) (fun q h => by cases h) d_Er_quiet_32
        · skip
          have f3 := (Int32.not_le.mp br28)
          refine lv_iconst (v := 0) hx hb d_Er_quiet_31 (by decide) ?_
          have hnot : ¬ (sn 0 - gt 0) + (sn 1 - gt 1) + (sn 2 - gt 2) + (sn 3 - gt 3) + (sn 4 - gt 4) + (sn 5 - gt 5) = 0 := by
            intro h9
            have z : sn 3 - gt 3 = 0 := by omega
            rw [z] at f3
            exact absurd f3 (by decide)
          exact W.zret hx hb hr (by decide) (fun t ht hW => ⟨by rw [if_neg hnot], ht⟩) (fun q h => by cases h) d_Er_quiet_32
    · skip
      have f1 := (Int32.not_le.mp br28)
      refine lv_iconst (v := 0) hx hb d_Er_quiet_31 (by decide) ?_
      have hnot : ¬ (sn 0 - gt 0) + (sn 1 - gt 1) + (sn 2 - gt 2) + (sn 3 - gt 3) + (sn 4 - gt 4) + (sn 5 - gt 5) = 0 := by
        intro h9
        have z : sn 1 - gt 1 = 0 := by omega
        rw [z] at f1
        exact absurd f1 (by decide)
      exact W.zret hx hb hr (by decide) (fun t ht hW => ⟨by rw [if_neg hnot], ht⟩) (fun q h => by cases h) d_Er_quiet_32
