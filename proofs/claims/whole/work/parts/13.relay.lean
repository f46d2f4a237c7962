/-! EditRelay at b0: texts b0 + 1, ups b0 + 10, downs b0 + 11, made b0 + 276 (written by wip/whole/p13.py) -/
def isEr (E : Nat → ClassId) (La : la_L) (b0 : Nat) : Prop := La b0 = some (sh_Er (b0 + 1) (b0 + 10) (b0 + 11) (b0 + 276)) ∧ La (b0 + 1) = some (sh_R (E 3) 4 (fun k => b0 + 2 + 2 * k)) ∧ La (b0 + 10) = some (sh_R (E 4) 3 (fun k => b0 + 12 + 88 * k)) ∧ La (b0 + 11) = some (sh_R (E 4) 3 (fun k => b0 + 48 + 88 * k)) ∧ La (b0 + 276) = some sh_Ch ∧ (∀ k, k < 4 → isTx E La (b0 + 2 + 2 * k)) ∧ (∀ k, k < 3 → isWy E La (b0 + 12 + 88 * k) 16) ∧ (∀ k, k < 3 → isWy E La (b0 + 48 + 88 * k) 24)
theorem tx_do_n {mu : la_M} {a0 k q n z : Nat} {x : Int32} (h1 : z ≠ a0) (h2 : z ≠ a0 + 1) : tx_do mu a0 k q n x z = mu z := by
  unfold tx_do
  split
  · unfold tx_put
    rw [la_up_n h1, la_up_n h2, la_set_n h2]
  · split
    · unfold tx_rem
      rw [la_up_n h1, la_set_n h2]
    · rfl
def er_mk (mu : la_M) (c0 : Nat) (k q : Nat) (x : Int32) (o : Nat) : la_M := la_up (la_up (la_up (la_up mu c0 0 (nI k)) c0 1 (nI q)) c0 2 x) c0 3 (nI o)
theorem er_mk_n {mu : la_M} {c0 k q o z : Nat} {x : Int32} (h : z ≠ c0) : er_mk mu c0 k q x o z = mu z := by
  unfold er_mk
  rw [la_up_n h, la_up_n h, la_up_n h, la_up_n h]
/-- makeChange of client k + 1: its text has n letters, its up way has sent a -/
def er_make (mu : la_M) (b0 k kd q n a : Nat) (x : Int32) : la_M := wy_send (tx_do (er_mk mu (b0 + 276) kd q x (k + 1)) (b0 + 2 + 2 * (k + 1)) kd q n x) (b0 + 12 + 88 * k) 16 (b0 + 276) a (mu (b0 + 48 + 88 * k) 6)
/-- receive: from way wf (room rf, got g, heard h), back way wb (room rb, sent a, known k), text at a0 of n letters; the change comes out as kind kd, place q -/
def er_fit (mu : la_M) (wf rf wb rb g h a k : Nat) : la_M := wy_fit (la_up mu wb 5 (nI (max k h))) wb rb (wf + 4 + 2 * (g % rf)) (max k h) (a - max k h)
def er_recv (mu : la_M) (a0 wf rf wb rb g h a k kd q n : Nat) : la_M := la_up (tx_do (er_fit mu wf rf wb rb g h a k) a0 kd q n (er_fit mu wf rf wb rb g h a k (wf + 4 + 2 * (g % rf)) 2)) wf 6 (nI (g + 1))
set_option maxHeartbeats 4000000 in
set_option maxRecDepth 100000 in
theorem c_Er_way_u (l : Launch) (D : va_G) (E : Nat → ClassId) (La : la_L) {b0 : Nat} (he : isEr E La b0) (mu : la_M) {k : Nat} (hk : k < 3) {u : Int32} (hu : ¬ u = 0) : cr l y_Er_way b_Er_way 3 (some (.object "EditRelay$Way")) 0 0 D E La [.ref b0, .int (nI (k + 1)), .int u] mu (some (.ref (b0 + 12 + 88 * k))) := by
  refine cr_begin R_Er (by decide) rfl (Nat.le_of_ble_eq_true rfl) ?_
  intro p e s m below meth c ls Z hr hlocks hP hl
  have hx := Z.1
  have hb := Z.2.1
  have hK : va_K D cls5 (tyE E) s := Z.2.2.2.2.2
  have hl : lv_has ls 3 [(0, .ref b0), (1, .int (nI (k + 1))), (2, .int u)] := hl
  refine lv_iload_n hx hb d_Er_way_0 rfl (lv_at hl 2 rfl) ?_
  refine lv_if_eq (tgt := 15) hx hb d_Er_way_1 rfl (fun br1 => absurd br1 (hu)) (fun br1 => ?_)
  refine lv_aload_n hx hb d_Er_way_4 rfl (lv_at hl 0 rfl) ?_
  refine g_f (v := .ref (b0 + 10)) Z kc_Er hP he.1 rfl 1 (by decide) wl_Er_18 rfl rfl d_Er_way_5 ?_
  refine lv_iload_n hx hb d_Er_way_8 rfl (lv_at hl 1 rfl) ?_
  refine lv_iconst (v := 1) hx hb d_Er_way_9 (by decide) ?_
  refine lv_isub hx hb d_Er_way_10 ?_
  rw [nI_pred]
  refine la_aald (F := (fun k => b0 + 12 + 88 * k)) hx hb hK hP 4 he.2.2.1 rfl rfl k rfl hk (by decide) d_Er_way_11 ?_
  refine lv_goto (tgt := 23) hx hb d_Er_way_12 rfl ?_
  exact W.aret hx hb hr (Or.inl ⟨_, rfl⟩) (Or.inr ⟨_, rfl⟩) (fun t ht hW => ⟨rfl, ht⟩) (fun q h => by cases h) d_Er_way_23
set_option maxHeartbeats 4000000 in
set_option maxRecDepth 100000 in
theorem c_Er_way_d (l : Launch) (D : va_G) (E : Nat → ClassId) (La : la_L) {b0 : Nat} (he : isEr E La b0) (mu : la_M) {k : Nat} (hk : k < 3) {u : Int32} (hu : u = 0) : cr l y_Er_way b_Er_way 3 (some (.object "EditRelay$Way")) 0 0 D E La [.ref b0, .int (nI (k + 1)), .int u] mu (some (.ref (b0 + 48 + 88 * k))) := by
  refine cr_begin R_Er (by decide) rfl (Nat.le_of_ble_eq_true rfl) ?_
  intro p e s m below meth c ls Z hr hlocks hP hl
  have hx := Z.1
  have hb := Z.2.1
  have hK : va_K D cls5 (tyE E) s := Z.2.2.2.2.2
  have hl : lv_has ls 3 [(0, .ref b0), (1, .int (nI (k + 1))), (2, .int u)] := hl
  refine lv_iload_n hx hb d_Er_way_0 rfl (lv_at hl 2 rfl) ?_
  refine lv_if_eq (tgt := 15) hx hb d_Er_way_1 rfl (fun br1 => ?_) (fun br1 => absurd (hu) br1)
  refine lv_aload_n hx hb d_Er_way_15 rfl (lv_at hl 0 rfl) ?_
  refine g_f (v := .ref (b0 + 11)) Z kc_Er hP he.1 rfl 2 (by decide) wl_Er_22 rfl rfl d_Er_way_16 ?_
  refine lv_iload_n hx hb d_Er_way_19 rfl (lv_at hl 1 rfl) ?_
  refine lv_iconst (v := 1) hx hb d_Er_way_20 (by decide) ?_
  refine lv_isub hx hb d_Er_way_21 ?_
  rw [nI_pred]
  refine la_aald (F := (fun k => b0 + 48 + 88 * k)) hx hb hK hP 4 he.2.2.2.1 rfl rfl k rfl hk (by decide) d_Er_way_22 ?_
  exact W.aret hx hb hr (Or.inl ⟨_, rfl⟩) (Or.inr ⟨_, rfl⟩) (fun t ht hW => ⟨rfl, ht⟩) (fun q h => by cases h) d_Er_way_23
set_option maxHeartbeats 4000000 in
set_option maxRecDepth 100000 in
theorem c_Er_checkClient (l : Launch) (D : va_G) (E : Nat → ClassId) (La : la_L) (mu : la_M) {k : Nat} (hk : k < 3) : cr l y_Er_checkClient b_Er_checkClient 1 none 0 0 D E La [.int (nI (k + 1))] mu none := by
  refine cr_begin R_Er (by decide) rfl (Nat.le_of_ble_eq_true rfl) ?_
  intro p e s m below meth c ls Z hr hlocks hP hl
  have hx := Z.1
  have hb := Z.2.1
  have hK : va_K D cls5 (tyE E) s := Z.2.2.2.2.2
  have hl : lv_has ls 1 [(0, .int (nI (k + 1)))] := hl
  refine lv_iload_n hx hb d_Er_checkClient_0 rfl (lv_at hl 0 rfl) ?_
  refine lv_iconst (v := 1) hx hb d_Er_checkClient_1 (by decide) ?_
  refine lv_icmp_lt (tgt := 10) hx hb d_Er_checkClient_2 rfl (fun br2 => absurd br2 (nI_nlt (b := 1) (by omega) (by omega))) (fun br2 => ?_)
  refine lv_iload_n hx hb d_Er_checkClient_5 rfl (lv_at hl 0 rfl) ?_
  refine lv_iconst (v := 3) hx hb d_Er_checkClient_6 (by decide) ?_
  refine lv_icmp_le (tgt := 20) hx hb d_Er_checkClient_7 rfl (fun br7 => ?_) (fun br7 => absurd (nI_le (b := 3) (by omega) (by decide)) br7)
  exact W.vret hx hb hr (fun t ht hW => ⟨rfl, ht⟩) (fun q h => by cases h) d_Er_checkClient_20
set_option maxHeartbeats 4000000 in
set_option maxRecDepth 100000 in
theorem c_Er_checkSite (l : Launch) (D : va_G) (E : Nat → ClassId) (La : la_L) (mu : la_M) {k : Nat} (hk : k < 4) : cr l y_Er_checkSite b_Er_checkSite 1 none 0 0 D E La [.int (nI k)] mu none := by
  refine cr_begin R_Er (by decide) rfl (Nat.le_of_ble_eq_true rfl) ?_
  intro p e s m below meth c ls Z hr hlocks hP hl
  have hx := Z.1
  have hb := Z.2.1
  have hK : va_K D cls5 (tyE E) s := Z.2.2.2.2.2
  have hl : lv_has ls 1 [(0, .int (nI k))] := hl
  refine lv_iload_n hx hb d_Er_checkSite_0 rfl (lv_at hl 0 rfl) ?_
  refine lv_if_lt (tgt := 9) hx hb d_Er_checkSite_1 rfl (fun br1 => absurd br1 (nI_pos (by omega))) (fun br1 => ?_)
  refine lv_iload_n hx hb d_Er_checkSite_4 rfl (lv_at hl 0 rfl) ?_
  refine lv_iconst (v := 3) hx hb d_Er_checkSite_5 (by decide) ?_
  refine lv_icmp_le (tgt := 19) hx hb d_Er_checkSite_6 rfl (fun br6 => ?_) (fun br6 => absurd (nI_le (b := 3) (by omega) (by decide)) br6)
  exact W.vret hx hb hr (fun t ht hW => ⟨rfl, ht⟩) (fun q h => by cases h) d_Er_checkSite_19
set_option maxHeartbeats 4000000 in
set_option maxRecDepth 100000 in
theorem c_Er_checkHasLetter (l : Launch) (D : va_G) (E : Nat → ClassId) (La : la_L) {a0 : Nat} (ha : isTx E La a0) (mu : la_M) {q n : Nat} (hn : mu a0 1 = nI n) (hq : q < n) (hn3 : n < 2 ^ 31) : cr l y_Er_checkHasLetter b_Er_checkHasLetter 2 none 0 0 D E La [.ref a0, .int (nI q)] mu none := by
  refine cr_begin R_Er (by decide) rfl (Nat.le_of_ble_eq_true rfl) ?_
  intro p e s m below meth c ls Z hr hlocks hP hl
  have hx := Z.1
  have hb := Z.2.1
  have hK : va_K D cls5 (tyE E) s := Z.2.2.2.2.2
  have hl : lv_has ls 2 [(0, .ref a0), (1, .int (nI q))] := hl
  refine lv_iload_n hx hb d_Er_checkHasLetter_0 rfl (lv_at hl 1 rfl) ?_
  refine lv_if_lt (tgt := 12) hx hb d_Er_checkHasLetter_1 rfl (fun br1 => absurd br1 (nI_pos (by omega))) (fun br1 => ?_)
  refine lv_iload_n hx hb d_Er_checkHasLetter_4 rfl (lv_at hl 1 rfl) ?_
  refine lv_aload_n hx hb d_Er_checkHasLetter_5 rfl (lv_at hl 0 rfl) ?_
  refine g_i (v := (nI n)) Z kc_Tx hP ha.1 rfl 1 (by decide) wl_Er_45 rfl rfl hn d_Er_checkHasLetter_6 ?_
  refine lv_icmp_lt (tgt := 22) hx hb d_Er_checkHasLetter_9 rfl (fun br9 => ?_) (fun br9 => absurd (nI_lt hq hn3) br9)
  exact W.vret hx hb hr (fun t ht hW => ⟨rfl, ht⟩) (fun q h => by cases h) d_Er_checkHasLetter_22
set_option maxHeartbeats 4000000 in
set_option maxRecDepth 100000 in
theorem c_Er_checkSomeWaits (l : Launch) (D : va_G) (E : Nat → ClassId) (La : la_L) {w0 r : Nat} (hw : isWy E La w0 r) (mu : la_M) {a b : Nat} (h4 : mu w0 4 = nI a) (h6 : mu w0 6 = nI b) (hab : b < a) (ha : a < 2 ^ 31) : cr l y_Er_checkSomeWaits b_Er_checkSomeWaits 1 none 1 20 D E La [.ref w0] mu none := by
  refine cr_begin R_Er (by decide) rfl (Nat.le_of_ble_eq_true rfl) ?_
  intro p e s m below meth c ls Z hr hlocks hP hl
  have hx := Z.1
  have hb := Z.2.1
  have hK : va_K D cls5 (tyE E) s := Z.2.2.2.2.2
  have hl : lv_has ls 1 [(0, .ref w0)] := hl
  refine lv_aload_n hx hb d_Er_checkSomeWaits_0 rfl (lv_at hl 0 rfl) ?_
  refine cr_V Z kv_Er_102 (c_Wy_waitingCount l D E La hw mu h4 h6 (Nat.le_of_lt hab)) hP (la_recv hK hP kc_Wy hw.1 rfl) [] rfl rfl hl.1 (Nat.le_of_ble_eq_true rfl) ⟨by decide, by decide⟩ ⟨Nat.le_refl _, Nat.le_refl _⟩ d_Er_checkSomeWaits_1 ?_
  refine lv_if_ne (tgt := 17) hx hb d_Er_checkSomeWaits_4 rfl (fun br4 => ?_) (fun br4 => absurd br4 (nI_ne0 (by omega) (by omega)))
  exact W.vret hx hb hr (fun t ht hW => ⟨rfl, ht⟩) (fun q h => by cases h) d_Er_checkSomeWaits_17
set_option maxHeartbeats 4000000 in
set_option maxRecDepth 100000 in
theorem c_Er_checkMayMakeChange (l : Launch) (D : va_G) (E : Nat → ClassId) (La : la_L) {b0 : Nat} (he : isEr E La b0) (mu : la_M) {k : Nat} (hk : k < 3) {a b : Nat} (h4 : mu (b0 + 12 + 88 * k) 4 = nI a) (h5 : mu (b0 + 12 + 88 * k) 5 = nI b) (hab : b ≤ a) (ha : a < 2 ^ 31) (hf : a - b < 16) : cr l y_Er_checkMayMakeChange b_Er_checkMayMakeChange 2 none 2 40 D E La [.ref b0, .int (nI (k + 1))] mu none := by
  refine cr_begin R_Er (by decide) rfl (Nat.le_of_ble_eq_true rfl) ?_
  intro p e s m below meth c ls Z hr hlocks hP hl
  have hx := Z.1
  have hb := Z.2.1
  have hK : va_K D cls5 (tyE E) s := Z.2.2.2.2.2
  have hl : lv_has ls 2 [(0, .ref b0), (1, .int (nI (k + 1)))] := hl
  refine lv_aload_n hx hb d_Er_checkMayMakeChange_0 rfl (lv_at hl 0 rfl) ?_
  refine lv_iload_n hx hb d_Er_checkMayMakeChange_1 rfl (lv_at hl 1 rfl) ?_
  refine lv_iconst (v := 1) hx hb d_Er_checkMayMakeChange_2 (by decide) ?_
  refine cr_V Z kv_Er_74 (c_Er_way_u l D E La he mu hk (u := 1) (by decide)) hP (la_recv hK hP kc_Er he.1 rfl) [] rfl rfl hl.1 (Nat.le_of_ble_eq_true rfl) ⟨by decide, by decide⟩ ⟨Nat.le_refl _, Nat.le_refl _⟩ d_Er_checkMayMakeChange_3 ?_
  refine cr_V Z kv_Er_82 (c_Wy_isFull_f l D E La (he.2.2.2.2.2.2.1 k hk) mu h4 h5 hab ha hf) hP (la_recv hK hP kc_Wy (he.2.2.2.2.2.2.1 k hk).1 rfl) [] rfl rfl hl.1 (Nat.le_of_ble_eq_true rfl) ⟨by decide, by decide⟩ ⟨Nat.le_refl _, Nat.le_refl _⟩ d_Er_checkMayMakeChange_6 ?_
  refine lv_if_eq (tgt := 22) hx hb d_Er_checkMayMakeChange_9 rfl (fun br9 => ?_) (fun br9 => absurd (rfl) br9)
  exact W.vret hx hb hr (fun t ht hW => ⟨rfl, ht⟩) (fun q h => by cases h) d_Er_checkMayMakeChange_22
set_option maxHeartbeats 4000000 in
set_option maxRecDepth 100000 in
theorem c_Er_makeChange (l : Launch) (D : va_G) (E : Nat → ClassId) (La : la_L) {b0 : Nat} (he : isEr E La b0) (mu : la_M) {k : Nat} (hk : k < 3) {kd q n a : Nat} {x : Int32} (hn : mu (b0 + 2 + 2 * (k + 1)) 1 = nI n) (hk3 : kd ≤ 2) (h0 : kd = 0 → q ≤ n ∧ n < 64) (h1 : kd = 1 → q < n) (h2 : n ≤ 64) (hx0 : chz x) (hz : ∀ j, chz (mu ((b0 + 2 + 2 * (k + 1)) + 1) j)) (h4 : mu (b0 + 12 + 88 * k) 4 = nI a) (ha : a < 2 ^ 31) : cw l y_Er_makeChange b_Er_makeChange 5 none 3 66 D E La [.ref b0, .int (nI (k + 1)), .int (nI kd), .int (nI q), .int x] mu none (er_make mu b0 k kd q n a x) := by
  refine cw_begin R_Er (by decide) rfl (Nat.le_of_ble_eq_true rfl) ?_
  intro p e s m below meth c ls Z hr hlocks hP hS hl
  have hx := Z.1
  have hb := Z.2.1
  have hK : va_K D cls5 (tyE E) s := Z.2.2.2.2.2
  have hl : lv_has ls 5 [(0, .ref b0), (1, .int (nI (k + 1))), (2, .int (nI kd)), (3, .int (nI q)), (4, .int x)] := hl
  have f0 : (er_mk mu (b0 + 276) kd q x (k + 1)) (b0 + 276) 0 = nI kd := by simp [er_mk, la_up_s, la_up_k]
  have f1 : (er_mk mu (b0 + 276) kd q x (k + 1)) (b0 + 276) 1 = nI q := by simp [er_mk, la_up_s, la_up_k]
  have f2 : (er_mk mu (b0 + 276) kd q x (k + 1)) (b0 + 276) 2 = x := by simp [er_mk, la_up_s, la_up_k]
  have fn : (er_mk mu (b0 + 276) kd q x (k + 1)) (b0 + 2 + 2 * (k + 1)) 1 = nI n := by rw [er_mk_n (by omega)]; exact hn
  have fz : ∀ j, chz ((er_mk mu (b0 + 276) kd q x (k + 1)) ((b0 + 2 + 2 * (k + 1)) + 1) j) := fun j => by rw [er_mk_n (by omega)]; exact hz j
  have hM := c_Tx_perform l D E La (he.2.2.2.2.2.1 (k + 1) (by omega)) he.2.2.2.2.1 (er_mk mu (b0 + 276) kd q x (k + 1)) (k := kd) (q := q) (n := n) fn hk3 f0 f1 h0 h1 h2 (by rw [f2]; exact hx0) fz
  rw [f2] at hM
  have g6 : (tx_do (er_mk mu (b0 + 276) kd q x (k + 1)) (b0 + 2 + 2 * (k + 1)) kd q n x) (b0 + 48 + 88 * k) 6 = mu (b0 + 48 + 88 * k) 6 := by rw [tx_do_n (by omega) (by omega), er_mk_n (by omega)]
  have g4 : (tx_do (er_mk mu (b0 + 276) kd q x (k + 1)) (b0 + 2 + 2 * (k + 1)) kd q n x) (b0 + 12 + 88 * k) 4 = nI a := by rw [tx_do_n (by omega) (by omega), er_mk_n (by omega)]; exact h4
  have gz : chz ((tx_do (er_mk mu (b0 + 276) kd q x (k + 1)) (b0 + 2 + 2 * (k + 1)) kd q n x) (b0 + 276) 2) := by rw [tx_do_n (by omega) (by omega), f2]; exact hx0
  refine lv_aload_n hx hb d_Er_makeChange_0 rfl (lv_at hl 0 rfl) ?_
  refine g_f (v := .ref (b0 + 276)) Z kc_Er hP he.1 rfl 3 (by decide) wl_Er_31 rfl rfl d_Er_makeChange_1 ?_
  refine lv_iload_n hx hb d_Er_makeChange_4 rfl (lv_at hl 2 rfl) ?_
  refine p_f Z kc_Ch hP hS he.2.2.2.2.1 rfl 0 (by decide) wl_Er_99 rfl rfl ⟨rfl, rfl⟩ (Nat.le_of_ble_eq_true rfl) rfl d_Er_makeChange_5 (fun H locs hP hS => ?_)
  refine lv_aload_n hx hb d_Er_makeChange_8 rfl (lv_at hl 0 rfl) ?_
  refine g_f (v := .ref (b0 + 276)) Z kc_Er hP he.1 rfl 3 (by decide) wl_Er_31 rfl rfl d_Er_makeChange_9 ?_
  refine lv_iload_n hx hb d_Er_makeChange_12 rfl (lv_at hl 3 rfl) ?_
  refine p_f Z kc_Ch hP hS he.2.2.2.2.1 rfl 1 (by decide) wl_Er_115 rfl rfl ⟨rfl, rfl⟩ (Nat.le_of_ble_eq_true rfl) rfl d_Er_makeChange_13 (fun H locs hP hS => ?_)
  refine lv_aload_n hx hb d_Er_makeChange_16 rfl (lv_at hl 0 rfl) ?_
  refine g_f (v := .ref (b0 + 276)) Z kc_Er hP he.1 rfl 3 (by decide) wl_Er_31 rfl rfl d_Er_makeChange_17 ?_
  refine lv_iload hx hb d_Er_makeChange_20 (lv_at hl 4 rfl) ?_
  refine p_f Z kc_Ch hP hS he.2.2.2.2.1 rfl 2 (by decide) wl_Er_141 rfl rfl hx0 (Nat.le_of_ble_eq_true rfl) rfl d_Er_makeChange_22 (fun H locs hP hS => ?_)
  refine lv_aload_n hx hb d_Er_makeChange_25 rfl (lv_at hl 0 rfl) ?_
  refine g_f (v := .ref (b0 + 276)) Z kc_Er hP he.1 rfl 3 (by decide) wl_Er_31 rfl rfl d_Er_makeChange_26 ?_
  refine lv_iload_n hx hb d_Er_makeChange_29 rfl (lv_at hl 1 rfl) ?_
  refine p_f Z kc_Ch hP hS he.2.2.2.2.1 rfl 3 (by decide) wl_Er_118 rfl rfl ⟨rfl, rfl⟩ (Nat.le_of_ble_eq_true rfl) rfl d_Er_makeChange_30 (fun H locs hP hS => ?_)
  refine lv_aload_n hx hb d_Er_makeChange_33 rfl (lv_at hl 0 rfl) ?_
  refine g_f (v := .ref (b0 + 1)) Z kc_Er hP he.1 rfl 0 (by decide) wl_Er_11 rfl rfl d_Er_makeChange_34 ?_
  refine lv_iload_n hx hb d_Er_makeChange_37 rfl (lv_at hl 1 rfl) ?_
  refine la_aald (F := (fun k => b0 + 2 + 2 * k)) hx hb hK hP 3 he.2.1 rfl rfl (k + 1) rfl (by omega) (by decide) d_Er_makeChange_38 ?_
  refine lv_aload_n hx hb d_Er_makeChange_39 rfl (lv_at hl 0 rfl) ?_
  refine g_f (v := .ref (b0 + 276)) Z kc_Er hP he.1 rfl 3 (by decide) wl_Er_31 rfl rfl d_Er_makeChange_40 ?_
  refine cw_V Z kv_Er_145 (hM) hP hS (fun _ h => h) (la_recv hK hP kc_Tx (he.2.2.2.2.2.1 (k + 1) (by omega)).1 rfl) [] rfl rfl hl.1 (Nat.le_of_ble_eq_true rfl) ⟨by decide, by decide⟩ ⟨Nat.le_refl _, Nat.le_refl _⟩ d_Er_makeChange_43 (fun H locs hP hkp hS => ?_)
  refine lv_aload_n hx hb d_Er_makeChange_46 rfl (lv_at hl 0 rfl) ?_
  refine lv_iload_n hx hb d_Er_makeChange_47 rfl (lv_at hl 1 rfl) ?_
  refine lv_iconst (v := 1) hx hb d_Er_makeChange_48 (by decide) ?_
  refine cr_V Z kv_Er_74 (c_Er_way_u l D E La he (tx_do (er_mk mu (b0 + 276) kd q x (k + 1)) (b0 + 2 + 2 * (k + 1)) kd q n x) hk (u := 1) (by decide)) hP (la_recv hK hP kc_Er he.1 rfl) [] rfl rfl hl.1 (Nat.le_of_ble_eq_true rfl) ⟨by decide, by decide⟩ ⟨Nat.le_refl _, Nat.le_refl _⟩ d_Er_makeChange_49 ?_
  refine lv_aload_n hx hb d_Er_makeChange_52 rfl (lv_at hl 0 rfl) ?_
  refine g_f (v := .ref (b0 + 276)) Z kc_Er hP he.1 rfl 3 (by decide) wl_Er_31 rfl rfl d_Er_makeChange_53 ?_
  refine lv_aload_n hx hb d_Er_makeChange_56 rfl (lv_at hl 0 rfl) ?_
  refine lv_iload_n hx hb d_Er_makeChange_57 rfl (lv_at hl 1 rfl) ?_
  refine lv_iconst (v := 0) hx hb d_Er_makeChange_58 (by decide) ?_
  refine cr_V Z kv_Er_74 (c_Er_way_d l D E La he (tx_do (er_mk mu (b0 + 276) kd q x (k + 1)) (b0 + 2 + 2 * (k + 1)) kd q n x) hk (u := 0) rfl) hP (la_recv hK hP kc_Er he.1 rfl) [.ref (b0 + 276), .ref (b0 + 12 + 88 * k)] rfl rfl hl.1 (Nat.le_of_ble_eq_true rfl) ⟨by decide, by decide⟩ ⟨Nat.le_refl _, Nat.le_refl _⟩ d_Er_makeChange_59 ?_
  refine g_i (v := (mu (b0 + 48 + 88 * k) 6)) Z kc_Wy hP (he.2.2.2.2.2.2.2 k hk).1 rfl 6 (by decide) wl_Er_92 rfl rfl g6 d_Er_makeChange_62 ?_
  refine cw_V Z kv_Er_95 (c_Wy_send l D E La (he.2.2.2.2.2.2.1 k hk) (tx_do (er_mk mu (b0 + 276) kd q x (k + 1)) (b0 + 2 + 2 * (k + 1)) kd q n x) he.2.2.2.2.1 g4 ha gz (mu (b0 + 48 + 88 * k) 6)) hP hS (fun _ h => h) (la_recv hK hP kc_Wy (he.2.2.2.2.2.2.1 k hk).1 rfl) [] rfl rfl hl.1 (Nat.le_of_ble_eq_true rfl) ⟨by decide, by decide⟩ ⟨Nat.le_refl _, Nat.le_refl _⟩ d_Er_makeChange_65 (fun H locs hP hkp hS => ?_)
  exact W.vret hx hb hr (fun t ht hW => ⟨rfl, by rw [ht]; exact cvm hP (rfl), hS.F ht⟩) hS.2.2 d_Er_makeChange_68
set_option maxHeartbeats 4000000 in
set_option maxRecDepth 100000 in
theorem c_Er_receive (l : Launch) (D : va_G) (E : Nat → ClassId) (La : la_L) {b0 : Nat} (he : isEr E La b0) (mu : la_M) {j0 wf rf wb rb g h0 a k0 kd q n : Nat} (hj : j0 < 4) (hwf : isWy E La wf rf) (hwb : isWy E La wb rb) (hg : mu wf 6 = nI g) (hg3 : g < 2 ^ 30) (hh : mu (wf + 3) (g % rf) = nI h0) (hh3 : h0 < 2 ^ 31) (h4 : mu wb 4 = nI a) (ha : a < 2 ^ 31) (h5 : mu wb 5 = nI k0) (hk0 : k0 < 2 ^ 31) (hka : max k0 h0 ≤ a) (hcb : wb ≠ (wf + 4 + 2 * (g % rf))) (hfb : wf ≠ wb) (hft : wf ≠ (b0 + 2 + 2 * j0) ∧ wf ≠ (b0 + 2 + 2 * j0) + 1) (hfo : ∀ j, wf ≠ wb + 5 + 2 * j) (hn : (er_fit mu wf rf wb rb g h0 a k0) (b0 + 2 + 2 * j0) 1 = nI n) (hk3 : kd ≤ 2) (hkd : (er_fit mu wf rf wb rb g h0 a k0) (wf + 4 + 2 * (g % rf)) 0 = nI kd) (hq : (er_fit mu wf rf wb rb g h0 a k0) (wf + 4 + 2 * (g % rf)) 1 = nI q) (h0k : kd = 0 → q ≤ n ∧ n < 64) (h1k : kd = 1 → q < n) (h2 : n ≤ 64) (hx0 : chz ((er_fit mu wf rf wb rb g h0 a k0) (wf + 4 + 2 * (g % rf)) 2)) (hz : ∀ j, chz ((er_fit mu wf rf wb rb g h0 a k0) ((b0 + 2 + 2 * j0) + 1) j)) : cw l y_Er_receive b_Er_receive 5 (some (.object "EditRelay$Change")) 4 92 D E La [.ref b0, .int (nI j0), .ref wf, .ref wb] mu (some (.ref (wf + 4 + 2 * (g % rf)))) (er_recv mu (b0 + 2 + 2 * j0) wf rf wb rb g h0 a k0 kd q n) := by
  refine cw_begin R_Er (by decide) rfl (Nat.le_of_ble_eq_true rfl) ?_
  intro p e s m below meth c ls Z hr hlocks hP hS hl
  have hx := Z.1
  have hb := Z.2.1
  have hK : va_K D cls5 (tyE E) s := Z.2.2.2.2.2
  have hl : lv_has ls 5 [(0, .ref b0), (1, .int (nI j0)), (2, .ref wf), (3, .ref wb)] := hl
  have e6 : (tx_do (er_fit mu wf rf wb rb g h0 a k0) (b0 + 2 + 2 * j0) kd q n ((er_fit mu wf rf wb rb g h0 a k0) (wf + 4 + 2 * (g % rf)) 2)) wf 6 = nI g := by
    rw [tx_do_n hft.1 hft.2]
    unfold er_fit
    rw [wy_fit_n (by omega) hfo, la_up_n hfb]
    exact hg
  have e4 : (la_up mu wb 5 (nI (max k0 h0))) wb 4 = nI a := by rw [la_up_k (by decide)]; exact h4
  have e5 : (la_up mu wb 5 (nI (max k0 h0))) wb 5 = nI (max k0 h0) := la_up_s
  refine lv_aload_n hx hb d_Er_receive_0 rfl (lv_at hl 2 rfl) ?_
  refine cr_V Z kv_Er_149 (c_Wy_oldestChange l D E La hwf mu hg (by omega)) hP (la_recv hK hP kc_Wy hwf.1 rfl) [] rfl rfl hl.1 (Nat.le_of_ble_eq_true rfl) ⟨by decide, by decide⟩ ⟨Nat.le_refl _, Nat.le_refl _⟩ d_Er_receive_1 ?_
  refine lv_astore hx hb d_Er_receive_4 hl (by decide) rfl (fun ls hl => ?_)
  have hl : lv_has ls 5 [(4, .ref (wf + 4 + 2 * (g % rf))), (0, .ref b0), (1, .int (nI j0)), (2, .ref wf), (3, .ref wb)] := hl
  refine lv_aload_n hx hb d_Er_receive_6 rfl (lv_at hl 4 rfl) ?_
  refine lv_aload_n hx hb d_Er_receive_7 rfl (lv_at hl 3 rfl) ?_
  refine cr_V Z kv_Er_153 (c_Wy_oldestHeard l D E La hwf mu hg (by omega)) hP (la_recv hK hP kc_Wy hwf.1 rfl) [.ref wb] rfl rfl hl.1 (Nat.le_of_ble_eq_true rfl) ⟨by decide, by decide⟩ ⟨Nat.le_refl _, Nat.le_refl _⟩ d_Er_receive_8 ?_
  rw [hh]
  refine cw_V Z kv_Er_156 (c_Wy_forget l D E La hwb mu h5 hk0 hh3) hP hS (fun _ h => h) (la_recv hK hP kc_Wy hwb.1 rfl) [] rfl rfl hl.1 (Nat.le_of_ble_eq_true rfl) ⟨by decide, by decide⟩ ⟨Nat.le_refl _, Nat.le_refl _⟩ d_Er_receive_11 (fun H locs hP hkp hS => ?_)
  refine lv_aload_n hx hb d_Er_receive_14 rfl (lv_at hl 4 rfl) ?_
  refine lv_aload hx hb d_Er_receive_15 (lv_at hl 0 rfl) ?_
  refine cw_V Z kv_Er_159 (c_Wy_fitOpenChanges l D E La hwb (la_up mu wb 5 (nI (max k0 h0))) (hwf.2.2.2.2.1 _ (Nat.mod_lt _ hwf.2.2.2.2.2.1)).1 hcb e4 e5 hka ha) hP hS (fun _ h => h) (la_recv hK hP kc_Wy hwb.1 rfl) [] rfl rfl hl.1 (Nat.le_of_ble_eq_true rfl) ⟨by decide, by decide⟩ ⟨Nat.le_refl _, Nat.le_refl _⟩ d_Er_receive_17 (fun H locs hP hkp hS => ?_)
  refine lv_aload_n hx hb d_Er_receive_20 rfl (lv_at hl 1 rfl) ?_
  refine g_f (v := .ref (b0 + 1)) Z kc_Er hP he.1 rfl 0 (by decide) wl_Er_11 rfl rfl d_Er_receive_21 ?_
  refine lv_iload_n hx hb d_Er_receive_24 rfl (lv_at hl 2 rfl) ?_
  refine la_aald (F := (fun k => b0 + 2 + 2 * k)) hx hb hK hP 3 he.2.1 rfl rfl j0 rfl hj (by decide) d_Er_receive_25 ?_
  refine lv_aload hx hb d_Er_receive_26 (lv_at hl 0 rfl) ?_
  refine cw_V Z kv_Er_145 (c_Tx_perform l D E La (he.2.2.2.2.2.1 j0 hj) (hwf.2.2.2.2.1 _ (Nat.mod_lt _ hwf.2.2.2.2.2.1)).1 (er_fit mu wf rf wb rb g h0 a k0) hn hk3 hkd hq h0k h1k h2 hx0 hz) hP hS (fun _ h => h) (la_recv hK hP kc_Tx (he.2.2.2.2.2.1 j0 hj).1 rfl) [] rfl rfl hl.1 (Nat.le_of_ble_eq_true rfl) ⟨by decide, by decide⟩ ⟨Nat.le_refl _, Nat.le_refl _⟩ d_Er_receive_28 (fun H locs hP hkp hS => ?_)
  refine lv_aload_n hx hb d_Er_receive_31 rfl (lv_at hl 3 rfl) ?_
  refine lv_dup hx hb d_Er_receive_32 rfl ?_
  refine g_i (v := (nI g)) Z kc_Wy hP hwf.1 rfl 6 (by decide) wl_Er_92 rfl rfl e6 d_Er_receive_33 ?_
  refine lv_iconst (v := 1) hx hb d_Er_receive_36 (by decide) ?_
  refine lv_iadd hx hb d_Er_receive_37 ?_
  refine p_f Z kc_Wy hP hS hwf.1 rfl 6 (by decide) wl_Er_92 rfl rfl ⟨rfl, rfl⟩ (Nat.le_of_ble_eq_true rfl) rfl d_Er_receive_38 (fun H locs hP hS => ?_)
  refine lv_aload hx hb d_Er_receive_41 (lv_at hl 0 rfl) ?_
  exact W.aret hx hb hr (Or.inl ⟨_, rfl⟩) (Or.inr ⟨_, rfl⟩) (fun t ht hW => ⟨rfl, by rw [ht]; exact cvm hP (by simp only [er_recv, nI_1]), hS.F ht⟩) hS.2.2 d_Er_receive_43
