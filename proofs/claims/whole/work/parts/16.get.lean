/-! The reference: forget, get (written by wip/whole/p16.py) -/
theorem la_up_at {mu : la_M} {a k : Nat} {v : Int32} : la_up mu a k v a = upd (mu a) k v := la_set_s
def md_sh4 (mu : la_M) (m0 b i : Nat) : la_M := la_set (la_set (la_set (la_set mu (m0 + 12) (va_cpy (mu (m0 + 12)) (mu (m0 + 12)) (40 * b + 1) (40 * b) i)) (m0 + 13) (va_cpy (mu (m0 + 13)) (mu (m0 + 13)) (40 * b + 1) (40 * b) i)) (m0 + 14) (va_cpy (mu (m0 + 14)) (mu (m0 + 14)) (40 * b + 1) (40 * b) i)) (m0 + 15) (va_cpy (mu (m0 + 15)) (mu (m0 + 15)) (40 * b + 1) (40 * b) i)
theorem md_sh4_12 {mu : la_M} {m0 b i : Nat} : md_sh4 mu m0 b i (m0 + 12) = va_cpy (mu (m0 + 12)) (mu (m0 + 12)) (40 * b + 1) (40 * b) i := by
  unfold md_sh4
  rw [la_set_n (by omega), la_set_n (by omega), la_set_n (by omega), la_set_s]
theorem md_sh4_13 {mu : la_M} {m0 b i : Nat} : md_sh4 mu m0 b i (m0 + 13) = va_cpy (mu (m0 + 13)) (mu (m0 + 13)) (40 * b + 1) (40 * b) i := by
  unfold md_sh4
  rw [la_set_n (by omega), la_set_n (by omega), la_set_s]
theorem md_sh4_14 {mu : la_M} {m0 b i : Nat} : md_sh4 mu m0 b i (m0 + 14) = va_cpy (mu (m0 + 14)) (mu (m0 + 14)) (40 * b + 1) (40 * b) i := by
  unfold md_sh4
  rw [la_set_n (by omega), la_set_s]
theorem md_sh4_15 {mu : la_M} {m0 b i : Nat} : md_sh4 mu m0 b i (m0 + 15) = va_cpy (mu (m0 + 15)) (mu (m0 + 15)) (40 * b + 1) (40 * b) i := by
  unfold md_sh4
  rw [la_set_s]
theorem md_sh4_n {mu : la_M} {m0 b i z : Nat} (h12 : z ≠ m0 + 12) (h13 : z ≠ m0 + 13) (h14 : z ≠ m0 + 14) (h15 : z ≠ m0 + 15) : md_sh4 mu m0 b i z = mu z := by
  unfold md_sh4
  rw [la_set_n h15, la_set_n h14, la_set_n h13, la_set_n h12]
theorem md_sh4_0 (mu : la_M) (m0 b : Nat) : md_sh4 mu m0 b 0 = mu := by
  unfold md_sh4
  rw [cpy_0, cpy_0, cpy_0, cpy_0, la_set_id, la_set_id, la_set_id, la_set_id]
theorem md_sh4_s (mu : la_M) (m0 b i : Nat) : (la_up (la_up (la_up (la_up (md_sh4 mu m0 b i) (m0 + 12) (40 * b + i) (mu (m0 + 12) (40 * b + i + 1))) (m0 + 13) (40 * b + i) (mu (m0 + 13) (40 * b + i + 1))) (m0 + 14) (40 * b + i) (mu (m0 + 14) (40 * b + i + 1))) (m0 + 15) (40 * b + i) (mu (m0 + 15) (40 * b + i + 1))) = md_sh4 mu m0 b (i + 1) := by
  funext z
  by_cases h12 : z = m0 + 12
  · rw [h12, la_up_n (by omega), la_up_n (by omega), la_up_n (by omega), la_up_at, md_sh4_12, cpy_l, md_sh4_12]
  · skip
    by_cases h13 : z = m0 + 13
    · rw [h13, la_up_n (by omega), la_up_n (by omega), la_up_at, la_up_n (by omega), md_sh4_13, cpy_l, md_sh4_13]
    · skip
      by_cases h14 : z = m0 + 14
      · rw [h14, la_up_n (by omega), la_up_at, la_up_n (by omega), la_up_n (by omega), md_sh4_14, cpy_l, md_sh4_14]
      · skip
        by_cases h15 : z = m0 + 15
        · rw [h15, la_up_at, la_up_n (by omega), la_up_n (by omega), la_up_n (by omega), md_sh4_15, cpy_l, md_sh4_15]
        · rw [la_up_n h15, la_up_n h14, la_up_n h13, la_up_n h12, md_sh4_n h12 h13 h14 h15, md_sh4_n h12 h13 h14 h15]
def md_sh5 (mu : la_M) (m0 b i : Nat) : la_M := la_set (la_set (la_set (la_set (la_set mu (m0 + 6) (va_cpy (mu (m0 + 6)) (mu (m0 + 6)) (40 * b + 1) (40 * b) i)) (m0 + 7) (va_cpy (mu (m0 + 7)) (mu (m0 + 7)) (40 * b + 1) (40 * b) i)) (m0 + 8) (va_cpy (mu (m0 + 8)) (mu (m0 + 8)) (40 * b + 1) (40 * b) i)) (m0 + 9) (va_cpy (mu (m0 + 9)) (mu (m0 + 9)) (40 * b + 1) (40 * b) i)) (m0 + 10) (va_cpy (mu (m0 + 10)) (mu (m0 + 10)) (40 * b + 1) (40 * b) i)
theorem md_sh5_6 {mu : la_M} {m0 b i : Nat} : md_sh5 mu m0 b i (m0 + 6) = va_cpy (mu (m0 + 6)) (mu (m0 + 6)) (40 * b + 1) (40 * b) i := by
  unfold md_sh5
  rw [la_set_n (by omega), la_set_n (by omega), la_set_n (by omega), la_set_n (by omega), la_set_s]
theorem md_sh5_7 {mu : la_M} {m0 b i : Nat} : md_sh5 mu m0 b i (m0 + 7) = va_cpy (mu (m0 + 7)) (mu (m0 + 7)) (40 * b + 1) (40 * b) i := by
  unfold md_sh5
  rw [la_set_n (by omega), la_set_n (by omega), la_set_n (by omega), la_set_s]
theorem md_sh5_8 {mu : la_M} {m0 b i : Nat} : md_sh5 mu m0 b i (m0 + 8) = va_cpy (mu (m0 + 8)) (mu (m0 + 8)) (40 * b + 1) (40 * b) i := by
  unfold md_sh5
  rw [la_set_n (by omega), la_set_n (by omega), la_set_s]
theorem md_sh5_9 {mu : la_M} {m0 b i : Nat} : md_sh5 mu m0 b i (m0 + 9) = va_cpy (mu (m0 + 9)) (mu (m0 + 9)) (40 * b + 1) (40 * b) i := by
  unfold md_sh5
  rw [la_set_n (by omega), la_set_s]
theorem md_sh5_10 {mu : la_M} {m0 b i : Nat} : md_sh5 mu m0 b i (m0 + 10) = va_cpy (mu (m0 + 10)) (mu (m0 + 10)) (40 * b + 1) (40 * b) i := by
  unfold md_sh5
  rw [la_set_s]
theorem md_sh5_n {mu : la_M} {m0 b i z : Nat} (h6 : z ≠ m0 + 6) (h7 : z ≠ m0 + 7) (h8 : z ≠ m0 + 8) (h9 : z ≠ m0 + 9) (h10 : z ≠ m0 + 10) : md_sh5 mu m0 b i z = mu z := by
  unfold md_sh5
  rw [la_set_n h10, la_set_n h9, la_set_n h8, la_set_n h7, la_set_n h6]
theorem md_sh5_0 (mu : la_M) (m0 b : Nat) : md_sh5 mu m0 b 0 = mu := by
  unfold md_sh5
  rw [cpy_0, cpy_0, cpy_0, cpy_0, cpy_0, la_set_id, la_set_id, la_set_id, la_set_id, la_set_id]
theorem md_sh5_s (mu : la_M) (m0 b i : Nat) : (la_up (la_up (la_up (la_up (la_up (md_sh5 mu m0 b i) (m0 + 6) (40 * b + i) (mu (m0 + 6) (40 * b + i + 1))) (m0 + 7) (40 * b + i) (mu (m0 + 7) (40 * b + i + 1))) (m0 + 8) (40 * b + i) (mu (m0 + 8) (40 * b + i + 1))) (m0 + 9) (40 * b + i) (mu (m0 + 9) (40 * b + i + 1))) (m0 + 10) (40 * b + i) (mu (m0 + 10) (40 * b + i + 1))) = md_sh5 mu m0 b (i + 1) := by
  funext z
  by_cases h6 : z = m0 + 6
  · rw [h6, la_up_n (by omega), la_up_n (by omega), la_up_n (by omega), la_up_n (by omega), la_up_at, md_sh5_6, cpy_l, md_sh5_6]
  · skip
    by_cases h7 : z = m0 + 7
    · rw [h7, la_up_n (by omega), la_up_n (by omega), la_up_n (by omega), la_up_at, la_up_n (by omega), md_sh5_7, cpy_l, md_sh5_7]
    · skip
      by_cases h8 : z = m0 + 8
      · rw [h8, la_up_n (by omega), la_up_n (by omega), la_up_at, la_up_n (by omega), la_up_n (by omega), md_sh5_8, cpy_l, md_sh5_8]
      · skip
        by_cases h9 : z = m0 + 9
        · rw [h9, la_up_n (by omega), la_up_at, la_up_n (by omega), la_up_n (by omega), la_up_n (by omega), md_sh5_9, cpy_l, md_sh5_9]
        · skip
          by_cases h10 : z = m0 + 10
          · rw [h10, la_up_at, la_up_n (by omega), la_up_n (by omega), la_up_n (by omega), la_up_n (by omega), md_sh5_10, cpy_l, md_sh5_10]
          · rw [la_up_n h10, la_up_n h9, la_up_n h8, la_up_n h7, la_up_n h6, md_sh5_n h6 h7 h8 h9 h10, md_sh5_n h6 h7 h8 h9 h10]
def md_fgt (mu : la_M) (m0 b o : Nat) : la_M := md_sh4 (la_up mu (m0 + 11) b (nI (o - 1))) m0 b (o - 1)
def md_fgs (mu : la_M) (m0 b o : Nat) : Nat → la_M
  | 0 => mu
  | t + 1 => md_fgt (md_fgs mu m0 b o t) m0 b (o - t)
def md_ft1 (mu : la_M) (m0 K : Nat) : la_M :=
  la_up (la_up (la_up (la_up mu m0 16 (if md_fit (mu m0 16) (mu m0 17) (mu m0 19) (mu (m0 + 12) K) (mu (m0 + 13) K) (mu (m0 + 15) K) < 0 then 2 else mu m0 16)) m0 17 (if md_fit (mu m0 16) (mu m0 17) (mu m0 19) (mu (m0 + 12) K) (mu (m0 + 13) K) (mu (m0 + 15) K) < 0 then 0 else md_fit (mu m0 16) (mu m0 17) (mu m0 19) (mu (m0 + 12) K) (mu (m0 + 13) K) (mu (m0 + 15) K)))
    (m0 + 12) K (if md_fit (mu (m0 + 12) K) (mu (m0 + 13) K) (mu (m0 + 15) K) (mu m0 16) (mu m0 17) (mu m0 19) < 0 then 2 else mu (m0 + 12) K)) (m0 + 13) K (if md_fit (mu (m0 + 12) K) (mu (m0 + 13) K) (mu (m0 + 15) K) (mu m0 16) (mu m0 17) (mu m0 19) < 0 then 0 else md_fit (mu (m0 + 12) K) (mu (m0 + 13) K) (mu (m0 + 15) K) (mu m0 16) (mu m0 17) (mu m0 19))
def md_fts (mu : la_M) (m0 b : Nat) : Nat → la_M
  | 0 => mu
  | t + 1 => md_ft1 (md_fts mu m0 b t) m0 (40 * b + t)
def md_gA (mu : la_M) (m0 L w : Nat) : la_M := la_up (la_up (la_up (la_up (la_up mu m0 16 (mu (m0 + 6) (40 * L))) m0 17 (mu (m0 + 7) (40 * L))) m0 18 (mu (m0 + 8) (40 * L))) m0 19 (mu (m0 + 9) (40 * L))) (m0 + 5) L (nI (w - 1))
def md_g2 (mu : la_M) (m0 L w : Nat) : la_M := md_sh5 (md_gA mu m0 L w) m0 L (w - 1)
def md_g3 (mu : la_M) (m0 L w o d : Nat) : la_M := md_fgs (md_g2 mu m0 L w) m0 (bk L) o d
def md_g4 (mu : la_M) (m0 L w o d : Nat) : la_M := md_fts (md_g3 mu m0 L w o d) m0 (bk L) (o - d)
def md_get (mu : la_M) (m0 L w o d j kd q n cx g : Nat) : la_M := la_up (md_app (md_g4 mu m0 L w o d) m0 j kd q n cx) (m0 + 4) L (nI (g + 1))
theorem md_gA_n {mu : la_M} {m0 L w z : Nat} (h0 : z ≠ m0) (h5 : z ≠ m0 + 5) : md_gA mu m0 L w z = mu z := by
  unfold md_gA
  rw [la_up_n h5, la_up_n h0, la_up_n h0, la_up_n h0, la_up_n h0]
theorem md_fgt_n {mu : la_M} {m0 b o z : Nat} (h11 : z ≠ m0 + 11) (h12 : z ≠ m0 + 12) (h13 : z ≠ m0 + 13) (h14 : z ≠ m0 + 14) (h15 : z ≠ m0 + 15) : md_fgt mu m0 b o z = mu z := by
  unfold md_fgt
  rw [md_sh4_n h12 h13 h14 h15, la_up_n h11]
theorem md_fgs_n {mu : la_M} {m0 b o z : Nat} (h11 : z ≠ m0 + 11) (h12 : z ≠ m0 + 12) (h13 : z ≠ m0 + 13) (h14 : z ≠ m0 + 14) (h15 : z ≠ m0 + 15) : ∀ t, md_fgs mu m0 b o t z = mu z := by
  intro t
  induction t with
  | zero => rfl
  | succ t ih =>
    show md_fgt _ _ _ _ z = _
    rw [md_fgt_n h11 h12 h13 h14 h15]
    exact ih
theorem md_fgs_11 {mu : la_M} {m0 b o : Nat} (h : mu (m0 + 11) b = nI o) : ∀ t, t ≤ o → md_fgs mu m0 b o t (m0 + 11) b = nI (o - t) := by
  intro t
  cases t with
  | zero => intro _; exact h
  | succ t =>
    intro ht
    show md_sh4 _ _ _ _ (m0 + 11) b = _
    rw [md_sh4_n (by omega) (by omega) (by omega) (by omega), la_up_s, Nat.sub_sub]
theorem md_ft1_n {mu : la_M} {m0 K z : Nat} (h0 : z ≠ m0) (h12 : z ≠ m0 + 12) (h13 : z ≠ m0 + 13) : md_ft1 mu m0 K z = mu z := by
  unfold md_ft1
  rw [la_up_n h13, la_up_n h12, la_up_n h0, la_up_n h0]
theorem md_fts_n {mu : la_M} {m0 b z : Nat} (h0 : z ≠ m0) (h12 : z ≠ m0 + 12) (h13 : z ≠ m0 + 13) : ∀ t, md_fts mu m0 b t z = mu z := by
  intro t
  induction t with
  | zero => rfl
  | succ t ih =>
    show md_ft1 _ _ _ z = _
    rw [md_ft1_n h0 h12 h13]
    exact ih
theorem md_app_n {mu : la_M} {m0 j kd q n cx z : Nat} (h1 : z ≠ m0 + 1) (h2 : z ≠ m0 + 2) : md_app mu m0 j kd q n cx z = mu z := by
  unfold md_app
  split
  · rw [la_up_n h1, la_up_n h2, la_set_n h2]
  · split
    · rw [la_set_n h2, la_up_n h1]
    · rfl
set_option maxHeartbeats 4000000 in
set_option maxRecDepth 100000 in
theorem c_Mo_forget (l : Launch) (D : va_G) (E : Nat → ClassId) (La : la_L) {m0 : Nat} (hm : isMo E La m0) (mu : la_M) {b o : Nat} (hb0 : b < 6) (ho : mu (m0 + 11) b = nI o) (ho0 : 0 < o) (ho4 : o < 40) : cw l y_Mo_forget b_Mo_forget 3 none 0 0 D E La [.ref m0, .int (nI b)] mu none (md_fgt mu m0 b o) := by
  refine cw_begin R_Mo (by decide) rfl (Nat.le_of_ble_eq_true rfl) ?_
  intro p e s m below meth c ls Z hr hlocks hP hS hl
  have hx := Z.1
  have hb := Z.2.1
  have hK : va_K D cls5 (tyE E) s := Z.2.2.2.2.2
  have hl : lv_has ls 3 [(0, .ref m0), (1, .int (nI b))] := hl
  have e11 : ∀ i, md_sh4 (la_up mu (m0 + 11) b (nI (o - 1))) m0 b i (m0 + 11) b = nI (o - 1) := fun i => by rw [md_sh4_n (by omega) (by omega) (by omega) (by omega)]; exact la_up_s
  have e12 : ∀ i, md_sh4 (la_up mu (m0 + 11) b (nI (o - 1))) m0 b i (m0 + 12) (40 * b + i + 1) = (la_up mu (m0 + 11) b (nI (o - 1))) (m0 + 12) (40 * b + i + 1) := fun i => by rw [md_sh4_12, pk_cpy_out (by omega)]
  have e13 : ∀ i, md_sh4 (la_up mu (m0 + 11) b (nI (o - 1))) m0 b i (m0 + 13) (40 * b + i + 1) = (la_up mu (m0 + 11) b (nI (o - 1))) (m0 + 13) (40 * b + i + 1) := fun i => by rw [md_sh4_13, pk_cpy_out (by omega)]
  have e14 : ∀ i, md_sh4 (la_up mu (m0 + 11) b (nI (o - 1))) m0 b i (m0 + 14) (40 * b + i + 1) = (la_up mu (m0 + 11) b (nI (o - 1))) (m0 + 14) (40 * b + i + 1) := fun i => by rw [md_sh4_14, pk_cpy_out (by omega)]
  have e15 : ∀ i, md_sh4 (la_up mu (m0 + 11) b (nI (o - 1))) m0 b i (m0 + 15) (40 * b + i + 1) = (la_up mu (m0 + 11) b (nI (o - 1))) (m0 + 15) (40 * b + i + 1) := fun i => by rw [md_sh4_15, pk_cpy_out (by omega)]
  have loop : ∀ (t i : Nat) (H : Heap) (locs : List Loc) (ls : Array Slot), i + t = o - 1 → la_P D cls5 La (md_sh4 (la_up mu (m0 + 11) b (nI (o - 1))) m0 b i) H → va_S (la_A La) s.heap H locs → lv_has ls 3 [(2, .int (nI (40 * b + i))), (0, .ref m0), (1, .int (nI b))] → W p l e (rmm 0 0) s m ([.ref m0, .int (nI b)] : List Value).toArray below meth c H locs 0 0 (MQ below (cw_Q none (la_P D cls5 La (md_fgt mu m0 b o)) (la_A La)) ([.ref m0, .int (nI b)] : List Value).toArray s 0 0 (la_A La)) (F0 m 15 ls []) := by
    intro t
    induction t with
    | zero =>
      intro i H locs ls hi hP hS hl
      have hia : i = o - 1 := by omega
      subst hia
      refine lv_iload_n hx hb d_Mo_forget_15 rfl (lv_at hl 0 rfl) ?_
      refine lv_bipush (v := 40) hx hb d_Mo_forget_16 (by decide) ?_
      refine lv_iload_n hx hb d_Mo_forget_18 rfl (lv_at hl 2 rfl) ?_
      refine lv_imul hx hb d_Mo_forget_19 ?_
      rw [show (40 : Int32) * nI b = nI (40 * b) from pk_mul 40 b]
      refine lv_aload_n hx hb d_Mo_forget_20 rfl (lv_at hl 1 rfl) ?_
      refine g_f (v := .ref (m0 + 11)) Z kc_Mo hP hm.1 rfl 11 (by decide) wl_Mo_41 rfl rfl d_Mo_forget_21 ?_
      refine lv_iload_n hx hb d_Mo_forget_24 rfl (lv_at hl 2 rfl) ?_
      refine la_ialdv (v := (nI (o - 1))) hx hb hK hP 0 hm.2.2.2.2.2.2.2.2.2.2.2.1 rfl rfl b rfl hb0 (by decide) (e11 _) d_Mo_forget_25 ?_
      refine lv_iadd hx hb d_Mo_forget_26 ?_
      rw [nI_add]
      refine lv_icmp_ge (tgt := 92) hx hb d_Mo_forget_27 rfl (fun br27 => ?_) (fun br27 => absurd (nI_le (Nat.le_refl _) (by omega)) br27)
      exact W.vret hx hb hr (fun t ht hW => ⟨rfl, by rw [ht]; exact cvm hP (rfl), hS.F ht⟩) hS.2.2 d_Mo_forget_92
    | succ t ih =>
      intro i H locs ls hi hP hS hl
      refine lv_iload_n hx hb d_Mo_forget_15 rfl (lv_at hl 0 rfl) ?_
      refine lv_bipush (v := 40) hx hb d_Mo_forget_16 (by decide) ?_
      refine lv_iload_n hx hb d_Mo_forget_18 rfl (lv_at hl 2 rfl) ?_
      refine lv_imul hx hb d_Mo_forget_19 ?_
      rw [show (40 : Int32) * nI b = nI (40 * b) from pk_mul 40 b]
      refine lv_aload_n hx hb d_Mo_forget_20 rfl (lv_at hl 1 rfl) ?_
      refine g_f (v := .ref (m0 + 11)) Z kc_Mo hP hm.1 rfl 11 (by decide) wl_Mo_41 rfl rfl d_Mo_forget_21 ?_
      refine lv_iload_n hx hb d_Mo_forget_24 rfl (lv_at hl 2 rfl) ?_
      refine la_ialdv (v := (nI (o - 1))) hx hb hK hP 0 hm.2.2.2.2.2.2.2.2.2.2.2.1 rfl rfl b rfl hb0 (by decide) (e11 _) d_Mo_forget_25 ?_
      refine lv_iadd hx hb d_Mo_forget_26 ?_
      rw [nI_add]
      refine lv_icmp_ge (tgt := 92) hx hb d_Mo_forget_27 rfl (fun br27 => absurd br27 (nI_ge (by omega) (by omega))) (fun br27 => ?_)
      refine lv_aload_n hx hb d_Mo_forget_30 rfl (lv_at hl 1 rfl) ?_
      refine g_f (v := .ref (m0 + 12)) Z kc_Mo hP hm.1 rfl 12 (by decide) wl_Mo_44 rfl rfl d_Mo_forget_31 ?_
      refine lv_iload_n hx hb d_Mo_forget_34 rfl (lv_at hl 0 rfl) ?_
      refine lv_aload_n hx hb d_Mo_forget_35 rfl (lv_at hl 1 rfl) ?_
      refine g_f (v := .ref (m0 + 12)) Z kc_Mo hP hm.1 rfl 12 (by decide) wl_Mo_44 rfl rfl d_Mo_forget_36 ?_
      refine lv_iload_n hx hb d_Mo_forget_39 rfl (lv_at hl 0 rfl) ?_
      refine lv_iconst (v := 1) hx hb d_Mo_forget_40 (by decide) ?_
      refine lv_iadd hx hb d_Mo_forget_41 ?_
      rw [nI_1]
      refine la_ialdv (v := ((la_up mu (m0 + 11) b (nI (o - 1))) (m0 + 12) (40 * b + i + 1))) hx hb hK hP 0 hm.2.2.2.2.2.2.2.2.2.2.2.2.1 rfl rfl (40 * b + i + 1) rfl (by omega) (by decide) (e12 i) d_Mo_forget_42 ?_
      refine la_iast hx hb hK hP hS 0 hm.2.2.2.2.2.2.2.2.2.2.2.2.1 (fun _ => rfl) rfl (40 * b + i) rfl (by omega) (by decide) d_Mo_forget_43 (fun H locs hP hS => ?_)
      refine lv_aload_n hx hb d_Mo_forget_44 rfl (lv_at hl 1 rfl) ?_
      refine g_f (v := .ref (m0 + 13)) Z kc_Mo hP hm.1 rfl 13 (by decide) wl_Mo_47 rfl rfl d_Mo_forget_45 ?_
      refine lv_iload_n hx hb d_Mo_forget_48 rfl (lv_at hl 0 rfl) ?_
      refine lv_aload_n hx hb d_Mo_forget_49 rfl (lv_at hl 1 rfl) ?_
      refine g_f (v := .ref (m0 + 13)) Z kc_Mo hP hm.1 rfl 13 (by decide) wl_Mo_47 rfl rfl d_Mo_forget_50 ?_
      refine lv_iload_n hx hb d_Mo_forget_53 rfl (lv_at hl 0 rfl) ?_
      refine lv_iconst (v := 1) hx hb d_Mo_forget_54 (by decide) ?_
      refine lv_iadd hx hb d_Mo_forget_55 ?_
      rw [nI_1]
      refine la_ialdv (v := ((la_up mu (m0 + 11) b (nI (o - 1))) (m0 + 13) (40 * b + i + 1))) hx hb hK hP 0 hm.2.2.2.2.2.2.2.2.2.2.2.2.2.1 rfl rfl (40 * b + i + 1) rfl (by omega) (by decide) ((congrFun (la_up_n (by omega)) (40 * b + i + 1)).trans (e13 i)) d_Mo_forget_56 ?_
      refine la_iast hx hb hK hP hS 0 hm.2.2.2.2.2.2.2.2.2.2.2.2.2.1 (fun _ => rfl) rfl (40 * b + i) rfl (by omega) (by decide) d_Mo_forget_57 (fun H locs hP hS => ?_)
      refine lv_aload_n hx hb d_Mo_forget_58 rfl (lv_at hl 1 rfl) ?_
      refine g_f (v := .ref (m0 + 14)) Z kc_Mo hP hm.1 rfl 14 (by decide) wl_Mo_50 rfl rfl d_Mo_forget_59 ?_
      refine lv_iload_n hx hb d_Mo_forget_62 rfl (lv_at hl 0 rfl) ?_
      refine lv_aload_n hx hb d_Mo_forget_63 rfl (lv_at hl 1 rfl) ?_
      refine g_f (v := .ref (m0 + 14)) Z kc_Mo hP hm.1 rfl 14 (by decide) wl_Mo_50 rfl rfl d_Mo_forget_64 ?_
      refine lv_iload_n hx hb d_Mo_forget_67 rfl (lv_at hl 0 rfl) ?_
      refine lv_iconst (v := 1) hx hb d_Mo_forget_68 (by decide) ?_
      refine lv_iadd hx hb d_Mo_forget_69 ?_
      rw [nI_1]
      refine la_ialdv (v := ((la_up mu (m0 + 11) b (nI (o - 1))) (m0 + 14) (40 * b + i + 1))) hx hb hK hP 0 hm.2.2.2.2.2.2.2.2.2.2.2.2.2.2.1 rfl rfl (40 * b + i + 1) rfl (by omega) (by decide) (((congrFun (la_up_n (by omega)) (40 * b + i + 1)).trans (congrFun (la_up_n (by omega)) (40 * b + i + 1))).trans (e14 i)) d_Mo_forget_70 ?_
      refine la_iast hx hb hK hP hS 0 hm.2.2.2.2.2.2.2.2.2.2.2.2.2.2.1 (fun _ => rfl) rfl (40 * b + i) rfl (by omega) (by decide) d_Mo_forget_71 (fun H locs hP hS => ?_)
      refine lv_aload_n hx hb d_Mo_forget_72 rfl (lv_at hl 1 rfl) ?_
      refine g_f (v := .ref (m0 + 15)) Z kc_Mo hP hm.1 rfl 15 (by decide) wl_Mo_53 rfl rfl d_Mo_forget_73 ?_
      refine lv_iload_n hx hb d_Mo_forget_76 rfl (lv_at hl 0 rfl) ?_
      refine lv_aload_n hx hb d_Mo_forget_77 rfl (lv_at hl 1 rfl) ?_
      refine g_f (v := .ref (m0 + 15)) Z kc_Mo hP hm.1 rfl 15 (by decide) wl_Mo_53 rfl rfl d_Mo_forget_78 ?_
      refine lv_iload_n hx hb d_Mo_forget_81 rfl (lv_at hl 0 rfl) ?_
      refine lv_iconst (v := 1) hx hb d_Mo_forget_82 (by decide) ?_
      refine lv_iadd hx hb d_Mo_forget_83 ?_
      rw [nI_1]
      refine la_ialdv (v := ((la_up mu (m0 + 11) b (nI (o - 1))) (m0 + 15) (40 * b + i + 1))) hx hb hK hP 0 hm.2.2.2.2.2.2.2.2.2.2.2.2.2.2.2 rfl rfl (40 * b + i + 1) rfl (by omega) (by decide) (((congrFun (la_up_n (by omega)) (40 * b + i + 1)).trans ((congrFun (la_up_n (by omega)) (40 * b + i + 1)).trans (congrFun (la_up_n (by omega)) (40 * b + i + 1)))).trans (e15 i)) d_Mo_forget_84 ?_
      refine la_iast hx hb hK hP hS 0 hm.2.2.2.2.2.2.2.2.2.2.2.2.2.2.2 (fun _ => rfl) rfl (40 * b + i) rfl (by omega) (by decide) d_Mo_forget_85 (fun H locs hP hS => ?_)
      refine lv_iinc (k := 0) (v := (nI (40 * b + (i + 1)))) hx hb d_Mo_forget_86 hl rfl (nI_1 _) (by decide) rfl (fun ls hl => ?_)
      have hl : lv_has ls 3 [(2, .int (nI (40 * b + (i + 1)))), (0, .ref m0), (1, .int (nI b))] := hl
      refine lv_goto (tgt := 15) hx hb d_Mo_forget_89 rfl ?_
      exact ih (i + 1) H locs ls (by omega) (cvm hP (md_sh4_s _ _ _ _)) hS hl
  refine lv_aload_n hx hb d_Mo_forget_0 rfl (lv_at hl 0 rfl) ?_
  refine g_f (v := .ref (m0 + 11)) Z kc_Mo hP hm.1 rfl 11 (by decide) wl_Mo_41 rfl rfl d_Mo_forget_1 ?_
  refine lv_iload_n hx hb d_Mo_forget_4 rfl (lv_at hl 1 rfl) ?_
  refine lv_dup2_11 hx hb d_Mo_forget_5 rfl rfl ?_
  refine la_ialdv (v := (nI o)) hx hb hK hP 0 hm.2.2.2.2.2.2.2.2.2.2.2.1 rfl rfl b rfl hb0 (by decide) ho d_Mo_forget_6 ?_
  refine lv_iconst (v := 1) hx hb d_Mo_forget_7 (by decide) ?_
  refine lv_isub hx hb d_Mo_forget_8 ?_
  rw [nI_s1 (by omega)]
  refine la_iast hx hb hK hP hS 0 hm.2.2.2.2.2.2.2.2.2.2.2.1 (fun _ => rfl) rfl b rfl hb0 (by decide) d_Mo_forget_9 (fun H locs hP hS => ?_)
  refine lv_bipush (v := 40) hx hb d_Mo_forget_10 (by decide) ?_
  refine lv_iload_n hx hb d_Mo_forget_12 rfl (lv_at hl 1 rfl) ?_
  refine lv_imul hx hb d_Mo_forget_13 ?_
  rw [show (40 : Int32) * nI b = nI (40 * b) from pk_mul 40 b]
  refine lv_istore_n hx hb d_Mo_forget_14 rfl hl (by decide) rfl (fun ls hl => ?_)
  have hl : lv_has ls 3 [(2, .int (nI (40 * b))), (0, .ref m0), (1, .int (nI b))] := hl
  exact loop (o - 1) 0 H locs ls (by omega) (cvm hP (md_sh4_0 _ _ _).symm) hS hl
set_option maxHeartbeats 4000000 in
set_option maxRecDepth 100000 in
theorem c_Mo_get (l : Launch) (D : va_G) (E : Nat → ClassId) (La : la_L) {m0 : Nat} (hm : isMo E La m0) (mu : la_M) {L j w0 h0 o0 t0 d0 kd q n cx g : Nat} (hL : L < 6) (hj : j < 4) (hw : mu (m0 + 5) L = nI w0) (hw0 : 0 < w0) (hw4 : w0 < 40) (hh : mu (m0 + 10) (40 * L) = nI h0) (hh3 : h0 < 2 ^ 30) (ho : mu (m0 + 11) (bk L) = nI o0) (ho4 : o0 < 40) (ht : mu (m0 + 3) (bk L) = nI t0) (ht3 : t0 < 2 ^ 30) (hot : o0 ≤ t0) (hd : d0 = max (t0 - o0) h0 - (t0 - o0)) (hdo : d0 ≤ o0) (hg : mu (m0 + 4) L = nI g) (hk : (md_g4 mu m0 L w0 o0 d0) m0 16 = nI kd) (hq : (md_g4 mu m0 L w0 o0 d0) m0 17 = nI q) (hx0 : (md_g4 mu m0 L w0 o0 d0) m0 18 = nI cx) (hcx : cx < 65536) (hn : mu (m0 + 1) j = nI n) (h2 : n ≤ 64) (hz : ∀ i, chz (mu (m0 + 2) i)) (hk3 : kd ≤ 2) (hk0 : kd = 0 → q ≤ n) (hk1 : kd = 1 → q < n) : cw l y_Mo_get b_Mo_get 9 none 1 25 D E La [.ref m0, .int (nI L), .int (nI j)] mu none (md_get mu m0 L w0 o0 d0 j kd q n cx g) := by
  refine cw_begin R_Mo (by decide) rfl (Nat.le_of_ble_eq_true rfl) ?_
  intro p e s m below meth c ls Z hr hlocks hP hS hl
  have hx := Z.1
  have hb := Z.2.1
  have hK : va_K D cls5 (tyE E) s := Z.2.2.2.2.2
  have hl : lv_has ls 9 [(0, .ref m0), (1, .int (nI L)), (2, .int (nI j))] := hl
  have hB := bk_lt hL
  have a2 : ∀ z, z ≠ m0 → z ≠ m0 + 5 → z ≠ m0 + 6 → z ≠ m0 + 7 → z ≠ m0 + 8 → z ≠ m0 + 9 → z ≠ m0 + 10 → (md_g2 mu m0 L w0) z = mu z := fun z z0 z5 z6 z7 z8 z9 z10 => by unfold md_g2; rw [md_sh5_n z6 z7 z8 z9 z10, md_gA_n z0 z5]
  have a3 : ∀ t, md_fgs (md_g2 mu m0 L w0) m0 (bk L) o0 t (m0 + 3) (bk L) = nI t0 := fun t => by rw [md_fgs_n (by omega) (by omega) (by omega) (by omega) (by omega), a2 _ (by omega) (by omega) (by omega) (by omega) (by omega) (by omega) (by omega)]; exact ht
  have a11 : ∀ t, t ≤ o0 → md_fgs (md_g2 mu m0 L w0) m0 (bk L) o0 t (m0 + 11) (bk L) = nI (o0 - t) := md_fgs_11 (by rw [a2 _ (by omega) (by omega) (by omega) (by omega) (by omega) (by omega) (by omega)]; exact ho)
  have b11 : ∀ t, md_fts (md_g3 mu m0 L w0 o0 d0) m0 (bk L) t (m0 + 11) (bk L) = nI (o0 - d0) := fun t => by rw [md_fts_n (by omega) (by omega) (by omega)]; exact a11 d0 hdo
  have c4 : ∀ z, z ≠ m0 → z ≠ m0 + 5 → z ≠ m0 + 6 → z ≠ m0 + 7 → z ≠ m0 + 8 → z ≠ m0 + 9 → z ≠ m0 + 10 → z ≠ m0 + 11 → z ≠ m0 + 12 → z ≠ m0 + 13 → z ≠ m0 + 14 → z ≠ m0 + 15 → (md_g4 mu m0 L w0 o0 d0) z = mu z := fun z z0 z5 z6 z7 z8 z9 z10 z11 z12 z13 z14 z15 => by unfold md_g4; rw [md_fts_n z0 z12 z13]; unfold md_g3; rw [md_fgs_n z11 z12 z13 z14 z15, a2 _ z0 z5 z6 z7 z8 z9 z10]
  have d4 : md_app (md_g4 mu m0 L w0 o0 d0) m0 j kd q n cx (m0 + 4) L = nI g := by rw [md_app_n (by omega) (by omega), c4 _ (by omega) (by omega) (by omega) (by omega) (by omega) (by omega) (by omega) (by omega) (by omega) (by omega) (by omega) (by omega)]; exact hg
  have dn : (md_g4 mu m0 L w0 o0 d0) (m0 + 1) j = nI n := by rw [c4 _ (by omega) (by omega) (by omega) (by omega) (by omega) (by omega) (by omega) (by omega) (by omega) (by omega) (by omega) (by omega)]; exact hn
  have dz : ∀ i, chz ((md_g4 mu m0 L w0 o0 d0) (m0 + 2) i) := fun i => by rw [c4 _ (by omega) (by omega) (by omega) (by omega) (by omega) (by omega) (by omega) (by omega) (by omega) (by omega) (by omega) (by omega)]; exact hz i
  have hApp := c_Mo_apply l D E La hm (md_g4 mu m0 L w0 o0 d0) hj hk hq hx0 hcx dn h2 dz hk3 hk0 hk1
  have loop3 : ∀ (t i : Nat) (H : Heap) (locs : List Loc) (ls : Array Slot), i + t = o0 - d0 → la_P D cls5 La (md_fts (md_g3 mu m0 L w0 o0 d0) m0 (bk L) i) H → va_S (la_A La) s.heap H locs → lv_has ls 9 [(6, .int (nI (40 * bk L + i))), (5, .int (nI (bk L))), (4, .int (nI h0)), (3, .int (nI (40 * L))), (0, .ref m0), (1, .int (nI L)), (2, .int (nI j))] → W p l e (rmm 1 25) s m ([.ref m0, .int (nI L), .int (nI j)] : List Value).toArray below meth c H locs 0 0 (MQ below (cw_Q none (la_P D cls5 La (md_get mu m0 L w0 o0 d0 j kd q n cx g)) (la_A La)) ([.ref m0, .int (nI L), .int (nI j)] : List Value).toArray s 0 0 (la_A La)) (F0 m 217 ls []) := by
    intro t
    induction t with
    | zero =>
      intro i H locs ls hi hP hS hl
      have hia : i = o0 - d0 := by omega
      subst hia
      have hP : la_P D cls5 La (md_g4 mu m0 L w0 o0 d0) H := hP
      refine lv_iload hx hb d_Mo_get_217 (lv_at hl 0 rfl) ?_
      refine lv_bipush (v := 40) hx hb d_Mo_get_219 (by decide) ?_
      refine lv_iload hx hb d_Mo_get_221 (lv_at hl 1 rfl) ?_
      refine lv_imul hx hb d_Mo_get_223 ?_
      rw [show (40 : Int32) * nI (bk L) = nI (40 * (bk L)) from pk_mul 40 (bk L)]
      refine lv_aload_n hx hb d_Mo_get_224 rfl (lv_at hl 4 rfl) ?_
      refine g_f (v := .ref (m0 + 11)) Z kc_Mo hP hm.1 rfl 11 (by decide) wl_Mo_41 rfl rfl d_Mo_get_225 ?_
      refine lv_iload hx hb d_Mo_get_228 (lv_at hl 1 rfl) ?_
      refine la_ialdv (v := (nI (o0 - d0))) hx hb hK hP 0 hm.2.2.2.2.2.2.2.2.2.2.2.1 rfl rfl (bk L) rfl hB (by decide) (b11 _) d_Mo_get_230 ?_
      refine lv_iadd hx hb d_Mo_get_231 ?_
      rw [nI_add]
      refine lv_icmp_ge (tgt := 390) hx hb d_Mo_get_232 rfl (fun br232 => ?_) (fun br232 => absurd (nI_le (Nat.le_refl _) (by omega)) br232)
      refine lv_aload_n hx hb d_Mo_get_390 rfl (lv_at hl 4 rfl) ?_
      refine lv_iload_n hx hb d_Mo_get_391 rfl (lv_at hl 6 rfl) ?_
      refine cw_V Z kv_Mo_84 (hApp) hP hS (fun _ h => h) (la_recv hK hP kc_Mo hm.1 rfl) [] rfl rfl hl.1 (Nat.le_of_ble_eq_true rfl) ⟨by decide, by decide⟩ ⟨Nat.le_refl _, Nat.le_refl _⟩ d_Mo_get_392 (fun H locs hP hkp hS => ?_)
      refine lv_aload_n hx hb d_Mo_get_395 rfl (lv_at hl 4 rfl) ?_
      refine g_f (v := .ref (m0 + 4)) Z kc_Mo hP hm.1 rfl 4 (by decide) wl_Mo_20 rfl rfl d_Mo_get_396 ?_
      refine lv_iload_n hx hb d_Mo_get_399 rfl (lv_at hl 5 rfl) ?_
      refine lv_dup2_11 hx hb d_Mo_get_400 rfl rfl ?_
      refine la_ialdv (v := (nI g)) hx hb hK hP 0 hm.2.2.2.2.1 rfl rfl L rfl hL (by decide) d4 d_Mo_get_401 ?_
      refine lv_iconst (v := 1) hx hb d_Mo_get_402 (by decide) ?_
      refine lv_iadd hx hb d_Mo_get_403 ?_
      rw [nI_1]
      refine la_iast hx hb hK hP hS 0 hm.2.2.2.2.1 (fun _ => rfl) rfl L rfl hL (by decide) d_Mo_get_404 (fun H locs hP hS => ?_)
      exact W.vret hx hb hr (fun t ht hW => ⟨rfl, by rw [ht]; exact cvm hP (rfl), hS.F ht⟩) hS.2.2 d_Mo_get_405
    | succ t ih =>
      intro i H locs ls hi hP hS hl
      refine lv_iload hx hb d_Mo_get_217 (lv_at hl 0 rfl) ?_
      refine lv_bipush (v := 40) hx hb d_Mo_get_219 (by decide) ?_
      refine lv_iload hx hb d_Mo_get_221 (lv_at hl 1 rfl) ?_
      refine lv_imul hx hb d_Mo_get_223 ?_
      rw [show (40 : Int32) * nI (bk L) = nI (40 * (bk L)) from pk_mul 40 (bk L)]
      refine lv_aload_n hx hb d_Mo_get_224 rfl (lv_at hl 4 rfl) ?_
      refine g_f (v := .ref (m0 + 11)) Z kc_Mo hP hm.1 rfl 11 (by decide) wl_Mo_41 rfl rfl d_Mo_get_225 ?_
      refine lv_iload hx hb d_Mo_get_228 (lv_at hl 1 rfl) ?_
      refine la_ialdv (v := (nI (o0 - d0))) hx hb hK hP 0 hm.2.2.2.2.2.2.2.2.2.2.2.1 rfl rfl (bk L) rfl hB (by decide) (b11 _) d_Mo_get_230 ?_
      refine lv_iadd hx hb d_Mo_get_231 ?_
      rw [nI_add]
      refine lv_icmp_ge (tgt := 390) hx hb d_Mo_get_232 rfl (fun br232 => absurd br232 (nI_ge (by omega) (by omega))) (fun br232 => ?_)
      refine lv_aload_n hx hb d_Mo_get_235 rfl (lv_at hl 4 rfl) ?_
      refine g_f Z kc_Mo hP hm.1 rfl 16 (by decide) wl_Mo_60 rfl rfl d_Mo_get_236 ?_
      refine lv_aload_n hx hb d_Mo_get_239 rfl (lv_at hl 4 rfl) ?_
      refine g_f Z kc_Mo hP hm.1 rfl 17 (by decide) wl_Mo_63 rfl rfl d_Mo_get_240 ?_
      refine lv_aload_n hx hb d_Mo_get_243 rfl (lv_at hl 4 rfl) ?_
      refine g_f Z kc_Mo hP hm.1 rfl 19 (by decide) wl_Mo_69 rfl rfl d_Mo_get_244 ?_
      refine lv_aload_n hx hb d_Mo_get_247 rfl (lv_at hl 4 rfl) ?_
      refine g_f (v := .ref (m0 + 12)) Z kc_Mo hP hm.1 rfl 12 (by decide) wl_Mo_44 rfl rfl d_Mo_get_248 ?_
      refine lv_iload hx hb d_Mo_get_251 (lv_at hl 0 rfl) ?_
      refine la_iald hx hb hK hP 0 hm.2.2.2.2.2.2.2.2.2.2.2.2.1 rfl rfl (40 * bk L + i) rfl (by omega) (by decide) d_Mo_get_253 ?_
      refine lv_aload_n hx hb d_Mo_get_254 rfl (lv_at hl 4 rfl) ?_
      refine g_f (v := .ref (m0 + 13)) Z kc_Mo hP hm.1 rfl 13 (by decide) wl_Mo_47 rfl rfl d_Mo_get_255 ?_
      refine lv_iload hx hb d_Mo_get_258 (lv_at hl 0 rfl) ?_
      refine la_iald hx hb hK hP 0 hm.2.2.2.2.2.2.2.2.2.2.2.2.2.1 rfl rfl (40 * bk L + i) rfl (by omega) (by decide) d_Mo_get_260 ?_
      refine lv_aload_n hx hb d_Mo_get_261 rfl (lv_at hl 4 rfl) ?_
      refine g_f (v := .ref (m0 + 15)) Z kc_Mo hP hm.1 rfl 15 (by decide) wl_Mo_53 rfl rfl d_Mo_get_262 ?_
      refine lv_iload hx hb d_Mo_get_265 (lv_at hl 0 rfl) ?_
      refine la_iald hx hb hK hP 0 hm.2.2.2.2.2.2.2.2.2.2.2.2.2.2.2 rfl rfl (40 * bk L + i) rfl (by omega) (by decide) d_Mo_get_267 ?_
      refine cr_S Z ks_Mo_80 (c_Mo_fitted l D E La (md_fts (md_g3 mu m0 L w0 o0 d0) m0 (bk L) i) ((md_fts (md_g3 mu m0 L w0 o0 d0) m0 (bk L) i) m0 16) ((md_fts (md_g3 mu m0 L w0 o0 d0) m0 (bk L) i) m0 17) ((md_fts (md_g3 mu m0 L w0 o0 d0) m0 (bk L) i) m0 19) ((md_fts (md_g3 mu m0 L w0 o0 d0) m0 (bk L) i) (m0 + 12) (40 * bk L + i)) ((md_fts (md_g3 mu m0 L w0 o0 d0) m0 (bk L) i) (m0 + 13) (40 * bk L + i)) ((md_fts (md_g3 mu m0 L w0 o0 d0) m0 (bk L) i) (m0 + 15) (40 * bk L + i))) hP [] rfl rfl hl.1 (Nat.le_of_ble_eq_true rfl) ⟨by decide, by decide⟩ ⟨Nat.le_refl _, Nat.le_refl _⟩ d_Mo_get_268 ?_
      refine lv_istore hx hb d_Mo_get_271 hl (by decide) rfl (fun ls hl => ?_)
      have hl : lv_has ls 9 [(7, .int (md_fit ((md_fts (md_g3 mu m0 L w0 o0 d0) m0 (bk L) i) m0 16) ((md_fts (md_g3 mu m0 L w0 o0 d0) m0 (bk L) i) m0 17) ((md_fts (md_g3 mu m0 L w0 o0 d0) m0 (bk L) i) m0 19) ((md_fts (md_g3 mu m0 L w0 o0 d0) m0 (bk L) i) (m0 + 12) (40 * bk L + i)) ((md_fts (md_g3 mu m0 L w0 o0 d0) m0 (bk L) i) (m0 + 13) (40 * bk L + i)) ((md_fts (md_g3 mu m0 L w0 o0 d0) m0 (bk L) i) (m0 + 15) (40 * bk L + i)))), (6, .int (nI (40 * bk L + i))), (5, .int (nI (bk L))), (4, .int (nI h0)), (3, .int (nI (40 * L))), (0, .ref m0), (1, .int (nI L)), (2, .int (nI j))] := hl
      refine lv_aload_n hx hb d_Mo_get_273 rfl (lv_at hl 5 rfl) ?_
      refine g_f (v := .ref (m0 + 12)) Z kc_Mo hP hm.1 rfl 12 (by decide) wl_Mo_44 rfl rfl d_Mo_get_274 ?_
      refine lv_iload hx hb d_Mo_get_277 (lv_at hl 1 rfl) ?_
      refine la_iald hx hb hK hP 0 hm.2.2.2.2.2.2.2.2.2.2.2.2.1 rfl rfl (40 * bk L + i) rfl (by omega) (by decide) d_Mo_get_279 ?_
      refine lv_aload_n hx hb d_Mo_get_280 rfl (lv_at hl 5 rfl) ?_
      refine g_f (v := .ref (m0 + 13)) Z kc_Mo hP hm.1 rfl 13 (by decide) wl_Mo_47 rfl rfl d_Mo_get_281 ?_
      refine lv_iload hx hb d_Mo_get_284 (lv_at hl 1 rfl) ?_
      refine la_iald hx hb hK hP 0 hm.2.2.2.2.2.2.2.2.2.2.2.2.2.1 rfl rfl (40 * bk L + i) rfl (by omega) (by decide) d_Mo_get_286 ?_
      refine lv_aload_n hx hb d_Mo_get_287 rfl (lv_at hl 5 rfl) ?_
      refine g_f (v := .ref (m0 + 15)) Z kc_Mo hP hm.1 rfl 15 (by decide) wl_Mo_53 rfl rfl d_Mo_get_288 ?_
      refine lv_iload hx hb d_Mo_get_291 (lv_at hl 1 rfl) ?_
      refine la_iald hx hb hK hP 0 hm.2.2.2.2.2.2.2.2.2.2.2.2.2.2.2 rfl rfl (40 * bk L + i) rfl (by omega) (by decide) d_Mo_get_293 ?_
      refine lv_aload_n hx hb d_Mo_get_294 rfl (lv_at hl 5 rfl) ?_
      refine g_f Z kc_Mo hP hm.1 rfl 16 (by decide) wl_Mo_60 rfl rfl d_Mo_get_295 ?_
      refine lv_aload_n hx hb d_Mo_get_298 rfl (lv_at hl 5 rfl) ?_
      refine g_f Z kc_Mo hP hm.1 rfl 17 (by decide) wl_Mo_63 rfl rfl d_Mo_get_299 ?_
      refine lv_aload_n hx hb d_Mo_get_302 rfl (lv_at hl 5 rfl) ?_
      refine g_f Z kc_Mo hP hm.1 rfl 19 (by decide) wl_Mo_69 rfl rfl d_Mo_get_303 ?_
      refine cr_S Z ks_Mo_80 (c_Mo_fitted l D E La (md_fts (md_g3 mu m0 L w0 o0 d0) m0 (bk L) i) ((md_fts (md_g3 mu m0 L w0 o0 d0) m0 (bk L) i) (m0 + 12) (40 * bk L + i)) ((md_fts (md_g3 mu m0 L w0 o0 d0) m0 (bk L) i) (m0 + 13) (40 * bk L + i)) ((md_fts (md_g3 mu m0 L w0 o0 d0) m0 (bk L) i) (m0 + 15) (40 * bk L + i)) ((md_fts (md_g3 mu m0 L w0 o0 d0) m0 (bk L) i) m0 16) ((md_fts (md_g3 mu m0 L w0 o0 d0) m0 (bk L) i) m0 17) ((md_fts (md_g3 mu m0 L w0 o0 d0) m0 (bk L) i) m0 19)) hP [] rfl rfl hl.1 (Nat.le_of_ble_eq_true rfl) ⟨by decide, by decide⟩ ⟨Nat.le_refl _, Nat.le_refl _⟩ d_Mo_get_306 ?_
      refine lv_istore hx hb d_Mo_get_309 hl (by decide) rfl (fun ls hl => ?_)
      have hl : lv_has ls 9 [(8, .int (md_fit ((md_fts (md_g3 mu m0 L w0 o0 d0) m0 (bk L) i) (m0 + 12) (40 * bk L + i)) ((md_fts (md_g3 mu m0 L w0 o0 d0) m0 (bk L) i) (m0 + 13) (40 * bk L + i)) ((md_fts (md_g3 mu m0 L w0 o0 d0) m0 (bk L) i) (m0 + 15) (40 * bk L + i)) ((md_fts (md_g3 mu m0 L w0 o0 d0) m0 (bk L) i) m0 16) ((md_fts (md_g3 mu m0 L w0 o0 d0) m0 (bk L) i) m0 17) ((md_fts (md_g3 mu m0 L w0 o0 d0) m0 (bk L) i) m0 19))), (7, .int (md_fit ((md_fts (md_g3 mu m0 L w0 o0 d0) m0 (bk L) i) m0 16) ((md_fts (md_g3 mu m0 L w0 o0 d0) m0 (bk L) i) m0 17) ((md_fts (md_g3 mu m0 L w0 o0 d0) m0 (bk L) i) m0 19) ((md_fts (md_g3 mu m0 L w0 o0 d0) m0 (bk L) i) (m0 + 12) (40 * bk L + i)) ((md_fts (md_g3 mu m0 L w0 o0 d0) m0 (bk L) i) (m0 + 13) (40 * bk L + i)) ((md_fts (md_g3 mu m0 L w0 o0 d0) m0 (bk L) i) (m0 + 15) (40 * bk L + i)))), (6, .int (nI (40 * bk L + i))), (5, .int (nI (bk L))), (4, .int (nI h0)), (3, .int (nI (40 * L))), (0, .ref m0), (1, .int (nI L)), (2, .int (nI j))] := hl
      refine lv_aload_n hx hb d_Mo_get_311 rfl (lv_at hl 6 rfl) ?_
      refine lv_iload hx hb d_Mo_get_312 (lv_at hl 1 rfl) ?_
      refine lv_if_ge (tgt := 321) hx hb d_Mo_get_314 rfl (fun br314 => ?_) (fun br314 => ?_)
      · skip
        refine lv_aload_n hx hb d_Mo_get_321 rfl (lv_at hl 6 rfl) ?_
        refine g_f Z kc_Mo hP hm.1 rfl 16 (by decide) wl_Mo_60 rfl rfl d_Mo_get_322 ?_
        refine p_f Z kc_Mo hP hS hm.1 rfl 16 (by decide) wl_Mo_60 rfl rfl ⟨rfl, rfl⟩ (Nat.le_of_ble_eq_true rfl) rfl d_Mo_get_325 (fun H locs hP hS => ?_)
        refine lv_aload_n hx hb d_Mo_get_328 rfl (lv_at hl 6 rfl) ?_
        refine lv_iload hx hb d_Mo_get_329 (lv_at hl 1 rfl) ?_
        refine lv_if_ge (tgt := 338) hx hb d_Mo_get_331 rfl (fun br331 => ?_) (fun br331 => absurd (br314) br331)
        refine lv_iload hx hb d_Mo_get_338 (lv_at hl 1 rfl) ?_
        refine p_f Z kc_Mo hP hS hm.1 rfl 17 (by decide) wl_Mo_63 rfl rfl ⟨rfl, rfl⟩ (Nat.le_of_ble_eq_true rfl) rfl d_Mo_get_340 (fun H locs hP hS => ?_)
        refine lv_aload_n hx hb d_Mo_get_343 rfl (lv_at hl 6 rfl) ?_
        refine g_f (v := .ref (m0 + 12)) Z kc_Mo hP hm.1 rfl 12 (by decide) wl_Mo_44 rfl rfl d_Mo_get_344 ?_
        refine lv_iload hx hb d_Mo_get_347 (lv_at hl 2 rfl) ?_
        refine lv_iload hx hb d_Mo_get_349 (lv_at hl 0 rfl) ?_
        refine lv_if_ge (tgt := 358) hx hb d_Mo_get_351 rfl (fun br351 => ?_) (fun br351 => ?_)
        · skip
          refine lv_aload_n hx hb d_Mo_get_358 rfl (lv_at hl 6 rfl) ?_
          refine g_f (v := .ref (m0 + 12)) Z kc_Mo hP hm.1 rfl 12 (by decide) wl_Mo_44 rfl rfl d_Mo_get_359 ?_
          refine lv_iload hx hb d_Mo_get_362 (lv_at hl 2 rfl) ?_
          refine la_ialdv (v := ((md_fts (md_g3 mu m0 L w0 o0 d0) m0 (bk L) i) (m0 + 12) (40 * bk L + i))) hx hb hK hP 0 hm.2.2.2.2.2.2.2.2.2.2.2.2.1 rfl rfl (40 * bk L + i) rfl (by omega) (by decide) ((congrFun (la_up_n (by omega)) (40 * bk L + i)).trans (congrFun (la_up_n (by omega)) (40 * bk L + i))) d_Mo_get_364 ?_
          refine la_iast hx hb hK hP hS 0 hm.2.2.2.2.2.2.2.2.2.2.2.2.1 (fun _ => rfl) rfl (40 * bk L + i) rfl (by omega) (by decide) d_Mo_get_365 (fun H locs hP hS => ?_)
          refine lv_aload_n hx hb d_Mo_get_366 rfl (lv_at hl 6 rfl) ?_
          refine g_f (v := .ref (m0 + 13)) Z kc_Mo hP hm.1 rfl 13 (by decide) wl_Mo_47 rfl rfl d_Mo_get_367 ?_
          refine lv_iload hx hb d_Mo_get_370 (lv_at hl 2 rfl) ?_
          refine lv_iload hx hb d_Mo_get_372 (lv_at hl 0 rfl) ?_
          refine lv_if_ge (tgt := 381) hx hb d_Mo_get_374 rfl (fun br374 => ?_) (fun br374 => absurd (br351) br374)
          refine lv_iload hx hb d_Mo_get_381 (lv_at hl 0 rfl) ?_
          refine la_iast hx hb hK hP hS 0 hm.2.2.2.2.2.2.2.2.2.2.2.2.2.1 (fun _ => rfl) rfl (40 * bk L + i) rfl (by omega) (by decide) d_Mo_get_383 (fun H locs hP hS => ?_)
          refine lv_iinc (k := 2) (v := (nI (40 * bk L + (i + 1)))) hx hb d_Mo_get_384 hl rfl (nI_1 _) (by decide) rfl (fun ls hl => ?_)
          have hl : lv_has ls 9 [(6, .int (nI (40 * bk L + (i + 1)))), (8, .int (md_fit ((md_fts (md_g3 mu m0 L w0 o0 d0) m0 (bk L) i) (m0 + 12) (40 * bk L + i)) ((md_fts (md_g3 mu m0 L w0 o0 d0) m0 (bk L) i) (m0 + 13) (40 * bk L + i)) ((md_fts (md_g3 mu m0 L w0 o0 d0) m0 (bk L) i) (m0 + 15) (40 * bk L + i)) ((md_fts (md_g3 mu m0 L w0 o0 d0) m0 (bk L) i) m0 16) ((md_fts (md_g3 mu m0 L w0 o0 d0) m0 (bk L) i) m0 17) ((md_fts (md_g3 mu m0 L w0 o0 d0) m0 (bk L) i) m0 19))), (7, .int (md_fit ((md_fts (md_g3 mu m0 L w0 o0 d0) m0 (bk L) i) m0 16) ((md_fts (md_g3 mu m0 L w0 o0 d0) m0 (bk L) i) m0 17) ((md_fts (md_g3 mu m0 L w0 o0 d0) m0 (bk L) i) m0 19) ((md_fts (md_g3 mu m0 L w0 o0 d0) m0 (bk L) i) (m0 + 12) (40 * bk L + i)) ((md_fts (md_g3 mu m0 L w0 o0 d0) m0 (bk L) i) (m0 + 13) (40 * bk L + i)) ((md_fts (md_g3 mu m0 L w0 o0 d0) m0 (bk L) i) (m0 + 15) (40 * bk L + i)))), (5, .int (nI (bk L))), (4, .int (nI h0)), (3, .int (nI (40 * L))), (0, .ref m0), (1, .int (nI L)), (2, .int (nI j))] := hl
          refine lv_goto (tgt := 217) hx hb d_Mo_get_387 rfl ?_
          exact ih (i + 1) H locs ls (by omega) (cvm hP (by simp [md_fts, md_ft1, (Int32.not_lt.mpr br314), (Int32.not_lt.mpr br351)])) hS (lv_sub hl [0, 3, 4, 5, 6, 7, 8] rfl)
        · skip
          refine lv_iconst (v := 2) hx hb d_Mo_get_354 (by decide) ?_
          refine lv_goto (tgt := 365) hx hb d_Mo_get_355 rfl ?_
          refine la_iast hx hb hK hP hS 0 hm.2.2.2.2.2.2.2.2.2.2.2.2.1 (fun _ => rfl) rfl (40 * bk L + i) rfl (by omega) (by decide) d_Mo_get_365 (fun H locs hP hS => ?_)
          refine lv_aload_n hx hb d_Mo_get_366 rfl (lv_at hl 6 rfl) ?_
          refine g_f (v := .ref (m0 + 13)) Z kc_Mo hP hm.1 rfl 13 (by decide) wl_Mo_47 rfl rfl d_Mo_get_367 ?_
          refine lv_iload hx hb d_Mo_get_370 (lv_at hl 2 rfl) ?_
          refine lv_iload hx hb d_Mo_get_372 (lv_at hl 0 rfl) ?_
          refine lv_if_ge (tgt := 381) hx hb d_Mo_get_374 rfl (fun br374 => absurd br374 (br351)) (fun br374 => ?_)
          refine lv_iconst (v := 0) hx hb d_Mo_get_377 (by decide) ?_
          refine lv_goto (tgt := 383) hx hb d_Mo_get_378 rfl ?_
          refine la_iast hx hb hK hP hS 0 hm.2.2.2.2.2.2.2.2.2.2.2.2.2.1 (fun _ => rfl) rfl (40 * bk L + i) rfl (by omega) (by decide) d_Mo_get_383 (fun H locs hP hS => ?_)
          refine lv_iinc (k := 2) (v := (nI (40 * bk L + (i + 1)))) hx hb d_Mo_get_384 hl rfl (nI_1 _) (by decide) rfl (fun ls hl => ?_)
          have hl : lv_has ls 9 [(6, .int (nI (40 * bk L + (i + 1)))), (8, .int (md_fit ((md_fts (md_g3 mu m0 L w0 o0 d0) m0 (bk L) i) (m0 + 12) (40 * bk L + i)) ((md_fts (md_g3 mu m0 L w0 o0 d0) m0 (bk L) i) (m0 + 13) (40 * bk L + i)) ((md_fts (md_g3 mu m0 L w0 o0 d0) m0 (bk L) i) (m0 + 15) (40 * bk L + i)) ((md_fts (md_g3 mu m0 L w0 o0 d0) m0 (bk L) i) m0 16) ((md_fts (md_g3 mu m0 L w0 o0 d0) m0 (bk L) i) m0 17) ((md_fts (md_g3 mu m0 L w0 o0 d0) m0 (bk L) i) m0 19))), (7, .int (md_fit ((md_fts (md_g3 mu m0 L w0 o0 d0) m0 (bk L) i) m0 16) ((md_fts (md_g3 mu m0 L w0 o0 d0) m0 (bk L) i) m0 17) ((md_fts (md_g3 mu m0 L w0 o0 d0) m0 (bk L) i) m0 19) ((md_fts (md_g3 mu m0 L w0 o0 d0) m0 (bk L) i) (m0 + 12) (40 * bk L + i)) ((md_fts (md_g3 mu m0 L w0 o0 d0) m0 (bk L) i) (m0 + 13) (40 * bk L + i)) ((md_fts (md_g3 mu m0 L w0 o0 d0) m0 (bk L) i) (m0 + 15) (40 * bk L + i)))), (5, .int (nI (bk L))), (4, .int (nI h0)), (3, .int (nI (40 * L))), (0, .ref m0), (1, .int (nI L)), (2, .int (nI j))] := hl
          refine lv_goto (tgt := 217) hx hb d_Mo_get_387 rfl ?_
          exact ih (i + 1) H locs ls (by omega) (cvm hP (by simp [md_fts, md_ft1, (Int32.not_lt.mpr br314), (Int32.not_le.mp br351)])) hS (lv_sub hl [0, 3, 4, 5, 6, 7, 8] rfl)
      · skip
        refine lv_iconst (v := 2) hx hb d_Mo_get_317 (by decide) ?_
        refine lv_goto (tgt := 325) hx hb d_Mo_get_318 rfl ?_
        refine p_f Z kc_Mo hP hS hm.1 rfl 16 (by decide) wl_Mo_60 rfl rfl ⟨rfl, rfl⟩ (Nat.le_of_ble_eq_true rfl) rfl d_Mo_get_325 (fun H locs hP hS => ?_)
        refine lv_aload_n hx hb d_Mo_get_328 rfl (lv_at hl 6 rfl) ?_
        refine lv_iload hx hb d_Mo_get_329 (lv_at hl 1 rfl) ?_
        refine lv_if_ge (tgt := 338) hx hb d_Mo_get_331 rfl (fun br331 => absurd br331 (br314)) (fun br331 => ?_)
        refine lv_iconst (v := 0) hx hb d_Mo_get_334 (by decide) ?_
        refine lv_goto (tgt := 340) hx hb d_Mo_get_335 rfl ?_
        refine p_f Z kc_Mo hP hS hm.1 rfl 17 (by decide) wl_Mo_63 rfl rfl ⟨rfl, rfl⟩ (Nat.le_of_ble_eq_true rfl) rfl d_Mo_get_340 (fun H locs hP hS => ?_)
        refine lv_aload_n hx hb d_Mo_get_343 rfl (lv_at hl 6 rfl) ?_
        refine g_f (v := .ref (m0 + 12)) Z kc_Mo hP hm.1 rfl 12 (by decide) wl_Mo_44 rfl rfl d_Mo_get_344 ?_
        refine lv_iload hx hb d_Mo_get_347 (lv_at hl 2 rfl) ?_
        refine lv_iload hx hb d_Mo_get_349 (lv_at hl 0 rfl) ?_
        refine lv_if_ge (tgt := 358) hx hb d_Mo_get_351 rfl (fun br351 => ?_) (fun br351 => ?_)
        · skip
          refine lv_aload_n hx hb d_Mo_get_358 rfl (lv_at hl 6 rfl) ?_
          refine g_f (v := .ref (m0 + 12)) Z kc_Mo hP hm.1 rfl 12 (by decide) wl_Mo_44 rfl rfl d_Mo_get_359 ?_
          refine lv_iload hx hb d_Mo_get_362 (lv_at hl 2 rfl) ?_
          refine la_ialdv (v := ((md_fts (md_g3 mu m0 L w0 o0 d0) m0 (bk L) i) (m0 + 12) (40 * bk L + i))) hx hb hK hP 0 hm.2.2.2.2.2.2.2.2.2.2.2.2.1 rfl rfl (40 * bk L + i) rfl (by omega) (by decide) ((congrFun (la_up_n (by omega)) (40 * bk L + i)).trans (congrFun (la_up_n (by omega)) (40 * bk L + i))) d_Mo_get_364 ?_
          refine la_iast hx hb hK hP hS 0 hm.2.2.2.2.2.2.2.2.2.2.2.2.1 (fun _ => rfl) rfl (40 * bk L + i) rfl (by omega) (by decide) d_Mo_get_365 (fun H locs hP hS => ?_)
          refine lv_aload_n hx hb d_Mo_get_366 rfl (lv_at hl 6 rfl) ?_
          refine g_f (v := .ref (m0 + 13)) Z kc_Mo hP hm.1 rfl 13 (by decide) wl_Mo_47 rfl rfl d_Mo_get_367 ?_
          refine lv_iload hx hb d_Mo_get_370 (lv_at hl 2 rfl) ?_
          refine lv_iload hx hb d_Mo_get_372 (lv_at hl 0 rfl) ?_
          refine lv_if_ge (tgt := 381) hx hb d_Mo_get_374 rfl (fun br374 => ?_) (fun br374 => absurd (br351) br374)
          refine lv_iload hx hb d_Mo_get_381 (lv_at hl 0 rfl) ?_
          refine la_iast hx hb hK hP hS 0 hm.2.2.2.2.2.2.2.2.2.2.2.2.2.1 (fun _ => rfl) rfl (40 * bk L + i) rfl (by omega) (by decide) d_Mo_get_383 (fun H locs hP hS => ?_)
          refine lv_iinc (k := 2) (v := (nI (40 * bk L + (i + 1)))) hx hb d_Mo_get_384 hl rfl (nI_1 _) (by decide) rfl (fun ls hl => ?_)
          have hl : lv_has ls 9 [(6, .int (nI (40 * bk L + (i + 1)))), (8, .int (md_fit ((md_fts (md_g3 mu m0 L w0 o0 d0) m0 (bk L) i) (m0 + 12) (40 * bk L + i)) ((md_fts (md_g3 mu m0 L w0 o0 d0) m0 (bk L) i) (m0 + 13) (40 * bk L + i)) ((md_fts (md_g3 mu m0 L w0 o0 d0) m0 (bk L) i) (m0 + 15) (40 * bk L + i)) ((md_fts (md_g3 mu m0 L w0 o0 d0) m0 (bk L) i) m0 16) ((md_fts (md_g3 mu m0 L w0 o0 d0) m0 (bk L) i) m0 17) ((md_fts (md_g3 mu m0 L w0 o0 d0) m0 (bk L) i) m0 19))), (7, .int (md_fit ((md_fts (md_g3 mu m0 L w0 o0 d0) m0 (bk L) i) m0 16) ((md_fts (md_g3 mu m0 L w0 o0 d0) m0 (bk L) i) m0 17) ((md_fts (md_g3 mu m0 L w0 o0 d0) m0 (bk L) i) m0 19) ((md_fts (md_g3 mu m0 L w0 o0 d0) m0 (bk L) i) (m0 + 12) (40 * bk L + i)) ((md_fts (md_g3 mu m0 L w0 o0 d0) m0 (bk L) i) (m0 + 13) (40 * bk L + i)) ((md_fts (md_g3 mu m0 L w0 o0 d0) m0 (bk L) i) (m0 + 15) (40 * bk L + i)))), (5, .int (nI (bk L))), (4, .int (nI h0)), (3, .int (nI (40 * L))), (0, .ref m0), (1, .int (nI L)), (2, .int (nI j))] := hl
          refine lv_goto (tgt := 217) hx hb d_Mo_get_387 rfl ?_
          exact ih (i + 1) H locs ls (by omega) (cvm hP (by simp [md_fts, md_ft1, (Int32.not_le.mp br314), (Int32.not_lt.mpr br351)])) hS (lv_sub hl [0, 3, 4, 5, 6, 7, 8] rfl)
        · skip
          refine lv_iconst (v := 2) hx hb d_Mo_get_354 (by decide) ?_
          refine lv_goto (tgt := 365) hx hb d_Mo_get_355 rfl ?_
          refine la_iast hx hb hK hP hS 0 hm.2.2.2.2.2.2.2.2.2.2.2.2.1 (fun _ => rfl) rfl (40 * bk L + i) rfl (by omega) (by decide) d_Mo_get_365 (fun H locs hP hS => ?_)
          refine lv_aload_n hx hb d_Mo_get_366 rfl (lv_at hl 6 rfl) ?_
          refine g_f (v := .ref (m0 + 13)) Z kc_Mo hP hm.1 rfl 13 (by decide) wl_Mo_47 rfl rfl d_Mo_get_367 ?_
          refine lv_iload hx hb d_Mo_get_370 (lv_at hl 2 rfl) ?_
          refine lv_iload hx hb d_Mo_get_372 (lv_at hl 0 rfl) ?_
          refine lv_if_ge (tgt := 381) hx hb d_Mo_get_374 rfl (fun br374 => absurd br374 (br351)) (fun br374 => ?_)
          refine lv_iconst (v := 0) hx hb d_Mo_get_377 (by decide) ?_
          refine lv_goto (tgt := 383) hx hb d_Mo_get_378 rfl ?_
          refine la_iast hx hb hK hP hS 0 hm.2.2.2.2.2.2.2.2.2.2.2.2.2.1 (fun _ => rfl) rfl (40 * bk L + i) rfl (by omega) (by decide) d_Mo_get_383 (fun H locs hP hS => ?_)
          refine lv_iinc (k := 2) (v := (nI (40 * bk L + (i + 1)))) hx hb d_Mo_get_384 hl rfl (nI_1 _) (by decide) rfl (fun ls hl => ?_)
          have hl : lv_has ls 9 [(6, .int (nI (40 * bk L + (i + 1)))), (8, .int (md_fit ((md_fts (md_g3 mu m0 L w0 o0 d0) m0 (bk L) i) (m0 + 12) (40 * bk L + i)) ((md_fts (md_g3 mu m0 L w0 o0 d0) m0 (bk L) i) (m0 + 13) (40 * bk L + i)) ((md_fts (md_g3 mu m0 L w0 o0 d0) m0 (bk L) i) (m0 + 15) (40 * bk L + i)) ((md_fts (md_g3 mu m0 L w0 o0 d0) m0 (bk L) i) m0 16) ((md_fts (md_g3 mu m0 L w0 o0 d0) m0 (bk L) i) m0 17) ((md_fts (md_g3 mu m0 L w0 o0 d0) m0 (bk L) i) m0 19))), (7, .int (md_fit ((md_fts (md_g3 mu m0 L w0 o0 d0) m0 (bk L) i) m0 16) ((md_fts (md_g3 mu m0 L w0 o0 d0) m0 (bk L) i) m0 17) ((md_fts (md_g3 mu m0 L w0 o0 d0) m0 (bk L) i) m0 19) ((md_fts (md_g3 mu m0 L w0 o0 d0) m0 (bk L) i) (m0 + 12) (40 * bk L + i)) ((md_fts (md_g3 mu m0 L w0 o0 d0) m0 (bk L) i) (m0 + 13) (40 * bk L + i)) ((md_fts (md_g3 mu m0 L w0 o0 d0) m0 (bk L) i) (m0 + 15) (40 * bk L + i)))), (5, .int (nI (bk L))), (4, .int (nI h0)), (3, .int (nI (40 * L))), (0, .ref m0), (1, .int (nI L)), (2, .int (nI j))] := hl
          refine lv_goto (tgt := 217) hx hb d_Mo_get_387 rfl ?_
          exact ih (i + 1) H locs ls (by omega) (cvm hP (by simp [md_fts, md_ft1, (Int32.not_le.mp br314), (Int32.not_le.mp br351)])) hS (lv_sub hl [0, 3, 4, 5, 6, 7, 8] rfl)
  have loop2 : ∀ (t i : Nat) (H : Heap) (locs : List Loc) (ls : Array Slot), i + t = d0 → la_P D cls5 La (md_fgs (md_g2 mu m0 L w0) m0 (bk L) o0 i) H → va_S (la_A La) s.heap H locs → lv_has ls 9 [(5, .int (nI (bk L))), (4, .int (nI h0)), (3, .int (nI (40 * L))), (0, .ref m0), (1, .int (nI L)), (2, .int (nI j))] → W p l e (rmm 1 25) s m ([.ref m0, .int (nI L), .int (nI j)] : List Value).toArray below meth c H locs 0 0 (MQ below (cw_Q none (la_P D cls5 La (md_get mu m0 L w0 o0 d0 j kd q n cx g)) (la_A La)) ([.ref m0, .int (nI L), .int (nI j)] : List Value).toArray s 0 0 (la_A La)) (F0 m 171 ls []) := by
    intro t
    induction t with
    | zero =>
      intro i H locs ls hi hP hS hl
      have hia : i = d0 := by omega
      subst hia
      refine lv_aload_n hx hb d_Mo_get_171 rfl (lv_at hl 3 rfl) ?_
      refine g_f (v := .ref (m0 + 11)) Z kc_Mo hP hm.1 rfl 11 (by decide) wl_Mo_41 rfl rfl d_Mo_get_172 ?_
      refine lv_iload hx hb d_Mo_get_175 (lv_at hl 0 rfl) ?_
      refine la_ialdv (v := (nI (o0 - i))) hx hb hK hP 0 hm.2.2.2.2.2.2.2.2.2.2.2.1 rfl rfl (bk L) rfl hB (by decide) (a11 _ hdo) d_Mo_get_177 ?_
      refine lv_if_le (tgt := 210) hx hb d_Mo_get_178 rfl (fun br178 => ?_) (fun br178 => ?_)
      · skip
        refine lv_bipush (v := 40) hx hb d_Mo_get_210 (by decide) ?_
        refine lv_iload hx hb d_Mo_get_212 (lv_at hl 0 rfl) ?_
        refine lv_imul hx hb d_Mo_get_214 ?_
        rw [show (40 : Int32) * nI (bk L) = nI (40 * (bk L)) from pk_mul 40 (bk L)]
        refine lv_istore hx hb d_Mo_get_215 hl (by decide) rfl (fun ls hl => ?_)
        have hl : lv_has ls 9 [(6, .int (nI (40 * bk L))), (5, .int (nI (bk L))), (4, .int (nI h0)), (3, .int (nI (40 * L))), (0, .ref m0), (1, .int (nI L)), (2, .int (nI j))] := hl
        exact loop3 (o0 - i) 0 H locs ls (by omega) hP hS (lv_sub hl [0, 1, 2, 3, 4, 5, 6] rfl)
      · skip
        refine lv_aload_n hx hb d_Mo_get_181 rfl (lv_at hl 3 rfl) ?_
        refine g_f (v := .ref (m0 + 3)) Z kc_Mo hP hm.1 rfl 3 (by decide) wl_Mo_17 rfl rfl d_Mo_get_182 ?_
        refine lv_iload hx hb d_Mo_get_185 (lv_at hl 0 rfl) ?_
        refine la_ialdv (v := (nI t0)) hx hb hK hP 0 hm.2.2.2.1 rfl rfl (bk L) rfl hB (by decide) (a3 _) d_Mo_get_187 ?_
        refine lv_aload_n hx hb d_Mo_get_188 rfl (lv_at hl 3 rfl) ?_
        refine g_f (v := .ref (m0 + 11)) Z kc_Mo hP hm.1 rfl 11 (by decide) wl_Mo_41 rfl rfl d_Mo_get_189 ?_
        refine lv_iload hx hb d_Mo_get_192 (lv_at hl 0 rfl) ?_
        refine la_ialdv (v := (nI (o0 - i))) hx hb hK hP 0 hm.2.2.2.2.2.2.2.2.2.2.2.1 rfl rfl (bk L) rfl hB (by decide) (a11 _ hdo) d_Mo_get_194 ?_
        refine lv_isub hx hb d_Mo_get_195 ?_
        rw [pk_sub (by omega)]
        refine lv_iload hx hb d_Mo_get_196 (lv_at hl 1 rfl) ?_
        refine lv_icmp_ge (tgt := 210) hx hb d_Mo_get_198 rfl (fun br198 => ?_) (fun br198 => absurd (nI_le (by omega) (by omega)) br198)
        refine lv_bipush (v := 40) hx hb d_Mo_get_210 (by decide) ?_
        refine lv_iload hx hb d_Mo_get_212 (lv_at hl 0 rfl) ?_
        refine lv_imul hx hb d_Mo_get_214 ?_
        rw [show (40 : Int32) * nI (bk L) = nI (40 * (bk L)) from pk_mul 40 (bk L)]
        refine lv_istore hx hb d_Mo_get_215 hl (by decide) rfl (fun ls hl => ?_)
        have hl : lv_has ls 9 [(6, .int (nI (40 * bk L))), (5, .int (nI (bk L))), (4, .int (nI h0)), (3, .int (nI (40 * L))), (0, .ref m0), (1, .int (nI L)), (2, .int (nI j))] := hl
        exact loop3 (o0 - i) 0 H locs ls (by omega) hP hS (lv_sub hl [0, 1, 2, 3, 4, 5, 6] rfl)
    | succ t ih =>
      intro i H locs ls hi hP hS hl
      refine lv_aload_n hx hb d_Mo_get_171 rfl (lv_at hl 3 rfl) ?_
      refine g_f (v := .ref (m0 + 11)) Z kc_Mo hP hm.1 rfl 11 (by decide) wl_Mo_41 rfl rfl d_Mo_get_172 ?_
      refine lv_iload hx hb d_Mo_get_175 (lv_at hl 0 rfl) ?_
      refine la_ialdv (v := (nI (o0 - i))) hx hb hK hP 0 hm.2.2.2.2.2.2.2.2.2.2.2.1 rfl rfl (bk L) rfl hB (by decide) (a11 _ (by omega)) d_Mo_get_177 ?_
      refine lv_if_le (tgt := 210) hx hb d_Mo_get_178 rfl (fun br178 => absurd br178 (nI_nle (by omega) (by omega))) (fun br178 => ?_)
      refine lv_aload_n hx hb d_Mo_get_181 rfl (lv_at hl 3 rfl) ?_
      refine g_f (v := .ref (m0 + 3)) Z kc_Mo hP hm.1 rfl 3 (by decide) wl_Mo_17 rfl rfl d_Mo_get_182 ?_
      refine lv_iload hx hb d_Mo_get_185 (lv_at hl 0 rfl) ?_
      refine la_ialdv (v := (nI t0)) hx hb hK hP 0 hm.2.2.2.1 rfl rfl (bk L) rfl hB (by decide) (a3 _) d_Mo_get_187 ?_
      refine lv_aload_n hx hb d_Mo_get_188 rfl (lv_at hl 3 rfl) ?_
      refine g_f (v := .ref (m0 + 11)) Z kc_Mo hP hm.1 rfl 11 (by decide) wl_Mo_41 rfl rfl d_Mo_get_189 ?_
      refine lv_iload hx hb d_Mo_get_192 (lv_at hl 0 rfl) ?_
      refine la_ialdv (v := (nI (o0 - i))) hx hb hK hP 0 hm.2.2.2.2.2.2.2.2.2.2.2.1 rfl rfl (bk L) rfl hB (by decide) (a11 _ (by omega)) d_Mo_get_194 ?_
      refine lv_isub hx hb d_Mo_get_195 ?_
      rw [pk_sub (by omega)]
      refine lv_iload hx hb d_Mo_get_196 (lv_at hl 1 rfl) ?_
      refine lv_icmp_ge (tgt := 210) hx hb d_Mo_get_198 rfl (fun br198 => absurd br198 (nI_ge (by omega) (by omega))) (fun br198 => ?_)
      refine lv_aload_n hx hb d_Mo_get_201 rfl (lv_at hl 3 rfl) ?_
      refine lv_iload hx hb d_Mo_get_202 (lv_at hl 0 rfl) ?_
      refine cw_V Z kv_Mo_76 (c_Mo_forget l D E La hm (md_fgs (md_g2 mu m0 L w0) m0 (bk L) o0 i) hB (a11 _ (by omega)) (by omega) (by omega)) hP hS (fun _ h => h) (la_recv hK hP kc_Mo hm.1 rfl) [] rfl rfl hl.1 (Nat.le_of_ble_eq_true rfl) ⟨by decide, by decide⟩ ⟨Nat.le_refl _, Nat.le_refl _⟩ d_Mo_get_204 (fun H locs hP hkp hS => ?_)
      refine lv_goto (tgt := 171) hx hb d_Mo_get_207 rfl ?_
      exact ih (i + 1) H locs ls (by omega) hP hS hl
  have e5 : ∀ i, md_sh5 (md_gA mu m0 L w0) m0 L i (m0 + 5) L = nI (w0 - 1) := fun i => by rw [md_sh5_n (by omega) (by omega) (by omega) (by omega) (by omega)]; exact la_up_s
  have e6 : ∀ i, md_sh5 (md_gA mu m0 L w0) m0 L i (m0 + 6) (40 * L + i + 1) = (md_gA mu m0 L w0) (m0 + 6) (40 * L + i + 1) := fun i => by rw [md_sh5_6, pk_cpy_out (by omega)]
  have e7 : ∀ i, md_sh5 (md_gA mu m0 L w0) m0 L i (m0 + 7) (40 * L + i + 1) = (md_gA mu m0 L w0) (m0 + 7) (40 * L + i + 1) := fun i => by rw [md_sh5_7, pk_cpy_out (by omega)]
  have e8 : ∀ i, md_sh5 (md_gA mu m0 L w0) m0 L i (m0 + 8) (40 * L + i + 1) = (md_gA mu m0 L w0) (m0 + 8) (40 * L + i + 1) := fun i => by rw [md_sh5_8, pk_cpy_out (by omega)]
  have e9 : ∀ i, md_sh5 (md_gA mu m0 L w0) m0 L i (m0 + 9) (40 * L + i + 1) = (md_gA mu m0 L w0) (m0 + 9) (40 * L + i + 1) := fun i => by rw [md_sh5_9, pk_cpy_out (by omega)]
  have e10 : ∀ i, md_sh5 (md_gA mu m0 L w0) m0 L i (m0 + 10) (40 * L + i + 1) = (md_gA mu m0 L w0) (m0 + 10) (40 * L + i + 1) := fun i => by rw [md_sh5_10, pk_cpy_out (by omega)]
  have loop1 : ∀ (t i : Nat) (H : Heap) (locs : List Loc) (ls : Array Slot), i + t = w0 - 1 → la_P D cls5 La (md_sh5 (md_gA mu m0 L w0) m0 L i) H → va_S (la_A La) s.heap H locs → lv_has ls 9 [(5, .int (nI (40 * L + i))), (4, .int (nI h0)), (3, .int (nI (40 * L))), (0, .ref m0), (1, .int (nI L)), (2, .int (nI j))] → W p l e (rmm 1 25) s m ([.ref m0, .int (nI L), .int (nI j)] : List Value).toArray below meth c H locs 0 0 (MQ below (cw_Q none (la_P D cls5 La (md_get mu m0 L w0 o0 d0 j kd q n cx g)) (la_A La)) ([.ref m0, .int (nI L), .int (nI j)] : List Value).toArray s 0 0 (la_A La)) (F0 m 66 ls []) := by
    intro t
    induction t with
    | zero =>
      intro i H locs ls hi hP hS hl
      have hia : i = w0 - 1 := by omega
      subst hia
      have hP : la_P D cls5 La (md_g2 mu m0 L w0) H := hP
      refine lv_iload hx hb d_Mo_get_66 (lv_at hl 0 rfl) ?_
      refine lv_iload_n hx hb d_Mo_get_68 rfl (lv_at hl 2 rfl) ?_
      refine lv_aload_n hx hb d_Mo_get_69 rfl (lv_at hl 3 rfl) ?_
      refine g_f (v := .ref (m0 + 5)) Z kc_Mo hP hm.1 rfl 5 (by decide) wl_Mo_23 rfl rfl d_Mo_get_70 ?_
      refine lv_iload_n hx hb d_Mo_get_73 rfl (lv_at hl 4 rfl) ?_
      refine la_ialdv (v := (nI (w0 - 1))) hx hb hK hP 0 hm.2.2.2.2.2.1 rfl rfl L rfl hL (by decide) (e5 _) d_Mo_get_74 ?_
      refine lv_iadd hx hb d_Mo_get_75 ?_
      rw [nI_add]
      refine lv_icmp_ge (tgt := 165) hx hb d_Mo_get_76 rfl (fun br76 => ?_) (fun br76 => absurd (nI_le (Nat.le_refl _) (by omega)) br76)
      refine lv_iload_n hx hb d_Mo_get_165 rfl (lv_at hl 4 rfl) ?_
      refine cr_S Z ks_Mo_72 (c_Mo_back l D E La (md_g2 mu m0 L w0) hL) hP [] rfl rfl hl.1 (Nat.le_of_ble_eq_true rfl) ⟨by decide, by decide⟩ ⟨Nat.le_refl _, Nat.le_refl _⟩ d_Mo_get_166 ?_
      refine lv_istore hx hb d_Mo_get_169 hl (by decide) rfl (fun ls hl => ?_)
      have hl : lv_has ls 9 [(5, .int (nI (bk L))), (4, .int (nI h0)), (3, .int (nI (40 * L))), (0, .ref m0), (1, .int (nI L)), (2, .int (nI j))] := hl
      exact loop2 d0 0 H locs ls (by omega) hP hS hl
    | succ t ih =>
      intro i H locs ls hi hP hS hl
      refine lv_iload hx hb d_Mo_get_66 (lv_at hl 0 rfl) ?_
      refine lv_iload_n hx hb d_Mo_get_68 rfl (lv_at hl 2 rfl) ?_
      refine lv_aload_n hx hb d_Mo_get_69 rfl (lv_at hl 3 rfl) ?_
      refine g_f (v := .ref (m0 + 5)) Z kc_Mo hP hm.1 rfl 5 (by decide) wl_Mo_23 rfl rfl d_Mo_get_70 ?_
      refine lv_iload_n hx hb d_Mo_get_73 rfl (lv_at hl 4 rfl) ?_
      refine la_ialdv (v := (nI (w0 - 1))) hx hb hK hP 0 hm.2.2.2.2.2.1 rfl rfl L rfl hL (by decide) (e5 _) d_Mo_get_74 ?_
      refine lv_iadd hx hb d_Mo_get_75 ?_
      rw [nI_add]
      refine lv_icmp_ge (tgt := 165) hx hb d_Mo_get_76 rfl (fun br76 => absurd br76 (nI_ge (by omega) (by omega))) (fun br76 => ?_)
      refine lv_aload_n hx hb d_Mo_get_79 rfl (lv_at hl 3 rfl) ?_
      refine g_f (v := .ref (m0 + 6)) Z kc_Mo hP hm.1 rfl 6 (by decide) wl_Mo_26 rfl rfl d_Mo_get_80 ?_
      refine lv_iload hx hb d_Mo_get_83 (lv_at hl 0 rfl) ?_
      refine lv_aload_n hx hb d_Mo_get_85 rfl (lv_at hl 3 rfl) ?_
      refine g_f (v := .ref (m0 + 6)) Z kc_Mo hP hm.1 rfl 6 (by decide) wl_Mo_26 rfl rfl d_Mo_get_86 ?_
      refine lv_iload hx hb d_Mo_get_89 (lv_at hl 0 rfl) ?_
      refine lv_iconst (v := 1) hx hb d_Mo_get_91 (by decide) ?_
      refine lv_iadd hx hb d_Mo_get_92 ?_
      rw [nI_1]
      refine la_ialdv (v := ((md_gA mu m0 L w0) (m0 + 6) (40 * L + i + 1))) hx hb hK hP 0 hm.2.2.2.2.2.2.1 rfl rfl (40 * L + i + 1) rfl (by omega) (by decide) (e6 i) d_Mo_get_93 ?_
      refine la_iast hx hb hK hP hS 0 hm.2.2.2.2.2.2.1 (fun _ => rfl) rfl (40 * L + i) rfl (by omega) (by decide) d_Mo_get_94 (fun H locs hP hS => ?_)
      refine lv_aload_n hx hb d_Mo_get_95 rfl (lv_at hl 3 rfl) ?_
      refine g_f (v := .ref (m0 + 7)) Z kc_Mo hP hm.1 rfl 7 (by decide) wl_Mo_29 rfl rfl d_Mo_get_96 ?_
      refine lv_iload hx hb d_Mo_get_99 (lv_at hl 0 rfl) ?_
      refine lv_aload_n hx hb d_Mo_get_101 rfl (lv_at hl 3 rfl) ?_
      refine g_f (v := .ref (m0 + 7)) Z kc_Mo hP hm.1 rfl 7 (by decide) wl_Mo_29 rfl rfl d_Mo_get_102 ?_
      refine lv_iload hx hb d_Mo_get_105 (lv_at hl 0 rfl) ?_
      refine lv_iconst (v := 1) hx hb d_Mo_get_107 (by decide) ?_
      refine lv_iadd hx hb d_Mo_get_108 ?_
      rw [nI_1]
      refine la_ialdv (v := ((md_gA mu m0 L w0) (m0 + 7) (40 * L + i + 1))) hx hb hK hP 0 hm.2.2.2.2.2.2.2.1 rfl rfl (40 * L + i + 1) rfl (by omega) (by decide) ((congrFun (la_up_n (by omega)) (40 * L + i + 1)).trans (e7 i)) d_Mo_get_109 ?_
      refine la_iast hx hb hK hP hS 0 hm.2.2.2.2.2.2.2.1 (fun _ => rfl) rfl (40 * L + i) rfl (by omega) (by decide) d_Mo_get_110 (fun H locs hP hS => ?_)
      refine lv_aload_n hx hb d_Mo_get_111 rfl (lv_at hl 3 rfl) ?_
      refine g_f (v := .ref (m0 + 8)) Z kc_Mo hP hm.1 rfl 8 (by decide) wl_Mo_32 rfl rfl d_Mo_get_112 ?_
      refine lv_iload hx hb d_Mo_get_115 (lv_at hl 0 rfl) ?_
      refine lv_aload_n hx hb d_Mo_get_117 rfl (lv_at hl 3 rfl) ?_
      refine g_f (v := .ref (m0 + 8)) Z kc_Mo hP hm.1 rfl 8 (by decide) wl_Mo_32 rfl rfl d_Mo_get_118 ?_
      refine lv_iload hx hb d_Mo_get_121 (lv_at hl 0 rfl) ?_
      refine lv_iconst (v := 1) hx hb d_Mo_get_123 (by decide) ?_
      refine lv_iadd hx hb d_Mo_get_124 ?_
      rw [nI_1]
      refine la_ialdv (v := ((md_gA mu m0 L w0) (m0 + 8) (40 * L + i + 1))) hx hb hK hP 0 hm.2.2.2.2.2.2.2.2.1 rfl rfl (40 * L + i + 1) rfl (by omega) (by decide) (((congrFun (la_up_n (by omega)) (40 * L + i + 1)).trans (congrFun (la_up_n (by omega)) (40 * L + i + 1))).trans (e8 i)) d_Mo_get_125 ?_
      refine la_iast hx hb hK hP hS 0 hm.2.2.2.2.2.2.2.2.1 (fun _ => rfl) rfl (40 * L + i) rfl (by omega) (by decide) d_Mo_get_126 (fun H locs hP hS => ?_)
      refine lv_aload_n hx hb d_Mo_get_127 rfl (lv_at hl 3 rfl) ?_
      refine g_f (v := .ref (m0 + 9)) Z kc_Mo hP hm.1 rfl 9 (by decide) wl_Mo_35 rfl rfl d_Mo_get_128 ?_
      refine lv_iload hx hb d_Mo_get_131 (lv_at hl 0 rfl) ?_
      refine lv_aload_n hx hb d_Mo_get_133 rfl (lv_at hl 3 rfl) ?_
      refine g_f (v := .ref (m0 + 9)) Z kc_Mo hP hm.1 rfl 9 (by decide) wl_Mo_35 rfl rfl d_Mo_get_134 ?_
      refine lv_iload hx hb d_Mo_get_137 (lv_at hl 0 rfl) ?_
      refine lv_iconst (v := 1) hx hb d_Mo_get_139 (by decide) ?_
      refine lv_iadd hx hb d_Mo_get_140 ?_
      rw [nI_1]
      refine la_ialdv (v := ((md_gA mu m0 L w0) (m0 + 9) (40 * L + i + 1))) hx hb hK hP 0 hm.2.2.2.2.2.2.2.2.2.1 rfl rfl (40 * L + i + 1) rfl (by omega) (by decide) (((congrFun (la_up_n (by omega)) (40 * L + i + 1)).trans ((congrFun (la_up_n (by omega)) (40 * L + i + 1)).trans (congrFun (la_up_n (by omega)) (40 * L + i + 1)))).trans (e9 i)) d_Mo_get_141 ?_
      refine la_iast hx hb hK hP hS 0 hm.2.2.2.2.2.2.2.2.2.1 (fun _ => rfl) rfl (40 * L + i) rfl (by omega) (by decide) d_Mo_get_142 (fun H locs hP hS => ?_)
      refine lv_aload_n hx hb d_Mo_get_143 rfl (lv_at hl 3 rfl) ?_
      refine g_f (v := .ref (m0 + 10)) Z kc_Mo hP hm.1 rfl 10 (by decide) wl_Mo_38 rfl rfl d_Mo_get_144 ?_
      refine lv_iload hx hb d_Mo_get_147 (lv_at hl 0 rfl) ?_
      refine lv_aload_n hx hb d_Mo_get_149 rfl (lv_at hl 3 rfl) ?_
      refine g_f (v := .ref (m0 + 10)) Z kc_Mo hP hm.1 rfl 10 (by decide) wl_Mo_38 rfl rfl d_Mo_get_150 ?_
      refine lv_iload hx hb d_Mo_get_153 (lv_at hl 0 rfl) ?_
      refine lv_iconst (v := 1) hx hb d_Mo_get_155 (by decide) ?_
      refine lv_iadd hx hb d_Mo_get_156 ?_
      rw [nI_1]
      refine la_ialdv (v := ((md_gA mu m0 L w0) (m0 + 10) (40 * L + i + 1))) hx hb hK hP 0 hm.2.2.2.2.2.2.2.2.2.2.1 rfl rfl (40 * L + i + 1) rfl (by omega) (by decide) (((congrFun (la_up_n (by omega)) (40 * L + i + 1)).trans ((congrFun (la_up_n (by omega)) (40 * L + i + 1)).trans ((congrFun (la_up_n (by omega)) (40 * L + i + 1)).trans (congrFun (la_up_n (by omega)) (40 * L + i + 1))))).trans (e10 i)) d_Mo_get_157 ?_
      refine la_iast hx hb hK hP hS 0 hm.2.2.2.2.2.2.2.2.2.2.1 (fun _ => rfl) rfl (40 * L + i) rfl (by omega) (by decide) d_Mo_get_158 (fun H locs hP hS => ?_)
      refine lv_iinc (k := 0) (v := (nI (40 * L + (i + 1)))) hx hb d_Mo_get_159 hl rfl (nI_1 _) (by decide) rfl (fun ls hl => ?_)
      have hl : lv_has ls 9 [(5, .int (nI (40 * L + (i + 1)))), (4, .int (nI h0)), (3, .int (nI (40 * L))), (0, .ref m0), (1, .int (nI L)), (2, .int (nI j))] := hl
      refine lv_goto (tgt := 66) hx hb d_Mo_get_162 rfl ?_
      exact ih (i + 1) H locs ls (by omega) (cvm hP (md_sh5_s _ _ _ _)) hS hl
  refine lv_bipush (v := 40) hx hb d_Mo_get_0 (by decide) ?_
  refine lv_iload_n hx hb d_Mo_get_2 rfl (lv_at hl 1 rfl) ?_
  refine lv_imul hx hb d_Mo_get_3 ?_
  rw [show (40 : Int32) * nI L = nI (40 * L) from pk_mul 40 L]
  refine lv_istore_n hx hb d_Mo_get_4 rfl hl (by decide) rfl (fun ls hl => ?_)
  have hl : lv_has ls 9 [(3, .int (nI (40 * L))), (0, .ref m0), (1, .int (nI L)), (2, .int (nI j))] := hl
  refine lv_aload_n hx hb d_Mo_get_5 rfl (lv_at hl 1 rfl) ?_
  refine lv_aload_n hx hb d_Mo_get_6 rfl (lv_at hl 1 rfl) ?_
  refine g_f (v := .ref (m0 + 6)) Z kc_Mo hP hm.1 rfl 6 (by decide) wl_Mo_26 rfl rfl d_Mo_get_7 ?_
  refine lv_iload_n hx hb d_Mo_get_10 rfl (lv_at hl 0 rfl) ?_
  refine la_iald hx hb hK hP 0 hm.2.2.2.2.2.2.1 rfl rfl (40 * L) rfl (by omega) (by decide) d_Mo_get_11 ?_
  refine p_f Z kc_Mo hP hS hm.1 rfl 16 (by decide) wl_Mo_60 rfl rfl ⟨rfl, rfl⟩ (Nat.le_of_ble_eq_true rfl) rfl d_Mo_get_12 (fun H locs hP hS => ?_)
  refine lv_aload_n hx hb d_Mo_get_15 rfl (lv_at hl 1 rfl) ?_
  refine lv_aload_n hx hb d_Mo_get_16 rfl (lv_at hl 1 rfl) ?_
  refine g_f (v := .ref (m0 + 7)) Z kc_Mo hP hm.1 rfl 7 (by decide) wl_Mo_29 rfl rfl d_Mo_get_17 ?_
  refine lv_iload_n hx hb d_Mo_get_20 rfl (lv_at hl 0 rfl) ?_
  refine la_ialdv (v := (mu (m0 + 7) (40 * L))) hx hb hK hP 0 hm.2.2.2.2.2.2.2.1 rfl rfl (40 * L) rfl (by omega) (by decide) (congrFun (la_up_n (by omega)) (40 * L)) d_Mo_get_21 ?_
  refine p_f Z kc_Mo hP hS hm.1 rfl 17 (by decide) wl_Mo_63 rfl rfl ⟨rfl, rfl⟩ (Nat.le_of_ble_eq_true rfl) rfl d_Mo_get_22 (fun H locs hP hS => ?_)
  refine lv_aload_n hx hb d_Mo_get_25 rfl (lv_at hl 1 rfl) ?_
  refine lv_aload_n hx hb d_Mo_get_26 rfl (lv_at hl 1 rfl) ?_
  refine g_f (v := .ref (m0 + 8)) Z kc_Mo hP hm.1 rfl 8 (by decide) wl_Mo_32 rfl rfl d_Mo_get_27 ?_
  refine lv_iload_n hx hb d_Mo_get_30 rfl (lv_at hl 0 rfl) ?_
  refine la_ialdv (v := (mu (m0 + 8) (40 * L))) hx hb hK hP 0 hm.2.2.2.2.2.2.2.2.1 rfl rfl (40 * L) rfl (by omega) (by decide) ((congrFun (la_up_n (by omega)) (40 * L)).trans (congrFun (la_up_n (by omega)) (40 * L))) d_Mo_get_31 ?_
  refine p_f Z kc_Mo hP hS hm.1 rfl 18 (by decide) wl_Mo_66 rfl rfl ⟨rfl, rfl⟩ (Nat.le_of_ble_eq_true rfl) rfl d_Mo_get_32 (fun H locs hP hS => ?_)
  refine lv_aload_n hx hb d_Mo_get_35 rfl (lv_at hl 1 rfl) ?_
  refine lv_aload_n hx hb d_Mo_get_36 rfl (lv_at hl 1 rfl) ?_
  refine g_f (v := .ref (m0 + 9)) Z kc_Mo hP hm.1 rfl 9 (by decide) wl_Mo_35 rfl rfl d_Mo_get_37 ?_
  refine lv_iload_n hx hb d_Mo_get_40 rfl (lv_at hl 0 rfl) ?_
  refine la_ialdv (v := (mu (m0 + 9) (40 * L))) hx hb hK hP 0 hm.2.2.2.2.2.2.2.2.2.1 rfl rfl (40 * L) rfl (by omega) (by decide) ((congrFun (la_up_n (by omega)) (40 * L)).trans ((congrFun (la_up_n (by omega)) (40 * L)).trans (congrFun (la_up_n (by omega)) (40 * L)))) d_Mo_get_41 ?_
  refine p_f Z kc_Mo hP hS hm.1 rfl 19 (by decide) wl_Mo_69 rfl rfl ⟨rfl, rfl⟩ (Nat.le_of_ble_eq_true rfl) rfl d_Mo_get_42 (fun H locs hP hS => ?_)
  refine lv_aload_n hx hb d_Mo_get_45 rfl (lv_at hl 1 rfl) ?_
  refine g_f (v := .ref (m0 + 10)) Z kc_Mo hP hm.1 rfl 10 (by decide) wl_Mo_38 rfl rfl d_Mo_get_46 ?_
  refine lv_iload_n hx hb d_Mo_get_49 rfl (lv_at hl 0 rfl) ?_
  refine la_ialdv (v := (nI h0)) hx hb hK hP 0 hm.2.2.2.2.2.2.2.2.2.2.1 rfl rfl (40 * L) rfl (by omega) (by decide) (((congrFun (la_up_n (by omega)) (40 * L)).trans ((congrFun (la_up_n (by omega)) (40 * L)).trans ((congrFun (la_up_n (by omega)) (40 * L)).trans (congrFun (la_up_n (by omega)) (40 * L))))).trans hh) d_Mo_get_50 ?_
  refine lv_istore hx hb d_Mo_get_51 hl (by decide) rfl (fun ls hl => ?_)
  have hl : lv_has ls 9 [(4, .int (nI h0)), (3, .int (nI (40 * L))), (0, .ref m0), (1, .int (nI L)), (2, .int (nI j))] := hl
  refine lv_aload_n hx hb d_Mo_get_53 rfl (lv_at hl 2 rfl) ?_
  refine g_f (v := .ref (m0 + 5)) Z kc_Mo hP hm.1 rfl 5 (by decide) wl_Mo_23 rfl rfl d_Mo_get_54 ?_
  refine lv_iload_n hx hb d_Mo_get_57 rfl (lv_at hl 3 rfl) ?_
  refine lv_dup2_11 hx hb d_Mo_get_58 rfl rfl ?_
  refine la_ialdv (v := (nI w0)) hx hb hK hP 0 hm.2.2.2.2.2.1 rfl rfl L rfl hL (by decide) (((congrFun (la_up_n (by omega)) L).trans ((congrFun (la_up_n (by omega)) L).trans ((congrFun (la_up_n (by omega)) L).trans (congrFun (la_up_n (by omega)) L)))).trans hw) d_Mo_get_59 ?_
  refine lv_iconst (v := 1) hx hb d_Mo_get_60 (by decide) ?_
  refine lv_isub hx hb d_Mo_get_61 ?_
  rw [nI_s1 (by omega)]
  refine la_iast hx hb hK hP hS 0 hm.2.2.2.2.2.1 (fun _ => rfl) rfl L rfl hL (by decide) d_Mo_get_62 (fun H locs hP hS => ?_)
  refine lv_iload_n hx hb d_Mo_get_63 rfl (lv_at hl 1 rfl) ?_
  refine lv_istore hx hb d_Mo_get_64 hl (by decide) rfl (fun ls hl => ?_)
  have hl : lv_has ls 9 [(5, .int (nI (40 * L))), (4, .int (nI h0)), (3, .int (nI (40 * L))), (0, .ref m0), (1, .int (nI L)), (2, .int (nI j))] := hl
  exact loop1 (w0 - 1) 0 H locs ls (by omega) (cvm hP (md_sh5_0 _ _ _).symm) hS hl
