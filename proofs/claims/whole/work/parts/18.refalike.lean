/-! The reference's alike (written by wip/whole/p18.py) -/
def md_sm (mu : la_M) (m0 : Nat) (nn : Nat → Nat) (j : Nat) : Prop := nn j = nn 0 ∧ ∀ i, i < nn 0 → mu (m0 + 2) i = mu (m0 + 2) (200 * j + i)
set_option maxHeartbeats 4000000 in
set_option maxRecDepth 100000 in
theorem c_Mo_alike (l : Launch) (D : va_G) (E : Nat → ClassId) (La : la_L) {m0 : Nat} (hm : isMo E La m0) (mu : la_M) {nn : Nat → Nat} (hn : ∀ j, j < 4 → mu (m0 + 1) j = nI (nn j)) (h64 : ∀ j, j < 4 → nn j ≤ 64) {v : Int32} (hv1 : (∀ j, 1 ≤ j → j ≤ 3 → md_sm mu m0 nn j) → v = 1) (hv0 : ∀ j, 1 ≤ j → j ≤ 3 → ¬ md_sm mu m0 nn j → v = 0) : cw l y_Mo_alike b_Mo_alike 4 (some .boolean) 0 0 D E La [.ref m0] mu (some (.int v)) (la_up mu m0 0 0) := by
  refine cw_begin R_Mo (by decide) rfl (Nat.le_of_ble_eq_true rfl) ?_
  intro p e s m below meth c ls Z hr hlocks hP hS hl
  have hx := Z.1
  have hb := Z.2.1
  have hK : va_K D cls5 (tyE E) s := Z.2.2.2.2.2
  have hl : lv_has ls 4 [(0, .ref m0)] := hl
  refine lv_aload_n hx hb d_Mo_alike_0 rfl (lv_at hl 0 rfl) ?_
  refine lv_iconst (v := 0) hx hb d_Mo_alike_1 (by decide) ?_
  refine p_f Z kc_Mo hP hS hm.1 rfl 0 (by decide) wl_Mo_56 rfl rfl ⟨rfl, rfl⟩ (Nat.le_of_ble_eq_true rfl) rfl d_Mo_alike_2 (fun H locs hP hS => ?_)
  have z0 := h64 0 (by decide)
  have inner : ∀ (j : Nat), 1 ≤ j → j ≤ 3 → ∀ (t i : Nat) (ls : Array Slot), i + t = nn 0 → lv_has ls 4 [(3, .int (nI i)), (1, .int 1), (2, .int (nI j)), (0, .ref m0)] → ((∀ i9, i ≤ i9 → i9 < nn 0 → mu (m0 + 2) i9 = mu (m0 + 2) (200 * j + i9)) → ∀ ls, lv_has ls 4 [(1, .int 1), (2, .int (nI j)), (0, .ref m0)] → W p l e (rmm 0 0) s m ([.ref m0] : List Value).toArray below meth c H locs 0 0 (MQ below (cw_Q (some (.int v)) (la_P D cls5 La (la_up mu m0 0 0)) (la_A La)) ([.ref m0] : List Value).toArray s 0 0 (la_A La)) (F0 m 88 ls [])) → ((∃ i9, i ≤ i9 ∧ i9 < nn 0 ∧ ¬ mu (m0 + 2) i9 = mu (m0 + 2) (200 * j + i9)) → ∀ ls, lv_has ls 4 [(1, .int 0), (2, .int (nI j)), (0, .ref m0)] → W p l e (rmm 0 0) s m ([.ref m0] : List Value).toArray below meth c H locs 0 0 (MQ below (cw_Q (some (.int v)) (la_P D cls5 La (la_up mu m0 0 0)) (la_A La)) ([.ref m0] : List Value).toArray s 0 0 (la_A La)) (F0 m 88 ls [])) → W p l e (rmm 0 0) s m ([.ref m0] : List Value).toArray below meth c H locs 0 0 (MQ below (cw_Q (some (.int v)) (la_P D cls5 La (la_up mu m0 0 0)) (la_A La)) ([.ref m0] : List Value).toArray s 0 0 (la_A La)) (F0 m 41 ls []) := by
    intro j hj1 hj3 t
    induction t with
    | zero =>
      intro i ls hi hl k1 k0
      refine lv_iload_n hx hb d_Mo_alike_41 rfl (lv_at hl 0 rfl) ?_
      refine lv_aload_n hx hb d_Mo_alike_42 rfl (lv_at hl 3 rfl) ?_
      refine g_f (v := .ref (m0 + 1)) Z kc_Mo hP hm.1 rfl 1 (by decide) wl_Mo_7 rfl rfl d_Mo_alike_43 ?_
      refine lv_iconst (v := 0) hx hb d_Mo_alike_46 (by decide) ?_
      refine la_ialdv (v := (nI (nn 0))) hx hb hK hP 0 hm.2.1 rfl rfl 0 rfl (by decide) (by decide) ((congrFun (la_up_n (by omega)) 0).trans (hn 0 (by decide))) d_Mo_alike_47 ?_
      refine lv_icmp_ge (tgt := 88) hx hb d_Mo_alike_48 rfl (fun br48 => ?_) (fun br48 => absurd (nI_le (by omega) (by omega)) br48)
      exact k1 (fun i9 h1 h2 => by omega) ls (lv_sub hl [1, 2, 3] rfl)
    | succ t ih =>
      intro i ls hi hl k1 k0
      refine lv_iload_n hx hb d_Mo_alike_41 rfl (lv_at hl 0 rfl) ?_
      refine lv_aload_n hx hb d_Mo_alike_42 rfl (lv_at hl 3 rfl) ?_
      refine g_f (v := .ref (m0 + 1)) Z kc_Mo hP hm.1 rfl 1 (by decide) wl_Mo_7 rfl rfl d_Mo_alike_43 ?_
      refine lv_iconst (v := 0) hx hb d_Mo_alike_46 (by decide) ?_
      refine la_ialdv (v := (nI (nn 0))) hx hb hK hP 0 hm.2.1 rfl rfl 0 rfl (by decide) (by decide) ((congrFun (la_up_n (by omega)) 0).trans (hn 0 (by decide))) d_Mo_alike_47 ?_
      refine lv_icmp_ge (tgt := 88) hx hb d_Mo_alike_48 rfl (fun br48 => absurd br48 (nI_ge (by omega) (by omega))) (fun br48 => ?_)
      refine lv_iload_n hx hb d_Mo_alike_51 rfl (lv_at hl 1 rfl) ?_
      refine lv_if_eq (tgt := 88) hx hb d_Mo_alike_52 rfl (fun br52 => absurd br52 (by decide)) (fun br52 => ?_)
      refine lv_aload_n hx hb d_Mo_alike_55 rfl (lv_at hl 3 rfl) ?_
      refine g_f (v := .ref (m0 + 2)) Z kc_Mo hP hm.1 rfl 2 (by decide) wl_Mo_13 rfl rfl d_Mo_alike_56 ?_
      refine lv_iload_n hx hb d_Mo_alike_59 rfl (lv_at hl 0 rfl) ?_
      refine la_caldv (v := (mu (m0 + 2) i)) hx hb hK hP 1 hm.2.2.1 rfl rfl i rfl (by omega) (by decide) (congrFun (la_up_n (by omega)) i) d_Mo_alike_60 ?_
      refine lv_aload_n hx hb d_Mo_alike_61 rfl (lv_at hl 3 rfl) ?_
      refine g_f (v := .ref (m0 + 2)) Z kc_Mo hP hm.1 rfl 2 (by decide) wl_Mo_13 rfl rfl d_Mo_alike_62 ?_
      refine lv_sipush (v := 200) hx hb d_Mo_alike_65 (by decide) ?_
      refine lv_iload_n hx hb d_Mo_alike_68 rfl (lv_at hl 2 rfl) ?_
      refine lv_imul hx hb d_Mo_alike_69 ?_
      rw [show (200 : Int32) * nI j = nI (200 * j) from pk_mul 200 j]
      refine lv_iload_n hx hb d_Mo_alike_70 rfl (lv_at hl 0 rfl) ?_
      refine lv_iadd hx hb d_Mo_alike_71 ?_
      rw [nI_add]
      refine la_caldv (v := (mu (m0 + 2) (200 * j + i))) hx hb hK hP 1 hm.2.2.1 rfl rfl (200 * j + i) rfl (by omega) (by decide) (congrFun (la_up_n (by omega)) (200 * j + i)) d_Mo_alike_72 ?_
      refine lv_icmp_ne (tgt := 80) hx hb d_Mo_alike_73 rfl (fun br73 => ?_) (fun br73 => ?_)
      · skip
        refine lv_iconst (v := 0) hx hb d_Mo_alike_80 (by decide) ?_
        refine lv_istore_n hx hb d_Mo_alike_81 rfl hl (by decide) rfl (fun ls hl => ?_)
        have hl : lv_has ls 4 [(1, .int 0), (3, .int (nI i)), (2, .int (nI j)), (0, .ref m0)] := hl
        refine lv_iinc (k := 1) (v := (nI (i + 1))) hx hb d_Mo_alike_82 hl rfl (nI_1 i) (by decide) rfl (fun ls hl => ?_)
        have hl : lv_has ls 4 [(3, .int (nI (i + 1))), (1, .int 0), (2, .int (nI j)), (0, .ref m0)] := hl
        refine lv_goto (tgt := 41) hx hb d_Mo_alike_85 rfl ?_
        refine lv_iload_n hx hb d_Mo_alike_41 rfl (lv_at hl 0 rfl) ?_
        refine lv_aload_n hx hb d_Mo_alike_42 rfl (lv_at hl 3 rfl) ?_
        refine g_f (v := .ref (m0 + 1)) Z kc_Mo hP hm.1 rfl 1 (by decide) wl_Mo_7 rfl rfl d_Mo_alike_43 ?_
        refine lv_iconst (v := 0) hx hb d_Mo_alike_46 (by decide) ?_
        refine la_ialdv (v := (nI (nn 0))) hx hb hK hP 0 hm.2.1 rfl rfl 0 rfl (by decide) (by decide) ((congrFun (la_up_n (by omega)) 0).trans (hn 0 (by decide))) d_Mo_alike_47 ?_
        refine lv_icmp_ge (tgt := 88) hx hb d_Mo_alike_48 rfl (fun br48 => ?_) (fun br48 => ?_)
        · skip
          exact k0 ⟨i, Nat.le_refl _, by omega, br73⟩ ls (lv_sub hl [1, 2, 3] rfl)
        · skip
          refine lv_iload_n hx hb d_Mo_alike_51 rfl (lv_at hl 1 rfl) ?_
          refine lv_if_eq (tgt := 88) hx hb d_Mo_alike_52 rfl (fun br52 => ?_) (fun br52 => absurd (rfl) br52)
          exact k0 ⟨i, Nat.le_refl _, by omega, br73⟩ ls (lv_sub hl [1, 2, 3] rfl)
      · skip
        refine lv_iconst (v := 1) hx hb d_Mo_alike_76 (by decide) ?_
        refine lv_goto (tgt := 81) hx hb d_Mo_alike_77 rfl ?_
        refine lv_istore_n hx hb d_Mo_alike_81 rfl hl (by decide) rfl (fun ls hl => ?_)
        have hl : lv_has ls 4 [(1, .int 1), (3, .int (nI i)), (2, .int (nI j)), (0, .ref m0)] := hl
        refine lv_iinc (k := 1) (v := (nI (i + 1))) hx hb d_Mo_alike_82 hl rfl (nI_1 i) (by decide) rfl (fun ls hl => ?_)
        have hl : lv_has ls 4 [(3, .int (nI (i + 1))), (1, .int 1), (2, .int (nI j)), (0, .ref m0)] := hl
        refine lv_goto (tgt := 41) hx hb d_Mo_alike_85 rfl ?_
        exact ih (i + 1) ls (by omega) hl (fun h => k1 (fun i9 h1 h2 => (Nat.eq_or_lt_of_le h1).elim (fun h9 => by subst h9; exact br73) (fun h9 => h i9 h9 h2))) (fun ⟨i9, h1, h2, h3⟩ => k0 ⟨i9, by omega, h2, h3⟩)
  have body : ∀ (j : Nat), 1 ≤ j → j ≤ 3 → ∀ (ls : Array Slot), lv_has ls 4 [(1, .int 1), (2, .int (nI j)), (0, .ref m0)] → (md_sm mu m0 nn j → ∀ ls, lv_has ls 4 [(1, .int 1), (2, .int (nI j)), (0, .ref m0)] → W p l e (rmm 0 0) s m ([.ref m0] : List Value).toArray below meth c H locs 0 0 (MQ below (cw_Q (some (.int v)) (la_P D cls5 La (la_up mu m0 0 0)) (la_A La)) ([.ref m0] : List Value).toArray s 0 0 (la_A La)) (F0 m 88 ls [])) → (¬ md_sm mu m0 nn j → ∀ ls, lv_has ls 4 [(1, .int 0), (2, .int (nI j)), (0, .ref m0)] → W p l e (rmm 0 0) s m ([.ref m0] : List Value).toArray below meth c H locs 0 0 (MQ below (cw_Q (some (.int v)) (la_P D cls5 La (la_up mu m0 0 0)) (la_A La)) ([.ref m0] : List Value).toArray s 0 0 (la_A La)) (F0 m 88 ls [])) → W p l e (rmm 0 0) s m ([.ref m0] : List Value).toArray below meth c H locs 0 0 (MQ below (cw_Q (some (.int v)) (la_P D cls5 La (la_up mu m0 0 0)) (la_A La)) ([.ref m0] : List Value).toArray s 0 0 (la_A La)) (F0 m 14 ls []) := by
    intro j hj1 hj3 ls hl k1 k0
    have zj := h64 j (by omega)
    refine lv_iload_n hx hb d_Mo_alike_14 rfl (lv_at hl 0 rfl) ?_
    refine lv_if_eq (tgt := 37) hx hb d_Mo_alike_15 rfl (fun br15 => absurd br15 (by decide)) (fun br15 => ?_)
    refine lv_aload_n hx hb d_Mo_alike_18 rfl (lv_at hl 2 rfl) ?_
    refine g_f (v := .ref (m0 + 1)) Z kc_Mo hP hm.1 rfl 1 (by decide) wl_Mo_7 rfl rfl d_Mo_alike_19 ?_
    refine lv_iload_n hx hb d_Mo_alike_22 rfl (lv_at hl 1 rfl) ?_
    refine la_ialdv (v := (nI (nn j))) hx hb hK hP 0 hm.2.1 rfl rfl j rfl (by omega) (by decide) ((congrFun (la_up_n (by omega)) j).trans (hn j (by omega))) d_Mo_alike_23 ?_
    refine lv_aload_n hx hb d_Mo_alike_24 rfl (lv_at hl 2 rfl) ?_
    refine g_f (v := .ref (m0 + 1)) Z kc_Mo hP hm.1 rfl 1 (by decide) wl_Mo_7 rfl rfl d_Mo_alike_25 ?_
    refine lv_iconst (v := 0) hx hb d_Mo_alike_28 (by decide) ?_
    refine la_ialdv (v := (nI (nn 0))) hx hb hK hP 0 hm.2.1 rfl rfl 0 rfl (by decide) (by decide) ((congrFun (la_up_n (by omega)) 0).trans (hn 0 (by decide))) d_Mo_alike_29 ?_
    refine lv_icmp_ne (tgt := 37) hx hb d_Mo_alike_30 rfl (fun br30 => ?_) (fun br30 => ?_)
    · skip
      refine lv_iconst (v := 0) hx hb d_Mo_alike_37 (by decide) ?_
      refine lv_istore_n hx hb d_Mo_alike_38 rfl hl (by decide) rfl (fun ls hl => ?_)
      have hl : lv_has ls 4 [(1, .int 0), (2, .int (nI j)), (0, .ref m0)] := hl
      refine lv_iconst (v := 0) hx hb d_Mo_alike_39 (by decide) ?_
      refine lv_istore_n hx hb d_Mo_alike_40 rfl hl (by decide) rfl (fun ls hl => ?_)
      have hl : lv_has ls 4 [(3, .int 0), (1, .int 0), (2, .int (nI j)), (0, .ref m0)] := hl
      refine lv_iload_n hx hb d_Mo_alike_41 rfl (lv_at hl 0 rfl) ?_
      refine lv_aload_n hx hb d_Mo_alike_42 rfl (lv_at hl 3 rfl) ?_
      refine g_f (v := .ref (m0 + 1)) Z kc_Mo hP hm.1 rfl 1 (by decide) wl_Mo_7 rfl rfl d_Mo_alike_43 ?_
      refine lv_iconst (v := 0) hx hb d_Mo_alike_46 (by decide) ?_
      refine la_ialdv (v := (nI (nn 0))) hx hb hK hP 0 hm.2.1 rfl rfl 0 rfl (by decide) (by decide) ((congrFun (la_up_n (by omega)) 0).trans (hn 0 (by decide))) d_Mo_alike_47 ?_
      refine lv_icmp_ge (tgt := 88) hx hb d_Mo_alike_48 rfl (fun br48 => ?_) (fun br48 => ?_)
      · skip
        exact k0 (fun h => br30 (by rw [h.1])) ls (lv_sub hl [1, 2, 3] rfl)
      · skip
        refine lv_iload_n hx hb d_Mo_alike_51 rfl (lv_at hl 1 rfl) ?_
        refine lv_if_eq (tgt := 88) hx hb d_Mo_alike_52 rfl (fun br52 => ?_) (fun br52 => absurd (rfl) br52)
        exact k0 (fun h => br30 (by rw [h.1])) ls (lv_sub hl [1, 2, 3] rfl)
    · skip
      refine lv_iconst (v := 1) hx hb d_Mo_alike_33 (by decide) ?_
      refine lv_goto (tgt := 38) hx hb d_Mo_alike_34 rfl ?_
      refine lv_istore_n hx hb d_Mo_alike_38 rfl hl (by decide) rfl (fun ls hl => ?_)
      have hl : lv_has ls 4 [(1, .int 1), (2, .int (nI j)), (0, .ref m0)] := hl
      refine lv_iconst (v := 0) hx hb d_Mo_alike_39 (by decide) ?_
      refine lv_istore_n hx hb d_Mo_alike_40 rfl hl (by decide) rfl (fun ls hl => ?_)
      have hl : lv_has ls 4 [(3, .int 0), (1, .int 1), (2, .int (nI j)), (0, .ref m0)] := hl
      exact inner j hj1 hj3 (nn 0) 0 ls (by omega) hl (fun h => k1 ⟨(nI_eq (by omega) (by omega)).mp br30, fun i9 h2 => h i9 (by omega) h2⟩) (fun ⟨i9, h1, h2, h3⟩ => k0 (fun h => h3 (h.2 i9 h2)))
  have bodz : ∀ (j : Nat), 1 ≤ j → j ≤ 3 → ∀ (ls : Array Slot), lv_has ls 4 [(1, .int 0), (2, .int (nI j)), (0, .ref m0)] → (∀ ls, lv_has ls 4 [(1, .int 0), (2, .int (nI j)), (0, .ref m0)] → W p l e (rmm 0 0) s m ([.ref m0] : List Value).toArray below meth c H locs 0 0 (MQ below (cw_Q (some (.int v)) (la_P D cls5 La (la_up mu m0 0 0)) (la_A La)) ([.ref m0] : List Value).toArray s 0 0 (la_A La)) (F0 m 88 ls [])) → W p l e (rmm 0 0) s m ([.ref m0] : List Value).toArray below meth c H locs 0 0 (MQ below (cw_Q (some (.int v)) (la_P D cls5 La (la_up mu m0 0 0)) (la_A La)) ([.ref m0] : List Value).toArray s 0 0 (la_A La)) (F0 m 14 ls []) := by
    intro j hj1 hj3 ls hl k0
    refine lv_iload_n hx hb d_Mo_alike_14 rfl (lv_at hl 0 rfl) ?_
    refine lv_if_eq (tgt := 37) hx hb d_Mo_alike_15 rfl (fun br15 => ?_) (fun br15 => absurd (rfl) br15)
    refine lv_iconst (v := 0) hx hb d_Mo_alike_37 (by decide) ?_
    refine lv_istore_n hx hb d_Mo_alike_38 rfl hl (by decide) rfl (fun ls hl => ?_)
    have hl : lv_has ls 4 [(1, .int 0), (2, .int (nI j)), (0, .ref m0)] := hl
    refine lv_iconst (v := 0) hx hb d_Mo_alike_39 (by decide) ?_
    refine lv_istore_n hx hb d_Mo_alike_40 rfl hl (by decide) rfl (fun ls hl => ?_)
    have hl : lv_has ls 4 [(3, .int 0), (1, .int 0), (2, .int (nI j)), (0, .ref m0)] := hl
    refine lv_iload_n hx hb d_Mo_alike_41 rfl (lv_at hl 0 rfl) ?_
    refine lv_aload_n hx hb d_Mo_alike_42 rfl (lv_at hl 3 rfl) ?_
    refine g_f (v := .ref (m0 + 1)) Z kc_Mo hP hm.1 rfl 1 (by decide) wl_Mo_7 rfl rfl d_Mo_alike_43 ?_
    refine lv_iconst (v := 0) hx hb d_Mo_alike_46 (by decide) ?_
    refine la_ialdv (v := (nI (nn 0))) hx hb hK hP 0 hm.2.1 rfl rfl 0 rfl (by decide) (by decide) ((congrFun (la_up_n (by omega)) 0).trans (hn 0 (by decide))) d_Mo_alike_47 ?_
    refine lv_icmp_ge (tgt := 88) hx hb d_Mo_alike_48 rfl (fun br48 => ?_) (fun br48 => ?_)
    · skip
      exact k0 ls (lv_sub hl [1, 2, 3] rfl)
    · skip
      refine lv_iload_n hx hb d_Mo_alike_51 rfl (lv_at hl 1 rfl) ?_
      refine lv_if_eq (tgt := 88) hx hb d_Mo_alike_52 rfl (fun br52 => ?_) (fun br52 => absurd (rfl) br52)
      exact k0 ls (lv_sub hl [1, 2, 3] rfl)
  refine lv_iconst (v := 1) hx hb d_Mo_alike_5 (by decide) ?_
  refine lv_istore_n hx hb d_Mo_alike_6 rfl hl (by decide) rfl (fun ls hl => ?_)
  have hl : lv_has ls 4 [(1, .int 1), (0, .ref m0)] := hl
  refine lv_iconst (v := 1) hx hb d_Mo_alike_7 (by decide) ?_
  refine lv_istore_n hx hb d_Mo_alike_8 rfl hl (by decide) rfl (fun ls hl => ?_)
  have hl : lv_has ls 4 [(2, .int 1), (1, .int 1), (0, .ref m0)] := hl
  refine lv_iload_n hx hb d_Mo_alike_9 rfl (lv_at hl 0 rfl) ?_
  refine lv_iconst (v := 3) hx hb d_Mo_alike_10 (by decide) ?_
  refine lv_icmp_gt (tgt := 94) hx hb d_Mo_alike_11 rfl (fun br11 => absurd br11 (by decide)) (fun br11 => ?_)
  refine body 1 (by decide) (by decide) ls (lv_sub hl [1, 0, 2] rfl) (fun g1 ls hl => ?_) (fun g1 ls hl => ?_)
  · skip
    have hl : lv_has ls 4 [(1, .int 1), (2, .int 1), (0, .ref m0)] := hl
    refine lv_iinc (k := 1) (v := 2) hx hb d_Mo_alike_88 hl rfl (by decide) (by decide) rfl (fun ls hl => ?_)
    have hl : lv_has ls 4 [(2, .int 2), (1, .int 1), (0, .ref m0)] := hl
    refine lv_goto (tgt := 9) hx hb d_Mo_alike_91 rfl ?_
    refine lv_iload_n hx hb d_Mo_alike_9 rfl (lv_at hl 0 rfl) ?_
    refine lv_iconst (v := 3) hx hb d_Mo_alike_10 (by decide) ?_
    refine lv_icmp_gt (tgt := 94) hx hb d_Mo_alike_11 rfl (fun br11 => absurd br11 (by decide)) (fun br11 => ?_)
    refine body 2 (by decide) (by decide) ls (lv_sub hl [1, 0, 2] rfl) (fun g2 ls hl => ?_) (fun g2 ls hl => ?_)
    · skip
      have hl : lv_has ls 4 [(1, .int 1), (2, .int 2), (0, .ref m0)] := hl
      refine lv_iinc (k := 1) (v := 3) hx hb d_Mo_alike_88 hl rfl (by decide) (by decide) rfl (fun ls hl => ?_)
      have hl : lv_has ls 4 [(2, .int 3), (1, .int 1), (0, .ref m0)] := hl
      refine lv_goto (tgt := 9) hx hb d_Mo_alike_91 rfl ?_
      refine lv_iload_n hx hb d_Mo_alike_9 rfl (lv_at hl 0 rfl) ?_
      refine lv_iconst (v := 3) hx hb d_Mo_alike_10 (by decide) ?_
      refine lv_icmp_gt (tgt := 94) hx hb d_Mo_alike_11 rfl (fun br11 => absurd br11 (by decide)) (fun br11 => ?_)
      refine body 3 (by decide) (by decide) ls (lv_sub hl [1, 0, 2] rfl) (fun g3 ls hl => ?_) (fun g3 ls hl => ?_)
      · skip
        have hl : lv_has ls 4 [(1, .int 1), (2, .int 3), (0, .ref m0)] := hl
        refine lv_iinc (k := 1) (v := 4) hx hb d_Mo_alike_88 hl rfl (by decide) (by decide) rfl (fun ls hl => ?_)
        have hl : lv_has ls 4 [(2, .int 4), (1, .int 1), (0, .ref m0)] := hl
        refine lv_goto (tgt := 9) hx hb d_Mo_alike_91 rfl ?_
        refine lv_iload_n hx hb d_Mo_alike_9 rfl (lv_at hl 0 rfl) ?_
        refine lv_iconst (v := 3) hx hb d_Mo_alike_10 (by decide) ?_
        refine lv_icmp_gt (tgt := 94) hx hb d_Mo_alike_11 rfl (fun br11 => ?_) (fun br11 => absurd (by decide) br11)
        have hvv := congrArg (fun z => Outcome.returned (some (Value.int z))) (hv1 (fun j h1 h2 => by match j, h1, h2 with | 1, _, _ => exact g1 | 2, _, _ => exact g2 | 3, _, _ => exact g3)).symm
        refine lv_iload_n hx hb d_Mo_alike_94 rfl (lv_at hl 1 rfl) ?_
        exact W.zret hx hb hr (by decide) (fun t ht hW => ⟨hvv, by rw [ht]; exact cvm hP (rfl), hS.F ht⟩) hS.2.2 d_Mo_alike_95
      · skip
        have hl : lv_has ls 4 [(1, .int 0), (2, .int 3), (0, .ref m0)] := hl
        have g0 := hv0 3 (by decide) (by decide) g3
        refine lv_iinc (k := 1) (v := 4) hx hb d_Mo_alike_88 hl rfl (by decide) (by decide) rfl (fun ls hl => ?_)
        have hl : lv_has ls 4 [(2, .int 4), (1, .int 0), (0, .ref m0)] := hl
        refine lv_goto (tgt := 9) hx hb d_Mo_alike_91 rfl ?_
        refine lv_iload_n hx hb d_Mo_alike_9 rfl (lv_at hl 0 rfl) ?_
        refine lv_iconst (v := 3) hx hb d_Mo_alike_10 (by decide) ?_
        refine lv_icmp_gt (tgt := 94) hx hb d_Mo_alike_11 rfl (fun br11 => ?_) (fun br11 => absurd (by decide) br11)
        have hvv := congrArg (fun z => Outcome.returned (some (Value.int z))) g0.symm
        refine lv_iload_n hx hb d_Mo_alike_94 rfl (lv_at hl 1 rfl) ?_
        exact W.zret hx hb hr (by decide) (fun t ht hW => ⟨hvv, by rw [ht]; exact cvm hP (rfl), hS.F ht⟩) hS.2.2 d_Mo_alike_95
    · skip
      have hl : lv_has ls 4 [(1, .int 0), (2, .int 2), (0, .ref m0)] := hl
      have g0 := hv0 2 (by decide) (by decide) g2
      refine lv_iinc (k := 1) (v := 3) hx hb d_Mo_alike_88 hl rfl (by decide) (by decide) rfl (fun ls hl => ?_)
      have hl : lv_has ls 4 [(2, .int 3), (1, .int 0), (0, .ref m0)] := hl
      refine lv_goto (tgt := 9) hx hb d_Mo_alike_91 rfl ?_
      refine lv_iload_n hx hb d_Mo_alike_9 rfl (lv_at hl 0 rfl) ?_
      refine lv_iconst (v := 3) hx hb d_Mo_alike_10 (by decide) ?_
      refine lv_icmp_gt (tgt := 94) hx hb d_Mo_alike_11 rfl (fun br11 => absurd br11 (by decide)) (fun br11 => ?_)
      refine bodz 3 (by decide) (by decide) ls (lv_sub hl [1, 0, 2] rfl) (fun ls hl => ?_)
      have hl : lv_has ls 4 [(1, .int 0), (2, .int 3), (0, .ref m0)] := hl
      refine lv_iinc (k := 1) (v := 4) hx hb d_Mo_alike_88 hl rfl (by decide) (by decide) rfl (fun ls hl => ?_)
      have hl : lv_has ls 4 [(2, .int 4), (1, .int 0), (0, .ref m0)] := hl
      refine lv_goto (tgt := 9) hx hb d_Mo_alike_91 rfl ?_
      refine lv_iload_n hx hb d_Mo_alike_9 rfl (lv_at hl 0 rfl) ?_
      refine lv_iconst (v := 3) hx hb d_Mo_alike_10 (by decide) ?_
      refine lv_icmp_gt (tgt := 94) hx hb d_Mo_alike_11 rfl (fun br11 => ?_) (fun br11 => absurd (by decide) br11)
      have hvv := congrArg (fun z => Outcome.returned (some (Value.int z))) g0.symm
      refine lv_iload_n hx hb d_Mo_alike_94 rfl (lv_at hl 1 rfl) ?_
      exact W.zret hx hb hr (by decide) (fun t ht hW => ⟨hvv, by rw [ht]; exact cvm hP (rfl), hS.F ht⟩) hS.2.2 d_Mo_alike_95
  · skip
    have hl : lv_has ls 4 [(1, .int 0), (2, .int 1), (0, .ref m0)] := hl
    have g0 := hv0 1 (by decide) (by decide) g1
    refine lv_iinc (k := 1) (v := 2) hx hb d_Mo_alike_88 hl rfl (by decide) (by decide) rfl (fun ls hl => ?_)
    have hl : lv_has ls 4 [(2, .int 2), (1, .int 0), (0, .ref m0)] := hl
    refine lv_goto (tgt := 9) hx hb d_Mo_alike_91 rfl ?_
    refine lv_iload_n hx hb d_Mo_alike_9 rfl (lv_at hl 0 rfl) ?_
    refine lv_iconst (v := 3) hx hb d_Mo_alike_10 (by decide) ?_
    refine lv_icmp_gt (tgt := 94) hx hb d_Mo_alike_11 rfl (fun br11 => absurd br11 (by decide)) (fun br11 => ?_)
    refine bodz 2 (by decide) (by decide) ls (lv_sub hl [1, 0, 2] rfl) (fun ls hl => ?_)
    have hl : lv_has ls 4 [(1, .int 0), (2, .int 2), (0, .ref m0)] := hl
    refine lv_iinc (k := 1) (v := 3) hx hb d_Mo_alike_88 hl rfl (by decide) (by decide) rfl (fun ls hl => ?_)
    have hl : lv_has ls 4 [(2, .int 3), (1, .int 0), (0, .ref m0)] := hl
    refine lv_goto (tgt := 9) hx hb d_Mo_alike_91 rfl ?_
    refine lv_iload_n hx hb d_Mo_alike_9 rfl (lv_at hl 0 rfl) ?_
    refine lv_iconst (v := 3) hx hb d_Mo_alike_10 (by decide) ?_
    refine lv_icmp_gt (tgt := 94) hx hb d_Mo_alike_11 rfl (fun br11 => absurd br11 (by decide)) (fun br11 => ?_)
    refine bodz 3 (by decide) (by decide) ls (lv_sub hl [1, 0, 2] rfl) (fun ls hl => ?_)
    have hl : lv_has ls 4 [(1, .int 0), (2, .int 3), (0, .ref m0)] := hl
    refine lv_iinc (k := 1) (v := 4) hx hb d_Mo_alike_88 hl rfl (by decide) (by decide) rfl (fun ls hl => ?_)
    have hl : lv_has ls 4 [(2, .int 4), (1, .int 0), (0, .ref m0)] := hl
    refine lv_goto (tgt := 9) hx hb d_Mo_alike_91 rfl ?_
    refine lv_iload_n hx hb d_Mo_alike_9 rfl (lv_at hl 0 rfl) ?_
    refine lv_iconst (v := 3) hx hb d_Mo_alike_10 (by decide) ?_
    refine lv_icmp_gt (tgt := 94) hx hb d_Mo_alike_11 rfl (fun br11 => ?_) (fun br11 => absurd (by decide) br11)
    have hvv := congrArg (fun z => Outcome.returned (some (Value.int z))) g0.symm
    refine lv_iload_n hx hb d_Mo_alike_94 rfl (lv_at hl 1 rfl) ?_
    exact W.zret hx hb hr (by decide) (fun t ht hW => ⟨hvv, by rw [ht]; exact cvm hP (rfl), hS.F ht⟩) hS.2.2 d_Mo_alike_95
