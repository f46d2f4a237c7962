/-! The constructors (written by wip/whole/p23.py) -/
theorem nA_own {a N : Nat} {x : va_E} : nA (s1 a x) N a := Or.inl (by rw [s1_s]; exact fun h => nomatch h)
theorem nA_sub {a v N M : Nat} {x y : va_E} (h1 : N ≤ v) (h2 : N ≤ M) : ∀ q, nA (s1 v y) M q → nA (s1 a x) N q := by
  intro q h
  rcases h with h | h
  · by_cases hq : q = v
    · exact Or.inr (by omega)
    · exact absurd (s1_n hq) h
  · exact Or.inr (by omega)
theorem sP.s1 {D : va_G} {σ : sg} {H : Heap} (h : sP D σ H) {a : Nat} {x : va_E} (ha : σ a = some x) : sP D (s1 a x) H := by
  intro b y hb
  by_cases hq : b = a
  · subst hq
    rw [s1_s] at hb
    exact h b y (ha.trans hb)
  · rw [s1_n hq] at hb
    cases hb
def txL (E : Nat → ClassId) (a : Nat) : la_L := fun q => if q = a then some (sh_Tx (a + 1)) else if q = a + 1 then some (sh_C E 64) else none
def wyL (E : Nat → ClassId) (w r : Nat) : la_L := fun q => if q = w then some (sh_Wy r (w + 1) (w + 2) (w + 3)) else if q = w + 1 then some (sh_R (E 5) r (fun k => w + 4 + 2 * k)) else if q = w + 2 then some (sh_R (E 5) r (fun k => w + 5 + 2 * k)) else if q = w + 3 then some (sh_I E r) else if w + 4 ≤ q ∧ q < w + 4 + 2 * r then some sh_Ch else none
theorem txL_none {E : Nat → ClassId} {a q : Nat} (h : q < a ∨ a + 2 ≤ q) : ls0 (txL E a) q = none := by
  unfold ls0 txL
  rw [if_neg (by omega), if_neg (by omega)]
  rfl
theorem wyL_none {E : Nat → ClassId} {w r q : Nat} (h : q < w ∨ w + 4 + 2 * r ≤ q) : ls0 (wyL E w r) q = none := by
  unfold ls0 wyL
  rw [if_neg (by omega), if_neg (by omega), if_neg (by omega), if_neg (by omega), if_neg (by omega)]
  rfl
theorem txL_0 {E : Nat → ClassId} {a : Nat} : ls0 (txL E a) a = some (.inr (1, [.ref (a + 1), .int 0])) := by
  unfold ls0 txL
  rw [if_pos rfl]
  rfl
theorem wyL_0 {E : Nat → ClassId} {w r : Nat} : ls0 (wyL E w r) w = some (.inr (2, [.int (nI r), .ref (w + 1), .ref (w + 2), .ref (w + 3), .int 0, .int 0, .int 0])) := by
  unfold ls0 wyL
  rw [if_pos rfl]
  rfl
def x_Ch : va_E := .inr (0, [.int 0, .int 0, .int 0, .int 0])
def x_Tx : va_E := .inr (1, [.null, .int 0])
def x_Wy : va_E := .inr (2, [.int 0, .null, .null, .null, .int 0, .int 0, .int 0])
def x_Er : va_E := .inr (3, [.null, .null, .null, .null])
def x_Mo : va_E := .inr (4, [.int 0, .null, .null, .null, .null, .null, .null, .null, .null, .null, .null, .null, .null, .null, .null, .null, .int 0, .int 0, .int 0, .int 0])
theorem dv_Ch : ∀ j, j < 4 → defaultValue (t_Ch j) = vp_V [.int 0, .int 0, .int 0, .int 0] j := by decide +kernel
theorem dv_Tx : ∀ j, j < 2 → defaultValue (t_Tx j) = vp_V [.null, .int 0] j := by decide +kernel
theorem dv_Wy : ∀ j, j < 7 → defaultValue (t_Wy j) = vp_V [.int 0, .null, .null, .null, .int 0, .int 0, .int 0] j := by decide +kernel
theorem dv_Er : ∀ j, j < 4 → defaultValue (t_Er j) = vp_V [.null, .null, .null, .null] j := by decide +kernel
theorem dv_Mo : ∀ j, j < 20 → defaultValue (t_Mo j) = vp_V [.int 0, .null, .null, .null, .null, .null, .null, .null, .null, .null, .null, .null, .null, .null, .null, .null, .int 0, .int 0, .int 0, .int 0] j := by decide +kernel
set_option maxRecDepth 100000 in
theorem k_Ch_init (l : Launch) (D : va_G) (E : Nat → ClassId) {a N : Nat} {x : va_E} : kn l y_Ch_init b_Ch_init 1 1 12 0 0 D E (s1 a x) N [.ref a] (s1 a x) N := by
  refine kn_begin R_Ch (by decide) rfl rfl (Nat.le_of_ble_eq_true rfl) ?_
  intro p e s m below meth c ls Z hr hlocks hi hP hN hX hS hl
  have hx := Z.1
  have hb := Z.2.1
  have hl : lv_has ls 1 [(0, .ref a)] := hl
  refine lv_aload_n hx hb d_Ch_init_0 rfl (lv_at hl 0 rfl) ?_
  refine s_obj Z wl_Ch_3 hl.1 (Nat.le_of_ble_eq_true rfl) (Nat.le_of_ble_eq_true rfl) d_Ch_init_1 ?_
  exact s_ret Z hr hlocks hP hN hS (by decide) (by decide) hN d_Ch_init_4
set_option maxRecDepth 100000 in
theorem k_Tx_init (l : Launch) (D : va_G) (E : Nat → ClassId) {a : Nat} : kn l y_Tx_init b_Tx_init 1 1 12 1 64 D E (s1 a x_Tx) (a + 1) [.ref a] (ls0 (txL E a)) (a + 2) := by
  refine kn_begin R_Tx (by decide) rfl rfl (Nat.le_of_ble_eq_true rfl) ?_
  intro p e s m below meth c ls Z hr hlocks hi hP hN hX hS hl
  have hx := Z.1
  have hb := Z.2.1
  have hN0 := hN
  have hl : lv_has ls 1 [(0, .ref a)] := hl
  refine lv_aload_n hx hb d_Tx_init_0 rfl (lv_at hl 0 rfl) ?_
  refine s_obj Z wl_Tx_3 hl.1 (Nat.le_of_ble_eq_true rfl) (Nat.le_of_ble_eq_true rfl) d_Tx_init_1 ?_
  refine lv_aload_n hx hb d_Tx_init_4 rfl (lv_at hl 0 rfl) ?_
  refine lv_bipush (v := 64) hx hb d_Tx_init_5 (by decide) ?_
  refine s_newa (at0 := .char) (ty := .char) (a0 := (64, .inl (fun _ => 0))) Z hP hN hS rfl wa_char 1 rfl rfl (N' := 64) (fun _ => rfl) rfl (by decide) (by decide) (by decide) (by decide) d_Tx_init_7 (fun H hP hN hS => ?_)
  refine s_putF Z kc_Tx hP hN hS nA_own ((su_n (by omega)).trans s1_s) 0 (by decide) wl_Tx_9 rfl rfl hi rfl ⟨rfl, rfl⟩ (Nat.le_of_ble_eq_true rfl) d_Tx_init_9 (fun H locs hP hN hS => ?_)
  refine s_ret Z hr hlocks (hP.sub (fun q x hq => ?_)) hN hS (by decide) (by decide) hN0 d_Tx_init_12
  unfold ls0 txL at hq
  by_cases h1 : q = a
  · rw [if_pos h1] at hq
    subst h1
    rw [su_s]
    exact hq
  · rw [if_neg h1] at hq
    by_cases h2 : q = a + 1
    · rw [if_pos h2] at hq
      subst h2
      rw [su_n (by omega), su_s]
      exact hq
    · rw [if_neg h2] at hq
      cases hq
/-- a way in the making: i of its changes are there -/
def wyS (E : Nat → ClassId) (w r i : Nat) : sg := fun q => if q = w then some (.inr (2, [.int (nI r), .ref (w + 1), .ref (w + 2), .ref (w + 3), .int 0, .int 0, .int 0])) else if q = w + 1 then some (.inl (E 5, r, .inr (.inr (.inr (.inr (fun k => if k < i then some (w + 4 + 2 * k) else none)))))) else if q = w + 2 then some (.inl (E 5, r, .inr (.inr (.inr (.inr (fun k => if k < i then some (w + 5 + 2 * k) else none)))))) else if q = w + 3 then some (.inl (E 0, r, .inl (fun _ => 0))) else if w + 4 ≤ q ∧ q < w + 4 + 2 * i then some x_Ch else none
theorem wyS_0 {E : Nat → ClassId} {w r i : Nat} : wyS E w r i w = some (.inr (2, [.int (nI r), .ref (w + 1), .ref (w + 2), .ref (w + 3), .int 0, .int 0, .int 0])) := if_pos rfl
theorem wyS_1 {E : Nat → ClassId} {w r i : Nat} : wyS E w r i (w + 1) = some (.inl (E 5, r, .inr (.inr (.inr (.inr (fun k => if k < i then some (w + 4 + 2 * k) else none)))))) := by
  unfold wyS
  rw [if_neg (by omega), if_pos rfl]
theorem wyS_2 {E : Nat → ClassId} {w r i : Nat} : wyS E w r i (w + 2) = some (.inl (E 5, r, .inr (.inr (.inr (.inr (fun k => if k < i then some (w + 5 + 2 * k) else none)))))) := by
  unfold wyS
  rw [if_neg (by omega), if_neg (by omega), if_pos rfl]
theorem wyS_3 {E : Nat → ClassId} {w r i : Nat} : wyS E w r i (w + 3) = some (.inl (E 0, r, .inl (fun _ => 0))) := by
  unfold wyS
  rw [if_neg (by omega), if_neg (by omega), if_neg (by omega), if_pos rfl]
theorem wyS_c {E : Nat → ClassId} {w r i q : Nat} (h1 : w + 4 ≤ q) (h2 : q < w + 4 + 2 * i) : wyS E w r i q = some x_Ch := by
  unfold wyS
  rw [if_neg (by omega), if_neg (by omega), if_neg (by omega), if_neg (by omega), if_pos ⟨h1, h2⟩]
theorem wyS_n {E : Nat → ClassId} {w r i q : Nat} (h : q < w ∨ w + 4 + 2 * i ≤ q) : wyS E w r i q = none := by
  unfold wyS
  rw [if_neg (by omega), if_neg (by omega), if_neg (by omega), if_neg (by omega), if_neg (by omega)]
theorem up_one {i b : Nat} : va_up (fun k => if k < i then some (b + 2 * k) else none) i (some (b + 2 * i)) = fun k => if k < i + 1 then some (b + 2 * k) else none := by
  funext k
  unfold va_up
  by_cases h : k = i
  · subst h
    rw [if_pos rfl, if_pos (by omega)]
  · rw [if_neg h]
    show (if k < i then some (b + 2 * k) else none) = _
    by_cases h2 : k < i
    · rw [if_pos h2, if_pos (by omega)]
    · rw [if_neg h2, if_neg (by omega)]
/-- one turn: two changes made and laid in -/
theorem wyS_step {E : Nat → ClassId} {w r i : Nat} (σ : sg) (h : ∀ q, σ q = (if q = w + 2 then some (.inl (E 5, r, .inr (.inr (.inr (.inr (fun k => if k < i + 1 then some (w + 5 + 2 * k) else none)))))) else if q = w + 4 + 2 * i + 1 then some x_Ch else if q = w + 1 then some (.inl (E 5, r, .inr (.inr (.inr (.inr (fun k => if k < i + 1 then some (w + 4 + 2 * k) else none)))))) else if q = w + 4 + 2 * i then some x_Ch else wyS E w r i q)) : ∀ q x, wyS E w r (i + 1) q = some x → σ q = some x := by
  intro q x hq
  rw [h q, ← hq]
  by_cases h2 : q = w + 2
  · subst h2
    rw [if_pos rfl, wyS_2]
  · rw [if_neg h2]
    by_cases h5 : q = w + 4 + 2 * i + 1
    · rw [if_pos h5, wyS_c (by omega) (by omega)]
    · rw [if_neg h5]
      by_cases h1 : q = w + 1
      · subst h1
        rw [if_pos rfl, wyS_1]
      · rw [if_neg h1]
        by_cases h4 : q = w + 4 + 2 * i
        · rw [if_pos h4, wyS_c (by omega) (by omega)]
        · rw [if_neg h4]
          by_cases h0 : q = w
          · subst h0
            rw [wyS_0, wyS_0]
          · by_cases h3 : q = w + 3
            · subst h3
              rw [wyS_3, wyS_3]
            · by_cases hc : w + 4 ≤ q ∧ q < w + 4 + 2 * i
              · rw [wyS_c hc.1 hc.2, wyS_c hc.1 (by omega)]
              · rw [wyS_n (by omega), wyS_n (by omega)]
theorem wyS_end {D : va_G} {E : Nat → ClassId} {w r : Nat} {H : Heap} (h : sP D (wyS E w r r) H) : sP D (ls0 (wyL E w r)) H := by
  intro q x hq
  unfold ls0 wyL at hq
  by_cases h0 : q = w
  · subst h0
    rw [if_pos rfl] at hq
    cases hq
    exact h q _ wyS_0
  · rw [if_neg h0] at hq
    by_cases h1 : q = w + 1
    · subst h1
      rw [if_pos rfl] at hq
      cases hq
      have h9 : H[w + 1]? = some _ := h (w + 1) _ wyS_1
      show H[w + 1]? = some _
      rw [h9, arr_eq (fun k hk => if_pos hk)]
    · rw [if_neg h1] at hq
      by_cases h2 : q = w + 2
      · subst h2
        rw [if_pos rfl] at hq
        cases hq
        have h9 : H[w + 2]? = some _ := h (w + 2) _ wyS_2
        show H[w + 2]? = some _
        rw [h9, arr_eq (fun k hk => if_pos hk)]
      · rw [if_neg h2] at hq
        by_cases h3 : q = w + 3
        · subst h3
          rw [if_pos rfl] at hq
          cases hq
          exact h (w + 3) _ wyS_3
        · rw [if_neg h3] at hq
          by_cases hc : w + 4 ≤ q ∧ q < w + 4 + 2 * r
          · rw [if_pos hc] at hq
            cases hq
            exact h q _ (wyS_c hc.1 hc.2)
          · rw [if_neg hc] at hq
            cases hq
set_option maxHeartbeats 4000000 in
set_option maxRecDepth 100000 in
theorem k_Wy_init (l : Launch) (D : va_G) (E : Nat → ClassId) {w r : Nat} (hr0 : r ≤ 24) : kn l y_Wy_init b_Wy_init 3 2 32 (3 + 2 * r) (11 * r) D E (s1 w x_Wy) (w + 1) [.ref w, .int (nI r)] (ls0 (wyL E w r)) (w + 4 + 2 * r) := by
  refine kn_begin R_Wy (by decide) rfl rfl (Nat.le_of_ble_eq_true rfl) ?_
  intro p e s m below meth c ls Z hr hlocks hi hP hN hX hS hl
  have hx := Z.1
  have hb := Z.2.1
  have hN0 := hN
  have hl : lv_has ls 3 [(0, .ref w), (1, .int (nI r))] := hl
  have loop : ∀ (t i : Nat) (H : Heap) (locs : List Loc) (ls : Array Slot), i + t = r → sP D (wyS E w r i) H → H.size = w + 4 + 2 * i → va_S (nA (s1 w x_Wy) (w + 1)) s.heap H locs → lv_has ls 3 [(2, .int (nI i)), (0, .ref w), (1, .int (nI r))] → W p l e (rmk 2 32 (3 + 2 * r) (11 * r)) s m ([.ref w, .int (nI r)] : List Value).toArray below meth c H locs (3 + 2 * i) (3 * r + 8 * i) (MQ below (kn_Q D (s1 w x_Wy) (ls0 (wyL E w r)) (w + 4 + 2 * r)) ([.ref w, .int (nI r)] : List Value).toArray s (3 + 2 * r) (11 * r) (nA (s1 w x_Wy) (w + 1))) (F0 m 34 ls []) := by
    intro t
    induction t with
    | zero =>
      intro i H locs ls hi9 hP hN hS hl
      have hir : i = r := by omega
      subst hir
      refine lv_iload_n hx hb d_Wy_init_34 rfl (lv_at hl 0 rfl) ?_
      refine lv_iload_n hx hb d_Wy_init_35 rfl (lv_at hl 2 rfl) ?_
      refine lv_icmp_ge (tgt := 71) hx hb d_Wy_init_36 rfl (fun br36 => ?_) (fun br36 => absurd (nI_le (Nat.le_refl _) (by omega)) br36)
      exact s_ret Z hr hlocks (wyS_end hP) hN hS (Nat.le_refl _) (by omega) hN0 d_Wy_init_71
    | succ t ih =>
      intro i H locs ls hi9 hP hN hS hl
      refine lv_iload_n hx hb d_Wy_init_34 rfl (lv_at hl 0 rfl) ?_
      refine lv_iload_n hx hb d_Wy_init_35 rfl (lv_at hl 2 rfl) ?_
      refine lv_icmp_ge (tgt := 71) hx hb d_Wy_init_36 rfl (fun br36 => absurd br36 (nI_ge (by omega) (by omega))) (fun br36 => ?_)
      refine lv_aload_n hx hb d_Wy_init_39 rfl (lv_at hl 1 rfl) ?_
      refine s_get (v := .ref (w + 1)) Z kc_Wy hP wyS_0 1 (by decide) wl_Wy_15 rfl rfl d_Wy_init_40 ?_
      refine lv_iload_n hx hb d_Wy_init_43 rfl (lv_at hl 0 rfl) ?_
      refine s_new Z kc_Ch hP hN hS wl_Wy_13 wn_Ch wi_Ch dv_Ch (by show 3 + 2 * i + 1 ≤ 3 + 2 * r; omega) (by show 3 * r + 8 * i + 4 ≤ 11 * r; omega) d_Wy_init_44 (fun H hP hN hS => ?_)
      refine lv_dup hx hb d_Wy_init_47 rfl ?_
      refine kn_N Z hX.2.2.2.2.1 wim_Ch_init wi_Ch wc_Ch_init rfl (by decide +kernel) (k_Ch_init l D E) (hP.s1 su_s) hX hP hN hS (nA_sub (by omega) (by omega)) (fun q h => h) [.ref (w + 4 + 2 * i), .int (nI i), .ref (w + 1)] rfl rfl hl.1 (Nat.le_of_ble_eq_true rfl) ⟨Nat.le_of_ble_eq_true rfl, Nat.le_of_ble_eq_true rfl⟩ ⟨by show 3 + 2 * i + 1 + 0 ≤ 3 + 2 * r; omega, by show 3 * r + 8 * i + 4 + 0 ≤ 11 * r; omega⟩ d_Wy_init_48 (fun H locs hP hN hS => ?_)
      refine s_ast Z kc_Ch hP hN hS (Or.inr (by omega)) 5 rfl ((so_n (s1_n (by omega))).trans ((su_n (by omega)).trans wyS_1)) (so_s s1_s) i rfl (by omega) (by omega) d_Wy_init_51 (fun H locs hP hN hS => ?_)
      refine lv_aload_n hx hb d_Wy_init_52 rfl (lv_at hl 1 rfl) ?_
      refine s_get (v := .ref (w + 2)) Z kc_Wy hP ((su_n (by omega)).trans ((so_n (s1_n (by omega))).trans ((su_n (by omega)).trans wyS_0))) 2 (by decide) wl_Wy_19 rfl rfl d_Wy_init_53 ?_
      refine lv_iload_n hx hb d_Wy_init_56 rfl (lv_at hl 0 rfl) ?_
      refine s_new Z kc_Ch hP hN hS wl_Wy_13 wn_Ch wi_Ch dv_Ch (by show 3 + 2 * i + 1 + 0 + 1 ≤ 3 + 2 * r; omega) (by show 3 * r + 8 * i + 4 + 0 + 4 ≤ 11 * r; omega) d_Wy_init_57 (fun H hP hN hS => ?_)
      refine lv_dup hx hb d_Wy_init_60 rfl ?_
      refine kn_N Z hX.2.2.2.2.1 wim_Ch_init wi_Ch wc_Ch_init rfl (by decide +kernel) (k_Ch_init l D E) (hP.s1 su_s) hX hP hN hS (nA_sub (by omega) (by omega)) (fun q h => h) [.ref (w + 4 + 2 * i + 1), .int (nI i), .ref (w + 2)] rfl rfl hl.1 (Nat.le_of_ble_eq_true rfl) ⟨Nat.le_of_ble_eq_true rfl, Nat.le_of_ble_eq_true rfl⟩ ⟨by show 3 + 2 * i + 1 + 0 + 1 + 0 ≤ 3 + 2 * r; omega, by show 3 * r + 8 * i + 4 + 0 + 4 + 0 ≤ 11 * r; omega⟩ d_Wy_init_61 (fun H locs hP hN hS => ?_)
      refine s_ast Z kc_Ch hP hN hS (Or.inr (by omega)) 5 rfl ((so_n (s1_n (by omega))).trans ((su_n (by omega)).trans ((su_n (by omega)).trans ((so_n (s1_n (by omega))).trans ((su_n (by omega)).trans wyS_2))))) (so_s s1_s) i rfl (by omega) (by omega) d_Wy_init_64 (fun H locs hP hN hS => ?_)
      refine lv_iinc (k := 0) (v := (nI (i + 1))) hx hb d_Wy_init_65 hl rfl (nI_1 i) (by decide) rfl (fun ls hl => ?_)
      have hl : lv_has ls 3 [(2, .int (nI (i + 1))), (0, .ref w), (1, .int (nI r))] := hl
      refine lv_goto (tgt := 34) hx hb d_Wy_init_68 rfl ?_
      refine W.wide (by show 3 + 2 * i + 1 + 0 + 1 + 0 ≤ 3 + 2 * (i + 1); omega) (by show 3 * r + 8 * i + 4 + 0 + 4 + 0 ≤ 3 * r + 8 * (i + 1); omega) (ih (i + 1) H locs ls (by omega) (hP.sub (wyS_step _ (fun q => ?_))) (by omega) hS hl)
      by_cases h2 : q = w + 2
      · subst h2
        rw [su_s, if_pos rfl, show w + 4 + 2 * i + 1 = w + 5 + 2 * i by omega, up_one]
      · rw [su_n h2, if_neg h2]
        by_cases h5 : q = w + 4 + 2 * i + 1
        · rw [if_pos h5]
          subst h5
          exact so_s s1_s
        · rw [if_neg h5, so_n (s1_n h5), su_n h5]
          by_cases h1 : q = w + 1
          · subst h1
            rw [su_s, if_pos rfl, up_one]
          · rw [su_n h1, if_neg h1]
            by_cases h4 : q = w + 4 + 2 * i
            · rw [if_pos h4]
              subst h4
              exact so_s s1_s
            · rw [if_neg h4, so_n (s1_n h4), su_n h4]
  refine lv_aload_n hx hb d_Wy_init_0 rfl (lv_at hl 0 rfl) ?_
  refine s_obj Z wl_Wy_1 hl.1 (Nat.le_of_ble_eq_true rfl) (Nat.le_of_ble_eq_true rfl) d_Wy_init_1 ?_
  refine lv_aload_n hx hb d_Wy_init_4 rfl (lv_at hl 0 rfl) ?_
  refine lv_iload_n hx hb d_Wy_init_5 rfl (lv_at hl 1 rfl) ?_
  refine s_putF Z kc_Wy hP hN hS nA_own s1_s 0 (by decide) wl_Wy_7 rfl rfl hi rfl ⟨rfl, rfl⟩ (Nat.le_of_ble_eq_true rfl) d_Wy_init_6 (fun H locs hP hN hS => ?_)
  refine lv_aload_n hx hb d_Wy_init_9 rfl (lv_at hl 0 rfl) ?_
  refine lv_iload_n hx hb d_Wy_init_10 rfl (lv_at hl 1 rfl) ?_
  refine s_anew Z hP hN hS wl_Wy_13 hX.2.2.1 5 rfl (N' := r) rfl (by omega) (by show 0 + 1 ≤ 3 + 2 * r; omega) (by show 0 + r ≤ 11 * r; omega) d_Wy_init_11 (fun H hP hN hS => ?_)
  refine s_putF Z kc_Wy hP hN hS nA_own ((su_n (by omega)).trans su_s) 1 (by decide) wl_Wy_15 rfl rfl hi rfl ⟨rfl, rfl⟩ (Nat.le_of_ble_eq_true rfl) d_Wy_init_14 (fun H locs hP hN hS => ?_)
  refine lv_aload_n hx hb d_Wy_init_17 rfl (lv_at hl 0 rfl) ?_
  refine lv_iload_n hx hb d_Wy_init_18 rfl (lv_at hl 1 rfl) ?_
  refine s_anew Z hP hN hS wl_Wy_13 hX.2.2.1 5 rfl (N' := r) rfl (by omega) (by show 0 + 1 + 1 ≤ 3 + 2 * r; omega) (by show 0 + r + r ≤ 11 * r; omega) d_Wy_init_19 (fun H hP hN hS => ?_)
  refine s_putF Z kc_Wy hP hN hS nA_own ((su_n (by omega)).trans su_s) 2 (by decide) wl_Wy_19 rfl rfl hi rfl ⟨rfl, rfl⟩ (Nat.le_of_ble_eq_true rfl) d_Wy_init_22 (fun H locs hP hN hS => ?_)
  refine lv_aload_n hx hb d_Wy_init_25 rfl (lv_at hl 0 rfl) ?_
  refine lv_iload_n hx hb d_Wy_init_26 rfl (lv_at hl 1 rfl) ?_
  refine s_newa (at0 := .int) (ty := .int) (a0 := (r, .inl (fun _ => 0))) Z hP hN hS rfl wa_int 0 rfl rfl (N' := r) (fun _ => rfl) rfl (by omega) (by decide) (by show 0 + 1 + 1 + 1 ≤ 3 + 2 * r; omega) (by show 0 + r + r + r ≤ 11 * r; omega) d_Wy_init_27 (fun H hP hN hS => ?_)
  refine s_putF Z kc_Wy hP hN hS nA_own ((su_n (by omega)).trans su_s) 3 (by decide) wl_Wy_22 rfl rfl hi rfl ⟨rfl, rfl⟩ (Nat.le_of_ble_eq_true rfl) d_Wy_init_29 (fun H locs hP hN hS => ?_)
  refine lv_iconst (v := 0) hx hb d_Wy_init_32 (by decide) ?_
  refine lv_istore_n hx hb d_Wy_init_33 rfl hl (by decide) rfl (fun ls hl => ?_)
  have hl : lv_has ls 3 [(2, .int (nI 0)), (0, .ref w), (1, .int (nI r))] := hl
  refine W.wide (by show 0 + 1 + 1 + 1 ≤ 3 + 2 * 0; omega) (by show 0 + r + r + r ≤ 3 * r + 8 * 0; omega) (loop r 0 H locs ls (by omega) (hP.sub (fun q x hq => ?_)) (by omega) hS hl)
  rw [← hq]
  by_cases h0 : q = w
  · subst h0
    rw [su_s, wyS_0]
    rfl
  · rw [su_n h0]
    by_cases h3 : q = w + 1 + 1 + 1
    · subst h3
      rw [su_s, show w + 1 + 1 + 1 = w + 3 by omega, wyS_3]
    · rw [su_n h3, su_n h0]
      by_cases h2 : q = w + 1 + 1
      · subst h2
        rw [su_s, show w + 1 + 1 = w + 2 by omega, wyS_2]
        rfl
      · rw [su_n h2, su_n h0]
        by_cases h1 : q = w + 1
        · subst h1
          rw [su_s, wyS_1]
          rfl
        · rw [su_n h1, su_n h0, s1_n h0, wyS_n (by omega)]
