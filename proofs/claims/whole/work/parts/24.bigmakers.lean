/-! The constructors of EditRelay and of the reference (written by wip/whole/p24.py) -/
theorem txL_in {E : Nat → ClassId} {a q : Nat} {x : va_E} (h : ls0 (txL E a) q = some x) : a ≤ q ∧ q < a + 2 := by
  by_cases h1 : q < a ∨ a + 2 ≤ q
  · rw [txL_none h1] at h
    cases h
  · omega
theorem wyL_in {E : Nat → ClassId} {w r q : Nat} {x : va_E} (h : ls0 (wyL E w r) q = some x) : w ≤ q ∧ q < w + 4 + 2 * r := by
  by_cases h1 : q < w ∨ w + 4 + 2 * r ≤ q
  · rw [wyL_none h1] at h
    cases h
  · omega
theorem txL_dom {E : Nat → ClassId} {a : Nat} {x : va_E} : ∀ q, ls0 (txL E a) q = none → s1 a x q = none := by
  intro q h
  by_cases hq : q = a
  · subst hq
    rw [txL_0] at h
    cases h
  · exact s1_n hq
theorem wyL_dom {E : Nat → ClassId} {w r : Nat} {x : va_E} : ∀ q, ls0 (wyL E w r) q = none → s1 w x q = none := by
  intro q h
  by_cases hq : q = w
  · subst hq
    rw [wyL_0] at h
    cases h
  · exact s1_n hq
theorem sb_su {τ σ : sg} {lo hi a : Nat} {x : va_E} (hb : ∀ {q : Nat} {y : va_E}, τ q = some y → lo ≤ q ∧ q < hi) (h : a < lo ∨ hi ≤ a) (hs : ∀ q y, τ q = some y → σ q = some y) : ∀ q y, τ q = some y → su σ a x q = some y := by
  intro q y hq
  have h1 := hb hq
  rw [su_n (by omega)]
  exact hs q y hq
theorem sb_so {τ σ σ1 : sg} {lo hi lo1 hi1 : Nat} (hb : ∀ {q : Nat} {y : va_E}, τ q = some y → lo ≤ q ∧ q < hi) (hn : ∀ {q : Nat}, q < lo1 ∨ hi1 ≤ q → σ1 q = none) (h : hi1 ≤ lo ∨ hi ≤ lo1) (hs : ∀ q y, τ q = some y → σ q = some y) : ∀ q y, τ q = some y → so σ1 σ q = some y := by
  intro q y hq
  have h1 := hb hq
  rw [so_n (hn (by omega))]
  exact hs q y hq
theorem s1_none {a q : Nat} {x : va_E} (h : q < a ∨ a + 1 ≤ q) : s1 a x q = none := s1_n (by omega)
/-- the layout of an EditRelay at b -/
def erL (E : Nat → ClassId) (b : Nat) : la_L := fun q => if q = b then some (sh_Er (b + 1) (b + 10) (b + 11) (b + 276)) else if q = b + 1 then some (sh_R (E 3) 4 (fun k => b + 2 + 2 * k)) else if q = b + 10 then some (sh_R (E 4) 3 (fun k => b + 12 + 88 * k)) else if q = b + 11 then some (sh_R (E 4) 3 (fun k => b + 48 + 88 * k)) else if q = b + 276 then some sh_Ch else if b + 2 ≤ q ∧ q < b + 10 then txL E (q - (q - b) % 2) q else if b + 12 ≤ q ∧ q < b + 276 then (if (q - b - 12) % 88 < 36 then wyL E (q - (q - b - 12) % 88) 16 q else wyL E (q - ((q - b - 12) % 88 - 36)) 24 q) else none
theorem erL_tx {E : Nat → ClassId} {b k j : Nat} (hk : k < 4) (hj : j < 2) : erL E b (b + 2 + 2 * k + j) = txL E (b + 2 + 2 * k) (b + 2 + 2 * k + j) := by
  unfold erL
  rw [if_neg (by omega), if_neg (by omega), if_neg (by omega), if_neg (by omega), if_neg (by omega), if_pos (by omega), show b + 2 + 2 * k + j - (b + 2 + 2 * k + j - b) % 2 = b + 2 + 2 * k by omega]
theorem erL_up {E : Nat → ClassId} {b k j : Nat} (hk : k < 3) (hj : j < 36) : erL E b (b + 12 + 88 * k + j) = wyL E (b + 12 + 88 * k) 16 (b + 12 + 88 * k + j) := by
  unfold erL
  rw [if_neg (by omega), if_neg (by omega), if_neg (by omega), if_neg (by omega), if_neg (by omega), if_neg (by omega), if_pos (by omega), if_pos (by omega), show b + 12 + 88 * k + j - (b + 12 + 88 * k + j - b - 12) % 88 = b + 12 + 88 * k by omega]
theorem erL_dn {E : Nat → ClassId} {b k j : Nat} (hk : k < 3) (hj : j < 52) : erL E b (b + 48 + 88 * k + j) = wyL E (b + 48 + 88 * k) 24 (b + 48 + 88 * k + j) := by
  unfold erL
  rw [if_neg (by omega), if_neg (by omega), if_neg (by omega), if_neg (by omega), if_neg (by omega), if_neg (by omega), if_pos (by omega), if_neg (by omega), show b + 48 + 88 * k + j - ((b + 48 + 88 * k + j - b - 12) % 88 - 36) = b + 48 + 88 * k by omega]
theorem isWy_L {E : Nat → ClassId} {La : la_L} {w r : Nat} (h : ∀ j, j < 4 + 2 * r → La (w + j) = wyL E w r (w + j)) (h1 : 0 < r) (h2 : r ≤ 24) : isWy E La w r := by
  refine ⟨?_, ?_, ?_, ?_, fun k hk => ⟨?_, ?_⟩, h1, h2⟩
  · rw [show w = w + 0 from rfl, h 0 (by omega)]
    exact if_pos rfl
  · rw [h 1 (by omega)]
    unfold wyL
    rw [if_neg (by omega), if_pos rfl]
  · rw [h 2 (by omega)]
    unfold wyL
    rw [if_neg (by omega), if_neg (by omega), if_pos rfl]
  · rw [h 3 (by omega)]
    unfold wyL
    rw [if_neg (by omega), if_neg (by omega), if_neg (by omega), if_pos rfl]
  · rw [show w + 4 + 2 * k = w + (4 + 2 * k) by omega, h (4 + 2 * k) (by omega)]
    unfold wyL
    rw [if_neg (by omega), if_neg (by omega), if_neg (by omega), if_neg (by omega), if_pos (by omega)]
  · rw [show w + 5 + 2 * k = w + (5 + 2 * k) by omega, h (5 + 2 * k) (by omega)]
    unfold wyL
    rw [if_neg (by omega), if_neg (by omega), if_neg (by omega), if_neg (by omega), if_pos (by omega)]
theorem isEr_L {E : Nat → ClassId} {La : la_L} {b : Nat} (h : ∀ j, j < 277 → La (b + j) = erL E b (b + j)) : isEr E La b := by
  refine ⟨?_, ?_, ?_, ?_, ?_, fun k hk => ⟨?_, ?_⟩, fun k hk => isWy_L (fun j hj => ?_) (by decide) (by decide), fun k hk => isWy_L (fun j hj => ?_) (by decide) (by decide)⟩
  · rw [show b = b + 0 from rfl, h 0 (by omega)]
    exact if_pos rfl
  · rw [h 1 (by omega)]
    unfold erL
    rw [if_neg (by omega), if_pos rfl]
  · rw [h 10 (by omega)]
    unfold erL
    rw [if_neg (by omega), if_neg (by omega), if_pos rfl]
  · rw [h 11 (by omega)]
    unfold erL
    rw [if_neg (by omega), if_neg (by omega), if_neg (by omega), if_pos rfl]
  · rw [h 276 (by omega)]
    unfold erL
    rw [if_neg (by omega), if_neg (by omega), if_neg (by omega), if_neg (by omega), if_pos rfl]
  · rw [show b + 2 + 2 * k = b + (2 + 2 * k) by omega, h _ (by omega), show b + (2 + 2 * k) = b + 2 + 2 * k + 0 by omega, erL_tx hk (by omega)]
    exact if_pos rfl
  · rw [show b + 2 + 2 * k + 1 = b + (2 + 2 * k + 1) by omega, h _ (by omega), show b + (2 + 2 * k + 1) = b + 2 + 2 * k + 1 by omega, erL_tx hk (by omega)]
    unfold txL
    rw [if_neg (by omega), if_pos rfl]
  · rw [show b + 12 + 88 * k + j = b + (12 + 88 * k + j) by omega, h _ (by omega), show b + (12 + 88 * k + j) = b + 12 + 88 * k + j by omega]
    exact erL_up hk (by omega)
  · rw [show b + 48 + 88 * k + j = b + (48 + 88 * k + j) by omega, h _ (by omega), show b + (48 + 88 * k + j) = b + 48 + 88 * k + j by omega]
    exact erL_dn hk (by omega)
/-- the parts of an EditRelay make it up -/
theorem erL_P {D : va_G} {E : Nat → ClassId} {b : Nat} {H : Heap} (h0 : va_at D cls5 (b, sh_Er (b + 1) (b + 10) (b + 11) (b + 276) (fun _ => 0)) H) (h1 : H[b + 1]? = some (vp_cell (E 3) (4, .inr (.inr (.inr (.inr (fun k => some (b + 2 + 2 * k)))))))) (h10 : H[b + 10]? = some (vp_cell (E 4) (3, .inr (.inr (.inr (.inr (fun k => some (b + 12 + 88 * k)))))))) (h11 : H[b + 11]? = some (vp_cell (E 4) (3, .inr (.inr (.inr (.inr (fun k => some (b + 48 + 88 * k)))))))) (h276 : va_at D cls5 (b + 276, x_Ch) H) (ht : ∀ k, k < 4 → sP D (ls0 (txL E (b + 2 + 2 * k))) H) (hu : ∀ k, k < 3 → sP D (ls0 (wyL E (b + 12 + 88 * k) 16)) H) (hd : ∀ k, k < 3 → sP D (ls0 (wyL E (b + 48 + 88 * k) 24)) H) : sP D (ls0 (erL E b)) H := by
  intro q x hq
  have hq' : (erL E b q).map (fun f => f (fun _ => 0)) = some x := hq
  unfold erL at hq'
  by_cases e0 : q = b
  · rw [if_pos e0] at hq'
    subst e0
    cases hq'
    exact h0
  · rw [if_neg e0] at hq'
    by_cases e1 : q = b + 1
    · rw [if_pos e1] at hq'
      subst e1
      cases hq'
      exact h1
    · rw [if_neg e1] at hq'
      by_cases e10 : q = b + 10
      · rw [if_pos e10] at hq'
        subst e10
        cases hq'
        exact h10
      · rw [if_neg e10] at hq'
        by_cases e11 : q = b + 11
        · rw [if_pos e11] at hq'
          subst e11
          cases hq'
          exact h11
        · rw [if_neg e11] at hq'
          by_cases e276 : q = b + 276
          · rw [if_pos e276] at hq'
            subst e276
            cases hq'
            exact h276
          · rw [if_neg e276] at hq'
            by_cases et : b + 2 ≤ q ∧ q < b + 10
            · rw [if_pos et, show q - (q - b) % 2 = b + 2 + 2 * ((q - b - 2) / 2) by omega] at hq'
              exact ht ((q - b - 2) / 2) (by omega) q x hq'
            · rw [if_neg et] at hq'
              by_cases ew : b + 12 ≤ q ∧ q < b + 276
              · rw [if_pos ew] at hq'
                by_cases eu : (q - b - 12) % 88 < 36
                · rw [if_pos eu, show q - (q - b - 12) % 88 = b + 12 + 88 * ((q - b - 12) / 88) by omega] at hq'
                  exact hu ((q - b - 12) / 88) (by omega) q x hq'
                · rw [if_neg eu, show q - ((q - b - 12) % 88 - 36) = b + 48 + 88 * ((q - b - 12) / 88) by omega] at hq'
                  exact hd ((q - b - 12) / 88) (by omega) q x hq'
              · rw [if_neg ew] at hq'
                cases hq'
theorem erL_dom {E : Nat → ClassId} {b : Nat} {x : va_E} : ∀ q, ls0 (erL E b) q = none → s1 b x q = none := by
  intro q h
  by_cases hq : q = b
  · subst hq
    unfold ls0 erL at h
    rw [if_pos rfl] at h
    cases h
  · exact s1_n hq
theorem erL_none {E : Nat → ClassId} {b q : Nat} (h : q < b ∨ b + 277 ≤ q) : erL E b q = none := by
  unfold erL
  rw [if_neg (by omega), if_neg (by omega), if_neg (by omega), if_neg (by omega), if_neg (by omega), if_neg (by omega), if_neg (by omega)]
set_option maxHeartbeats 8000000 in
set_option maxRecDepth 100000 in
theorem k_Er_init (l : Launch) (D : va_G) (E : Nat → ClassId) {b0 : Nat} : kn l y_Er_init b_Er_init 2 3 54 276 1640 D E (s1 b0 x_Er) (b0 + 1) [.ref b0] (ls0 (erL E b0)) (b0 + 277) := by
  refine kn_begin R_Er (by decide) rfl rfl (Nat.le_of_ble_eq_true rfl) ?_
  intro p e s m below meth c ls Z hr hlocks hi hP hN hX hS hl
  have hx := Z.1
  have hb := Z.2.1
  have hN0 := hN
  have hl : lv_has ls 2 [(0, .ref b0)] := hl
  refine lv_aload_n hx hb d_Er_init_0 rfl (lv_at hl 0 rfl) ?_
  refine s_obj Z wl_Er_3 hl.1 (Nat.le_of_ble_eq_true rfl) (Nat.le_of_ble_eq_true rfl) d_Er_init_1 ?_
  refine lv_aload_n hx hb d_Er_init_4 rfl (lv_at hl 0 rfl) ?_
  refine lv_iconst (v := 4) hx hb d_Er_init_5 (by decide) ?_
  refine s_anew Z hP hN hS wl_Er_9 hX.1 3 rfl (N' := 4) rfl (by decide) (Nat.le_of_ble_eq_true rfl) (Nat.le_of_ble_eq_true rfl) d_Er_init_6 (fun H hP hN hS => ?_)
  have hN : H.size = (b0 + 2) := by omega
  refine s_putF Z kc_Er hP hN hS nA_own ((su_n (by omega)).trans s1_s) 0 (by decide) wl_Er_11 rfl rfl hi rfl ⟨rfl, rfl⟩ (Nat.le_of_ble_eq_true rfl) d_Er_init_9 (fun H locs hP hN hS => ?_)
  refine lv_iconst (v := 0) hx hb d_Er_init_12 (by decide) ?_
  refine lv_istore_n hx hb d_Er_init_13 rfl hl (by decide) rfl (fun ls hl => ?_)
  have hl : lv_has ls 2 [(1, .int 0), (0, .ref b0)] := hl
  refine lv_iload_n hx hb d_Er_init_14 rfl (lv_at hl 0 rfl) ?_
  refine lv_iconst (v := 3) hx hb d_Er_init_15 (by decide) ?_
  refine lv_icmp_gt (tgt := 38) hx hb d_Er_init_16 rfl (fun br16 => absurd br16 (by decide)) (fun br16 => ?_)
  refine lv_aload_n hx hb d_Er_init_19 rfl (lv_at hl 1 rfl) ?_
  refine s_get (v := .ref (b0 + 1)) Z kc_Er hP su_s 0 (by decide) wl_Er_11 rfl rfl d_Er_init_20 ?_
  refine lv_iload_n hx hb d_Er_init_23 rfl (lv_at hl 0 rfl) ?_
  refine s_new Z kc_Tx hP hN hS wl_Er_9 wn_Tx wi_Tx dv_Tx (Nat.le_of_ble_eq_true rfl) (Nat.le_of_ble_eq_true rfl) d_Er_init_24 (fun H hP hN hS => ?_)
  have hN : H.size = (b0 + 3) := by omega
  refine lv_dup hx hb d_Er_init_27 rfl ?_
  refine kn_N Z hX.2.2.2.1 wim_Tx_init wi_Tx wc_Tx_init rfl (by decide +kernel) (k_Tx_init l D E) (hP.s1 su_s) hX hP (show H.size = (b0 + 2) + 1 by omega) hS (nA_sub (by omega) (by omega)) txL_dom [.ref (b0 + 2), .int 0, .ref (b0 + 1)] rfl rfl hl.1 (Nat.le_of_ble_eq_true rfl) ⟨(Nat.le_of_ble_eq_true rfl), (Nat.le_of_ble_eq_true rfl)⟩ ⟨(Nat.le_of_ble_eq_true rfl), (Nat.le_of_ble_eq_true rfl)⟩ d_Er_init_28 (fun H locs hP hN hS => ?_)
  have hN : H.size = (b0 + 4) := by omega
  refine s_ast Z kc_Tx hP hN hS (Or.inr (by omega)) 3 rfl ((so_n (txL_none (by omega))).trans ((su_n (by omega)).trans ((su_n (by omega)).trans su_s))) (so_s txL_0) 0 rfl (by decide) (by decide) d_Er_init_31 (fun H locs hP hN hS => ?_)
  refine lv_iinc (k := 0) (v := 1) hx hb d_Er_init_32 hl rfl (by decide) (by decide) rfl (fun ls hl => ?_)
  have hl : lv_has ls 2 [(1, .int 1), (0, .ref b0)] := hl
  refine lv_goto (tgt := 14) hx hb d_Er_init_35 rfl ?_
  refine lv_iload_n hx hb d_Er_init_14 rfl (lv_at hl 0 rfl) ?_
  refine lv_iconst (v := 3) hx hb d_Er_init_15 (by decide) ?_
  refine lv_icmp_gt (tgt := 38) hx hb d_Er_init_16 rfl (fun br16 => absurd br16 (by decide)) (fun br16 => ?_)
  refine lv_aload_n hx hb d_Er_init_19 rfl (lv_at hl 1 rfl) ?_
  refine s_get (v := .ref (b0 + 1)) Z kc_Er hP ((su_n (by omega)).trans ((so_n (txL_none (by omega))).trans ((su_n (by omega)).trans su_s))) 0 (by decide) wl_Er_11 rfl rfl d_Er_init_20 ?_
  refine lv_iload_n hx hb d_Er_init_23 rfl (lv_at hl 0 rfl) ?_
  refine s_new Z kc_Tx hP hN hS wl_Er_9 wn_Tx wi_Tx dv_Tx (Nat.le_of_ble_eq_true rfl) (Nat.le_of_ble_eq_true rfl) d_Er_init_24 (fun H hP hN hS => ?_)
  have hN : H.size = (b0 + 5) := by omega
  refine lv_dup hx hb d_Er_init_27 rfl ?_
  refine kn_N Z hX.2.2.2.1 wim_Tx_init wi_Tx wc_Tx_init rfl (by decide +kernel) (k_Tx_init l D E) (hP.s1 su_s) hX hP (show H.size = (b0 + 4) + 1 by omega) hS (nA_sub (by omega) (by omega)) txL_dom [.ref (b0 + 4), .int 1, .ref (b0 + 1)] rfl rfl hl.1 (Nat.le_of_ble_eq_true rfl) ⟨(Nat.le_of_ble_eq_true rfl), (Nat.le_of_ble_eq_true rfl)⟩ ⟨(Nat.le_of_ble_eq_true rfl), (Nat.le_of_ble_eq_true rfl)⟩ d_Er_init_28 (fun H locs hP hN hS => ?_)
  have hN : H.size = (b0 + 6) := by omega
  refine s_ast Z kc_Tx hP hN hS (Or.inr (by omega)) 3 rfl ((so_n (txL_none (by omega))).trans ((su_n (by omega)).trans su_s)) (so_s txL_0) 1 rfl (by decide) (by decide) d_Er_init_31 (fun H locs hP hN hS => ?_)
  refine lv_iinc (k := 0) (v := 2) hx hb d_Er_init_32 hl rfl (by decide) (by decide) rfl (fun ls hl => ?_)
  have hl : lv_has ls 2 [(1, .int 2), (0, .ref b0)] := hl
  refine lv_goto (tgt := 14) hx hb d_Er_init_35 rfl ?_
  refine lv_iload_n hx hb d_Er_init_14 rfl (lv_at hl 0 rfl) ?_
  refine lv_iconst (v := 3) hx hb d_Er_init_15 (by decide) ?_
  refine lv_icmp_gt (tgt := 38) hx hb d_Er_init_16 rfl (fun br16 => absurd br16 (by decide)) (fun br16 => ?_)
  refine lv_aload_n hx hb d_Er_init_19 rfl (lv_at hl 1 rfl) ?_
  refine s_get (v := .ref (b0 + 1)) Z kc_Er hP ((su_n (by omega)).trans ((so_n (txL_none (by omega))).trans ((su_n (by omega)).trans ((su_n (by omega)).trans ((so_n (txL_none (by omega))).trans ((su_n (by omega)).trans su_s)))))) 0 (by decide) wl_Er_11 rfl rfl d_Er_init_20 ?_
  refine lv_iload_n hx hb d_Er_init_23 rfl (lv_at hl 0 rfl) ?_
  refine s_new Z kc_Tx hP hN hS wl_Er_9 wn_Tx wi_Tx dv_Tx (Nat.le_of_ble_eq_true rfl) (Nat.le_of_ble_eq_true rfl) d_Er_init_24 (fun H hP hN hS => ?_)
  have hN : H.size = (b0 + 7) := by omega
  refine lv_dup hx hb d_Er_init_27 rfl ?_
  refine kn_N Z hX.2.2.2.1 wim_Tx_init wi_Tx wc_Tx_init rfl (by decide +kernel) (k_Tx_init l D E) (hP.s1 su_s) hX hP (show H.size = (b0 + 6) + 1 by omega) hS (nA_sub (by omega) (by omega)) txL_dom [.ref (b0 + 6), .int 2, .ref (b0 + 1)] rfl rfl hl.1 (Nat.le_of_ble_eq_true rfl) ⟨(Nat.le_of_ble_eq_true rfl), (Nat.le_of_ble_eq_true rfl)⟩ ⟨(Nat.le_of_ble_eq_true rfl), (Nat.le_of_ble_eq_true rfl)⟩ d_Er_init_28 (fun H locs hP hN hS => ?_)
  have hN : H.size = (b0 + 8) := by omega
  refine s_ast Z kc_Tx hP hN hS (Or.inr (by omega)) 3 rfl ((so_n (txL_none (by omega))).trans ((su_n (by omega)).trans su_s)) (so_s txL_0) 2 rfl (by decide) (by decide) d_Er_init_31 (fun H locs hP hN hS => ?_)
  refine lv_iinc (k := 0) (v := 3) hx hb d_Er_init_32 hl rfl (by decide) (by decide) rfl (fun ls hl => ?_)
  have hl : lv_has ls 2 [(1, .int 3), (0, .ref b0)] := hl
  refine lv_goto (tgt := 14) hx hb d_Er_init_35 rfl ?_
  refine lv_iload_n hx hb d_Er_init_14 rfl (lv_at hl 0 rfl) ?_
  refine lv_iconst (v := 3) hx hb d_Er_init_15 (by decide) ?_
  refine lv_icmp_gt (tgt := 38) hx hb d_Er_init_16 rfl (fun br16 => absurd br16 (by decide)) (fun br16 => ?_)
  refine lv_aload_n hx hb d_Er_init_19 rfl (lv_at hl 1 rfl) ?_
  refine s_get (v := .ref (b0 + 1)) Z kc_Er hP ((su_n (by omega)).trans ((so_n (txL_none (by omega))).trans ((su_n (by omega)).trans ((su_n (by omega)).trans ((so_n (txL_none (by omega))).trans ((su_n (by omega)).trans ((su_n (by omega)).trans ((so_n (txL_none (by omega))).trans ((su_n (by omega)).trans su_s))))))))) 0 (by decide) wl_Er_11 rfl rfl d_Er_init_20 ?_
  refine lv_iload_n hx hb d_Er_init_23 rfl (lv_at hl 0 rfl) ?_
  refine s_new Z kc_Tx hP hN hS wl_Er_9 wn_Tx wi_Tx dv_Tx (Nat.le_of_ble_eq_true rfl) (Nat.le_of_ble_eq_true rfl) d_Er_init_24 (fun H hP hN hS => ?_)
  have hN : H.size = (b0 + 9) := by omega
  refine lv_dup hx hb d_Er_init_27 rfl ?_
  refine kn_N Z hX.2.2.2.1 wim_Tx_init wi_Tx wc_Tx_init rfl (by decide +kernel) (k_Tx_init l D E) (hP.s1 su_s) hX hP (show H.size = (b0 + 8) + 1 by omega) hS (nA_sub (by omega) (by omega)) txL_dom [.ref (b0 + 8), .int 3, .ref (b0 + 1)] rfl rfl hl.1 (Nat.le_of_ble_eq_true rfl) ⟨(Nat.le_of_ble_eq_true rfl), (Nat.le_of_ble_eq_true rfl)⟩ ⟨(Nat.le_of_ble_eq_true rfl), (Nat.le_of_ble_eq_true rfl)⟩ d_Er_init_28 (fun H locs hP hN hS => ?_)
  have hN : H.size = (b0 + 10) := by omega
  refine s_ast Z kc_Tx hP hN hS (Or.inr (by omega)) 3 rfl ((so_n (txL_none (by omega))).trans ((su_n (by omega)).trans su_s)) (so_s txL_0) 3 rfl (by decide) (by decide) d_Er_init_31 (fun H locs hP hN hS => ?_)
  refine lv_iinc (k := 0) (v := 4) hx hb d_Er_init_32 hl rfl (by decide) (by decide) rfl (fun ls hl => ?_)
  have hl : lv_has ls 2 [(1, .int 4), (0, .ref b0)] := hl
  refine lv_goto (tgt := 14) hx hb d_Er_init_35 rfl ?_
  refine lv_iload_n hx hb d_Er_init_14 rfl (lv_at hl 0 rfl) ?_
  refine lv_iconst (v := 3) hx hb d_Er_init_15 (by decide) ?_
  refine lv_icmp_gt (tgt := 38) hx hb d_Er_init_16 rfl (fun br16 => ?_) (fun br16 => absurd (by decide) br16)
  refine lv_aload_n hx hb d_Er_init_38 rfl (lv_at hl 1 rfl) ?_
  refine lv_iconst (v := 3) hx hb d_Er_init_39 (by decide) ?_
  refine s_anew Z hP hN hS wl_Er_16 hX.2.1 4 rfl (N' := 3) rfl (by decide) (Nat.le_of_ble_eq_true rfl) (Nat.le_of_ble_eq_true rfl) d_Er_init_40 (fun H hP hN hS => ?_)
  have hN : H.size = (b0 + 11) := by omega
  refine s_putF Z kc_Er hP hN hS nA_own ((su_n (by omega)).trans ((su_n (by omega)).trans ((so_n (txL_none (by omega))).trans ((su_n (by omega)).trans ((su_n (by omega)).trans ((so_n (txL_none (by omega))).trans ((su_n (by omega)).trans ((su_n (by omega)).trans ((so_n (txL_none (by omega))).trans ((su_n (by omega)).trans ((su_n (by omega)).trans ((so_n (txL_none (by omega))).trans ((su_n (by omega)).trans su_s))))))))))))) 1 (by decide) wl_Er_18 rfl rfl hi rfl ⟨rfl, rfl⟩ (Nat.le_of_ble_eq_true rfl) d_Er_init_43 (fun H locs hP hN hS => ?_)
  refine lv_aload_n hx hb d_Er_init_46 rfl (lv_at hl 1 rfl) ?_
  refine lv_iconst (v := 3) hx hb d_Er_init_47 (by decide) ?_
  refine s_anew Z hP hN hS wl_Er_16 hX.2.1 4 rfl (N' := 3) rfl (by decide) (Nat.le_of_ble_eq_true rfl) (Nat.le_of_ble_eq_true rfl) d_Er_init_48 (fun H hP hN hS => ?_)
  have hN : H.size = (b0 + 12) := by omega
  refine s_putF Z kc_Er hP hN hS nA_own ((su_n (by omega)).trans su_s) 2 (by decide) wl_Er_22 rfl rfl hi rfl ⟨rfl, rfl⟩ (Nat.le_of_ble_eq_true rfl) d_Er_init_51 (fun H locs hP hN hS => ?_)
  refine lv_iconst (v := 0) hx hb d_Er_init_54 (by decide) ?_
  refine lv_istore_n hx hb d_Er_init_55 rfl hl (by decide) rfl (fun ls hl => ?_)
  have hl : lv_has ls 2 [(1, .int 0), (0, .ref b0)] := hl
  refine lv_iload_n hx hb d_Er_init_56 rfl (lv_at hl 0 rfl) ?_
  refine lv_iconst (v := 3) hx hb d_Er_init_57 (by decide) ?_
  refine lv_icmp_ge (tgt := 97) hx hb d_Er_init_58 rfl (fun br58 => absurd br58 (by decide)) (fun br58 => ?_)
  refine lv_aload_n hx hb d_Er_init_61 rfl (lv_at hl 1 rfl) ?_
  refine s_get (v := .ref (b0 + 10)) Z kc_Er hP su_s 1 (by decide) wl_Er_18 rfl rfl d_Er_init_62 ?_
  refine lv_iload_n hx hb d_Er_init_65 rfl (lv_at hl 0 rfl) ?_
  refine s_new Z kc_Wy hP hN hS wl_Er_16 wn_Wy wi_Wy dv_Wy (Nat.le_of_ble_eq_true rfl) (Nat.le_of_ble_eq_true rfl) d_Er_init_66 (fun H hP hN hS => ?_)
  have hN : H.size = (b0 + 13) := by omega
  refine lv_dup hx hb d_Er_init_69 rfl ?_
  refine lv_bipush (v := 16) hx hb d_Er_init_70 (by decide) ?_
  refine kn_I Z wl_Er_25 wim_Wy_init wi_Wy wc_Wy_init rfl (by decide +kernel) (k_Wy_init l D E (r := 16) (by decide)) (hP.s1 su_s) hX hP (show H.size = (b0 + 12) + 1 by omega) hS (nA_sub (by omega) (by omega)) wyL_dom [.ref (b0 + 12), .int 0, .ref (b0 + 10)] rfl rfl hl.1 (Nat.le_of_ble_eq_true rfl) ⟨(Nat.le_of_ble_eq_true rfl), (Nat.le_of_ble_eq_true rfl)⟩ ⟨(Nat.le_of_ble_eq_true rfl), (Nat.le_of_ble_eq_true rfl)⟩ d_Er_init_72 (fun H locs hP hN hS => ?_)
  have hN : H.size = (b0 + 48) := by omega
  refine s_ast Z kc_Wy hP hN hS (Or.inr (by omega)) 4 rfl ((so_n (wyL_none (by omega))).trans ((su_n (by omega)).trans ((su_n (by omega)).trans ((su_n (by omega)).trans ((su_n (by omega)).trans su_s))))) (so_s wyL_0) 0 rfl (by decide) (by decide) d_Er_init_75 (fun H locs hP hN hS => ?_)
  refine lv_aload_n hx hb d_Er_init_76 rfl (lv_at hl 1 rfl) ?_
  refine s_get (v := .ref (b0 + 11)) Z kc_Er hP ((su_n (by omega)).trans ((so_n (wyL_none (by omega))).trans ((su_n (by omega)).trans su_s))) 2 (by decide) wl_Er_22 rfl rfl d_Er_init_77 ?_
  refine lv_iload_n hx hb d_Er_init_80 rfl (lv_at hl 0 rfl) ?_
  refine s_new Z kc_Wy hP hN hS wl_Er_16 wn_Wy wi_Wy dv_Wy (Nat.le_of_ble_eq_true rfl) (Nat.le_of_ble_eq_true rfl) d_Er_init_81 (fun H hP hN hS => ?_)
  have hN : H.size = (b0 + 49) := by omega
  refine lv_dup hx hb d_Er_init_84 rfl ?_
  refine lv_bipush (v := 24) hx hb d_Er_init_85 (by decide) ?_
  refine kn_I Z wl_Er_25 wim_Wy_init wi_Wy wc_Wy_init rfl (by decide +kernel) (k_Wy_init l D E (r := 24) (by decide)) (hP.s1 su_s) hX hP (show H.size = (b0 + 48) + 1 by omega) hS (nA_sub (by omega) (by omega)) wyL_dom [.ref (b0 + 48), .int 0, .ref (b0 + 11)] rfl rfl hl.1 (Nat.le_of_ble_eq_true rfl) ⟨(Nat.le_of_ble_eq_true rfl), (Nat.le_of_ble_eq_true rfl)⟩ ⟨(Nat.le_of_ble_eq_true rfl), (Nat.le_of_ble_eq_true rfl)⟩ d_Er_init_87 (fun H locs hP hN hS => ?_)
  have hN : H.size = (b0 + 100) := by omega
  refine s_ast Z kc_Wy hP hN hS (Or.inr (by omega)) 4 rfl ((so_n (wyL_none (by omega))).trans ((su_n (by omega)).trans ((su_n (by omega)).trans ((so_n (wyL_none (by omega))).trans ((su_n (by omega)).trans ((su_n (by omega)).trans su_s)))))) (so_s wyL_0) 0 rfl (by decide) (by decide) d_Er_init_90 (fun H locs hP hN hS => ?_)
  refine lv_iinc (k := 0) (v := 1) hx hb d_Er_init_91 hl rfl (by decide) (by decide) rfl (fun ls hl => ?_)
  have hl : lv_has ls 2 [(1, .int 1), (0, .ref b0)] := hl
  refine lv_goto (tgt := 56) hx hb d_Er_init_94 rfl ?_
  refine lv_iload_n hx hb d_Er_init_56 rfl (lv_at hl 0 rfl) ?_
  refine lv_iconst (v := 3) hx hb d_Er_init_57 (by decide) ?_
  refine lv_icmp_ge (tgt := 97) hx hb d_Er_init_58 rfl (fun br58 => absurd br58 (by decide)) (fun br58 => ?_)
  refine lv_aload_n hx hb d_Er_init_61 rfl (lv_at hl 1 rfl) ?_
  refine s_get (v := .ref (b0 + 10)) Z kc_Er hP ((su_n (by omega)).trans ((so_n (wyL_none (by omega))).trans ((su_n (by omega)).trans ((su_n (by omega)).trans ((so_n (wyL_none (by omega))).trans ((su_n (by omega)).trans su_s)))))) 1 (by decide) wl_Er_18 rfl rfl d_Er_init_62 ?_
  refine lv_iload_n hx hb d_Er_init_65 rfl (lv_at hl 0 rfl) ?_
  refine s_new Z kc_Wy hP hN hS wl_Er_16 wn_Wy wi_Wy dv_Wy (Nat.le_of_ble_eq_true rfl) (Nat.le_of_ble_eq_true rfl) d_Er_init_66 (fun H hP hN hS => ?_)
  have hN : H.size = (b0 + 101) := by omega
  refine lv_dup hx hb d_Er_init_69 rfl ?_
  refine lv_bipush (v := 16) hx hb d_Er_init_70 (by decide) ?_
  refine kn_I Z wl_Er_25 wim_Wy_init wi_Wy wc_Wy_init rfl (by decide +kernel) (k_Wy_init l D E (r := 16) (by decide)) (hP.s1 su_s) hX hP (show H.size = (b0 + 100) + 1 by omega) hS (nA_sub (by omega) (by omega)) wyL_dom [.ref (b0 + 100), .int 1, .ref (b0 + 10)] rfl rfl hl.1 (Nat.le_of_ble_eq_true rfl) ⟨(Nat.le_of_ble_eq_true rfl), (Nat.le_of_ble_eq_true rfl)⟩ ⟨(Nat.le_of_ble_eq_true rfl), (Nat.le_of_ble_eq_true rfl)⟩ d_Er_init_72 (fun H locs hP hN hS => ?_)
  have hN : H.size = (b0 + 136) := by omega
  refine s_ast Z kc_Wy hP hN hS (Or.inr (by omega)) 4 rfl ((so_n (wyL_none (by omega))).trans ((su_n (by omega)).trans ((su_n (by omega)).trans ((so_n (wyL_none (by omega))).trans ((su_n (by omega)).trans su_s))))) (so_s wyL_0) 1 rfl (by decide) (by decide) d_Er_init_75 (fun H locs hP hN hS => ?_)
  refine lv_aload_n hx hb d_Er_init_76 rfl (lv_at hl 1 rfl) ?_
  refine s_get (v := .ref (b0 + 11)) Z kc_Er hP ((su_n (by omega)).trans ((so_n (wyL_none (by omega))).trans ((su_n (by omega)).trans ((su_n (by omega)).trans ((so_n (wyL_none (by omega))).trans ((su_n (by omega)).trans ((su_n (by omega)).trans ((so_n (wyL_none (by omega))).trans ((su_n (by omega)).trans su_s))))))))) 2 (by decide) wl_Er_22 rfl rfl d_Er_init_77 ?_
  refine lv_iload_n hx hb d_Er_init_80 rfl (lv_at hl 0 rfl) ?_
  refine s_new Z kc_Wy hP hN hS wl_Er_16 wn_Wy wi_Wy dv_Wy (Nat.le_of_ble_eq_true rfl) (Nat.le_of_ble_eq_true rfl) d_Er_init_81 (fun H hP hN hS => ?_)
  have hN : H.size = (b0 + 137) := by omega
  refine lv_dup hx hb d_Er_init_84 rfl ?_
  refine lv_bipush (v := 24) hx hb d_Er_init_85 (by decide) ?_
  refine kn_I Z wl_Er_25 wim_Wy_init wi_Wy wc_Wy_init rfl (by decide +kernel) (k_Wy_init l D E (r := 24) (by decide)) (hP.s1 su_s) hX hP (show H.size = (b0 + 136) + 1 by omega) hS (nA_sub (by omega) (by omega)) wyL_dom [.ref (b0 + 136), .int 1, .ref (b0 + 11)] rfl rfl hl.1 (Nat.le_of_ble_eq_true rfl) ⟨(Nat.le_of_ble_eq_true rfl), (Nat.le_of_ble_eq_true rfl)⟩ ⟨(Nat.le_of_ble_eq_true rfl), (Nat.le_of_ble_eq_true rfl)⟩ d_Er_init_87 (fun H locs hP hN hS => ?_)
  have hN : H.size = (b0 + 188) := by omega
  refine s_ast Z kc_Wy hP hN hS (Or.inr (by omega)) 4 rfl ((so_n (wyL_none (by omega))).trans ((su_n (by omega)).trans ((su_n (by omega)).trans ((so_n (wyL_none (by omega))).trans ((su_n (by omega)).trans su_s))))) (so_s wyL_0) 1 rfl (by decide) (by decide) d_Er_init_90 (fun H locs hP hN hS => ?_)
  refine lv_iinc (k := 0) (v := 2) hx hb d_Er_init_91 hl rfl (by decide) (by decide) rfl (fun ls hl => ?_)
  have hl : lv_has ls 2 [(1, .int 2), (0, .ref b0)] := hl
  refine lv_goto (tgt := 56) hx hb d_Er_init_94 rfl ?_
  refine lv_iload_n hx hb d_Er_init_56 rfl (lv_at hl 0 rfl) ?_
  refine lv_iconst (v := 3) hx hb d_Er_init_57 (by decide) ?_
  refine lv_icmp_ge (tgt := 97) hx hb d_Er_init_58 rfl (fun br58 => absurd br58 (by decide)) (fun br58 => ?_)
  refine lv_aload_n hx hb d_Er_init_61 rfl (lv_at hl 1 rfl) ?_
  refine s_get (v := .ref (b0 + 10)) Z kc_Er hP ((su_n (by omega)).trans ((so_n (wyL_none (by omega))).trans ((su_n (by omega)).trans ((su_n (by omega)).trans ((so_n (wyL_none (by omega))).trans ((su_n (by omega)).trans ((su_n (by omega)).trans ((so_n (wyL_none (by omega))).trans ((su_n (by omega)).trans ((su_n (by omega)).trans ((so_n (wyL_none (by omega))).trans ((su_n (by omega)).trans su_s)))))))))))) 1 (by decide) wl_Er_18 rfl rfl d_Er_init_62 ?_
  refine lv_iload_n hx hb d_Er_init_65 rfl (lv_at hl 0 rfl) ?_
  refine s_new Z kc_Wy hP hN hS wl_Er_16 wn_Wy wi_Wy dv_Wy (Nat.le_of_ble_eq_true rfl) (Nat.le_of_ble_eq_true rfl) d_Er_init_66 (fun H hP hN hS => ?_)
  have hN : H.size = (b0 + 189) := by omega
  refine lv_dup hx hb d_Er_init_69 rfl ?_
  refine lv_bipush (v := 16) hx hb d_Er_init_70 (by decide) ?_
  refine kn_I Z wl_Er_25 wim_Wy_init wi_Wy wc_Wy_init rfl (by decide +kernel) (k_Wy_init l D E (r := 16) (by decide)) (hP.s1 su_s) hX hP (show H.size = (b0 + 188) + 1 by omega) hS (nA_sub (by omega) (by omega)) wyL_dom [.ref (b0 + 188), .int 2, .ref (b0 + 10)] rfl rfl hl.1 (Nat.le_of_ble_eq_true rfl) ⟨(Nat.le_of_ble_eq_true rfl), (Nat.le_of_ble_eq_true rfl)⟩ ⟨(Nat.le_of_ble_eq_true rfl), (Nat.le_of_ble_eq_true rfl)⟩ d_Er_init_72 (fun H locs hP hN hS => ?_)
  have hN : H.size = (b0 + 224) := by omega
  refine s_ast Z kc_Wy hP hN hS (Or.inr (by omega)) 4 rfl ((so_n (wyL_none (by omega))).trans ((su_n (by omega)).trans ((su_n (by omega)).trans ((so_n (wyL_none (by omega))).trans ((su_n (by omega)).trans su_s))))) (so_s wyL_0) 2 rfl (by decide) (by decide) d_Er_init_75 (fun H locs hP hN hS => ?_)
  refine lv_aload_n hx hb d_Er_init_76 rfl (lv_at hl 1 rfl) ?_
  refine s_get (v := .ref (b0 + 11)) Z kc_Er hP ((su_n (by omega)).trans ((so_n (wyL_none (by omega))).trans ((su_n (by omega)).trans ((su_n (by omega)).trans ((so_n (wyL_none (by omega))).trans ((su_n (by omega)).trans ((su_n (by omega)).trans ((so_n (wyL_none (by omega))).trans ((su_n (by omega)).trans ((su_n (by omega)).trans ((so_n (wyL_none (by omega))).trans ((su_n (by omega)).trans ((su_n (by omega)).trans ((so_n (wyL_none (by omega))).trans ((su_n (by omega)).trans su_s))))))))))))))) 2 (by decide) wl_Er_22 rfl rfl d_Er_init_77 ?_
  refine lv_iload_n hx hb d_Er_init_80 rfl (lv_at hl 0 rfl) ?_
  refine s_new Z kc_Wy hP hN hS wl_Er_16 wn_Wy wi_Wy dv_Wy (Nat.le_of_ble_eq_true rfl) (Nat.le_of_ble_eq_true rfl) d_Er_init_81 (fun H hP hN hS => ?_)
  have hN : H.size = (b0 + 225) := by omega
  refine lv_dup hx hb d_Er_init_84 rfl ?_
  refine lv_bipush (v := 24) hx hb d_Er_init_85 (by decide) ?_
  refine kn_I Z wl_Er_25 wim_Wy_init wi_Wy wc_Wy_init rfl (by decide +kernel) (k_Wy_init l D E (r := 24) (by decide)) (hP.s1 su_s) hX hP (show H.size = (b0 + 224) + 1 by omega) hS (nA_sub (by omega) (by omega)) wyL_dom [.ref (b0 + 224), .int 2, .ref (b0 + 11)] rfl rfl hl.1 (Nat.le_of_ble_eq_true rfl) ⟨(Nat.le_of_ble_eq_true rfl), (Nat.le_of_ble_eq_true rfl)⟩ ⟨(Nat.le_of_ble_eq_true rfl), (Nat.le_of_ble_eq_true rfl)⟩ d_Er_init_87 (fun H locs hP hN hS => ?_)
  have hN : H.size = (b0 + 276) := by omega
  refine s_ast Z kc_Wy hP hN hS (Or.inr (by omega)) 4 rfl ((so_n (wyL_none (by omega))).trans ((su_n (by omega)).trans ((su_n (by omega)).trans ((so_n (wyL_none (by omega))).trans ((su_n (by omega)).trans su_s))))) (so_s wyL_0) 2 rfl (by decide) (by decide) d_Er_init_90 (fun H locs hP hN hS => ?_)
  refine lv_iinc (k := 0) (v := 3) hx hb d_Er_init_91 hl rfl (by decide) (by decide) rfl (fun ls hl => ?_)
  have hl : lv_has ls 2 [(1, .int 3), (0, .ref b0)] := hl
  refine lv_goto (tgt := 56) hx hb d_Er_init_94 rfl ?_
  refine lv_iload_n hx hb d_Er_init_56 rfl (lv_at hl 0 rfl) ?_
  refine lv_iconst (v := 3) hx hb d_Er_init_57 (by decide) ?_
  refine lv_icmp_ge (tgt := 97) hx hb d_Er_init_58 rfl (fun br58 => ?_) (fun br58 => absurd (by decide) br58)
  refine lv_aload_n hx hb d_Er_init_97 rfl (lv_at hl 1 rfl) ?_
  refine s_new Z kc_Ch hP hN hS wl_Er_28 wn_Ch wi_Ch dv_Ch (Nat.le_of_ble_eq_true rfl) (Nat.le_of_ble_eq_true rfl) d_Er_init_98 (fun H hP hN hS => ?_)
  have hN : H.size = (b0 + 277) := by omega
  refine lv_dup hx hb d_Er_init_101 rfl ?_
  refine kn_N Z hX.2.2.2.2.2 wim_Ch_init wi_Ch wc_Ch_init rfl (by decide +kernel) (k_Ch_init l D E) (hP.s1 su_s) hX hP hN hS (nA_sub (by omega) (by omega)) (fun q h => h) [.ref (b0 + 276), .ref b0] rfl rfl hl.1 (Nat.le_of_ble_eq_true rfl) ⟨(Nat.le_of_ble_eq_true rfl), (Nat.le_of_ble_eq_true rfl)⟩ ⟨(Nat.le_of_ble_eq_true rfl), (Nat.le_of_ble_eq_true rfl)⟩ d_Er_init_102 (fun H locs hP hN hS => ?_)
  have hN : H.size = (b0 + 277) := by omega
  refine s_putF Z kc_Er hP hN hS nA_own ((so_n (s1_n (by omega))).trans ((su_n (by omega)).trans ((su_n (by omega)).trans ((so_n (wyL_none (by omega))).trans ((su_n (by omega)).trans ((su_n (by omega)).trans ((so_n (wyL_none (by omega))).trans ((su_n (by omega)).trans ((su_n (by omega)).trans ((so_n (wyL_none (by omega))).trans ((su_n (by omega)).trans ((su_n (by omega)).trans ((so_n (wyL_none (by omega))).trans ((su_n (by omega)).trans ((su_n (by omega)).trans ((so_n (wyL_none (by omega))).trans ((su_n (by omega)).trans ((su_n (by omega)).trans ((so_n (wyL_none (by omega))).trans ((su_n (by omega)).trans su_s)))))))))))))))))))) 3 (by decide) wl_Er_31 rfl rfl hi rfl ⟨rfl, rfl⟩ (Nat.le_of_ble_eq_true rfl) d_Er_init_105 (fun H locs hP hN hS => ?_)
  have g2 : sP D (ls0 (txL E (b0 + 2))) H := hP.sub (sb_su txL_in (by omega) (sb_so txL_in s1_none (by omega) (sb_su txL_in (by omega) (sb_su txL_in (by omega) (sb_so txL_in wyL_none (by omega) (sb_su txL_in (by omega) (sb_su txL_in (by omega) (sb_so txL_in wyL_none (by omega) (sb_su txL_in (by omega) (sb_su txL_in (by omega) (sb_so txL_in wyL_none (by omega) (sb_su txL_in (by omega) (sb_su txL_in (by omega) (sb_so txL_in wyL_none (by omega) (sb_su txL_in (by omega) (sb_su txL_in (by omega) (sb_so txL_in wyL_none (by omega) (sb_su txL_in (by omega) (sb_su txL_in (by omega) (sb_so txL_in wyL_none (by omega) (sb_su txL_in (by omega) (sb_su txL_in (by omega) (sb_su txL_in (by omega) (sb_su txL_in (by omega) (sb_su txL_in (by omega) (sb_su txL_in (by omega) (sb_so txL_in txL_none (by omega) (sb_su txL_in (by omega) (sb_su txL_in (by omega) (sb_so txL_in txL_none (by omega) (sb_su txL_in (by omega) (sb_su txL_in (by omega) (sb_so txL_in txL_none (by omega) (sb_su txL_in (by omega) (sb_su txL_in (by omega) (fun q y hq => so_s hq))))))))))))))))))))))))))))))))))))
  have g4 : sP D (ls0 (txL E (b0 + 4))) H := hP.sub (sb_su txL_in (by omega) (sb_so txL_in s1_none (by omega) (sb_su txL_in (by omega) (sb_su txL_in (by omega) (sb_so txL_in wyL_none (by omega) (sb_su txL_in (by omega) (sb_su txL_in (by omega) (sb_so txL_in wyL_none (by omega) (sb_su txL_in (by omega) (sb_su txL_in (by omega) (sb_so txL_in wyL_none (by omega) (sb_su txL_in (by omega) (sb_su txL_in (by omega) (sb_so txL_in wyL_none (by omega) (sb_su txL_in (by omega) (sb_su txL_in (by omega) (sb_so txL_in wyL_none (by omega) (sb_su txL_in (by omega) (sb_su txL_in (by omega) (sb_so txL_in wyL_none (by omega) (sb_su txL_in (by omega) (sb_su txL_in (by omega) (sb_su txL_in (by omega) (sb_su txL_in (by omega) (sb_su txL_in (by omega) (sb_su txL_in (by omega) (sb_so txL_in txL_none (by omega) (sb_su txL_in (by omega) (sb_su txL_in (by omega) (sb_so txL_in txL_none (by omega) (sb_su txL_in (by omega) (sb_su txL_in (by omega) (fun q y hq => so_s hq)))))))))))))))))))))))))))))))))
  have g6 : sP D (ls0 (txL E (b0 + 6))) H := hP.sub (sb_su txL_in (by omega) (sb_so txL_in s1_none (by omega) (sb_su txL_in (by omega) (sb_su txL_in (by omega) (sb_so txL_in wyL_none (by omega) (sb_su txL_in (by omega) (sb_su txL_in (by omega) (sb_so txL_in wyL_none (by omega) (sb_su txL_in (by omega) (sb_su txL_in (by omega) (sb_so txL_in wyL_none (by omega) (sb_su txL_in (by omega) (sb_su txL_in (by omega) (sb_so txL_in wyL_none (by omega) (sb_su txL_in (by omega) (sb_su txL_in (by omega) (sb_so txL_in wyL_none (by omega) (sb_su txL_in (by omega) (sb_su txL_in (by omega) (sb_so txL_in wyL_none (by omega) (sb_su txL_in (by omega) (sb_su txL_in (by omega) (sb_su txL_in (by omega) (sb_su txL_in (by omega) (sb_su txL_in (by omega) (sb_su txL_in (by omega) (sb_so txL_in txL_none (by omega) (sb_su txL_in (by omega) (sb_su txL_in (by omega) (fun q y hq => so_s hq))))))))))))))))))))))))))))))
  have g8 : sP D (ls0 (txL E (b0 + 8))) H := hP.sub (sb_su txL_in (by omega) (sb_so txL_in s1_none (by omega) (sb_su txL_in (by omega) (sb_su txL_in (by omega) (sb_so txL_in wyL_none (by omega) (sb_su txL_in (by omega) (sb_su txL_in (by omega) (sb_so txL_in wyL_none (by omega) (sb_su txL_in (by omega) (sb_su txL_in (by omega) (sb_so txL_in wyL_none (by omega) (sb_su txL_in (by omega) (sb_su txL_in (by omega) (sb_so txL_in wyL_none (by omega) (sb_su txL_in (by omega) (sb_su txL_in (by omega) (sb_so txL_in wyL_none (by omega) (sb_su txL_in (by omega) (sb_su txL_in (by omega) (sb_so txL_in wyL_none (by omega) (sb_su txL_in (by omega) (sb_su txL_in (by omega) (sb_su txL_in (by omega) (sb_su txL_in (by omega) (sb_su txL_in (by omega) (sb_su txL_in (by omega) (fun q y hq => so_s hq)))))))))))))))))))))))))))
  have g12 : sP D (ls0 (wyL E (b0 + 12) 16)) H := hP.sub (sb_su wyL_in (by omega) (sb_so wyL_in s1_none (by omega) (sb_su wyL_in (by omega) (sb_su wyL_in (by omega) (sb_so wyL_in wyL_none (by omega) (sb_su wyL_in (by omega) (sb_su wyL_in (by omega) (sb_so wyL_in wyL_none (by omega) (sb_su wyL_in (by omega) (sb_su wyL_in (by omega) (sb_so wyL_in wyL_none (by omega) (sb_su wyL_in (by omega) (sb_su wyL_in (by omega) (sb_so wyL_in wyL_none (by omega) (sb_su wyL_in (by omega) (sb_su wyL_in (by omega) (sb_so wyL_in wyL_none (by omega) (sb_su wyL_in (by omega) (sb_su wyL_in (by omega) (fun q y hq => so_s hq))))))))))))))))))))
  have g48 : sP D (ls0 (wyL E (b0 + 48) 24)) H := hP.sub (sb_su wyL_in (by omega) (sb_so wyL_in s1_none (by omega) (sb_su wyL_in (by omega) (sb_su wyL_in (by omega) (sb_so wyL_in wyL_none (by omega) (sb_su wyL_in (by omega) (sb_su wyL_in (by omega) (sb_so wyL_in wyL_none (by omega) (sb_su wyL_in (by omega) (sb_su wyL_in (by omega) (sb_so wyL_in wyL_none (by omega) (sb_su wyL_in (by omega) (sb_su wyL_in (by omega) (sb_so wyL_in wyL_none (by omega) (sb_su wyL_in (by omega) (sb_su wyL_in (by omega) (fun q y hq => so_s hq)))))))))))))))))
  have g100 : sP D (ls0 (wyL E (b0 + 100) 16)) H := hP.sub (sb_su wyL_in (by omega) (sb_so wyL_in s1_none (by omega) (sb_su wyL_in (by omega) (sb_su wyL_in (by omega) (sb_so wyL_in wyL_none (by omega) (sb_su wyL_in (by omega) (sb_su wyL_in (by omega) (sb_so wyL_in wyL_none (by omega) (sb_su wyL_in (by omega) (sb_su wyL_in (by omega) (sb_so wyL_in wyL_none (by omega) (sb_su wyL_in (by omega) (sb_su wyL_in (by omega) (fun q y hq => so_s hq))))))))))))))
  have g136 : sP D (ls0 (wyL E (b0 + 136) 24)) H := hP.sub (sb_su wyL_in (by omega) (sb_so wyL_in s1_none (by omega) (sb_su wyL_in (by omega) (sb_su wyL_in (by omega) (sb_so wyL_in wyL_none (by omega) (sb_su wyL_in (by omega) (sb_su wyL_in (by omega) (sb_so wyL_in wyL_none (by omega) (sb_su wyL_in (by omega) (sb_su wyL_in (by omega) (fun q y hq => so_s hq)))))))))))
  have g188 : sP D (ls0 (wyL E (b0 + 188) 16)) H := hP.sub (sb_su wyL_in (by omega) (sb_so wyL_in s1_none (by omega) (sb_su wyL_in (by omega) (sb_su wyL_in (by omega) (sb_so wyL_in wyL_none (by omega) (sb_su wyL_in (by omega) (sb_su wyL_in (by omega) (fun q y hq => so_s hq))))))))
  have g224 : sP D (ls0 (wyL E (b0 + 224) 24)) H := hP.sub (sb_su wyL_in (by omega) (sb_so wyL_in s1_none (by omega) (sb_su wyL_in (by omega) (sb_su wyL_in (by omega) (fun q y hq => so_s hq)))))
  have a1 : H[b0 + 1]? = some _ := hP (b0 + 1) _ ((su_n (by omega)).trans ((so_n (s1_n (by omega))).trans ((su_n (by omega)).trans ((su_n (by omega)).trans ((so_n (wyL_none (by omega))).trans ((su_n (by omega)).trans ((su_n (by omega)).trans ((so_n (wyL_none (by omega))).trans ((su_n (by omega)).trans ((su_n (by omega)).trans ((so_n (wyL_none (by omega))).trans ((su_n (by omega)).trans ((su_n (by omega)).trans ((so_n (wyL_none (by omega))).trans ((su_n (by omega)).trans ((su_n (by omega)).trans ((so_n (wyL_none (by omega))).trans ((su_n (by omega)).trans ((su_n (by omega)).trans ((so_n (wyL_none (by omega))).trans ((su_n (by omega)).trans ((su_n (by omega)).trans ((su_n (by omega)).trans ((su_n (by omega)).trans ((su_n (by omega)).trans su_s)))))))))))))))))))))))))
  rw [arr_eq (g := fun k => some (b0 + 2 + 2 * k)) (fun k hk => by rcases (show k = 0 ∨ k = 1 ∨ k = 2 ∨ k = 3 by omega) with rfl | rfl | rfl | rfl <;> rfl)] at a1
  have a10 : H[b0 + 10]? = some _ := hP (b0 + 10) _ ((su_n (by omega)).trans ((so_n (s1_n (by omega))).trans ((su_n (by omega)).trans ((su_n (by omega)).trans ((so_n (wyL_none (by omega))).trans ((su_n (by omega)).trans su_s))))))
  rw [arr_eq (g := fun k => some (b0 + 12 + 88 * k)) (fun k hk => by rcases (show k = 0 ∨ k = 1 ∨ k = 2 by omega) with rfl | rfl | rfl <;> rfl)] at a10
  have a11 : H[b0 + 11]? = some _ := hP (b0 + 11) _ ((su_n (by omega)).trans ((so_n (s1_n (by omega))).trans ((su_n (by omega)).trans su_s)))
  rw [arr_eq (g := fun k => some (b0 + 48 + 88 * k)) (fun k hk => by rcases (show k = 0 ∨ k = 1 ∨ k = 2 by omega) with rfl | rfl | rfl <;> rfl)] at a11
  refine s_ret Z hr hlocks (erL_P (hP b0 _ su_s) a1 a10 a11 (hP (b0 + 276) _ ((su_n (by omega)).trans (so_s s1_s))) (fun k hk => ?_) (fun k hk => ?_) (fun k hk => ?_)) hN hS (Nat.le_of_ble_eq_true rfl) (Nat.le_of_ble_eq_true rfl) hN0 d_Er_init_108
  · rcases (show k = 0 ∨ k = 1 ∨ k = 2 ∨ k = 3 by omega) with rfl | rfl | rfl | rfl
    · exact g2
    · exact g4
    · exact g6
    · exact g8
  · rcases (show k = 0 ∨ k = 1 ∨ k = 2 by omega) with rfl | rfl | rfl
    · exact g12
    · exact g100
    · exact g188
  · rcases (show k = 0 ∨ k = 1 ∨ k = 2 by omega) with rfl | rfl | rfl
    · exact g48
    · exact g136
    · exact g224
/-- the layout of a reference at m0 -/
def moL (E : Nat → ClassId) (m0 : Nat) : la_L := fun q => if q = m0 then some (sh_Mo m0) else if q = m0 + 1 then some (sh_I E 4) else if q = m0 + 2 then some (sh_C E 800) else if q = m0 + 3 then some (sh_I E 6) else if q = m0 + 4 then some (sh_I E 6) else if q = m0 + 5 then some (sh_I E 6) else if q = m0 + 6 then some (sh_I E 240) else if q = m0 + 7 then some (sh_I E 240) else if q = m0 + 8 then some (sh_I E 240) else if q = m0 + 9 then some (sh_I E 240) else if q = m0 + 10 then some (sh_I E 240) else if q = m0 + 11 then some (sh_I E 6) else if q = m0 + 12 then some (sh_I E 240) else if q = m0 + 13 then some (sh_I E 240) else if q = m0 + 14 then some (sh_I E 240) else if q = m0 + 15 then some (sh_I E 240) else none
theorem isMo_L {E : Nat → ClassId} {La : la_L} {m0 : Nat} (h : ∀ j, j < 16 → La (m0 + j) = moL E m0 (m0 + j)) : isMo E La m0 := by
  refine ⟨?_, ?_, ?_, ?_, ?_, ?_, ?_, ?_, ?_, ?_, ?_, ?_, ?_, ?_, ?_, ?_⟩
  · rw [show m0 = m0 + 0 from rfl, h 0 (by omega)]
    exact if_pos rfl
  · rw [h 1 (by omega)]
    unfold moL
    rw [if_neg (by omega), if_pos rfl]
  · rw [h 2 (by omega)]
    unfold moL
    rw [if_neg (by omega), if_neg (by omega), if_pos rfl]
  · rw [h 3 (by omega)]
    unfold moL
    rw [if_neg (by omega), if_neg (by omega), if_neg (by omega), if_pos rfl]
  · rw [h 4 (by omega)]
    unfold moL
    rw [if_neg (by omega), if_neg (by omega), if_neg (by omega), if_neg (by omega), if_pos rfl]
  · rw [h 5 (by omega)]
    unfold moL
    rw [if_neg (by omega), if_neg (by omega), if_neg (by omega), if_neg (by omega), if_neg (by omega), if_pos rfl]
  · rw [h 6 (by omega)]
    unfold moL
    rw [if_neg (by omega), if_neg (by omega), if_neg (by omega), if_neg (by omega), if_neg (by omega), if_neg (by omega), if_pos rfl]
  · rw [h 7 (by omega)]
    unfold moL
    rw [if_neg (by omega), if_neg (by omega), if_neg (by omega), if_neg (by omega), if_neg (by omega), if_neg (by omega), if_neg (by omega), if_pos rfl]
  · rw [h 8 (by omega)]
    unfold moL
    rw [if_neg (by omega), if_neg (by omega), if_neg (by omega), if_neg (by omega), if_neg (by omega), if_neg (by omega), if_neg (by omega), if_neg (by omega), if_pos rfl]
  · rw [h 9 (by omega)]
    unfold moL
    rw [if_neg (by omega), if_neg (by omega), if_neg (by omega), if_neg (by omega), if_neg (by omega), if_neg (by omega), if_neg (by omega), if_neg (by omega), if_neg (by omega), if_pos rfl]
  · rw [h 10 (by omega)]
    unfold moL
    rw [if_neg (by omega), if_neg (by omega), if_neg (by omega), if_neg (by omega), if_neg (by omega), if_neg (by omega), if_neg (by omega), if_neg (by omega), if_neg (by omega), if_neg (by omega), if_pos rfl]
  · rw [h 11 (by omega)]
    unfold moL
    rw [if_neg (by omega), if_neg (by omega), if_neg (by omega), if_neg (by omega), if_neg (by omega), if_neg (by omega), if_neg (by omega), if_neg (by omega), if_neg (by omega), if_neg (by omega), if_neg (by omega), if_pos rfl]
  · rw [h 12 (by omega)]
    unfold moL
    rw [if_neg (by omega), if_neg (by omega), if_neg (by omega), if_neg (by omega), if_neg (by omega), if_neg (by omega), if_neg (by omega), if_neg (by omega), if_neg (by omega), if_neg (by omega), if_neg (by omega), if_neg (by omega), if_pos rfl]
  · rw [h 13 (by omega)]
    unfold moL
    rw [if_neg (by omega), if_neg (by omega), if_neg (by omega), if_neg (by omega), if_neg (by omega), if_neg (by omega), if_neg (by omega), if_neg (by omega), if_neg (by omega), if_neg (by omega), if_neg (by omega), if_neg (by omega), if_neg (by omega), if_pos rfl]
  · rw [h 14 (by omega)]
    unfold moL
    rw [if_neg (by omega), if_neg (by omega), if_neg (by omega), if_neg (by omega), if_neg (by omega), if_neg (by omega), if_neg (by omega), if_neg (by omega), if_neg (by omega), if_neg (by omega), if_neg (by omega), if_neg (by omega), if_neg (by omega), if_neg (by omega), if_pos rfl]
  · rw [h 15 (by omega)]
    unfold moL
    rw [if_neg (by omega), if_neg (by omega), if_neg (by omega), if_neg (by omega), if_neg (by omega), if_neg (by omega), if_neg (by omega), if_neg (by omega), if_neg (by omega), if_neg (by omega), if_neg (by omega), if_neg (by omega), if_neg (by omega), if_neg (by omega), if_neg (by omega), if_pos rfl]
theorem moL_none {E : Nat → ClassId} {m0 q : Nat} (h : q < m0 ∨ m0 + 16 ≤ q) : moL E m0 q = none := by
  unfold moL
  rw [if_neg (by omega), if_neg (by omega), if_neg (by omega), if_neg (by omega), if_neg (by omega), if_neg (by omega), if_neg (by omega), if_neg (by omega), if_neg (by omega), if_neg (by omega), if_neg (by omega), if_neg (by omega), if_neg (by omega), if_neg (by omega), if_neg (by omega), if_neg (by omega)]
theorem moL_dom {E : Nat → ClassId} {b : Nat} {x : va_E} : ∀ q, ls0 (moL E b) q = none → s1 b x q = none := by
  intro q h
  by_cases hq : q = b
  · subst hq
    unfold ls0 moL at h
    rw [if_pos rfl] at h
    cases h
  · exact s1_n hq
set_option maxHeartbeats 8000000 in
set_option maxRecDepth 100000 in
theorem k_Mo_init (l : Launch) (D : va_G) (E : Nat → ClassId) {m0 : Nat} : kn l y_Mo_init b_Mo_init 1 1 13 15 2988 D E (s1 m0 x_Mo) (m0 + 1) [.ref m0] (ls0 (moL E m0)) (m0 + 16) := by
  refine kn_begin R_Mo (by decide) rfl rfl (Nat.le_of_ble_eq_true rfl) ?_
  intro p e s m below meth c ls Z hr hlocks hi hP hN hX hS hl
  have hx := Z.1
  have hb := Z.2.1
  have hN0 := hN
  have hl : lv_has ls 1 [(0, .ref m0)] := hl
  refine lv_aload_n hx hb d_Mo_init_0 rfl (lv_at hl 0 rfl) ?_
  refine s_obj Z wl_Mo_1 hl.1 (Nat.le_of_ble_eq_true rfl) (Nat.le_of_ble_eq_true rfl) d_Mo_init_1 ?_
  refine lv_aload_n hx hb d_Mo_init_4 rfl (lv_at hl 0 rfl) ?_
  refine lv_iconst (v := 4) hx hb d_Mo_init_5 (by decide) ?_
  refine s_newa (at0 := .int) (ty := .int) (a0 := (4, .inl (fun _ => 0))) Z hP hN hS rfl wa_int 0 rfl rfl (N' := 4) (fun _ => rfl) rfl (by decide) (by decide) (Nat.le_of_ble_eq_true rfl) (Nat.le_of_ble_eq_true rfl) d_Mo_init_6 (fun H hP hN hS => ?_)
  have hN : H.size = (m0 + 2) := by omega
  refine s_putF Z kc_Mo hP hN hS nA_own ((su_n (by omega)).trans s1_s) 1 (by decide) wl_Mo_7 rfl rfl hi rfl ⟨rfl, rfl⟩ (Nat.le_of_ble_eq_true rfl) d_Mo_init_8 (fun H locs hP hN hS => ?_)
  refine lv_aload_n hx hb d_Mo_init_11 rfl (lv_at hl 0 rfl) ?_
  refine lv_sipush (v := 800) hx hb d_Mo_init_12 (by decide) ?_
  refine s_newa (at0 := .char) (ty := .char) (a0 := (800, .inl (fun _ => 0))) Z hP hN hS rfl wa_char 1 rfl rfl (N' := 800) (fun _ => rfl) rfl (by decide) (by decide) (Nat.le_of_ble_eq_true rfl) (Nat.le_of_ble_eq_true rfl) d_Mo_init_15 (fun H hP hN hS => ?_)
  have hN : H.size = (m0 + 3) := by omega
  refine s_putF Z kc_Mo hP hN hS nA_own ((su_n (by omega)).trans su_s) 2 (by decide) wl_Mo_13 rfl rfl hi rfl ⟨rfl, rfl⟩ (Nat.le_of_ble_eq_true rfl) d_Mo_init_17 (fun H locs hP hN hS => ?_)
  refine lv_aload_n hx hb d_Mo_init_20 rfl (lv_at hl 0 rfl) ?_
  refine lv_bipush (v := 6) hx hb d_Mo_init_21 (by decide) ?_
  refine s_newa (at0 := .int) (ty := .int) (a0 := (6, .inl (fun _ => 0))) Z hP hN hS rfl wa_int 0 rfl rfl (N' := 6) (fun _ => rfl) rfl (by decide) (by decide) (Nat.le_of_ble_eq_true rfl) (Nat.le_of_ble_eq_true rfl) d_Mo_init_23 (fun H hP hN hS => ?_)
  have hN : H.size = (m0 + 4) := by omega
  refine s_putF Z kc_Mo hP hN hS nA_own ((su_n (by omega)).trans su_s) 3 (by decide) wl_Mo_17 rfl rfl hi rfl ⟨rfl, rfl⟩ (Nat.le_of_ble_eq_true rfl) d_Mo_init_25 (fun H locs hP hN hS => ?_)
  refine lv_aload_n hx hb d_Mo_init_28 rfl (lv_at hl 0 rfl) ?_
  refine lv_bipush (v := 6) hx hb d_Mo_init_29 (by decide) ?_
  refine s_newa (at0 := .int) (ty := .int) (a0 := (6, .inl (fun _ => 0))) Z hP hN hS rfl wa_int 0 rfl rfl (N' := 6) (fun _ => rfl) rfl (by decide) (by decide) (Nat.le_of_ble_eq_true rfl) (Nat.le_of_ble_eq_true rfl) d_Mo_init_31 (fun H hP hN hS => ?_)
  have hN : H.size = (m0 + 5) := by omega
  refine s_putF Z kc_Mo hP hN hS nA_own ((su_n (by omega)).trans su_s) 4 (by decide) wl_Mo_20 rfl rfl hi rfl ⟨rfl, rfl⟩ (Nat.le_of_ble_eq_true rfl) d_Mo_init_33 (fun H locs hP hN hS => ?_)
  refine lv_aload_n hx hb d_Mo_init_36 rfl (lv_at hl 0 rfl) ?_
  refine lv_bipush (v := 6) hx hb d_Mo_init_37 (by decide) ?_
  refine s_newa (at0 := .int) (ty := .int) (a0 := (6, .inl (fun _ => 0))) Z hP hN hS rfl wa_int 0 rfl rfl (N' := 6) (fun _ => rfl) rfl (by decide) (by decide) (Nat.le_of_ble_eq_true rfl) (Nat.le_of_ble_eq_true rfl) d_Mo_init_39 (fun H hP hN hS => ?_)
  have hN : H.size = (m0 + 6) := by omega
  refine s_putF Z kc_Mo hP hN hS nA_own ((su_n (by omega)).trans su_s) 5 (by decide) wl_Mo_23 rfl rfl hi rfl ⟨rfl, rfl⟩ (Nat.le_of_ble_eq_true rfl) d_Mo_init_41 (fun H locs hP hN hS => ?_)
  refine lv_aload_n hx hb d_Mo_init_44 rfl (lv_at hl 0 rfl) ?_
  refine lv_sipush (v := 240) hx hb d_Mo_init_45 (by decide) ?_
  refine s_newa (at0 := .int) (ty := .int) (a0 := (240, .inl (fun _ => 0))) Z hP hN hS rfl wa_int 0 rfl rfl (N' := 240) (fun _ => rfl) rfl (by decide) (by decide) (Nat.le_of_ble_eq_true rfl) (Nat.le_of_ble_eq_true rfl) d_Mo_init_48 (fun H hP hN hS => ?_)
  have hN : H.size = (m0 + 7) := by omega
  refine s_putF Z kc_Mo hP hN hS nA_own ((su_n (by omega)).trans su_s) 6 (by decide) wl_Mo_26 rfl rfl hi rfl ⟨rfl, rfl⟩ (Nat.le_of_ble_eq_true rfl) d_Mo_init_50 (fun H locs hP hN hS => ?_)
  refine lv_aload_n hx hb d_Mo_init_53 rfl (lv_at hl 0 rfl) ?_
  refine lv_sipush (v := 240) hx hb d_Mo_init_54 (by decide) ?_
  refine s_newa (at0 := .int) (ty := .int) (a0 := (240, .inl (fun _ => 0))) Z hP hN hS rfl wa_int 0 rfl rfl (N' := 240) (fun _ => rfl) rfl (by decide) (by decide) (Nat.le_of_ble_eq_true rfl) (Nat.le_of_ble_eq_true rfl) d_Mo_init_57 (fun H hP hN hS => ?_)
  have hN : H.size = (m0 + 8) := by omega
  refine s_putF Z kc_Mo hP hN hS nA_own ((su_n (by omega)).trans su_s) 7 (by decide) wl_Mo_29 rfl rfl hi rfl ⟨rfl, rfl⟩ (Nat.le_of_ble_eq_true rfl) d_Mo_init_59 (fun H locs hP hN hS => ?_)
  refine lv_aload_n hx hb d_Mo_init_62 rfl (lv_at hl 0 rfl) ?_
  refine lv_sipush (v := 240) hx hb d_Mo_init_63 (by decide) ?_
  refine s_newa (at0 := .int) (ty := .int) (a0 := (240, .inl (fun _ => 0))) Z hP hN hS rfl wa_int 0 rfl rfl (N' := 240) (fun _ => rfl) rfl (by decide) (by decide) (Nat.le_of_ble_eq_true rfl) (Nat.le_of_ble_eq_true rfl) d_Mo_init_66 (fun H hP hN hS => ?_)
  have hN : H.size = (m0 + 9) := by omega
  refine s_putF Z kc_Mo hP hN hS nA_own ((su_n (by omega)).trans su_s) 8 (by decide) wl_Mo_32 rfl rfl hi rfl ⟨rfl, rfl⟩ (Nat.le_of_ble_eq_true rfl) d_Mo_init_68 (fun H locs hP hN hS => ?_)
  refine lv_aload_n hx hb d_Mo_init_71 rfl (lv_at hl 0 rfl) ?_
  refine lv_sipush (v := 240) hx hb d_Mo_init_72 (by decide) ?_
  refine s_newa (at0 := .int) (ty := .int) (a0 := (240, .inl (fun _ => 0))) Z hP hN hS rfl wa_int 0 rfl rfl (N' := 240) (fun _ => rfl) rfl (by decide) (by decide) (Nat.le_of_ble_eq_true rfl) (Nat.le_of_ble_eq_true rfl) d_Mo_init_75 (fun H hP hN hS => ?_)
  have hN : H.size = (m0 + 10) := by omega
  refine s_putF Z kc_Mo hP hN hS nA_own ((su_n (by omega)).trans su_s) 9 (by decide) wl_Mo_35 rfl rfl hi rfl ⟨rfl, rfl⟩ (Nat.le_of_ble_eq_true rfl) d_Mo_init_77 (fun H locs hP hN hS => ?_)
  refine lv_aload_n hx hb d_Mo_init_80 rfl (lv_at hl 0 rfl) ?_
  refine lv_sipush (v := 240) hx hb d_Mo_init_81 (by decide) ?_
  refine s_newa (at0 := .int) (ty := .int) (a0 := (240, .inl (fun _ => 0))) Z hP hN hS rfl wa_int 0 rfl rfl (N' := 240) (fun _ => rfl) rfl (by decide) (by decide) (Nat.le_of_ble_eq_true rfl) (Nat.le_of_ble_eq_true rfl) d_Mo_init_84 (fun H hP hN hS => ?_)
  have hN : H.size = (m0 + 11) := by omega
  refine s_putF Z kc_Mo hP hN hS nA_own ((su_n (by omega)).trans su_s) 10 (by decide) wl_Mo_38 rfl rfl hi rfl ⟨rfl, rfl⟩ (Nat.le_of_ble_eq_true rfl) d_Mo_init_86 (fun H locs hP hN hS => ?_)
  refine lv_aload_n hx hb d_Mo_init_89 rfl (lv_at hl 0 rfl) ?_
  refine lv_bipush (v := 6) hx hb d_Mo_init_90 (by decide) ?_
  refine s_newa (at0 := .int) (ty := .int) (a0 := (6, .inl (fun _ => 0))) Z hP hN hS rfl wa_int 0 rfl rfl (N' := 6) (fun _ => rfl) rfl (by decide) (by decide) (Nat.le_of_ble_eq_true rfl) (Nat.le_of_ble_eq_true rfl) d_Mo_init_92 (fun H hP hN hS => ?_)
  have hN : H.size = (m0 + 12) := by omega
  refine s_putF Z kc_Mo hP hN hS nA_own ((su_n (by omega)).trans su_s) 11 (by decide) wl_Mo_41 rfl rfl hi rfl ⟨rfl, rfl⟩ (Nat.le_of_ble_eq_true rfl) d_Mo_init_94 (fun H locs hP hN hS => ?_)
  refine lv_aload_n hx hb d_Mo_init_97 rfl (lv_at hl 0 rfl) ?_
  refine lv_sipush (v := 240) hx hb d_Mo_init_98 (by decide) ?_
  refine s_newa (at0 := .int) (ty := .int) (a0 := (240, .inl (fun _ => 0))) Z hP hN hS rfl wa_int 0 rfl rfl (N' := 240) (fun _ => rfl) rfl (by decide) (by decide) (Nat.le_of_ble_eq_true rfl) (Nat.le_of_ble_eq_true rfl) d_Mo_init_101 (fun H hP hN hS => ?_)
  have hN : H.size = (m0 + 13) := by omega
  refine s_putF Z kc_Mo hP hN hS nA_own ((su_n (by omega)).trans su_s) 12 (by decide) wl_Mo_44 rfl rfl hi rfl ⟨rfl, rfl⟩ (Nat.le_of_ble_eq_true rfl) d_Mo_init_103 (fun H locs hP hN hS => ?_)
  refine lv_aload_n hx hb d_Mo_init_106 rfl (lv_at hl 0 rfl) ?_
  refine lv_sipush (v := 240) hx hb d_Mo_init_107 (by decide) ?_
  refine s_newa (at0 := .int) (ty := .int) (a0 := (240, .inl (fun _ => 0))) Z hP hN hS rfl wa_int 0 rfl rfl (N' := 240) (fun _ => rfl) rfl (by decide) (by decide) (Nat.le_of_ble_eq_true rfl) (Nat.le_of_ble_eq_true rfl) d_Mo_init_110 (fun H hP hN hS => ?_)
  have hN : H.size = (m0 + 14) := by omega
  refine s_putF Z kc_Mo hP hN hS nA_own ((su_n (by omega)).trans su_s) 13 (by decide) wl_Mo_47 rfl rfl hi rfl ⟨rfl, rfl⟩ (Nat.le_of_ble_eq_true rfl) d_Mo_init_112 (fun H locs hP hN hS => ?_)
  refine lv_aload_n hx hb d_Mo_init_115 rfl (lv_at hl 0 rfl) ?_
  refine lv_sipush (v := 240) hx hb d_Mo_init_116 (by decide) ?_
  refine s_newa (at0 := .int) (ty := .int) (a0 := (240, .inl (fun _ => 0))) Z hP hN hS rfl wa_int 0 rfl rfl (N' := 240) (fun _ => rfl) rfl (by decide) (by decide) (Nat.le_of_ble_eq_true rfl) (Nat.le_of_ble_eq_true rfl) d_Mo_init_119 (fun H hP hN hS => ?_)
  have hN : H.size = (m0 + 15) := by omega
  refine s_putF Z kc_Mo hP hN hS nA_own ((su_n (by omega)).trans su_s) 14 (by decide) wl_Mo_50 rfl rfl hi rfl ⟨rfl, rfl⟩ (Nat.le_of_ble_eq_true rfl) d_Mo_init_121 (fun H locs hP hN hS => ?_)
  refine lv_aload_n hx hb d_Mo_init_124 rfl (lv_at hl 0 rfl) ?_
  refine lv_sipush (v := 240) hx hb d_Mo_init_125 (by decide) ?_
  refine s_newa (at0 := .int) (ty := .int) (a0 := (240, .inl (fun _ => 0))) Z hP hN hS rfl wa_int 0 rfl rfl (N' := 240) (fun _ => rfl) rfl (by decide) (by decide) (Nat.le_of_ble_eq_true rfl) (Nat.le_of_ble_eq_true rfl) d_Mo_init_128 (fun H hP hN hS => ?_)
  have hN : H.size = (m0 + 16) := by omega
  refine s_putF Z kc_Mo hP hN hS nA_own ((su_n (by omega)).trans su_s) 15 (by decide) wl_Mo_53 rfl rfl hi rfl ⟨rfl, rfl⟩ (Nat.le_of_ble_eq_true rfl) d_Mo_init_130 (fun H locs hP hN hS => ?_)
  refine s_ret Z hr hlocks (fun q x hq => ?_) hN hS (Nat.le_of_ble_eq_true rfl) (Nat.le_of_ble_eq_true rfl) hN0 d_Mo_init_133
  have hq' : (moL E m0 q).map (fun f => f (fun _ => 0)) = some x := hq
  unfold moL at hq'
  by_cases e0 : q = m0
  · rw [if_pos e0] at hq'
    subst e0
    cases hq'
    exact hP q _ su_s
  · rw [if_neg e0] at hq'
    by_cases e1 : q = m0 + 1
    · rw [if_pos e1] at hq'
      subst e1
      cases hq'
      exact hP (m0 + 1) _ ((su_n (by omega)).trans ((su_n (by omega)).trans ((su_n (by omega)).trans ((su_n (by omega)).trans ((su_n (by omega)).trans ((su_n (by omega)).trans ((su_n (by omega)).trans ((su_n (by omega)).trans ((su_n (by omega)).trans ((su_n (by omega)).trans ((su_n (by omega)).trans ((su_n (by omega)).trans ((su_n (by omega)).trans ((su_n (by omega)).trans ((su_n (by omega)).trans ((su_n (by omega)).trans ((su_n (by omega)).trans ((su_n (by omega)).trans ((su_n (by omega)).trans ((su_n (by omega)).trans ((su_n (by omega)).trans ((su_n (by omega)).trans ((su_n (by omega)).trans ((su_n (by omega)).trans ((su_n (by omega)).trans ((su_n (by omega)).trans ((su_n (by omega)).trans ((su_n (by omega)).trans ((su_n (by omega)).trans su_s)))))))))))))))))))))))))))))
    · rw [if_neg e1] at hq'
      by_cases e2 : q = m0 + 2
      · rw [if_pos e2] at hq'
        subst e2
        cases hq'
        exact hP (m0 + 2) _ ((su_n (by omega)).trans ((su_n (by omega)).trans ((su_n (by omega)).trans ((su_n (by omega)).trans ((su_n (by omega)).trans ((su_n (by omega)).trans ((su_n (by omega)).trans ((su_n (by omega)).trans ((su_n (by omega)).trans ((su_n (by omega)).trans ((su_n (by omega)).trans ((su_n (by omega)).trans ((su_n (by omega)).trans ((su_n (by omega)).trans ((su_n (by omega)).trans ((su_n (by omega)).trans ((su_n (by omega)).trans ((su_n (by omega)).trans ((su_n (by omega)).trans ((su_n (by omega)).trans ((su_n (by omega)).trans ((su_n (by omega)).trans ((su_n (by omega)).trans ((su_n (by omega)).trans ((su_n (by omega)).trans ((su_n (by omega)).trans ((su_n (by omega)).trans su_s)))))))))))))))))))))))))))
      · rw [if_neg e2] at hq'
        by_cases e3 : q = m0 + 3
        · rw [if_pos e3] at hq'
          subst e3
          cases hq'
          exact hP (m0 + 3) _ ((su_n (by omega)).trans ((su_n (by omega)).trans ((su_n (by omega)).trans ((su_n (by omega)).trans ((su_n (by omega)).trans ((su_n (by omega)).trans ((su_n (by omega)).trans ((su_n (by omega)).trans ((su_n (by omega)).trans ((su_n (by omega)).trans ((su_n (by omega)).trans ((su_n (by omega)).trans ((su_n (by omega)).trans ((su_n (by omega)).trans ((su_n (by omega)).trans ((su_n (by omega)).trans ((su_n (by omega)).trans ((su_n (by omega)).trans ((su_n (by omega)).trans ((su_n (by omega)).trans ((su_n (by omega)).trans ((su_n (by omega)).trans ((su_n (by omega)).trans ((su_n (by omega)).trans ((su_n (by omega)).trans su_s)))))))))))))))))))))))))
        · rw [if_neg e3] at hq'
          by_cases e4 : q = m0 + 4
          · rw [if_pos e4] at hq'
            subst e4
            cases hq'
            exact hP (m0 + 4) _ ((su_n (by omega)).trans ((su_n (by omega)).trans ((su_n (by omega)).trans ((su_n (by omega)).trans ((su_n (by omega)).trans ((su_n (by omega)).trans ((su_n (by omega)).trans ((su_n (by omega)).trans ((su_n (by omega)).trans ((su_n (by omega)).trans ((su_n (by omega)).trans ((su_n (by omega)).trans ((su_n (by omega)).trans ((su_n (by omega)).trans ((su_n (by omega)).trans ((su_n (by omega)).trans ((su_n (by omega)).trans ((su_n (by omega)).trans ((su_n (by omega)).trans ((su_n (by omega)).trans ((su_n (by omega)).trans ((su_n (by omega)).trans ((su_n (by omega)).trans su_s)))))))))))))))))))))))
          · rw [if_neg e4] at hq'
            by_cases e5 : q = m0 + 5
            · rw [if_pos e5] at hq'
              subst e5
              cases hq'
              exact hP (m0 + 5) _ ((su_n (by omega)).trans ((su_n (by omega)).trans ((su_n (by omega)).trans ((su_n (by omega)).trans ((su_n (by omega)).trans ((su_n (by omega)).trans ((su_n (by omega)).trans ((su_n (by omega)).trans ((su_n (by omega)).trans ((su_n (by omega)).trans ((su_n (by omega)).trans ((su_n (by omega)).trans ((su_n (by omega)).trans ((su_n (by omega)).trans ((su_n (by omega)).trans ((su_n (by omega)).trans ((su_n (by omega)).trans ((su_n (by omega)).trans ((su_n (by omega)).trans ((su_n (by omega)).trans ((su_n (by omega)).trans su_s)))))))))))))))))))))
            · rw [if_neg e5] at hq'
              by_cases e6 : q = m0 + 6
              · rw [if_pos e6] at hq'
                subst e6
                cases hq'
                exact hP (m0 + 6) _ ((su_n (by omega)).trans ((su_n (by omega)).trans ((su_n (by omega)).trans ((su_n (by omega)).trans ((su_n (by omega)).trans ((su_n (by omega)).trans ((su_n (by omega)).trans ((su_n (by omega)).trans ((su_n (by omega)).trans ((su_n (by omega)).trans ((su_n (by omega)).trans ((su_n (by omega)).trans ((su_n (by omega)).trans ((su_n (by omega)).trans ((su_n (by omega)).trans ((su_n (by omega)).trans ((su_n (by omega)).trans ((su_n (by omega)).trans ((su_n (by omega)).trans su_s)))))))))))))))))))
              · rw [if_neg e6] at hq'
                by_cases e7 : q = m0 + 7
                · rw [if_pos e7] at hq'
                  subst e7
                  cases hq'
                  exact hP (m0 + 7) _ ((su_n (by omega)).trans ((su_n (by omega)).trans ((su_n (by omega)).trans ((su_n (by omega)).trans ((su_n (by omega)).trans ((su_n (by omega)).trans ((su_n (by omega)).trans ((su_n (by omega)).trans ((su_n (by omega)).trans ((su_n (by omega)).trans ((su_n (by omega)).trans ((su_n (by omega)).trans ((su_n (by omega)).trans ((su_n (by omega)).trans ((su_n (by omega)).trans ((su_n (by omega)).trans ((su_n (by omega)).trans su_s)))))))))))))))))
                · rw [if_neg e7] at hq'
                  by_cases e8 : q = m0 + 8
                  · rw [if_pos e8] at hq'
                    subst e8
                    cases hq'
                    exact hP (m0 + 8) _ ((su_n (by omega)).trans ((su_n (by omega)).trans ((su_n (by omega)).trans ((su_n (by omega)).trans ((su_n (by omega)).trans ((su_n (by omega)).trans ((su_n (by omega)).trans ((su_n (by omega)).trans ((su_n (by omega)).trans ((su_n (by omega)).trans ((su_n (by omega)).trans ((su_n (by omega)).trans ((su_n (by omega)).trans ((su_n (by omega)).trans ((su_n (by omega)).trans su_s)))))))))))))))
                  · rw [if_neg e8] at hq'
                    by_cases e9 : q = m0 + 9
                    · rw [if_pos e9] at hq'
                      subst e9
                      cases hq'
                      exact hP (m0 + 9) _ ((su_n (by omega)).trans ((su_n (by omega)).trans ((su_n (by omega)).trans ((su_n (by omega)).trans ((su_n (by omega)).trans ((su_n (by omega)).trans ((su_n (by omega)).trans ((su_n (by omega)).trans ((su_n (by omega)).trans ((su_n (by omega)).trans ((su_n (by omega)).trans ((su_n (by omega)).trans ((su_n (by omega)).trans su_s)))))))))))))
                    · rw [if_neg e9] at hq'
                      by_cases e10 : q = m0 + 10
                      · rw [if_pos e10] at hq'
                        subst e10
                        cases hq'
                        exact hP (m0 + 10) _ ((su_n (by omega)).trans ((su_n (by omega)).trans ((su_n (by omega)).trans ((su_n (by omega)).trans ((su_n (by omega)).trans ((su_n (by omega)).trans ((su_n (by omega)).trans ((su_n (by omega)).trans ((su_n (by omega)).trans ((su_n (by omega)).trans ((su_n (by omega)).trans su_s)))))))))))
                      · rw [if_neg e10] at hq'
                        by_cases e11 : q = m0 + 11
                        · rw [if_pos e11] at hq'
                          subst e11
                          cases hq'
                          exact hP (m0 + 11) _ ((su_n (by omega)).trans ((su_n (by omega)).trans ((su_n (by omega)).trans ((su_n (by omega)).trans ((su_n (by omega)).trans ((su_n (by omega)).trans ((su_n (by omega)).trans ((su_n (by omega)).trans ((su_n (by omega)).trans su_s)))))))))
                        · rw [if_neg e11] at hq'
                          by_cases e12 : q = m0 + 12
                          · rw [if_pos e12] at hq'
                            subst e12
                            cases hq'
                            exact hP (m0 + 12) _ ((su_n (by omega)).trans ((su_n (by omega)).trans ((su_n (by omega)).trans ((su_n (by omega)).trans ((su_n (by omega)).trans ((su_n (by omega)).trans ((su_n (by omega)).trans su_s)))))))
                          · rw [if_neg e12] at hq'
                            by_cases e13 : q = m0 + 13
                            · rw [if_pos e13] at hq'
                              subst e13
                              cases hq'
                              exact hP (m0 + 13) _ ((su_n (by omega)).trans ((su_n (by omega)).trans ((su_n (by omega)).trans ((su_n (by omega)).trans ((su_n (by omega)).trans su_s)))))
                            · rw [if_neg e13] at hq'
                              by_cases e14 : q = m0 + 14
                              · rw [if_pos e14] at hq'
                                subst e14
                                cases hq'
                                exact hP (m0 + 14) _ ((su_n (by omega)).trans ((su_n (by omega)).trans ((su_n (by omega)).trans su_s)))
                              · rw [if_neg e14] at hq'
                                by_cases e15 : q = m0 + 15
                                · rw [if_pos e15] at hq'
                                  subst e15
                                  cases hq'
                                  exact hP (m0 + 15) _ ((su_n (by omega)).trans su_s)
                                · rw [if_neg e15] at hq'
                                  cases hq'
