/-! The calls that only read, beside the reference's (written by wip/whole/p35.py) -/
theorem u_case (l : Launch) (D : va_G) (E : Nat → ClassId) (La : la_L) {b0 k : Nat} (he : isEr E La b0) {mu : la_M} {sn gt kn : Nat → Nat} {ms : Nat → Nat → ot_T} {hs lt : Nat → Nat → Nat} {op : Nat → Nat → ot_T} {nn : Nat → Nat} {tx : Nat → Nat → Nat} (C : RC b0 mu sn gt kn ms hs lt op nn tx) (hk : k < 3) (u : Int32) :
    ∃ L w0 r, L < 6 ∧ isWy E La w0 r ∧ cr l y_Er_way b_Er_way 3 (some (.object "EditRelay$Way")) 0 0 D E La [.ref b0, .int (nI (k + 1)), .int u] mu (some (.ref w0)) ∧ (∀ mu : la_M, cr l y_Mo_line b_Mo_line 2 (some .int) 0 0 D E La [.int (nI (k + 1)), .int u] mu (some (.int (nI L)))) ∧ RCl mu w0 r (sn L) (gt L) (kn L) (ms L) (hs L) (lt L) (op L) := by
  by_cases hu : u = 0
  · refine ⟨2 * k + 1, b0 + 48 + 88 * k, 24, by omega, he.2.2.2.2.2.2.2 k hk, c_Er_way_d l D E La he mu hk hu, fun mu => c_Mo_line_d l D E La mu hu, ?_⟩
    have h9 := C.1 (2 * k + 1) (by omega)
    rw [show wl b0 (2 * k + 1) = b0 + 48 + 88 * k by unfold wl; omega, show rl (2 * k + 1) = 24 by unfold rl; omega] at h9
    exact h9
  · refine ⟨2 * k, b0 + 12 + 88 * k, 16, by omega, he.2.2.2.2.2.2.1 k hk, c_Er_way_u l D E La he mu hk hu, fun mu => c_Mo_line_u l D E La mu hu, ?_⟩
    have h9 := C.1 (2 * k) (by omega)
    rw [show wl b0 (2 * k) = b0 + 12 + 88 * k by unfold wl; omega, show rl (2 * k) = 16 by unfold rl; omega] at h9
    exact h9
theorem first_d {f g : Nat → Int32} : ∀ n : Nat, (∀ i, i < n → f i = g i) ∨ ∃ k, k < n ∧ (∀ i, i < k → f i = g i) ∧ f k ≠ g k := by
  intro n
  induction n with
  | zero => exact Or.inl (fun i hi => absurd hi (Nat.not_lt_zero i))
  | succ n ih =>
    rcases ih with h | ⟨k, hk, h1, h2⟩
    · by_cases hn : f n = g n
      · refine Or.inl (fun i hi => ?_)
        by_cases e : i = n
        · subst e
          exact hn
        · exact h i (by omega)
      · exact Or.inr ⟨n, by omega, h, hn⟩
    · exact Or.inr ⟨k, by omega, h1, h2⟩
theorem same_case (l : Launch) (D : va_G) (E : Nat → ClassId) (La : la_L) {b0 m0 T j : Nat} (he : isEr E La b0) {mu : la_M} {sn gt kn : Nat → Nat} {ms : Nat → Nat → ot_T} {hs lt : Nat → Nat → Nat} {op : Nat → Nat → ot_T} {nn : Nat → Nat} {tx : Nat → Nat → Nat} (I : IV T sn gt kn ms hs lt op nn tx) (C : RC b0 mu sn gt kn ms hs lt op nn tx) (M : RM m0 mu sn gt kn ms hs lt op nn tx) (hj : j < 4) :
    (cr l y_Tx_isSameAs b_Tx_isSameAs 3 (some .boolean) 0 0 D E La [.ref (b0 + 2 + 2 * j), .ref (b0 + 2 + 2 * 0)] mu (some (.int 1)) ∧ md_sm mu m0 nn j) ∨ (cr l y_Tx_isSameAs b_Tx_isSameAs 3 (some .boolean) 0 0 D E La [.ref (b0 + 2 + 2 * j), .ref (b0 + 2 + 2 * 0)] mu (some (.int 0)) ∧ ¬ md_sm mu m0 nn j) := by
  have Tj := C.2 j hj
  have T0 := C.2 0 (by decide)
  have Mj := M.2.1 j hj
  have M0 := M.2.1 0 (by decide)
  have l1 := I.len hj
  have l0 := I.len (s := 0) (by decide)
  have M0' : ∀ i, i < nn 0 → mu (m0 + 2) i = nI (tx 0 i) := fun i hi => by
    have h9 := M0.2 i hi
    rw [show 200 * 0 + i = i by omega] at h9
    exact h9
  by_cases hn : nn j = nn 0
  · rcases first_d (f := mu (b0 + 2 + 2 * j + 1)) (g := mu (b0 + 2 + 2 * 0 + 1)) (nn j) with h | ⟨k, hk, h1, h2⟩
    · refine Or.inl ⟨c_Tx_isSameAs_y l D E La (he.2.2.2.2.2.1 j hj) (he.2.2.2.2.2.1 0 (by decide)) mu Tj.1 T0.1 l1 l0 hn h, hn, fun i hi => ?_⟩
      rw [M0' i hi, Mj.2 i (by omega), ← Tj.2.1 i (by omega), ← T0.2.1 i hi]
      exact (h i (by omega)).symm
    · refine Or.inr ⟨c_Tx_isSameAs_d l D E La (he.2.2.2.2.2.1 j hj) (he.2.2.2.2.2.1 0 (by decide)) mu Tj.1 T0.1 l1 l0 hn k hk h1 h2, fun hs => h2 ?_⟩
      have h9 := hs.2 k (by omega)
      rw [M0' k (by omega), Mj.2 k hk] at h9
      rw [Tj.2.1 k hk, T0.2.1 k (by omega)]
      exact h9.symm
  · exact Or.inr ⟨c_Tx_isSameAs_n l D E La (he.2.2.2.2.2.1 j hj) (he.2.2.2.2.2.1 0 (by decide)) mu Tj.1 T0.1 l1 l0 hn, fun hs => hn hs.1⟩
set_option maxHeartbeats 4000000 in
theorem op_waiting (l : Launch) (hlt : l.stackTraces = false) (D : va_G) (E : Nat → ClassId) (La : la_L) {b0 m0 o0 T : Nat} {mu : la_M} (he : isEr E La b0) (hm : isMo E La m0) (hna : ¬ la_A La o0) (hbm : b0 + 277 ≤ m0) (J : IJ T b0 m0 mu) (hT : T < 512) (v0 : Int64) (cl0 u : Int32) : ∃ (k9 r : Int32) (v1 : Int64) (mu1 mu2 : la_M), cl l y_Lw_waiting b_Lw_waiting 5 [(0, 10, 13, 13)] 8 132 D E La o0 [.ref b0, .int cl0, .int u, .ref o0] mu v0 k9 mu1 v1 ∧ cw l y_Mo_waiting b_Mo_waiting 3 (some .int) 1 21 D E La [.ref m0, .int cl0, .int u] mu1 (some (.int r)) mu2 ∧ mu2 m0 0 = k9 ∧ (k9 = 0 → v1 = r.toInt64) ∧ IJ (T + 1) b0 m0 mu2 := by
  obtain ⟨sn, gt, kn, ms, hs, lt, op, nn, tx, I, C, M⟩ := J
  have J : IJ T b0 m0 mu := ⟨sn, gt, kn, ms, hs, lt, op, nn, tx, I, C, M⟩
  rcases cl_case cl0 with hc | ⟨k, hk, rfl⟩
  · skip
    exact ⟨1, 0, v0, mu, _, w_waiting_1 l D E La he hna (t_Er_waiting_1 l hlt D E La he mu hc), c_Mo_waiting_1 l D E La hm mu hc, la_up_s, fun h9 => absurd h9 (by decide), J.thr hbm _⟩
  · skip
    obtain ⟨L, w0, r, hL, hw, hway, hln, R⟩ := u_case l D E La he C hk u
    have W := I.win hL
    have sT := (I.2.1 L hL).1
    have hr := rl_24 L
    have ML := M.1 L hL
    exact ⟨0, _, _, mu, _, w_waiting_r l D E La he hna (c_Er_waiting l D E La he mu hk hw hway R.1 R.2.2.1 W.1), c_Mo_waiting_0 l D E La hm mu hk hL (hln _), la_up_s, fun _ => congrArg Int32.toInt64 ML.2.2.1.symm, J.thr hbm _⟩
set_option maxHeartbeats 4000000 in
theorem op_open (l : Launch) (hlt : l.stackTraces = false) (D : va_G) (E : Nat → ClassId) (La : la_L) {b0 m0 o0 T : Nat} {mu : la_M} (he : isEr E La b0) (hm : isMo E La m0) (hna : ¬ la_A La o0) (hbm : b0 + 277 ≤ m0) (J : IJ T b0 m0 mu) (hT : T < 512) (v0 : Int64) (cl0 u : Int32) : ∃ (k9 r : Int32) (v1 : Int64) (mu1 mu2 : la_M), cl l y_Lw_open b_Lw_open 5 [(0, 10, 13, 13)] 8 132 D E La o0 [.ref b0, .int cl0, .int u, .ref o0] mu v0 k9 mu1 v1 ∧ cw l y_Mo_open b_Mo_open 3 (some .int) 1 21 D E La [.ref m0, .int cl0, .int u] mu1 (some (.int r)) mu2 ∧ mu2 m0 0 = k9 ∧ (k9 = 0 → v1 = r.toInt64) ∧ IJ (T + 1) b0 m0 mu2 := by
  obtain ⟨sn, gt, kn, ms, hs, lt, op, nn, tx, I, C, M⟩ := J
  have J : IJ T b0 m0 mu := ⟨sn, gt, kn, ms, hs, lt, op, nn, tx, I, C, M⟩
  rcases cl_case cl0 with hc | ⟨k, hk, rfl⟩
  · skip
    exact ⟨1, 0, v0, mu, _, w_open_1 l D E La he hna (t_Er_open_1 l hlt D E La he mu hc), c_Mo_open_1 l D E La hm mu hc, la_up_s, fun h9 => absurd h9 (by decide), J.thr hbm _⟩
  · skip
    obtain ⟨L, w0, r, hL, hw, hway, hln, R⟩ := u_case l D E La he C hk u
    have W := I.win hL
    have sT := (I.2.1 L hL).1
    have hr := rl_24 L
    have ML := M.1 L hL
    exact ⟨0, _, _, mu, _, w_open_r l D E La he hna (c_Er_open l D E La he mu hk hw hway R.1 R.2.1 (Nat.le_trans W.2.1 W.1)), c_Mo_open_0 l D E La hm mu hk hL (hln _), la_up_s, fun _ => congrArg Int32.toInt64 ML.2.2.2.1.symm, J.thr hbm _⟩
set_option maxHeartbeats 4000000 in
theorem op_got (l : Launch) (hlt : l.stackTraces = false) (D : va_G) (E : Nat → ClassId) (La : la_L) {b0 m0 o0 T : Nat} {mu : la_M} (he : isEr E La b0) (hm : isMo E La m0) (hna : ¬ la_A La o0) (hbm : b0 + 277 ≤ m0) (J : IJ T b0 m0 mu) (hT : T < 512) (v0 : Int64) (cl0 u : Int32) : ∃ (k9 r : Int32) (v1 : Int64) (mu1 mu2 : la_M), cl l y_Lw_got b_Lw_got 5 [(0, 10, 13, 13)] 8 132 D E La o0 [.ref b0, .int cl0, .int u, .ref o0] mu v0 k9 mu1 v1 ∧ cw l y_Mo_got b_Mo_got 3 (some .int) 1 21 D E La [.ref m0, .int cl0, .int u] mu1 (some (.int r)) mu2 ∧ mu2 m0 0 = k9 ∧ (k9 = 0 → v1 = r.toInt64) ∧ IJ (T + 1) b0 m0 mu2 := by
  obtain ⟨sn, gt, kn, ms, hs, lt, op, nn, tx, I, C, M⟩ := J
  have J : IJ T b0 m0 mu := ⟨sn, gt, kn, ms, hs, lt, op, nn, tx, I, C, M⟩
  rcases cl_case cl0 with hc | ⟨k, hk, rfl⟩
  · skip
    exact ⟨1, 0, v0, mu, _, w_got_1 l D E La he hna (t_Er_got_1 l hlt D E La he mu hc), c_Mo_got_1 l D E La hm mu hc, la_up_s, fun h9 => absurd h9 (by decide), J.thr hbm _⟩
  · skip
    obtain ⟨L, w0, r, hL, hw, hway, hln, R⟩ := u_case l D E La he C hk u
    have W := I.win hL
    have sT := (I.2.1 L hL).1
    have hr := rl_24 L
    have ML := M.1 L hL
    exact ⟨0, _, _, mu, _, w_got_r l D E La he hna (c_Er_got l D E La he mu hk hw hway), c_Mo_got_0 l D E La hm mu hk hL (hln _), la_up_s, fun _ => congrArg Int32.toInt64 (R.2.2.1.trans ML.2.1.symm), J.thr hbm _⟩
set_option maxHeartbeats 4000000 in
theorem op_change (l : Launch) (hlt : l.stackTraces = false) (D : va_G) (E : Nat → ClassId) (La : la_L) {b0 m0 o0 T : Nat} {mu : la_M} (he : isEr E La b0) (hm : isMo E La m0) (hna : ¬ la_A La o0) (hbm : b0 + 277 ≤ m0) (J : IJ T b0 m0 mu) (hT : T < 512) (v0 : Int64) (cl0 u i9 : Int32) : ∃ (k9 r : Int32) (v1 : Int64) (mu1 mu2 : la_M), cl l y_Lw_change b_Lw_change 6 [(0, 12, 15, 13), (0, 12, 19, 15)] 8 135 D E La o0 [.ref b0, .int cl0, .int u, .int i9, .ref o0] mu v0 k9 mu1 v1 ∧ cw l y_Mo_change b_Mo_change 5 (some .int) 1 21 D E La [.ref m0, .int cl0, .int u, .int i9] mu1 (some (.int r)) mu2 ∧ mu2 m0 0 = k9 ∧ (k9 = 0 → v1 = r.toInt64) ∧ IJ (T + 1) b0 m0 mu2 := by
  obtain ⟨sn, gt, kn, ms, hs, lt, op, nn, tx, I, C, M⟩ := J
  have J : IJ T b0 m0 mu := ⟨sn, gt, kn, ms, hs, lt, op, nn, tx, I, C, M⟩
  rcases cl_case cl0 with hc | ⟨k, hk, rfl⟩
  · skip
    exact ⟨1, 0, v0, mu, _, w_change_1 l D E La he hna (t_Er_change_1 l hlt D E La he mu hc), c_Mo_change_1 l D E La hm mu hc, la_up_s, fun h9 => absurd h9 (by decide), J.thr hbm _⟩
  · skip
    obtain ⟨L, w0, r, hL, hw, hway, hln, R⟩ := u_case l D E La he C hk u
    have W := I.win hL
    have sT := (I.2.1 L hL).1
    have hr := rl_24 L
    have ML := M.1 L hL
    rcases in_case i9 (n := sn L - kn L) (by omega) with ha | ⟨i0, hi, rfl⟩
    · skip
      exact ⟨2, 0, v0, mu, _, w_change_2 l D E La he hna (t_Er_change_2 l hlt D E La he mu hk hw hway R.1 R.2.1 (Nat.le_trans W.2.1 W.1) ha), c_Mo_change_2 l D E La hm mu hk hL hln ML.2.2.2.1 ha, la_up_s, fun h9 => absurd h9 (by decide), J.thr hbm _⟩
    have O := R.2.2.2.2 (kn L + i0) (by omega) (by omega)
    have OM := ML.2.2.2.2.2 i0 hi
    have ok := (I.2.1 L hL).2.2 (kn L + i0) (by omega) (by omega)
    have hE := c_Er_change l D E La he mu hk hw hway R.1 R.2.1 (Nat.le_trans W.2.1 W.1) (by omega) hi
    rw [O.1, O.2.1, O.2.2] at hE
    by_cases h2 : (op L (kn L + i0)).1 = 2
    · have hN := c_Mo_change_0n l D E La hm mu hk hL hln ML.2.2.2.1 hi (by omega) (by rw [OM.1, h2]; rfl)
      rw [OM.2.2] at hN
      rw [h2, ok.2.1 h2] at hE
      exact ⟨0, _, _, mu, _, w_change_r l D E La he hna hE, hN, la_up_s, fun _ => rfl, J.thr hbm _⟩
    · have hN := c_Mo_change_0k l D E La hm mu hk hL hln ML.2.2.2.1 hi (by omega) (fun e => h2 (by rw [OM.1] at e; have := ok.1; exact (nI_eq (b := 2) (by omega) (by decide)).mp e))
      rw [OM.1, OM.2.1, OM.2.2] at hN
      exact ⟨0, _, _, mu, _, w_change_r l D E La he hna hE, hN, la_up_s, fun _ => rfl, J.thr hbm _⟩
set_option maxHeartbeats 4000000 in
theorem op_size (l : Launch) (hlt : l.stackTraces = false) (D : va_G) (E : Nat → ClassId) (La : la_L) {b0 m0 o0 T : Nat} {mu : la_M} (he : isEr E La b0) (hm : isMo E La m0) (hna : ¬ la_A La o0) (hbm : b0 + 277 ≤ m0) (J : IJ T b0 m0 mu) (hT : T < 512) (v0 : Int64) (cl0 : Int32) : ∃ (k9 r : Int32) (v1 : Int64) (mu1 mu2 : la_M), cl l y_Lw_size b_Lw_size 4 [(0, 9, 12, 13)] 8 131 D E La o0 [.ref b0, .int cl0, .ref o0] mu v0 k9 mu1 v1 ∧ cw l y_Mo_size b_Mo_size 2 (some .int) 1 20 D E La [.ref m0, .int cl0] mu1 (some (.int r)) mu2 ∧ mu2 m0 0 = k9 ∧ (k9 = 0 → v1 = r.toInt64) ∧ IJ (T + 1) b0 m0 mu2 := by
  obtain ⟨sn, gt, kn, ms, hs, lt, op, nn, tx, I, C, M⟩ := J
  have J : IJ T b0 m0 mu := ⟨sn, gt, kn, ms, hs, lt, op, nn, tx, I, C, M⟩
  rcases st_case cl0 with hc | ⟨k, hk, rfl⟩
  · skip
    exact ⟨1, 0, v0, mu, _, w_size_1 l D E La he hna (t_Er_size_1 l hlt D E La he mu hc), c_Mo_size_1 l D E La hm mu hc, la_up_s, fun h9 => absurd h9 (by decide), J.thr hbm _⟩
  · exact ⟨0, _, _, mu, _, w_size_r l D E La he hna (c_Er_size l D E La he mu hk), c_Mo_size_0 l D E La hm mu hk, la_up_s, fun _ => congrArg Int32.toInt64 ((C.2 k hk).1.trans (M.2.1 k hk).1.symm), J.thr hbm _⟩
set_option maxHeartbeats 4000000 in
theorem op_letter (l : Launch) (hlt : l.stackTraces = false) (D : va_G) (E : Nat → ClassId) (La : la_L) {b0 m0 o0 T : Nat} {mu : la_M} (he : isEr E La b0) (hm : isMo E La m0) (hna : ¬ la_A La o0) (hbm : b0 + 277 ≤ m0) (J : IJ T b0 m0 mu) (hT : T < 512) (v0 : Int64) (cl0 at0 : Int32) : ∃ (k9 r : Int32) (v1 : Int64) (mu1 mu2 : la_M), cl l y_Lw_letter b_Lw_letter 5 [(0, 10, 13, 13), (0, 10, 17, 15)] 8 134 D E La o0 [.ref b0, .int cl0, .int at0, .ref o0] mu v0 k9 mu1 v1 ∧ cw l y_Mo_letter b_Mo_letter 3 (some .int) 1 20 D E La [.ref m0, .int cl0, .int at0] mu1 (some (.int r)) mu2 ∧ mu2 m0 0 = k9 ∧ (k9 = 0 → v1 = r.toInt64) ∧ IJ (T + 1) b0 m0 mu2 := by
  obtain ⟨sn, gt, kn, ms, hs, lt, op, nn, tx, I, C, M⟩ := J
  have J : IJ T b0 m0 mu := ⟨sn, gt, kn, ms, hs, lt, op, nn, tx, I, C, M⟩
  rcases st_case cl0 with hc | ⟨k, hk, rfl⟩
  · skip
    exact ⟨1, 0, v0, mu, _, w_letter_1 l D E La he hna (t_Er_letter_1 l hlt D E La he mu hc), c_Mo_letter_1 l D E La hm mu hc, la_up_s, fun h9 => absurd h9 (by decide), J.thr hbm _⟩
  · have h64 := I.len hk
    have Tk := C.2 k hk
    have Mt := M.2.1 k hk
    rcases in_case at0 (n := nn k) (by omega) with ha | ⟨q, hq, rfl⟩
    · skip
      exact ⟨2, 0, v0, mu, _, w_letter_2 l D E La he hna (t_Er_letter_2 l hlt D E La he mu hk Tk.1 ha), c_Mo_letter_2 l D E La hm mu hk Mt.1 ha, la_up_s, fun h9 => absurd h9 (by decide), J.thr hbm _⟩
    · exact ⟨0, _, _, mu, _, w_letter_r l D E La he hna (c_Er_letter l D E La he mu hk Tk.1 hq h64), c_Mo_letter_0 l D E La hm mu hk Mt.1 hq h64, la_up_s, fun _ => congrArg Int32.toInt64 ((Tk.2.1 q hq).trans (Mt.2 q hq).symm), J.thr hbm _⟩
set_option maxHeartbeats 4000000 in
theorem op_alike (l : Launch) (D : va_G) (E : Nat → ClassId) (La : la_L) {b0 m0 T : Nat} {mu : la_M} (he : isEr E La b0) (hm : isMo E La m0) (hbm : b0 + 277 ≤ m0) (J : IJ T b0 m0 mu) (hT : T < 512) : ∃ (r : Int32) (mu2 : la_M), cr l y_Er_alike b_Er_alike 2 (some .boolean) 1 22 D E La [.ref b0] mu (some (.int r)) ∧ cw l y_Mo_alike b_Mo_alike 4 (some .boolean) 0 0 D E La [.ref m0] mu (some (.int r)) mu2 ∧ IJ (T + 1) b0 m0 mu2 := by
  obtain ⟨sn, gt, kn, ms, hs, lt, op, nn, tx, I, C, M⟩ := J
  have J : IJ T b0 m0 mu := ⟨sn, gt, kn, ms, hs, lt, op, nn, tx, I, C, M⟩
  rcases same_case l D E La he I C M (j := 1) (by decide) with ⟨a1, m1⟩ | ⟨a1, m1⟩
  · rcases same_case l D E La he I C M (j := 2) (by decide) with ⟨a2, m2⟩ | ⟨a2, m2⟩
    · rcases same_case l D E La he I C M (j := 3) (by decide) with ⟨a3, m3⟩ | ⟨a3, m3⟩
      · exact ⟨1, _, c_Er_alike_y l D E La he mu a1 a2 a3, c_Mo_alike l D E La hm mu (fun s h => (M.2.1 s h).1) (fun s h => I.len h) (fun _ => rfl) (fun s h1 h2 h3 => absurd (by match s, h1, h2 with | 1, _, _ => exact m1 | 2, _, _ => exact m2 | 3, _, _ => exact m3) h3), J.thr hbm _⟩
      · exact ⟨0, _, c_Er_alike_n3 l D E La he mu a1 a2 a3, c_Mo_alike l D E La hm mu (fun s h => (M.2.1 s h).1) (fun s h => I.len h) (fun h => absurd (h 3 (by decide) (by decide)) m3) (fun _ _ _ _ => rfl), J.thr hbm _⟩
    · exact ⟨0, _, c_Er_alike_n2 l D E La he mu a1 a2, c_Mo_alike l D E La hm mu (fun s h => (M.2.1 s h).1) (fun s h => I.len h) (fun h => absurd (h 2 (by decide) (by decide)) m2) (fun _ _ _ _ => rfl), J.thr hbm _⟩
  · exact ⟨0, _, c_Er_alike_n1 l D E La he mu a1, c_Mo_alike l D E La hm mu (fun s h => (M.2.1 s h).1) (fun s h => I.len h) (fun h => absurd (h 1 (by decide) (by decide)) m1) (fun _ _ _ _ => rfl), J.thr hbm _⟩
set_option maxHeartbeats 4000000 in
theorem op_quiet (l : Launch) (D : va_G) (E : Nat → ClassId) (La : la_L) {b0 m0 T : Nat} {mu : la_M} (he : isEr E La b0) (hm : isMo E La m0) (hbm : b0 + 277 ≤ m0) (J : IJ T b0 m0 mu) (hT : T < 512) : ∃ (r : Int32) (mu2 : la_M), cr l y_Er_quiet b_Er_quiet 2 (some .boolean) 1 22 D E La [.ref b0] mu (some (.int r)) ∧ cw l y_Mo_quiet b_Mo_quiet 3 (some .boolean) 0 0 D E La [.ref m0] mu (some (.int r)) mu2 ∧ IJ (T + 1) b0 m0 mu2 := by
  obtain ⟨sn, gt, kn, ms, hs, lt, op, nn, tx, I, C, M⟩ := J
  have J : IJ T b0 m0 mu := ⟨sn, gt, kn, ms, hs, lt, op, nn, tx, I, C, M⟩
  have hE := c_Er_quiet l D E La he mu (sn := sn) (gt := gt) (fun j hj => ⟨(I.win hj).1, by have := (I.2.1 j hj).1; omega⟩) (fun j hj => ⟨(C.up hj).1, (C.up hj).2.2⟩) (fun j hj => ⟨(C.dn hj).1, (C.dn hj).2.2⟩)
  have w0 := M.1 0 (by decide)
  have z0 := I.wn 0 (by decide)
  have w1 := M.1 1 (by decide)
  have z1 := I.wn 1 (by decide)
  have w2 := M.1 2 (by decide)
  have z2 := I.wn 2 (by decide)
  have w3 := M.1 3 (by decide)
  have z3 := I.wn 3 (by decide)
  have w4 := M.1 4 (by decide)
  have z4 := I.wn 4 (by decide)
  have w5 := M.1 5 (by decide)
  have z5 := I.wn 5 (by decide)
  by_cases hs : (sn 0 - gt 0) + (sn 1 - gt 1) + (sn 2 - gt 2) + (sn 3 - gt 3) + (sn 4 - gt 4) + (sn 5 - gt 5) = 0
  · rw [if_pos hs] at hE
    exact ⟨1, _, hE, c_Mo_quiet_y l D E La hm mu w0.2.2.1 z0.2.2.1 w1.2.2.1 z1.2.2.1 w2.2.2.1 z2.2.2.1 w3.2.2.1 z3.2.2.1 w4.2.2.1 z4.2.2.1 w5.2.2.1 z5.2.2.1 (by omega), J.thr hbm _⟩
  · rw [if_neg hs] at hE
    exact ⟨0, _, hE, c_Mo_quiet_n l D E La hm mu w0.2.2.1 z0.2.2.1 w1.2.2.1 z1.2.2.1 w2.2.2.1 z2.2.2.1 w3.2.2.1 z3.2.2.1 w4.2.2.1 z4.2.2.1 w5.2.2.1 z5.2.2.1 (by omega), J.thr hbm _⟩
