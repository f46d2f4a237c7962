/-! Each call of the class beside the reference's: the same answer, and the two memories go on representing one state (written by wip/whole/p33.py) -/
def IJ (T b0 m0 : Nat) (mu : la_M) : Prop := ∃ (sn gt kn : Nat → Nat) (ms : Nat → Nat → ot_T) (hs lt : Nat → Nat → Nat) (op : Nat → Nat → ot_T) (nn : Nat → Nat) (tx : Nat → Nat → Nat), IV T sn gt kn ms hs lt op nn tx ∧ RC b0 mu sn gt kn ms hs lt op nn tx ∧ RM m0 mu sn gt kn ms hs lt op nn tx
theorem cl_case (cl : Int32) : (cl < 1 ∨ 3 < cl) ∨ ∃ k, k < 3 ∧ cl = nI (k + 1) := by
  by_cases h : cl < 1
  · exact Or.inl (Or.inl h)
  · obtain ⟨j, hj, rfl⟩ := nI_of (x := cl) (fun hx => h (Int32.lt_trans hx (by decide)))
    by_cases h3 : 3 < nI j
    · exact Or.inl (Or.inr h3)
    · have h1 : ¬ j < 1 := fun hh => h (nI_lt (b := 1) hh (by decide))
      have h4 : ¬ 3 < j := fun hh => h3 (nI_lt (a := 3) hh hj)
      exact Or.inr ⟨j - 1, by omega, by rw [show j - 1 + 1 = j by omega]⟩
theorem st_case (cl : Int32) : (cl < 0 ∨ 3 < cl) ∨ ∃ k, k < 4 ∧ cl = nI k := by
  by_cases h : cl < 0
  · exact Or.inl (Or.inl h)
  · obtain ⟨j, hj, rfl⟩ := nI_of h
    by_cases h3 : 3 < nI j
    · exact Or.inl (Or.inr h3)
    · have h4 : ¬ 3 < j := fun hh => h3 (nI_lt (a := 3) hh hj)
      exact Or.inr ⟨j, by omega, rfl⟩
theorem at_case (x : Int32) {n : Nat} (hn : n < 2 ^ 31) : (x < 0 ∨ nI n < x) ∨ ∃ q, q ≤ n ∧ x = nI q := by
  by_cases h : x < 0
  · exact Or.inl (Or.inl h)
  · obtain ⟨j, hj, rfl⟩ := nI_of h
    by_cases h3 : n < j
    · exact Or.inl (Or.inr (nI_lt h3 hj))
    · exact Or.inr ⟨j, by omega, rfl⟩
theorem in_case (x : Int32) {n : Nat} (hn : n < 2 ^ 31) : (x < 0 ∨ nI n ≤ x) ∨ ∃ q, q < n ∧ x = nI q := by
  by_cases h : x < 0
  · exact Or.inl (Or.inl h)
  · obtain ⟨j, hj, rfl⟩ := nI_of h
    by_cases h3 : n ≤ j
    · exact Or.inl (Or.inr (nI_le h3 hj))
    · exact Or.inr ⟨j, by omega, rfl⟩
theorem IV.mono {T T' : Nat} {sn gt kn : Nat → Nat} {ms : Nat → Nat → ot_T} {hs lt : Nat → Nat → Nat} {op : Nat → Nat → ot_T} {nn : Nat → Nat} {tx : Nat → Nat → Nat} (h : IV T sn gt kn ms hs lt op nn tx) (hT : T ≤ T') : IV T' sn gt kn ms hs lt op nn tx := ⟨h.1, h.2.1.mono hT, h.2.2⟩
theorem IJ.thr {T b0 m0 : Nat} {mu : la_M} (J : IJ T b0 m0 mu) (hbm : b0 + 277 ≤ m0) (x : Int32) : IJ (T + 1) b0 m0 (la_up mu m0 0 x) := by
  obtain ⟨sn, gt, kn, ms, hs, lt, op, nn, tx, I, C, M⟩ := J
  exact ⟨sn, gt, kn, ms, hs, lt, op, nn, tx, I.mono (by omega), C.congl (fun z h1 h2 => la_up_n (by omega)), M.cong (fun a h1 h2 => la_up_n (by omega))⟩
theorem er_make_n {mu : la_M} {b k kd q n a z : Nat} {x : Int32} (hk : k < 3) (hz : z < b ∨ b + 277 ≤ z) : er_make mu b k kd q n a x z = mu z := by
  have hA := Nat.mod_lt a (show 0 < 16 by decide)
  unfold er_make
  rw [wy_send_n (by omega) (by omega) (by omega) (by omega), tx_do_n (by omega) (by omega), er_mk_n (by omega)]
theorem RC.up {b : Nat} {mu : la_M} {sn gt kn : Nat → Nat} {ms : Nat → Nat → ot_T} {hs lt : Nat → Nat → Nat} {op : Nat → Nat → ot_T} {nn : Nat → Nat} {tx : Nat → Nat → Nat} (h : RC b mu sn gt kn ms hs lt op nn tx) {k : Nat} (hk : k < 3) : mu (b + 12 + 88 * k) 4 = nI (sn (2 * k)) ∧ mu (b + 12 + 88 * k) 5 = nI (kn (2 * k)) ∧ mu (b + 12 + 88 * k) 6 = nI (gt (2 * k)) := by
  have h9 := h.1 (2 * k) (by omega)
  rw [show wl b (2 * k) = b + 12 + 88 * k by unfold wl; omega] at h9
  exact ⟨h9.1, h9.2.1, h9.2.2.1⟩
theorem RC.dn {b : Nat} {mu : la_M} {sn gt kn : Nat → Nat} {ms : Nat → Nat → ot_T} {hs lt : Nat → Nat → Nat} {op : Nat → Nat → ot_T} {nn : Nat → Nat} {tx : Nat → Nat → Nat} (h : RC b mu sn gt kn ms hs lt op nn tx) {k : Nat} (hk : k < 3) : mu (b + 48 + 88 * k) 4 = nI (sn (2 * k + 1)) ∧ mu (b + 48 + 88 * k) 5 = nI (kn (2 * k + 1)) ∧ mu (b + 48 + 88 * k) 6 = nI (gt (2 * k + 1)) := by
  have h9 := h.1 (2 * k + 1) (by omega)
  rw [show wl b (2 * k + 1) = b + 48 + 88 * k by unfold wl; omega] at h9
  exact ⟨h9.1, h9.2.1, h9.2.2.1⟩
set_option maxHeartbeats 4000000 in
theorem op_insert (l : Launch) (hlt : l.stackTraces = false) (D : va_G) (E : Nat → ClassId) (La : la_L) {b0 m0 o0 T : Nat} {mu : la_M} (he : isEr E La b0) (hm : isMo E La m0) (hna : ¬ la_A La o0) (hbm : b0 + 277 ≤ m0) (J : IJ T b0 m0 mu) (hT : T < 512) (v0 : Int64) (cl0 at0 : Int32) {cx : Nat} (hcx : cx < 65536) : ∃ (k9 r : Int32) (v1 : Int64) (mu1 mu2 : la_M), cl l y_Lw_insert b_Lw_insert 6 [(0, 12, 15, 13), (0, 12, 19, 15), (0, 12, 23, 17)] 8 135 D E La o0 [.ref b0, .int cl0, .int at0, .int (nI cx), .ref o0] mu v0 k9 mu1 v1 ∧ cw l y_Mo_insert b_Mo_insert 5 (some .int) 3 67 D E La [.ref m0, .int cl0, .int at0, .int (nI cx)] mu1 (some (.int r)) mu2 ∧ mu2 m0 0 = k9 ∧ (k9 = 0 → v1 = r.toInt64) ∧ IJ (T + 1) b0 m0 mu2 := by
  obtain ⟨sn, gt, kn, ms, hs, lt, op, nn, tx, I, C, M⟩ := J
  have J : IJ T b0 m0 mu := ⟨sn, gt, kn, ms, hs, lt, op, nn, tx, I, C, M⟩
  rcases cl_case cl0 with hc | ⟨k, hk, rfl⟩
  · skip
    exact ⟨1, 0, v0, mu, _, w_insert_1 l D E La he hna (t_Er_insert_1 l hlt D E La he mu hc), c_Mo_insert_1 l D E La hm mu hc, la_up_s, fun h9 => absurd h9 (by decide), J.thr hbm _⟩
  · skip
    have W := I.win (l := 2 * k) (by omega)
    have hsT := (I.2.1 (2 * k) (by omega)).1
    have h64 := I.len (s := k + 1) (by omega)
    have U := C.up hk
    have Tk := C.2 (k + 1) (by omega)
    have Mk := M.1 (2 * k) (by omega)
    have Mt := M.2.1 (k + 1) (by omega)
    have eR : rl (2 * k) = 16 := by unfold rl; omega
    rw [eR] at W
    by_cases hx1 : nI cx < 32
    · skip
      exact ⟨1, 0, v0, mu, _, w_insert_1 l D E La he hna (t_Er_insert_1x l hlt D E La he mu hk (Or.inl hx1)), c_Mo_insert_1x l D E La hm mu hk (Or.inl hx1), la_up_s, fun h9 => absurd h9 (by decide), J.thr hbm _⟩
    by_cases hx2 : 126 < nI cx
    · skip
      exact ⟨1, 0, v0, mu, _, w_insert_1 l D E La he hna (t_Er_insert_1x l hlt D E La he mu hk (Or.inr hx2)), c_Mo_insert_1x l D E La hm mu hk (Or.inr hx2), la_up_s, fun h9 => absurd h9 (by decide), J.thr hbm _⟩
    have hx3 : nI cx ≤ 126 := Int32.not_lt.mp hx2
    rcases at_case at0 (n := nn (k + 1)) (by omega) with ha | ⟨q, hq, rfl⟩
    · skip
      exact ⟨2, 0, v0, mu, _, w_insert_2 l D E La he hna (t_Er_insert_2 l hlt D E La he mu hk hx1 hx3 Tk.1 ha), c_Mo_insert_2 l D E La hm mu hk hx1 hx3 Mt.1 ha, la_up_s, fun h9 => absurd h9 (by decide), J.thr hbm _⟩
    by_cases h40 : 40 ≤ nn (k + 1)
    · skip
      exact ⟨3, 0, v0, mu, _, w_insert_3 l D E La he hna (t_Er_insert_3n l hlt D E La he mu hk hx1 hx3 Tk.1 hq (by omega) h40), c_Mo_insert_3n l D E La hm mu hk hx1 hx3 Mt.1 hq (by omega) h40, la_up_s, fun h9 => absurd h9 (by decide), J.thr hbm _⟩
    by_cases hf : 16 ≤ sn (2 * k) - kn (2 * k)
    · skip
      exact ⟨3, 0, v0, mu, _, w_insert_3 l D E La he hna (t_Er_insert_3l l hlt D E La he mu hk hx1 hx3 Tk.1 hq (by omega) U.1 U.2.1 (by omega) (by omega) hf), c_Mo_insert_3l l D E La hm mu hk hx1 hx3 Mt.1 hq (by omega) Mk.2.2.2.1 (by omega) hf, la_up_s, fun h9 => absurd h9 (by decide), J.thr hbm _⟩
    have hw16 : sn (2 * k) < kn (2 * k) + 16 := by omega
    have C1 := C.make (k := k) (kd := 0) (q := q) (n := nn (k + 1)) (c := cx) (x := (nI cx)) hk rfl (fun _ => hq) (fun h => by omega) (fun _ => rfl) (chz_n hcx) hw16 W.2.1
    have eM : ∀ a, 1 ≤ a → a ≤ 15 → er_make mu b0 k 0 q (nn (k + 1)) (sn (2 * k)) (nI cx) (m0 + a) = mu (m0 + a) := fun a _ _ => er_make_n hk (by omega)
    have M0 := M.cong (mu' := er_make mu b0 k 0 q (nn (k + 1)) (sn (2 * k)) (nI cx)) eM
    have M1 := M0.make I.wn (k := k) (kd := 0) (q := q) (n := nn (k + 1)) (c := cx) hk rfl (fun s h => I.len h) (fun _ => hq) (fun h => by omega) hcx
    have I1 := I.make (k := k) (kd := 0) (q := q) (n := nn (k + 1)) (c := cx) hk rfl (by decide) (fun _ => ⟨hq, by omega⟩) (fun h => by omega) (fun h => by omega) hcx hw16
    have Mk1 := M0.1 (2 * k) (by omega)
    have Mt1 := M0.2.1 (k + 1) (by omega)
    exact ⟨0, _, _, _, _, w_insert_r l D E La he hna (c_Er_insert l D E La he mu hk hx1 hx3 (chz_n hcx) Tk.1 hq (by omega) Tk.2.2 U.1 U.2.1 (by omega) (by omega) (by omega)), c_Mo_insert_0 l D E La hm _ hk hcx hx1 hx3 hq (by omega) Mt1.1 M0.2.2 Mk1.2.2.1 (by omega) Mk1.2.2.2.1 (by omega) Mk1.1, M1.2.1, fun _ => rfl, ⟨_, _, _, _, _, _, _, _, _, I1, C1.congl (fun z h1 h2 => M1.2.2 z (by omega)), M1.1⟩⟩
set_option maxHeartbeats 4000000 in
theorem op_delete (l : Launch) (hlt : l.stackTraces = false) (D : va_G) (E : Nat → ClassId) (La : la_L) {b0 m0 o0 T : Nat} {mu : la_M} (he : isEr E La b0) (hm : isMo E La m0) (hna : ¬ la_A La o0) (hbm : b0 + 277 ≤ m0) (J : IJ T b0 m0 mu) (hT : T < 512) (v0 : Int64) (cl0 at0 : Int32) : ∃ (k9 r : Int32) (v1 : Int64) (mu1 mu2 : la_M), cl l y_Lw_delete b_Lw_delete 5 [(0, 10, 13, 13), (0, 10, 17, 15), (0, 10, 21, 17)] 8 135 D E La o0 [.ref b0, .int cl0, .int at0, .ref o0] mu v0 k9 mu1 v1 ∧ cw l y_Mo_delete b_Mo_delete 4 (some .int) 3 67 D E La [.ref m0, .int cl0, .int at0] mu1 (some (.int r)) mu2 ∧ mu2 m0 0 = k9 ∧ (k9 = 0 → v1 = r.toInt64) ∧ IJ (T + 1) b0 m0 mu2 := by
  obtain ⟨sn, gt, kn, ms, hs, lt, op, nn, tx, I, C, M⟩ := J
  have J : IJ T b0 m0 mu := ⟨sn, gt, kn, ms, hs, lt, op, nn, tx, I, C, M⟩
  rcases cl_case cl0 with hc | ⟨k, hk, rfl⟩
  · skip
    exact ⟨1, 0, v0, mu, _, w_delete_1 l D E La he hna (t_Er_delete_1 l hlt D E La he mu hc), c_Mo_delete_1 l D E La hm mu hc, la_up_s, fun h9 => absurd h9 (by decide), J.thr hbm _⟩
  · skip
    have W := I.win (l := 2 * k) (by omega)
    have hsT := (I.2.1 (2 * k) (by omega)).1
    have h64 := I.len (s := k + 1) (by omega)
    have U := C.up hk
    have Tk := C.2 (k + 1) (by omega)
    have Mk := M.1 (2 * k) (by omega)
    have Mt := M.2.1 (k + 1) (by omega)
    have eR : rl (2 * k) = 16 := by unfold rl; omega
    rw [eR] at W
    rcases in_case at0 (n := nn (k + 1)) (by omega) with ha | ⟨q, hq, rfl⟩
    · skip
      exact ⟨2, 0, v0, mu, _, w_delete_2 l D E La he hna (t_Er_delete_2 l hlt D E La he mu hk Tk.1 ha), c_Mo_delete_2 l D E La hm mu hk Mt.1 ha, la_up_s, fun h9 => absurd h9 (by decide), J.thr hbm _⟩
    by_cases hf : 16 ≤ sn (2 * k) - kn (2 * k)
    · skip
      exact ⟨3, 0, v0, mu, _, w_delete_3 l D E La he hna (t_Er_delete_3 l hlt D E La he mu hk Tk.1 hq (by omega) U.1 U.2.1 (by omega) (by omega) hf), c_Mo_delete_3 l D E La hm mu hk Mt.1 hq (by omega) Mk.2.2.2.1 (by omega) hf, la_up_s, fun h9 => absurd h9 (by decide), J.thr hbm _⟩
    have hcl := I.2.2 (k + 1) (by omega) q hq
    have hw16 : sn (2 * k) < kn (2 * k) + 16 := by omega
    have C1 := C.make (k := k) (kd := 1) (q := q) (n := nn (k + 1)) (c := (tx (k + 1) q)) (x := (mu (b0 + 2 + 2 * (k + 1) + 1) q)) hk rfl (fun h => by omega) (fun _ => hq) (fun h => by omega) (Tk.2.2 q) hw16 W.2.1
    have eM : ∀ a, 1 ≤ a → a ≤ 15 → er_make mu b0 k 1 q (nn (k + 1)) (sn (2 * k)) (mu (b0 + 2 + 2 * (k + 1) + 1) q) (m0 + a) = mu (m0 + a) := fun a _ _ => er_make_n hk (by omega)
    have M0 := M.cong (mu' := er_make mu b0 k 1 q (nn (k + 1)) (sn (2 * k)) (mu (b0 + 2 + 2 * (k + 1) + 1) q)) eM
    have M1 := M0.make I.wn (k := k) (kd := 1) (q := q) (n := nn (k + 1)) (c := (tx (k + 1) q)) hk rfl (fun s h => I.len h) (fun h => by omega) (fun _ => hq) hcl
    have I1 := I.make (k := k) (kd := 1) (q := q) (n := nn (k + 1)) (c := (tx (k + 1) q)) hk rfl (by decide) (fun h => by omega) (fun _ => hq) (fun h => by omega) hcl hw16
    have Mk1 := M0.1 (2 * k) (by omega)
    have Mt1 := M0.2.1 (k + 1) (by omega)
    exact ⟨0, _, _, _, _, w_delete_r l D E La he hna (c_Er_delete l D E La he mu hk Tk.1 hq h64 Tk.2.2 U.1 U.2.1 (by omega) (by omega) (by omega)), c_Mo_delete_0 l D E La hm _ hk hq h64 Mt1.1 M0.2.2 Mk1.2.2.1 (by omega) Mk1.2.2.2.1 (by omega) Mk1.1, M1.2.1, fun _ => congrArg Int32.toInt64 ((Tk.2.1 q hq).trans (Mt1.2 q hq).symm), ⟨_, _, _, _, _, _, _, _, _, I1, C1.congl (fun z h1 h2 => M1.2.2 z (by omega)), M1.1⟩⟩
set_option maxHeartbeats 4000000 in
theorem op_nod (l : Launch) (hlt : l.stackTraces = false) (D : va_G) (E : Nat → ClassId) (La : la_L) {b0 m0 o0 T : Nat} {mu : la_M} (he : isEr E La b0) (hm : isMo E La m0) (hna : ¬ la_A La o0) (hbm : b0 + 277 ≤ m0) (J : IJ T b0 m0 mu) (hT : T < 512) (v0 : Int64) (cl0 : Int32) : ∃ (k9 : Int32) (v1 : Int64) (mu1 mu2 : la_M), cl l y_Lw_nod b_Lw_nod 3 [(0, 5, 8, 13), (0, 5, 11, 17)] 8 132 D E La o0 [.ref b0, .int cl0] mu v0 k9 mu1 v1 ∧ cw l y_Mo_nod b_Mo_nod 2 none 3 67 D E La [.ref m0, .int cl0] mu1 none mu2 ∧ mu2 m0 0 = k9 ∧ IJ (T + 1) b0 m0 mu2 := by
  obtain ⟨sn, gt, kn, ms, hs, lt, op, nn, tx, I, C, M⟩ := J
  have J : IJ T b0 m0 mu := ⟨sn, gt, kn, ms, hs, lt, op, nn, tx, I, C, M⟩
  rcases cl_case cl0 with hc | ⟨k, hk, rfl⟩
  · skip
    exact ⟨1, v0, mu, _, w_nod_1 l D E La he hna (t_Er_nod_1 l hlt D E La he mu hc), c_Mo_nod_1 l D E La hm mu hc, la_up_s, J.thr hbm _⟩
  · skip
    have W := I.win (l := 2 * k) (by omega)
    have hsT := (I.2.1 (2 * k) (by omega)).1
    have h64 := I.len (s := k + 1) (by omega)
    have U := C.up hk
    have Tk := C.2 (k + 1) (by omega)
    have Mk := M.1 (2 * k) (by omega)
    have Mt := M.2.1 (k + 1) (by omega)
    have eR : rl (2 * k) = 16 := by unfold rl; omega
    rw [eR] at W
    by_cases hf : 16 ≤ sn (2 * k) - kn (2 * k)
    · skip
      exact ⟨2, v0, mu, _, w_nod_2 l D E La he hna (t_Er_nod_2 l hlt D E La he mu hk U.1 U.2.1 (by omega) (by omega) hf), c_Mo_nod_2 l D E La hm mu hk Mk.2.2.2.1 (by omega) hf, la_up_s, J.thr hbm _⟩
    have hw16 : sn (2 * k) < kn (2 * k) + 16 := by omega
    have C1 := C.make (k := k) (kd := 2) (q := 0) (n := nn (k + 1)) (c := 32) (x := 32) hk rfl (fun h => by omega) (fun h => by omega) (fun h => by omega) ⟨by decide, by decide⟩ hw16 W.2.1
    have eM : ∀ a, 1 ≤ a → a ≤ 15 → er_make mu b0 k 2 0 (nn (k + 1)) (sn (2 * k)) 32 (m0 + a) = mu (m0 + a) := fun a _ _ => er_make_n hk (by omega)
    have M0 := M.cong (mu' := er_make mu b0 k 2 0 (nn (k + 1)) (sn (2 * k)) 32) eM
    have M1 := M0.make I.wn (k := k) (kd := 2) (q := 0) (n := nn (k + 1)) (c := 32) hk rfl (fun s h => I.len h) (fun h => by omega) (fun h => by omega) (by decide)
    have I1 := I.make (k := k) (kd := 2) (q := 0) (n := nn (k + 1)) (c := 32) hk rfl (by decide) (fun h => by omega) (fun h => by omega) (fun _ => rfl) (by decide) hw16
    have Mk1 := M0.1 (2 * k) (by omega)
    have Mt1 := M0.2.1 (k + 1) (by omega)
    exact ⟨0, v0, _, _, w_nod_r l D E La he hna (c_Er_nod l D E La he mu hk Tk.1 h64 Tk.2.2 U.1 U.2.1 (by omega) (by omega) (by omega)), c_Mo_nod_0 l D E La hm _ hk h64 Mt1.1 M0.2.2 Mk1.2.2.1 (by omega) Mk1.2.2.2.1 (by omega) Mk1.1, M1.2.1, ⟨_, _, _, _, _, _, _, _, _, I1, C1.congl (fun z h1 h2 => M1.2.2 z (by omega)), M1.1⟩⟩
