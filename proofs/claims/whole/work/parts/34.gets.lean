/-! pull and push beside the reference's (written by wip/whole/p34.py) -/
theorem Wn.get {sn gt kn : Nat → Nat} (W : Wn sn gt kn) {L Bk kb : Nat} (hg : gt L < sn L) (hk : kn Bk ≤ kb) (hs : kb ≤ sn Bk) : Wn sn (ot_up gt L (gt L + 1)) (ot_up kn Bk kb) := by
  intro l hl
  have h := W l hl
  have h1 : ot_up gt L (gt L + 1) l ≤ sn l ∧ gt l ≤ ot_up gt L (gt L + 1) l := by
    by_cases e : l = L
    · subst e
      rw [ot_up_s]
      omega
    · rw [ot_up_n e]
      omega
  have h2 : ot_up kn Bk kb l ≤ sn l ∧ kn l ≤ ot_up kn Bk kb l := by
    by_cases e : l = Bk
    · subst e
      rw [ot_up_s]
      omega
    · rw [ot_up_n e]
      omega
  omega
theorem Wn.send {sn gt kn : Nat → Nat} (W : Wn sn gt kn) {L : Nat} (h1 : sn L + 1 - gt L < 40) (h2 : sn L + 1 - kn L < 40) : Wn (ot_up sn L (sn L + 1)) gt kn := by
  intro l hl
  have h := W l hl
  by_cases e : l = L
  · subst e
    rw [ot_up_s]
    omega
  · rw [ot_up_n e]
    exact h
/-- the reference's get, its contract -/
theorem mo_get (l : Launch) (D : va_G) (E : Nat → ClassId) (La : la_L) {m0 T : Nat} (hm : isMo E La m0) {mu : la_M} {sn gt kn : Nat → Nat} {ms : Nat → Nat → ot_T} {hs lt : Nat → Nat → Nat} {op : Nat → Nat → ot_T} {nn : Nat → Nat} {tx : Nat → Nat → Nat} (M : RM m0 mu sn gt kn ms hs lt op nn tx) (W : Wn sn gt kn) (O : IVo T sn gt kn ms lt op) (hT : T ≤ 512) (h64 : ∀ s, s < 4 → nn s ≤ 64) {L Bk j kb : Nat} {v : ot_T} (hL : L < 6) (hBk : Bk = bk L) (hj : j < 4) (hg : gt L < sn L) (hkb : kb = max (kn Bk) (hs L (gt L))) (hks : kb ≤ sn Bk) (hv : v = ot_rm (ms L (gt L)) (op Bk) kb (sn Bk - kb)) (h0 : v.1 = 0 → v.2.1 ≤ nn j) (h1 : v.1 = 1 → v.2.1 < nn j) (hk3 : v.1 ≤ 2) :
    cw l y_Mo_get b_Mo_get 9 none 1 25 D E La [.ref m0, .int (nI L), .int (nI j)] (la_up mu m0 0 0) none (md_get (la_up mu m0 0 0) m0 L (sn L - gt L) (sn Bk - kn Bk) (kb - kn Bk) j v.1 v.2.1 (nn j) (if v.1 = 0 then lt L (gt L) else 0) (gt L)) ∧
    RM m0 (md_get (la_up mu m0 0 0) m0 L (sn L - gt L) (sn Bk - kn Bk) (kb - kn Bk) j v.1 v.2.1 (nn j) (if v.1 = 0 then lt L (gt L) else 0) (gt L)) sn (ot_up gt L (gt L + 1)) (ot_up kn Bk kb) ms hs lt (ot_up op Bk (ot_ro (ms L (gt L)) (op Bk) kb (sn Bk))) (ot_up nn j (tn v.1 (nn j))) (ot_up tx j (td v.1 v.2.1 (lt L (gt L)) (tx j))) ∧
    gR (md_get (la_up mu m0 0 0) m0 L (sn L - gt L) (sn Bk - kn Bk) (kb - kn Bk) j v.1 v.2.1 (nn j) (if v.1 = 0 then lt L (gt L) else 0) (gt L)) m0 v ∧ md_get (la_up mu m0 0 0) m0 L (sn L - gt L) (sn Bk - kn Bk) (kb - kn Bk) j v.1 v.2.1 (nn j) (if v.1 = 0 then lt L (gt L) else 0) (gt L) m0 18 = nI (if v.1 = 0 then lt L (gt L) else 0) ∧ md_get (la_up mu m0 0 0) m0 L (sn L - gt L) (sn Bk - kn Bk) (kb - kn Bk) j v.1 v.2.1 (nn j) (if v.1 = 0 then lt L (gt L) else 0) (gt L) m0 0 = 0 ∧
    (∀ z, z < m0 ∨ m0 + 16 ≤ z → md_get (la_up mu m0 0 0) m0 L (sn L - gt L) (sn Bk - kn Bk) (kb - kn Bk) j v.1 v.2.1 (nn j) (if v.1 = 0 then lt L (gt L) else 0) (gt L) z = mu z) := by
  have hBk6 : Bk < 6 := by rw [hBk]; exact bk_lt hL
  have W1 := W L hL
  have W2 := W Bk hBk6
  have hmo := (O L hL).2.1 (gt L) (Nat.le_refl _) hg
  have hs1 := (O L hL).1
  have hs2 := (O Bk hBk6).1
  obtain ⟨r1, r2, r3, r4⟩ := M.get W hL hBk hj rfl h64 hg (by omega) hks hv hmo.1 (O Bk hBk6).2.2 (by unfold bd; omega) hmo.2 h0 h1
  have M1 := M.cong (mu' := la_up mu m0 0 0) (fun a a1 a2 => la_up_n (by omega))
  have ML := M1.1 L hL
  have MB := M1.1 Bk hBk6
  have hm0 := ML.2.2.2.2.1 0 (by omega)
  rw [Nat.add_zero, Nat.add_zero] at hm0
  have Mt := M1.2.1 j hj
  have hcx : (if v.1 = 0 then lt L (gt L) else 0) < 65536 := by split <;> omega
  have e0 := r4 m0 (Or.inl rfl)
  refine ⟨?_, r1, ⟨by rw [e0]; exact r2.1, by rw [e0]; exact r2.2.1, by rw [e0]; exact r2.2.2⟩, by rw [e0]; exact r3, by rw [e0, md_g4_0]; exact la_up_s, fun z hz => by rw [r4 z (Or.inr hz), md_g4_o hz, la_up_n (by omega)]⟩
  have hoB := MB.2.2.2.1
  have htB := MB.1
  rw [hBk] at hoB htB
  exact c_Mo_get l D E La hm (la_up mu m0 0 0) (L := L) (j := j) (w0 := sn L - gt L) (h0 := hs L (gt L)) (o0 := sn Bk - kn Bk) (t0 := sn Bk) (d0 := kb - kn Bk) (kd := v.1) (q := v.2.1) (n := nn j) (cx := if v.1 = 0 then lt L (gt L) else 0) (g := gt L) hL hj ML.2.2.1 (by omega) (by omega) hm0.2.2.2.1 (by omega) (by rw [hBk]; exact hoB) (by omega) (by rw [hBk]; exact htB) (by omega) (by omega) (by omega) (by omega) ML.2.1 r2.1 r2.2.1 r3 hcx Mt.1 (h64 j hj) M1.2.2 hk3 h0 h1
/-- the class's receive, its contract -/
theorem er_get (l : Launch) (D : va_G) (E : Nat → ClassId) (La : la_L) {b0 T : Nat} (he : isEr E La b0) {mu : la_M} {sn gt kn : Nat → Nat} {ms : Nat → Nat → ot_T} {hs lt : Nat → Nat → Nat} {op : Nat → Nat → ot_T} {nn : Nat → Nat} {tx : Nat → Nat → Nat} (C : RC b0 mu sn gt kn ms hs lt op nn tx) (I : IV T sn gt kn ms hs lt op nn tx) (hT : T ≤ 512) {L Bk j kb : Nat} {v : ot_T} (hL : L < 6) (hBk : Bk = bk L) (hj : j < 4) (hg : gt L < sn L) (hkb : kb = max (kn Bk) (hs L (gt L))) (hks : kb ≤ sn Bk) (hv : v = ot_rm (ms L (gt L)) (op Bk) kb (sn Bk - kb)) (h0 : v.1 = 0 → v.2.1 ≤ nn j ∧ nn j < 64) (h1 : v.1 = 1 → v.2.1 < nn j) (hk3 : v.1 ≤ 2) (hwf : isWy E La (wl b0 L) (rl L)) (hwb : isWy E La (wl b0 Bk) (rl Bk)) :
    cw l y_Er_receive b_Er_receive 5 (some (.object "EditRelay$Change")) 4 92 D E La [.ref b0, .int (nI j), .ref (wl b0 L), .ref (wl b0 Bk)] mu (some (.ref (wl b0 L + 4 + 2 * (gt L % rl L)))) (er_recv mu (b0 + 2 + 2 * j) (wl b0 L) (rl L) (wl b0 Bk) (rl Bk) (gt L) (hs L (gt L)) (sn Bk) (kn Bk) v.1 v.2.1 (nn j)) ∧
    RC b0 (er_recv mu (b0 + 2 + 2 * j) (wl b0 L) (rl L) (wl b0 Bk) (rl Bk) (gt L) (hs L (gt L)) (sn Bk) (kn Bk) v.1 v.2.1 (nn j)) sn (ot_up gt L (gt L + 1)) (ot_up kn Bk kb) ms hs lt (ot_up op Bk (ot_ro (ms L (gt L)) (op Bk) kb (sn Bk))) (ot_up nn j (tn v.1 (nn j))) (ot_up tx j (td v.1 v.2.1 (lt L (gt L)) (tx j))) ∧
    chR (er_recv mu (b0 + 2 + 2 * j) (wl b0 L) (rl L) (wl b0 Bk) (rl Bk) (gt L) (hs L (gt L)) (sn Bk) (kn Bk) v.1 v.2.1 (nn j)) (wl b0 L + 4 + 2 * (gt L % rl L)) v ∧ (v.1 = 0 → er_recv mu (b0 + 2 + 2 * j) (wl b0 L) (rl L) (wl b0 Bk) (rl Bk) (gt L) (hs L (gt L)) (sn Bk) (kn Bk) v.1 v.2.1 (nn j) (wl b0 L + 4 + 2 * (gt L % rl L)) 2 = nI (lt L (gt L))) ∧ chz (er_recv mu (b0 + 2 + 2 * j) (wl b0 L) (rl L) (wl b0 Bk) (rl Bk) (gt L) (hs L (gt L)) (sn Bk) (kn Bk) v.1 v.2.1 (nn j) (wl b0 L + 4 + 2 * (gt L % rl L)) 2) ∧
    (∀ z, z < b0 ∨ b0 + 276 ≤ z → er_recv mu (b0 + 2 + 2 * j) (wl b0 L) (rl L) (wl b0 Bk) (rl Bk) (gt L) (hs L (gt L)) (sn Bk) (kn Bk) v.1 v.2.1 (nn j) z = mu z) := by
  have hbk := bk_c L
  have hBk6 : Bk < 6 := by rw [hBk]; exact bk_lt hL
  have W1 := I.win hL
  have W2 := I.win hBk6
  have hmo := (I.2.1 L hL).2.1 (gt L) (Nat.le_refl _) hg
  have hs1 := (I.2.1 L hL).1
  have hs2 := (I.2.1 Bk hBk6).1
  obtain ⟨g1, g2, g3, g4, g5, g6, g7, g8⟩ := C.get hL hBk hj rfl hg hkb hks hv (by omega) W2.2.2 hmo.1 (I.2.1 Bk hBk6).2.2 (by unfold bd; omega) (fun e => (h0 e).1) h1
  have CL := C.1 L hL
  have CB := C.1 Bk hBk6
  have hm := Nat.mod_lt (gt L) (rl_pos L)
  have hr24 := rl_24 L
  have c0 := CL.2.2.2.1 (gt L) (Nat.le_refl _) hg
  refine ⟨?_, g1, g2, g3, g4, g8⟩
  exact c_Er_receive l D E La he mu (j0 := j) (wf := wl b0 L) (rf := rl L) (wb := wl b0 Bk) (rb := rl Bk) (g := gt L) (h0 := hs L (gt L)) (a := sn Bk) (k0 := kn Bk) (kd := v.1) (q := v.2.1) (n := nn j) hj hwf hwb CL.2.2.1 (by omega) c0.2.2.2 (by omega) CB.1 (by omega) CB.2.1 (by omega) (by omega) (by unfold wl rl at *; omega) (by unfold wl; omega) ⟨by unfold wl; omega, by unfold wl; omega⟩ (fun x => by unfold wl; omega) g7.1 hk3 g5.1 g5.2.1 h0 h1 (I.len hj) g6 g7.2.2
set_option maxHeartbeats 4000000 in
theorem op_pull (l : Launch) (hlt : l.stackTraces = false) (D : va_G) (E : Nat → ClassId) (La : la_L) {b0 m0 o0 T : Nat} {mu : la_M} (he : isEr E La b0) (hm : isMo E La m0) (hna : ¬ la_A La o0) (hbm : b0 + 277 ≤ m0) (J : IJ T b0 m0 mu) (hT : T < 512) (v0 : Int64) (cl0 : Int32) : ∃ (k9 r : Int32) (v1 : Int64) (mu1 mu2 : la_M), cl l y_Lw_pull b_Lw_pull 4 [(0, 9, 12, 13), (0, 9, 15, 31)] 8 137 D E La o0 [.ref b0, .int cl0, .ref o0] mu v0 k9 mu1 v1 ∧ cw l y_Mo_pull b_Mo_pull 2 (some .int) 2 53 D E La [.ref m0, .int cl0] mu1 (some (.int r)) mu2 ∧ mu2 m0 0 = k9 ∧ (k9 = 0 → v1 = r.toInt64) ∧ IJ (T + 1) b0 m0 mu2 := by
  obtain ⟨sn, gt, kn, ms, hs, lt, op, nn, tx, I, C, M⟩ := J
  have J : IJ T b0 m0 mu := ⟨sn, gt, kn, ms, hs, lt, op, nn, tx, I, C, M⟩
  rcases cl_case cl0 with hc | ⟨k, hk, rfl⟩
  · skip
    exact ⟨1, 0, v0, mu, _, w_pull_1 l D E La he hna (t_Er_pull_1 l hlt D E La he mu hc), c_Mo_pull_1 l D E La hm mu hc, la_up_s, fun h9 => absurd h9 (by decide), J.thr hbm _⟩
  · skip
    have W := I.win (l := 2 * k + 1) (by omega)
    have hsT := (I.2.1 (2 * k + 1) (by omega)).1
    have Dn := C.dn hk
    have Mk := M.1 (2 * k + 1) (by omega)
    have hr := rl_24 (2 * k + 1)
    by_cases hg : gt (2 * k + 1) < sn (2 * k + 1)
    · skip
      obtain ⟨⟨p1, p2, p3, p4⟩, I1⟩ := I.pull (k := k) hk rfl hg rfl rfl
      have eBk : 2 * k = bk (2 * k + 1) := by unfold bk; rw [if_neg (by omega)]; omega
      have eW : wl b0 (2 * k + 1) = b0 + 48 + 88 * k := by unfold wl; omega
      have eU : wl b0 (2 * k) = b0 + 12 + 88 * k := by unfold wl; omega
      have rW : rl (2 * k + 1) = 24 := by unfold rl; omega
      have rU : rl (2 * k) = 16 := by unfold rl; omega
      have G := er_get l D E La he C I (by omega) (L := 2 * k + 1) (Bk := 2 * k) (j := k + 1) (by omega) eBk (by omega) hg rfl p1 rfl p2 p3 p4 (by rw [eW, rW]; exact he.2.2.2.2.2.2.2 k hk) (by rw [eU, rU]; exact he.2.2.2.2.2.2.1 k hk)
      rw [eW, rW, eU, rU] at G
      obtain ⟨g1, g2, g3, -, -, g6⟩ := G
      have Mc := M.cong (fun a a1 a2 => g6 (m0 + a) (by omega))
      have N := mo_get l D E La hm Mc I.wn I.2.1 (by omega) (fun s h => I.len h) (L := 2 * k + 1) (Bk := 2 * k) (j := k + 1) (by omega) eBk (by omega) hg rfl p1 rfl (fun e => (p2 e).1) p3 p4
      obtain ⟨n1, n2, n3, -, n5, n6⟩ := N
      exact ⟨0, _, _, _, _, w_pull_r l D E La he hna (c_Er_pull l D E La he mu hk ((he.2.2.2.2.2.2.2 k hk).2.2.2.2.1 _ (Nat.mod_lt _ (by decide))).1 Dn.1 Dn.2.2 hg (by omega) g1), c_Mo_pull_0 l D E La hm _ hk (Mc.1 (2 * k + 1) (by omega)).2.2.1 (by omega) (by omega) n1, n5, fun _ => congrArg Int32.toInt64 (g3.1.trans n3.1.symm), ⟨_, _, _, _, _, _, _, _, _, I1, g2.congl (fun z h1 h2 => n6 z (by omega)), n2⟩⟩
    · have e : gt (2 * k + 1) = sn (2 * k + 1) := by omega
      exact ⟨2, 0, v0, mu, _, w_pull_2 l D E La he hna (t_Er_pull_2 l hlt D E La he mu hk (by rw [Dn.1]) (by rw [Dn.2.2, e])), c_Mo_pull_2 l D E La hm mu hk (by rw [Mk.2.2.1, e, Nat.sub_self]; rfl), la_up_s, fun h9 => absurd h9 (by decide), J.thr hbm _⟩
set_option maxHeartbeats 8000000 in
set_option maxRecDepth 100000 in
theorem op_push_0 (l : Launch) (hlt : l.stackTraces = false) (D : va_G) (E : Nat → ClassId) (La : la_L) {b0 m0 o0 T : Nat} {mu : la_M} (he : isEr E La b0) (hm : isMo E La m0) (hna : ¬ la_A La o0) (hbm : b0 + 277 ≤ m0) (J : IJ T b0 m0 mu) (hT : T < 512) (v0 : Int64) : ∃ (k9 r : Int32) (v1 : Int64) (mu1 mu2 : la_M), cl l y_Lw_push b_Lw_push 4 [(0, 9, 12, 13), (0, 9, 15, 31), (0, 9, 18, 17)] 8 139 D E La o0 [.ref b0, .int 1, .ref o0] mu v0 k9 mu1 v1 ∧ cw l y_Mo_push b_Mo_push 4 (some .int) 2 53 D E La [.ref m0, .int 1] mu1 (some (.int r)) mu2 ∧ mu2 m0 0 = k9 ∧ (k9 = 0 → v1 = r.toInt64) ∧ IJ (T + 1) b0 m0 mu2 := by
  obtain ⟨sn, gt, kn, ms, hs, lt, op, nn, tx, I, C, M⟩ := J
  have J : IJ T b0 m0 mu := ⟨sn, gt, kn, ms, hs, lt, op, nn, tx, I, C, M⟩
  have W0 := I.win (l := 0) (by decide)
  have sT0 := (I.2.1 0 (by decide)).1
  have r0 : rl 0 = 16 := rfl
  rw [r0] at W0
  have M0 := M.1 0 (by decide)
  have W3 := I.win (l := 3) (by decide)
  have sT3 := (I.2.1 3 (by decide)).1
  have r3 : rl 3 = 24 := rfl
  rw [r3] at W3
  have M3 := M.1 3 (by decide)
  have W5 := I.win (l := 5) (by decide)
  have sT5 := (I.2.1 5 (by decide)).1
  have r5 : rl 5 = 24 := rfl
  rw [r5] at W5
  have M5 := M.1 5 (by decide)
  have U : mu (b0 + 12 + 88 * 0) 4 = nI (sn 0) ∧ mu (b0 + 12 + 88 * 0) 5 = nI (kn 0) ∧ mu (b0 + 12 + 88 * 0) 6 = nI (gt 0) := C.up (k := 0) (by decide)
  have D0 : mu (b0 + 48 + 88 * 1) 4 = nI (sn 3) ∧ mu (b0 + 48 + 88 * 1) 5 = nI (kn 3) ∧ mu (b0 + 48 + 88 * 1) 6 = nI (gt 3) := C.dn (k := 1) (by decide)
  have D1 : mu (b0 + 48 + 88 * 2) 4 = nI (sn 5) ∧ mu (b0 + 48 + 88 * 2) 5 = nI (kn 5) ∧ mu (b0 + 48 + 88 * 2) 6 = nI (gt 5) := C.dn (k := 2) (by decide)
  by_cases hg : gt 0 < sn 0
  · skip
    have hw4 : sn 0 - gt 0 < 40 := by omega
    have hw0 : 0 < sn 0 - gt 0 := by omega
    by_cases hf0 : 24 ≤ sn 3 - kn 3
    · skip
      exact ⟨3, 0, v0, mu, _, w_push_3 l D E La he hna (t_Er_push_3_01 l hlt D E La he mu U.1 U.2.2 hg (by omega) D0.1 D0.2.1 (Nat.le_trans W3.2.1 W3.1) (by omega) hf0), c_Mo_push_3_01 l D E La hm mu M0.2.2.1 hw0 hw4 M3.2.2.2.1 hf0 (by omega), la_up_s, fun h9 => absurd h9 (by decide), J.thr hbm _⟩
    by_cases hf1 : 24 ≤ sn 5 - kn 5
    · skip
      exact ⟨3, 0, v0, mu, _, w_push_3 l D E La he hna (t_Er_push_3_02 l hlt D E La he mu U.1 U.2.2 hg (by omega) D0.1 D0.2.1 (Nat.le_trans W3.2.1 W3.1) (by omega) (by omega) D1.1 D1.2.1 (Nat.le_trans W5.2.1 W5.1) (by omega) hf1), c_Mo_push_3_02 l D E La hm mu M0.2.2.1 hw0 hw4 M3.2.2.2.1 M3.2.2.1 (by omega) (by omega) M5.2.2.2.1 hf1 (by omega), la_up_s, fun h9 => absurd h9 (by decide), J.thr hbm _⟩
    obtain ⟨⟨p1, p2, p3, p4⟩, I1⟩ := I.push_0 rfl hg (by omega) (by omega) rfl rfl
    generalize hkb : max (kn 1) (hs 0 (gt 0)) = kb at p1 p2 p3 p4 I1
    generalize hv : ot_rm (ms 0 (gt 0)) (op 1) kb (sn 1 - kb) = v at p2 p3 p4 I1
    have G := er_get l D E La he C I (by omega) (L := 0) (Bk := 1) (j := 0) (by decide) rfl (by decide) hg hkb.symm p1 hv.symm p2 p3 p4 (he.2.2.2.2.2.2.1 0 (by decide)) (he.2.2.2.2.2.2.2 0 (by decide))
    generalize hE : er_recv mu (b0 + 2 + 2 * 0) (wl b0 0) (rl 0) (wl b0 1) (rl 1) (gt 0) (hs 0 (gt 0)) (sn 1) (kn 1) v.1 v.2.1 (nn 0) = mE at G
    obtain ⟨g1, g2, g3, g4, g5, g6⟩ := G
    have mg := Nat.mod_lt (gt 0) (show 0 < 16 by decide)
    have hc0 : (wl b0 0 + 4 + 2 * (gt 0 % rl 0)) = b0 + 12 + 88 * 0 + 4 + 2 * (gt 0 % 16) := rfl
    have C2 := g2.send (L2 := 3) (c0 := (wl b0 0 + 4 + 2 * (gt 0 % rl 0))) (x := gt 2) (c := lt 0 (gt 0)) (v := v) (by decide) (by show sn 3 < gt 3 + 24; omega) (by show sn 3 < kn 3 + 24; omega) g3 g4 g5 (by rw [hc0]; show _ ∨ b0 + 12 + 88 * 1 + 36 * 1 + 4 + 2 * 24 ≤ _; unfold wl; omega)
    have ec0 := C2.2 (wl b0 0 + 4 + 2 * (gt 0 % rl 0)) (by rw [hc0]; show _ ∨ b0 + 12 + 88 * 1 + 36 * 1 + 4 + 2 * 24 ≤ _; unfold wl; omega)
    have C3 := C2.1.send (L2 := 5) (c0 := (wl b0 0 + 4 + 2 * (gt 0 % rl 0))) (x := gt 4) (c := lt 0 (gt 0)) (v := v) (by decide) (by show sn 5 < gt 5 + 24; omega) (by show sn 5 < kn 5 + 24; omega) (g3.cong ec0) (fun e => by rw [ec0]; exact g4 e) (by rw [ec0]; exact g5) (by rw [hc0]; show _ ∨ b0 + 12 + 88 * 2 + 36 * 1 + 4 + 2 * 24 ≤ _; unfold wl; omega)
    have U0 : mE (b0 + 12 + 88 * 1) 4 = nI (sn 2) ∧ mE (b0 + 12 + 88 * 1) 5 = nI (kn 2) ∧ mE (b0 + 12 + 88 * 1) 6 = nI (gt 2) := g2.up (k := 1) (by decide)
    have U1 : mE (b0 + 12 + 88 * 2) 4 = nI (sn 4) ∧ mE (b0 + 12 + 88 * 2) 5 = nI (kn 4) ∧ mE (b0 + 12 + 88 * 2) 6 = nI (gt 4) := g2.up (k := 2) (by decide)
    have E0 : mE (b0 + 48 + 88 * 1) 4 = nI (sn 3) ∧ mE (b0 + 48 + 88 * 1) 5 = nI (kn 3) ∧ mE (b0 + 48 + 88 * 1) 6 = nI (gt 3) := g2.dn (k := 1) (by decide)
    have E1 : mE (b0 + 48 + 88 * 2) 4 = nI (sn 5) ∧ mE (b0 + 48 + 88 * 2) 5 = nI (kn 5) ∧ mE (b0 + 48 + 88 * 2) 6 = nI (gt 5) := g2.dn (k := 2) (by decide)
    have eM : ∀ z, b0 + 277 ≤ z → (wy_send (wy_send mE (wl b0 3) (rl 3) (wl b0 0 + 4 + 2 * (gt 0 % rl 0)) (sn 3) (nI (gt 2))) (wl b0 5) (rl 5) (wl b0 0 + 4 + 2 * (gt 0 % rl 0)) (sn 5) (nI (gt 4))) z = mu z := fun z hz => by
      have q1 := C3.2 z (by right; show b0 + 12 + 88 * 2 + 36 * 1 + 4 + 2 * 24 ≤ z; omega)
      have q2 := C2.2 z (by right; show b0 + 12 + 88 * 1 + 36 * 1 + 4 + 2 * 24 ≤ z; omega)
      exact q1.trans (q2.trans (g6 z (by omega)))
    have Mc := M.cong (mu' := (wy_send (wy_send mE (wl b0 3) (rl 3) (wl b0 0 + 4 + 2 * (gt 0 % rl 0)) (sn 3) (nI (gt 2))) (wl b0 5) (rl 5) (wl b0 0 + 4 + 2 * (gt 0 % rl 0)) (sn 5) (nI (gt 4)))) (fun a a1 a2 => eM (m0 + a) (by omega))
    have N := mo_get l D E La hm Mc I.wn I.2.1 (by omega) (fun s h => I.len h) (L := 0) (Bk := 1) (j := 0) (by decide) rfl (by decide) hg hkb.symm p1 hv.symm (fun e => (p2 e).1) p3 p4
    generalize hG : md_get (la_up (wy_send (wy_send mE (wl b0 3) (rl 3) (wl b0 0 + 4 + 2 * (gt 0 % rl 0)) (sn 3) (nI (gt 2))) (wl b0 5) (rl 5) (wl b0 0 + 4 + 2 * (gt 0 % rl 0)) (sn 5) (nI (gt 4))) m0 0 0) m0 0 (sn 0 - gt 0) (sn 1 - kn 1) (kb - kn 1) 0 v.1 v.2.1 (nn 0) (if v.1 = 0 then lt 0 (gt 0) else 0) (gt 0) = mG at N
    obtain ⟨n1, n2, n3, n4, n5, n6⟩ := N
    have Wg := I.wn.get (L := 0) (Bk := 1) (kb := kb) hg (by omega) p1
    have N2 := n2.send Wg (L2 := 3) (c := lt 0 (gt 0)) (v := v) (by decide) n3 n4
    have Wg2 := Wg.send (L := 3) (by show sn 3 + 1 - gt 3 < 40; omega) (by show sn 3 + 1 - kn 3 < 40; omega)
    have ez : (md_send mG m0 3 (sn 3 - gt 3) (sn 3 - kn 3) (sn 3)) m0 = mG m0 := md_send_z (Or.inl rfl)
    have N3 := N2.send Wg2 (L2 := 5) (c := lt 0 (gt 0)) (v := v) (by decide) ⟨(congrFun ez 16).trans n3.1, (congrFun ez 17).trans n3.2.1, (congrFun ez 19).trans n3.2.2⟩ ((congrFun ez 18).trans n4)
    have ez2 : (md_send (md_send mG m0 3 (sn 3 - gt 3) (sn 3 - kn 3) (sn 3)) m0 5 (sn 5 - gt 5) (sn 5 - kn 5) (sn 5)) m0 = mG m0 := (md_send_z (Or.inl rfl)).trans ez
    have Q3 : RMl mG m0 3 (sn 3) (gt 3) (kn 3) (ms 3) (hs 3) (lt 3) (op 3) := n2.1 3 (by decide)
    have Q5 : RMl mG m0 5 (sn 5) (gt 5) (kn 5) (ms 5) (hs 5) (lt 5) (op 5) := n2.1 5 (by decide)
    have R0 := Mc.1 0 (by decide)
    have R3 := Mc.1 3 (by decide)
    have R5 := Mc.1 5 (by decide)
    refine ⟨0, _, _, _, _, w_push_r l D E La he hna (c_Er_push_0 l D E La he mu (mu1 := mE) (g := gt 0) U.1 U.2.2 hg (by omega) g1 g5 D0.1 D0.2.1 (Nat.le_trans W3.2.1 W3.1) (by omega) (by omega) E0.1 U0.2.2 D1.1 D1.2.1 (Nat.le_trans W5.2.1 W5.1) (by omega) (by omega) E1.1 U1.2.2), c_Mo_push_0_0 l D E La hm _ R0.2.2.1 hw0 hw4 R3.2.2.2.1 R3.2.2.1 (by omega) (by omega) R5.2.2.2.1 R5.2.2.1 (by omega) (by omega) n1 Q3.2.2.2.1 Q3.2.2.1 Q3.1 Q5.2.2.2.1 Q5.2.2.1 Q5.1, (congrFun ez2 0).trans n5, fun _ => congrArg Int32.toInt64 (g3.1.trans n3.1.symm), ⟨_, _, _, _, _, _, _, _, _, I1, C3.1.congl (fun z h1 h2 => ?_), N3⟩⟩
    have z1 : (md_send (md_send mG m0 3 (sn 3 - gt 3) (sn 3 - kn 3) (sn 3)) m0 5 (sn 5 - gt 5) (sn 5 - kn 5) (sn 5)) z = mG z := by rw [md_send_1 (by omega) (by omega) (by omega) (by omega) (by omega) (by omega) (by omega) (by omega) (by omega) (by omega) (by omega) (by omega), md_send_1 (by omega) (by omega) (by omega) (by omega) (by omega) (by omega) (by omega) (by omega) (by omega) (by omega) (by omega) (by omega)]
    exact z1.trans (n6 z (by omega))
  · have e : gt 0 = sn 0 := by omega
    exact ⟨2, 0, v0, mu, _, w_push_2 l D E La he hna (t_Er_push_2 l hlt D E La he mu (k := 0) (by decide) U.1 (by rw [U.2.2, show gt (2 * 0) = sn (2 * 0) from e])), c_Mo_push_2 l D E La hm mu (k := 0) (by decide) (by show mu (m0 + 5) 0 = 0; rw [M0.2.2.1, e, Nat.sub_self]; rfl), la_up_s, fun h9 => absurd h9 (by decide), J.thr hbm _⟩
set_option maxHeartbeats 8000000 in
set_option maxRecDepth 100000 in
theorem op_push_1 (l : Launch) (hlt : l.stackTraces = false) (D : va_G) (E : Nat → ClassId) (La : la_L) {b0 m0 o0 T : Nat} {mu : la_M} (he : isEr E La b0) (hm : isMo E La m0) (hna : ¬ la_A La o0) (hbm : b0 + 277 ≤ m0) (J : IJ T b0 m0 mu) (hT : T < 512) (v0 : Int64) : ∃ (k9 r : Int32) (v1 : Int64) (mu1 mu2 : la_M), cl l y_Lw_push b_Lw_push 4 [(0, 9, 12, 13), (0, 9, 15, 31), (0, 9, 18, 17)] 8 139 D E La o0 [.ref b0, .int 2, .ref o0] mu v0 k9 mu1 v1 ∧ cw l y_Mo_push b_Mo_push 4 (some .int) 2 53 D E La [.ref m0, .int 2] mu1 (some (.int r)) mu2 ∧ mu2 m0 0 = k9 ∧ (k9 = 0 → v1 = r.toInt64) ∧ IJ (T + 1) b0 m0 mu2 := by
  obtain ⟨sn, gt, kn, ms, hs, lt, op, nn, tx, I, C, M⟩ := J
  have J : IJ T b0 m0 mu := ⟨sn, gt, kn, ms, hs, lt, op, nn, tx, I, C, M⟩
  have W2 := I.win (l := 2) (by decide)
  have sT2 := (I.2.1 2 (by decide)).1
  have r2 : rl 2 = 16 := rfl
  rw [r2] at W2
  have M2 := M.1 2 (by decide)
  have W1 := I.win (l := 1) (by decide)
  have sT1 := (I.2.1 1 (by decide)).1
  have r1 : rl 1 = 24 := rfl
  rw [r1] at W1
  have M1 := M.1 1 (by decide)
  have W5 := I.win (l := 5) (by decide)
  have sT5 := (I.2.1 5 (by decide)).1
  have r5 : rl 5 = 24 := rfl
  rw [r5] at W5
  have M5 := M.1 5 (by decide)
  have U : mu (b0 + 12 + 88 * 1) 4 = nI (sn 2) ∧ mu (b0 + 12 + 88 * 1) 5 = nI (kn 2) ∧ mu (b0 + 12 + 88 * 1) 6 = nI (gt 2) := C.up (k := 1) (by decide)
  have D0 : mu (b0 + 48 + 88 * 0) 4 = nI (sn 1) ∧ mu (b0 + 48 + 88 * 0) 5 = nI (kn 1) ∧ mu (b0 + 48 + 88 * 0) 6 = nI (gt 1) := C.dn (k := 0) (by decide)
  have D1 : mu (b0 + 48 + 88 * 2) 4 = nI (sn 5) ∧ mu (b0 + 48 + 88 * 2) 5 = nI (kn 5) ∧ mu (b0 + 48 + 88 * 2) 6 = nI (gt 5) := C.dn (k := 2) (by decide)
  by_cases hg : gt 2 < sn 2
  · skip
    have hw4 : sn 2 - gt 2 < 40 := by omega
    have hw0 : 0 < sn 2 - gt 2 := by omega
    by_cases hf0 : 24 ≤ sn 1 - kn 1
    · skip
      exact ⟨3, 0, v0, mu, _, w_push_3 l D E La he hna (t_Er_push_3_10 l hlt D E La he mu U.1 U.2.2 hg (by omega) D0.1 D0.2.1 (Nat.le_trans W1.2.1 W1.1) (by omega) hf0), c_Mo_push_3_10 l D E La hm mu M2.2.2.1 hw0 hw4 M1.2.2.2.1 hf0 (by omega), la_up_s, fun h9 => absurd h9 (by decide), J.thr hbm _⟩
    by_cases hf1 : 24 ≤ sn 5 - kn 5
    · skip
      exact ⟨3, 0, v0, mu, _, w_push_3 l D E La he hna (t_Er_push_3_12 l hlt D E La he mu U.1 U.2.2 hg (by omega) D0.1 D0.2.1 (Nat.le_trans W1.2.1 W1.1) (by omega) (by omega) D1.1 D1.2.1 (Nat.le_trans W5.2.1 W5.1) (by omega) hf1), c_Mo_push_3_12 l D E La hm mu M2.2.2.1 hw0 hw4 M1.2.2.2.1 M1.2.2.1 (by omega) (by omega) M5.2.2.2.1 hf1 (by omega), la_up_s, fun h9 => absurd h9 (by decide), J.thr hbm _⟩
    obtain ⟨⟨p1, p2, p3, p4⟩, I1⟩ := I.push_1 rfl hg (by omega) (by omega) rfl rfl
    generalize hkb : max (kn 3) (hs 2 (gt 2)) = kb at p1 p2 p3 p4 I1
    generalize hv : ot_rm (ms 2 (gt 2)) (op 3) kb (sn 3 - kb) = v at p2 p3 p4 I1
    have G := er_get l D E La he C I (by omega) (L := 2) (Bk := 3) (j := 0) (by decide) rfl (by decide) hg hkb.symm p1 hv.symm p2 p3 p4 (he.2.2.2.2.2.2.1 1 (by decide)) (he.2.2.2.2.2.2.2 1 (by decide))
    generalize hE : er_recv mu (b0 + 2 + 2 * 0) (wl b0 2) (rl 2) (wl b0 3) (rl 3) (gt 2) (hs 2 (gt 2)) (sn 3) (kn 3) v.1 v.2.1 (nn 0) = mE at G
    obtain ⟨g1, g2, g3, g4, g5, g6⟩ := G
    have mg := Nat.mod_lt (gt 2) (show 0 < 16 by decide)
    have hc0 : (wl b0 2 + 4 + 2 * (gt 2 % rl 2)) = b0 + 12 + 88 * 1 + 4 + 2 * (gt 2 % 16) := rfl
    have C2 := g2.send (L2 := 1) (c0 := (wl b0 2 + 4 + 2 * (gt 2 % rl 2))) (x := gt 0) (c := lt 2 (gt 2)) (v := v) (by decide) (by show sn 1 < gt 1 + 24; omega) (by show sn 1 < kn 1 + 24; omega) g3 g4 g5 (by rw [hc0]; show _ ∨ b0 + 12 + 88 * 0 + 36 * 1 + 4 + 2 * 24 ≤ _; unfold wl; omega)
    have ec0 := C2.2 (wl b0 2 + 4 + 2 * (gt 2 % rl 2)) (by rw [hc0]; show _ ∨ b0 + 12 + 88 * 0 + 36 * 1 + 4 + 2 * 24 ≤ _; unfold wl; omega)
    have C3 := C2.1.send (L2 := 5) (c0 := (wl b0 2 + 4 + 2 * (gt 2 % rl 2))) (x := gt 4) (c := lt 2 (gt 2)) (v := v) (by decide) (by show sn 5 < gt 5 + 24; omega) (by show sn 5 < kn 5 + 24; omega) (g3.cong ec0) (fun e => by rw [ec0]; exact g4 e) (by rw [ec0]; exact g5) (by rw [hc0]; show _ ∨ b0 + 12 + 88 * 2 + 36 * 1 + 4 + 2 * 24 ≤ _; unfold wl; omega)
    have U0 : mE (b0 + 12 + 88 * 0) 4 = nI (sn 0) ∧ mE (b0 + 12 + 88 * 0) 5 = nI (kn 0) ∧ mE (b0 + 12 + 88 * 0) 6 = nI (gt 0) := g2.up (k := 0) (by decide)
    have U1 : mE (b0 + 12 + 88 * 2) 4 = nI (sn 4) ∧ mE (b0 + 12 + 88 * 2) 5 = nI (kn 4) ∧ mE (b0 + 12 + 88 * 2) 6 = nI (gt 4) := g2.up (k := 2) (by decide)
    have E0 : mE (b0 + 48 + 88 * 0) 4 = nI (sn 1) ∧ mE (b0 + 48 + 88 * 0) 5 = nI (kn 1) ∧ mE (b0 + 48 + 88 * 0) 6 = nI (gt 1) := g2.dn (k := 0) (by decide)
    have E1 : mE (b0 + 48 + 88 * 2) 4 = nI (sn 5) ∧ mE (b0 + 48 + 88 * 2) 5 = nI (kn 5) ∧ mE (b0 + 48 + 88 * 2) 6 = nI (gt 5) := g2.dn (k := 2) (by decide)
    have eM : ∀ z, b0 + 277 ≤ z → (wy_send (wy_send mE (wl b0 1) (rl 1) (wl b0 2 + 4 + 2 * (gt 2 % rl 2)) (sn 1) (nI (gt 0))) (wl b0 5) (rl 5) (wl b0 2 + 4 + 2 * (gt 2 % rl 2)) (sn 5) (nI (gt 4))) z = mu z := fun z hz => by
      have q1 := C3.2 z (by right; show b0 + 12 + 88 * 2 + 36 * 1 + 4 + 2 * 24 ≤ z; omega)
      have q2 := C2.2 z (by right; show b0 + 12 + 88 * 0 + 36 * 1 + 4 + 2 * 24 ≤ z; omega)
      exact q1.trans (q2.trans (g6 z (by omega)))
    have Mc := M.cong (mu' := (wy_send (wy_send mE (wl b0 1) (rl 1) (wl b0 2 + 4 + 2 * (gt 2 % rl 2)) (sn 1) (nI (gt 0))) (wl b0 5) (rl 5) (wl b0 2 + 4 + 2 * (gt 2 % rl 2)) (sn 5) (nI (gt 4)))) (fun a a1 a2 => eM (m0 + a) (by omega))
    have N := mo_get l D E La hm Mc I.wn I.2.1 (by omega) (fun s h => I.len h) (L := 2) (Bk := 3) (j := 0) (by decide) rfl (by decide) hg hkb.symm p1 hv.symm (fun e => (p2 e).1) p3 p4
    generalize hG : md_get (la_up (wy_send (wy_send mE (wl b0 1) (rl 1) (wl b0 2 + 4 + 2 * (gt 2 % rl 2)) (sn 1) (nI (gt 0))) (wl b0 5) (rl 5) (wl b0 2 + 4 + 2 * (gt 2 % rl 2)) (sn 5) (nI (gt 4))) m0 0 0) m0 2 (sn 2 - gt 2) (sn 3 - kn 3) (kb - kn 3) 0 v.1 v.2.1 (nn 0) (if v.1 = 0 then lt 2 (gt 2) else 0) (gt 2) = mG at N
    obtain ⟨n1, n2, n3, n4, n5, n6⟩ := N
    have Wg := I.wn.get (L := 2) (Bk := 3) (kb := kb) hg (by omega) p1
    have N2 := n2.send Wg (L2 := 1) (c := lt 2 (gt 2)) (v := v) (by decide) n3 n4
    have Wg2 := Wg.send (L := 1) (by show sn 1 + 1 - gt 1 < 40; omega) (by show sn 1 + 1 - kn 1 < 40; omega)
    have ez : (md_send mG m0 1 (sn 1 - gt 1) (sn 1 - kn 1) (sn 1)) m0 = mG m0 := md_send_z (Or.inl rfl)
    have N3 := N2.send Wg2 (L2 := 5) (c := lt 2 (gt 2)) (v := v) (by decide) ⟨(congrFun ez 16).trans n3.1, (congrFun ez 17).trans n3.2.1, (congrFun ez 19).trans n3.2.2⟩ ((congrFun ez 18).trans n4)
    have ez2 : (md_send (md_send mG m0 1 (sn 1 - gt 1) (sn 1 - kn 1) (sn 1)) m0 5 (sn 5 - gt 5) (sn 5 - kn 5) (sn 5)) m0 = mG m0 := (md_send_z (Or.inl rfl)).trans ez
    have Q1 : RMl mG m0 1 (sn 1) (gt 1) (kn 1) (ms 1) (hs 1) (lt 1) (op 1) := n2.1 1 (by decide)
    have Q5 : RMl mG m0 5 (sn 5) (gt 5) (kn 5) (ms 5) (hs 5) (lt 5) (op 5) := n2.1 5 (by decide)
    have R2 := Mc.1 2 (by decide)
    have R1 := Mc.1 1 (by decide)
    have R5 := Mc.1 5 (by decide)
    refine ⟨0, _, _, _, _, w_push_r l D E La he hna (c_Er_push_1 l D E La he mu (mu1 := mE) (g := gt 2) U.1 U.2.2 hg (by omega) g1 g5 D0.1 D0.2.1 (Nat.le_trans W1.2.1 W1.1) (by omega) (by omega) E0.1 U0.2.2 D1.1 D1.2.1 (Nat.le_trans W5.2.1 W5.1) (by omega) (by omega) E1.1 U1.2.2), c_Mo_push_0_1 l D E La hm _ R2.2.2.1 hw0 hw4 R1.2.2.2.1 R1.2.2.1 (by omega) (by omega) R5.2.2.2.1 R5.2.2.1 (by omega) (by omega) n1 Q1.2.2.2.1 Q1.2.2.1 Q1.1 Q5.2.2.2.1 Q5.2.2.1 Q5.1, (congrFun ez2 0).trans n5, fun _ => congrArg Int32.toInt64 (g3.1.trans n3.1.symm), ⟨_, _, _, _, _, _, _, _, _, I1, C3.1.congl (fun z h1 h2 => ?_), N3⟩⟩
    have z1 : (md_send (md_send mG m0 1 (sn 1 - gt 1) (sn 1 - kn 1) (sn 1)) m0 5 (sn 5 - gt 5) (sn 5 - kn 5) (sn 5)) z = mG z := by rw [md_send_1 (by omega) (by omega) (by omega) (by omega) (by omega) (by omega) (by omega) (by omega) (by omega) (by omega) (by omega) (by omega), md_send_1 (by omega) (by omega) (by omega) (by omega) (by omega) (by omega) (by omega) (by omega) (by omega) (by omega) (by omega) (by omega)]
    exact z1.trans (n6 z (by omega))
  · have e : gt 2 = sn 2 := by omega
    exact ⟨2, 0, v0, mu, _, w_push_2 l D E La he hna (t_Er_push_2 l hlt D E La he mu (k := 1) (by decide) U.1 (by rw [U.2.2, show gt (2 * 1) = sn (2 * 1) from e])), c_Mo_push_2 l D E La hm mu (k := 1) (by decide) (by show mu (m0 + 5) 2 = 0; rw [M2.2.2.1, e, Nat.sub_self]; rfl), la_up_s, fun h9 => absurd h9 (by decide), J.thr hbm _⟩
set_option maxHeartbeats 8000000 in
set_option maxRecDepth 100000 in
theorem op_push_2 (l : Launch) (hlt : l.stackTraces = false) (D : va_G) (E : Nat → ClassId) (La : la_L) {b0 m0 o0 T : Nat} {mu : la_M} (he : isEr E La b0) (hm : isMo E La m0) (hna : ¬ la_A La o0) (hbm : b0 + 277 ≤ m0) (J : IJ T b0 m0 mu) (hT : T < 512) (v0 : Int64) : ∃ (k9 r : Int32) (v1 : Int64) (mu1 mu2 : la_M), cl l y_Lw_push b_Lw_push 4 [(0, 9, 12, 13), (0, 9, 15, 31), (0, 9, 18, 17)] 8 139 D E La o0 [.ref b0, .int 3, .ref o0] mu v0 k9 mu1 v1 ∧ cw l y_Mo_push b_Mo_push 4 (some .int) 2 53 D E La [.ref m0, .int 3] mu1 (some (.int r)) mu2 ∧ mu2 m0 0 = k9 ∧ (k9 = 0 → v1 = r.toInt64) ∧ IJ (T + 1) b0 m0 mu2 := by
  obtain ⟨sn, gt, kn, ms, hs, lt, op, nn, tx, I, C, M⟩ := J
  have J : IJ T b0 m0 mu := ⟨sn, gt, kn, ms, hs, lt, op, nn, tx, I, C, M⟩
  have W4 := I.win (l := 4) (by decide)
  have sT4 := (I.2.1 4 (by decide)).1
  have r4 : rl 4 = 16 := rfl
  rw [r4] at W4
  have M4 := M.1 4 (by decide)
  have W1 := I.win (l := 1) (by decide)
  have sT1 := (I.2.1 1 (by decide)).1
  have r1 : rl 1 = 24 := rfl
  rw [r1] at W1
  have M1 := M.1 1 (by decide)
  have W3 := I.win (l := 3) (by decide)
  have sT3 := (I.2.1 3 (by decide)).1
  have r3 : rl 3 = 24 := rfl
  rw [r3] at W3
  have M3 := M.1 3 (by decide)
  have U : mu (b0 + 12 + 88 * 2) 4 = nI (sn 4) ∧ mu (b0 + 12 + 88 * 2) 5 = nI (kn 4) ∧ mu (b0 + 12 + 88 * 2) 6 = nI (gt 4) := C.up (k := 2) (by decide)
  have D0 : mu (b0 + 48 + 88 * 0) 4 = nI (sn 1) ∧ mu (b0 + 48 + 88 * 0) 5 = nI (kn 1) ∧ mu (b0 + 48 + 88 * 0) 6 = nI (gt 1) := C.dn (k := 0) (by decide)
  have D1 : mu (b0 + 48 + 88 * 1) 4 = nI (sn 3) ∧ mu (b0 + 48 + 88 * 1) 5 = nI (kn 3) ∧ mu (b0 + 48 + 88 * 1) 6 = nI (gt 3) := C.dn (k := 1) (by decide)
  by_cases hg : gt 4 < sn 4
  · skip
    have hw4 : sn 4 - gt 4 < 40 := by omega
    have hw0 : 0 < sn 4 - gt 4 := by omega
    by_cases hf0 : 24 ≤ sn 1 - kn 1
    · skip
      exact ⟨3, 0, v0, mu, _, w_push_3 l D E La he hna (t_Er_push_3_20 l hlt D E La he mu U.1 U.2.2 hg (by omega) D0.1 D0.2.1 (Nat.le_trans W1.2.1 W1.1) (by omega) hf0), c_Mo_push_3_20 l D E La hm mu M4.2.2.1 hw0 hw4 M1.2.2.2.1 hf0 (by omega), la_up_s, fun h9 => absurd h9 (by decide), J.thr hbm _⟩
    by_cases hf1 : 24 ≤ sn 3 - kn 3
    · skip
      exact ⟨3, 0, v0, mu, _, w_push_3 l D E La he hna (t_Er_push_3_21 l hlt D E La he mu U.1 U.2.2 hg (by omega) D0.1 D0.2.1 (Nat.le_trans W1.2.1 W1.1) (by omega) (by omega) D1.1 D1.2.1 (Nat.le_trans W3.2.1 W3.1) (by omega) hf1), c_Mo_push_3_21 l D E La hm mu M4.2.2.1 hw0 hw4 M1.2.2.2.1 M1.2.2.1 (by omega) (by omega) M3.2.2.2.1 hf1 (by omega), la_up_s, fun h9 => absurd h9 (by decide), J.thr hbm _⟩
    obtain ⟨⟨p1, p2, p3, p4⟩, I1⟩ := I.push_2 rfl hg (by omega) (by omega) rfl rfl
    generalize hkb : max (kn 5) (hs 4 (gt 4)) = kb at p1 p2 p3 p4 I1
    generalize hv : ot_rm (ms 4 (gt 4)) (op 5) kb (sn 5 - kb) = v at p2 p3 p4 I1
    have G := er_get l D E La he C I (by omega) (L := 4) (Bk := 5) (j := 0) (by decide) rfl (by decide) hg hkb.symm p1 hv.symm p2 p3 p4 (he.2.2.2.2.2.2.1 2 (by decide)) (he.2.2.2.2.2.2.2 2 (by decide))
    generalize hE : er_recv mu (b0 + 2 + 2 * 0) (wl b0 4) (rl 4) (wl b0 5) (rl 5) (gt 4) (hs 4 (gt 4)) (sn 5) (kn 5) v.1 v.2.1 (nn 0) = mE at G
    obtain ⟨g1, g2, g3, g4, g5, g6⟩ := G
    have mg := Nat.mod_lt (gt 4) (show 0 < 16 by decide)
    have hc0 : (wl b0 4 + 4 + 2 * (gt 4 % rl 4)) = b0 + 12 + 88 * 2 + 4 + 2 * (gt 4 % 16) := rfl
    have C2 := g2.send (L2 := 1) (c0 := (wl b0 4 + 4 + 2 * (gt 4 % rl 4))) (x := gt 0) (c := lt 4 (gt 4)) (v := v) (by decide) (by show sn 1 < gt 1 + 24; omega) (by show sn 1 < kn 1 + 24; omega) g3 g4 g5 (by rw [hc0]; show _ ∨ b0 + 12 + 88 * 0 + 36 * 1 + 4 + 2 * 24 ≤ _; unfold wl; omega)
    have ec0 := C2.2 (wl b0 4 + 4 + 2 * (gt 4 % rl 4)) (by rw [hc0]; show _ ∨ b0 + 12 + 88 * 0 + 36 * 1 + 4 + 2 * 24 ≤ _; unfold wl; omega)
    have C3 := C2.1.send (L2 := 3) (c0 := (wl b0 4 + 4 + 2 * (gt 4 % rl 4))) (x := gt 2) (c := lt 4 (gt 4)) (v := v) (by decide) (by show sn 3 < gt 3 + 24; omega) (by show sn 3 < kn 3 + 24; omega) (g3.cong ec0) (fun e => by rw [ec0]; exact g4 e) (by rw [ec0]; exact g5) (by rw [hc0]; show _ ∨ b0 + 12 + 88 * 1 + 36 * 1 + 4 + 2 * 24 ≤ _; unfold wl; omega)
    have U0 : mE (b0 + 12 + 88 * 0) 4 = nI (sn 0) ∧ mE (b0 + 12 + 88 * 0) 5 = nI (kn 0) ∧ mE (b0 + 12 + 88 * 0) 6 = nI (gt 0) := g2.up (k := 0) (by decide)
    have U1 : mE (b0 + 12 + 88 * 1) 4 = nI (sn 2) ∧ mE (b0 + 12 + 88 * 1) 5 = nI (kn 2) ∧ mE (b0 + 12 + 88 * 1) 6 = nI (gt 2) := g2.up (k := 1) (by decide)
    have E0 : mE (b0 + 48 + 88 * 0) 4 = nI (sn 1) ∧ mE (b0 + 48 + 88 * 0) 5 = nI (kn 1) ∧ mE (b0 + 48 + 88 * 0) 6 = nI (gt 1) := g2.dn (k := 0) (by decide)
    have E1 : mE (b0 + 48 + 88 * 1) 4 = nI (sn 3) ∧ mE (b0 + 48 + 88 * 1) 5 = nI (kn 3) ∧ mE (b0 + 48 + 88 * 1) 6 = nI (gt 3) := g2.dn (k := 1) (by decide)
    have eM : ∀ z, b0 + 277 ≤ z → (wy_send (wy_send mE (wl b0 1) (rl 1) (wl b0 4 + 4 + 2 * (gt 4 % rl 4)) (sn 1) (nI (gt 0))) (wl b0 3) (rl 3) (wl b0 4 + 4 + 2 * (gt 4 % rl 4)) (sn 3) (nI (gt 2))) z = mu z := fun z hz => by
      have q1 := C3.2 z (by right; show b0 + 12 + 88 * 1 + 36 * 1 + 4 + 2 * 24 ≤ z; omega)
      have q2 := C2.2 z (by right; show b0 + 12 + 88 * 0 + 36 * 1 + 4 + 2 * 24 ≤ z; omega)
      exact q1.trans (q2.trans (g6 z (by omega)))
    have Mc := M.cong (mu' := (wy_send (wy_send mE (wl b0 1) (rl 1) (wl b0 4 + 4 + 2 * (gt 4 % rl 4)) (sn 1) (nI (gt 0))) (wl b0 3) (rl 3) (wl b0 4 + 4 + 2 * (gt 4 % rl 4)) (sn 3) (nI (gt 2)))) (fun a a1 a2 => eM (m0 + a) (by omega))
    have N := mo_get l D E La hm Mc I.wn I.2.1 (by omega) (fun s h => I.len h) (L := 4) (Bk := 5) (j := 0) (by decide) rfl (by decide) hg hkb.symm p1 hv.symm (fun e => (p2 e).1) p3 p4
    generalize hG : md_get (la_up (wy_send (wy_send mE (wl b0 1) (rl 1) (wl b0 4 + 4 + 2 * (gt 4 % rl 4)) (sn 1) (nI (gt 0))) (wl b0 3) (rl 3) (wl b0 4 + 4 + 2 * (gt 4 % rl 4)) (sn 3) (nI (gt 2))) m0 0 0) m0 4 (sn 4 - gt 4) (sn 5 - kn 5) (kb - kn 5) 0 v.1 v.2.1 (nn 0) (if v.1 = 0 then lt 4 (gt 4) else 0) (gt 4) = mG at N
    obtain ⟨n1, n2, n3, n4, n5, n6⟩ := N
    have Wg := I.wn.get (L := 4) (Bk := 5) (kb := kb) hg (by omega) p1
    have N2 := n2.send Wg (L2 := 1) (c := lt 4 (gt 4)) (v := v) (by decide) n3 n4
    have Wg2 := Wg.send (L := 1) (by show sn 1 + 1 - gt 1 < 40; omega) (by show sn 1 + 1 - kn 1 < 40; omega)
    have ez : (md_send mG m0 1 (sn 1 - gt 1) (sn 1 - kn 1) (sn 1)) m0 = mG m0 := md_send_z (Or.inl rfl)
    have N3 := N2.send Wg2 (L2 := 3) (c := lt 4 (gt 4)) (v := v) (by decide) ⟨(congrFun ez 16).trans n3.1, (congrFun ez 17).trans n3.2.1, (congrFun ez 19).trans n3.2.2⟩ ((congrFun ez 18).trans n4)
    have ez2 : (md_send (md_send mG m0 1 (sn 1 - gt 1) (sn 1 - kn 1) (sn 1)) m0 3 (sn 3 - gt 3) (sn 3 - kn 3) (sn 3)) m0 = mG m0 := (md_send_z (Or.inl rfl)).trans ez
    have Q1 : RMl mG m0 1 (sn 1) (gt 1) (kn 1) (ms 1) (hs 1) (lt 1) (op 1) := n2.1 1 (by decide)
    have Q3 : RMl mG m0 3 (sn 3) (gt 3) (kn 3) (ms 3) (hs 3) (lt 3) (op 3) := n2.1 3 (by decide)
    have R4 := Mc.1 4 (by decide)
    have R1 := Mc.1 1 (by decide)
    have R3 := Mc.1 3 (by decide)
    refine ⟨0, _, _, _, _, w_push_r l D E La he hna (c_Er_push_2 l D E La he mu (mu1 := mE) (g := gt 4) U.1 U.2.2 hg (by omega) g1 g5 D0.1 D0.2.1 (Nat.le_trans W1.2.1 W1.1) (by omega) (by omega) E0.1 U0.2.2 D1.1 D1.2.1 (Nat.le_trans W3.2.1 W3.1) (by omega) (by omega) E1.1 U1.2.2), c_Mo_push_0_2 l D E La hm _ R4.2.2.1 hw0 hw4 R1.2.2.2.1 R1.2.2.1 (by omega) (by omega) R3.2.2.2.1 R3.2.2.1 (by omega) (by omega) n1 Q1.2.2.2.1 Q1.2.2.1 Q1.1 Q3.2.2.2.1 Q3.2.2.1 Q3.1, (congrFun ez2 0).trans n5, fun _ => congrArg Int32.toInt64 (g3.1.trans n3.1.symm), ⟨_, _, _, _, _, _, _, _, _, I1, C3.1.congl (fun z h1 h2 => ?_), N3⟩⟩
    have z1 : (md_send (md_send mG m0 1 (sn 1 - gt 1) (sn 1 - kn 1) (sn 1)) m0 3 (sn 3 - gt 3) (sn 3 - kn 3) (sn 3)) z = mG z := by rw [md_send_1 (by omega) (by omega) (by omega) (by omega) (by omega) (by omega) (by omega) (by omega) (by omega) (by omega) (by omega) (by omega), md_send_1 (by omega) (by omega) (by omega) (by omega) (by omega) (by omega) (by omega) (by omega) (by omega) (by omega) (by omega) (by omega)]
    exact z1.trans (n6 z (by omega))
  · have e : gt 4 = sn 4 := by omega
    exact ⟨2, 0, v0, mu, _, w_push_2 l D E La he hna (t_Er_push_2 l hlt D E La he mu (k := 2) (by decide) U.1 (by rw [U.2.2, show gt (2 * 2) = sn (2 * 2) from e])), c_Mo_push_2 l D E La hm mu (k := 2) (by decide) (by show mu (m0 + 5) 4 = 0; rw [M4.2.2.1, e, Nat.sub_self]; rfl), la_up_s, fun h9 => absurd h9 (by decide), J.thr hbm _⟩
theorem op_push (l : Launch) (hlt : l.stackTraces = false) (D : va_G) (E : Nat → ClassId) (La : la_L) {b0 m0 o0 T : Nat} {mu : la_M} (he : isEr E La b0) (hm : isMo E La m0) (hna : ¬ la_A La o0) (hbm : b0 + 277 ≤ m0) (J : IJ T b0 m0 mu) (hT : T < 512) (v0 : Int64) (cl0 : Int32) : ∃ (k9 r : Int32) (v1 : Int64) (mu1 mu2 : la_M), cl l y_Lw_push b_Lw_push 4 [(0, 9, 12, 13), (0, 9, 15, 31), (0, 9, 18, 17)] 8 139 D E La o0 [.ref b0, .int cl0, .ref o0] mu v0 k9 mu1 v1 ∧ cw l y_Mo_push b_Mo_push 4 (some .int) 2 53 D E La [.ref m0, .int cl0] mu1 (some (.int r)) mu2 ∧ mu2 m0 0 = k9 ∧ (k9 = 0 → v1 = r.toInt64) ∧ IJ (T + 1) b0 m0 mu2 := by
  rcases cl_case cl0 with hc | ⟨k, hk, rfl⟩
  · skip
    exact ⟨1, 0, v0, mu, _, w_push_1 l D E La he hna (t_Er_push_1 l hlt D E La he mu hc), c_Mo_push_1 l D E La hm mu hc, la_up_s, fun h9 => absurd h9 (by decide), J.thr hbm _⟩
  · rcases (show k = 0 ∨ k = 1 ∨ k = 2 by omega) with rfl | rfl | rfl
    · exact op_push_0 l hlt D E La he hm hna hbm J hT v0
    · exact op_push_1 l hlt D E La he hm hna hbm J hT v0
    · exact op_push_2 l hlt D E La he hm hna hbm J hT v0
