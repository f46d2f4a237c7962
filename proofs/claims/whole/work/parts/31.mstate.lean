/-! PURE: the whole state in the reference's memory; what holds of it is kept -/
theorem RMl.fr {mu mu' : la_M} {m0 L s g k : Nat} {ms op : Nat → ot_T} {hs lt : Nat → Nat} (h : RMl mu m0 L s g k ms hs lt op) (e : ∀ a, 3 ≤ a → a ≤ 15 → mu' (m0 + a) = mu (m0 + a)) : RMl mu' m0 L s g k ms hs lt op := by
  unfold RMl mR oR at *
  rw [e 3 (by omega) (by omega), e 4 (by omega) (by omega), e 5 (by omega) (by omega), e 11 (by omega) (by omega), e 6 (by omega) (by omega), e 7 (by omega) (by omega), e 8 (by omega) (by omega), e 9 (by omega) (by omega), e 10 (by omega) (by omega), e 12 (by omega) (by omega), e 13 (by omega) (by omega), e 15 (by omega) (by omega)]
  exact h
theorem md_ft1_m {mu : la_M} {m0 K j : Nat} (h1 : j ≠ 16) (h2 : j ≠ 17) : md_ft1 mu m0 K m0 j = mu m0 j := by
  unfold md_ft1
  rw [la_up_n (by omega), la_up_n (by omega), la_up_k h2, la_up_k h1]
theorem md_fts_m {mu : la_M} {m0 b j : Nat} (h1 : j ≠ 16) (h2 : j ≠ 17) : ∀ t, md_fts mu m0 b t m0 j = mu m0 j := by
  intro t
  induction t with
  | zero => rfl
  | succ t ih =>
    show md_ft1 _ _ _ m0 j = _
    rw [md_ft1_m h1 h2]
    exact ih
theorem md_g4_0 {mu : la_M} {m0 L w o d : Nat} : md_g4 mu m0 L w o d m0 0 = mu m0 0 := by
  unfold md_g4
  rw [md_fts_m (by decide) (by decide)]
  unfold md_g3
  rw [md_fgs_n (by omega) (by omega) (by omega) (by omega) (by omega)]
  unfold md_g2 md_gA
  rw [md_sh5_n (by omega) (by omega) (by omega) (by omega) (by omega), la_up_n (by omega), la_up_k (by decide), la_up_k (by decide), la_up_k (by decide), la_up_k (by decide)]
theorem md_g4_t {mu : la_M} {m0 L w o d z : Nat} (hz : z = m0 + 1 ∨ z = m0 + 2) : md_g4 mu m0 L w o d z = mu z := by
  unfold md_g4
  rw [md_fts_n (by omega) (by omega) (by omega)]
  unfold md_g3
  rw [md_fgs_n (by omega) (by omega) (by omega) (by omega) (by omega), md_g2_n (by omega) (by omega) (by omega) (by omega) (by omega) (by omega) (by omega)]
theorem md_g4_o {mu : la_M} {m0 L w o d z : Nat} (hz : z < m0 ∨ m0 + 16 ≤ z) : md_g4 mu m0 L w o d z = mu z := by
  unfold md_g4
  rw [md_fts_n (by omega) (by omega) (by omega)]
  unfold md_g3
  rw [md_fgs_n (by omega) (by omega) (by omega) (by omega) (by omega), md_g2_n (by omega) (by omega) (by omega) (by omega) (by omega) (by omega) (by omega)]
/-- what the windows are -/
def Wn (sn gt kn : Nat → Nat) : Prop := ∀ l, l < 6 → gt l ≤ sn l ∧ kn l ≤ sn l ∧ sn l - gt l < 40 ∧ sn l - kn l < 40
section MS
variable {T b m0 : Nat} {mu : la_M} {sn gt kn : Nat → Nat} {ms : Nat → Nat → ot_T} {hs lt : Nat → Nat → Nat} {op : Nat → Nat → ot_T} {nn : Nat → Nat} {tx : Nat → Nat → Nat}
theorem IV.wn (I : IV T sn gt kn ms hs lt op nn tx) : Wn sn gt kn := fun l hl => by
  have h := I.win hl
  have := rl_24 l
  omega
theorem RM.cong {mu' : la_M} (h : RM m0 mu sn gt kn ms hs lt op nn tx) (e : ∀ a, 1 ≤ a → a ≤ 15 → mu' (m0 + a) = mu (m0 + a)) : RM m0 mu' sn gt kn ms hs lt op nn tx :=
  ⟨fun l hl => (h.1 l hl).fr (fun a h1 h2 => e a (by omega) h2), fun s hs4 => (h.2.1 s hs4).cong (e 1 (by omega) (by omega)) (e 2 (by omega) (by omega)), by rw [e 2 (by omega) (by omega)]; exact h.2.2⟩
theorem RM.send (h : RM m0 mu sn gt kn ms hs lt op nn tx) (W : Wn sn gt kn) {L2 c : Nat} {v : ot_T} (hL : L2 < 6) (hv : gR mu m0 v) (hl : mu m0 18 = nI (if v.1 = 0 then c else 0)) :
    RM m0 (md_send mu m0 L2 (sn L2 - gt L2) (sn L2 - kn L2) (sn L2)) (ot_up sn L2 (sn L2 + 1)) gt kn (ot_up ms L2 (ot_up (ms L2) (sn L2) v)) (ot_up hs L2 (ot_up (hs L2) (sn L2) (gt (bk L2)))) (ot_up lt L2 (ot_up (lt L2) (sn L2) c)) (ot_up op L2 (ot_up (op L2) (sn L2) v)) nn tx := by
  have hW := W L2 hL
  refine ⟨fun l hl6 => ?_, fun s hs4 => (h.2.1 s hs4).cong (md_send_z (by omega)) (md_send_z (by omega)), by rw [md_send_z (by omega)]; exact h.2.2⟩
  by_cases hlk : l = L2
  · subst hlk
    rw [ot_up_s, ot_up_s, ot_up_s, ot_up_s, ot_up_s]
    exact (h.1 l hl6).send hW.1 hW.2.1 hv hl (h.1 (bk l) (bk_lt hl6)).2.1
  · rw [ot_up_n hlk, ot_up_n hlk, ot_up_n hlk, ot_up_n hlk, ot_up_n hlk]
    have hW2 := W l hl6
    exact (h.1 l hl6).send_n (by omega) (by omega) hlk hW.2.2.1 hW.2.2.2
/-- a client makes a change, in the reference's memory -/
theorem RM.make (h : RM m0 mu sn gt kn ms hs lt op nn tx) (W : Wn sn gt kn) {k kd q n c : Nat} (hk : k < 3) (hn : nn (k + 1) = n) (h64 : ∀ s, s < 4 → nn s ≤ 64) (h0 : kd = 0 → q ≤ n) (h1 : kd = 1 → q < n) (hc : c < 65536) :
    RM m0 (md_bgn (la_up mu m0 0 0) m0 k kd q n (if kd = 0 then c else 0) (sn (2 * k) - gt (2 * k)) (sn (2 * k) - kn (2 * k)) (sn (2 * k))) (ot_up sn (2 * k) (sn (2 * k) + 1)) gt kn (ot_up ms (2 * k) (ot_up (ms (2 * k)) (sn (2 * k)) (kd, q, k + 1))) (ot_up hs (2 * k) (ot_up (hs (2 * k)) (sn (2 * k)) (gt (2 * k + 1)))) (ot_up lt (2 * k) (ot_up (lt (2 * k)) (sn (2 * k)) c)) (ot_up op (2 * k) (ot_up (op (2 * k)) (sn (2 * k)) (kd, q, k + 1))) (ot_up nn (k + 1) (tn kd n)) (ot_up tx (k + 1) (td kd q c (tx (k + 1)))) ∧
    md_bgn (la_up mu m0 0 0) m0 k kd q n (if kd = 0 then c else 0) (sn (2 * k) - gt (2 * k)) (sn (2 * k) - kn (2 * k)) (sn (2 * k)) m0 0 = 0 ∧ (∀ z, z < m0 ∨ m0 + 16 ≤ z → md_bgn (la_up mu m0 0 0) m0 k kd q n (if kd = 0 then c else 0) (sn (2 * k) - gt (2 * k)) (sn (2 * k) - kn (2 * k)) (sn (2 * k)) z = mu z) := by
  generalize hcx : (if kd = 0 then c else 0) = cx
  have hcx2 : cx < 65536 := by rw [← hcx]; split <;> omega
  have e1 : ∀ z, z ≠ m0 → md_beg (la_up mu m0 0 0) m0 kd q (nI cx) (k + 1) z = mu z := fun z hz => by rw [md_beg_n hz, la_up_n hz]
  have hT := TM_app (mu := md_beg (la_up mu m0 0 0) m0 kd q (nI cx) (k + 1)) (m0 := m0) (j := k + 1) (n := n) (kd := kd) (q := q) (c := cx) (nn := nn) (tx := tx) (fun s hs4 => (h.2.1 s hs4).cong (e1 _ (by omega)) (e1 _ (by omega))) (by rw [e1 _ (by omega)]; exact h.2.2) h64 (by omega) hn h0 h1 (chz_n hcx2)
  have htd : td kd q cx (tx (k + 1)) = td kd q c (tx (k + 1)) := by
    by_cases k0 : kd = 0
    · rw [← hcx, if_pos k0]
    · unfold td
      rw [if_neg k0, if_neg k0]
  rw [htd] at hT
  have e2 : ∀ z, z ≠ m0 + 1 → z ≠ m0 + 2 → md_app (md_beg (la_up mu m0 0 0) m0 kd q (nI cx) (k + 1)) m0 (k + 1) kd q n cx z = md_beg (la_up mu m0 0 0) m0 kd q (nI cx) (k + 1) z := fun z z1 z2 => md_app_n z1 z2
  have H2 : RM m0 (md_app (md_beg (la_up mu m0 0 0) m0 kd q (nI cx) (k + 1)) m0 (k + 1) kd q n cx) sn gt kn ms hs lt op (ot_up nn (k + 1) (tn kd n)) (ot_up tx (k + 1) (td kd q c (tx (k + 1)))) :=
    ⟨fun l hl => (h.1 l hl).fr (fun a a1 a2 => by rw [e2 _ (by omega) (by omega), e1 _ (by omega)]), hT.1, hT.2⟩
  have hm : md_app (md_beg (la_up mu m0 0 0) m0 kd q (nI cx) (k + 1)) m0 (k + 1) kd q n cx m0 = md_beg (la_up mu m0 0 0) m0 kd q (nI cx) (k + 1) m0 := e2 _ (by omega) (by omega)
  have hS := H2.send W (L2 := 2 * k) (c := c) (v := (kd, q, k + 1)) (by omega) (by
      unfold gR
      rw [hm]
      unfold md_beg
      exact ⟨by rw [la_up_k (by decide), la_up_k (by decide), la_up_k (by decide), la_up_s], by rw [la_up_k (by decide), la_up_k (by decide), la_up_s], la_up_s⟩) (by
      rw [hm, hcx]
      unfold md_beg
      rw [la_up_k (by decide), la_up_s])
  rw [show bk (2 * k) = 2 * k + 1 by unfold bk; rw [if_pos (by omega)]] at hS
  refine ⟨hS, ?_, fun z hz => ?_⟩
  · unfold md_bgn
    rw [md_send_z (by omega), hm]
    unfold md_beg
    rw [la_up_k (by decide), la_up_k (by decide), la_up_k (by decide), la_up_k (by decide), la_up_s]
  · unfold md_bgn
    rw [md_send_1 (by omega) (by omega) (by omega) (by omega) (by omega) (by omega) (by omega) (by omega) (by omega) (by omega) (by omega) (by omega), e2 z (by omega) (by omega), e1 z (by omega)]
/-- a message is got, in the reference's memory -/
theorem RM.get (h : RM m0 mu sn gt kn ms hs lt op nn tx) (W : Wn sn gt kn) {L Bk j kb B n : Nat} {v : ot_T} (hL : L < 6) (hBk : Bk = bk L) (hj : j < 4) (hn : nn j = n) (h64 : ∀ s, s < 4 → nn s ≤ 64) (hg : gt L < sn L) (hk2 : kn Bk ≤ kb) (hks : kb ≤ sn Bk) (hv : v = ot_rm (ms L (gt L)) (op Bk) kb (sn Bk - kb)) (om : okT B (ms L (gt L))) (oo : ∀ n, kn Bk ≤ n → n < sn Bk → okT B (op Bk n)) (hB : B + 40 < 2 ^ 29) (hlt : lt L (gt L) < 65536) (h0 : v.1 = 0 → v.2.1 ≤ n) (h1 : v.1 = 1 → v.2.1 < n) :
    RM m0 (md_get (la_up mu m0 0 0) m0 L (sn L - gt L) (sn Bk - kn Bk) (kb - kn Bk) j v.1 v.2.1 n (if v.1 = 0 then lt L (gt L) else 0) (gt L)) sn (ot_up gt L (gt L + 1)) (ot_up kn Bk kb) ms hs lt (ot_up op Bk (ot_ro (ms L (gt L)) (op Bk) kb (sn Bk))) (ot_up nn j (tn v.1 n)) (ot_up tx j (td v.1 v.2.1 (lt L (gt L)) (tx j))) ∧
    gR (md_g4 (la_up mu m0 0 0) m0 L (sn L - gt L) (sn Bk - kn Bk) (kb - kn Bk)) m0 v ∧ md_g4 (la_up mu m0 0 0) m0 L (sn L - gt L) (sn Bk - kn Bk) (kb - kn Bk) m0 18 = nI (if v.1 = 0 then lt L (gt L) else 0) ∧
    (∀ z, z = m0 ∨ z < m0 ∨ m0 + 16 ≤ z → md_get (la_up mu m0 0 0) m0 L (sn L - gt L) (sn Bk - kn Bk) (kb - kn Bk) j v.1 v.2.1 n (if v.1 = 0 then lt L (gt L) else 0) (gt L) z = md_g4 (la_up mu m0 0 0) m0 L (sn L - gt L) (sn Bk - kn Bk) (kb - kn Bk) z) := by
  have hbk := bk_c L
  have hBk6 : Bk < 6 := by rw [hBk]; exact bk_lt hL
  have W1 := W L hL
  have W2 := W Bk hBk6
  have kz : v.1 = 0 ↔ (ms L (gt L)).1 = 0 := by rw [hv]; exact ot_rm_kind _
  have hU : ∀ l, l < 6 → RMl (la_up mu m0 0 0) m0 l (sn l) (gt l) (kn l) (ms l) (hs l) (lt l) (op l) := fun l hl => (h.1 l hl).fr (fun a a1 a2 => la_up_n (by omega))
  obtain ⟨g1, g2, g3, g4, g5⟩ := md_g4_R (mu := la_up mu m0 0 0) (kb := kb) (B := B) hBk (by omega) (hU L hL) (hU Bk hBk6) hg hk2 hks W1.2.2.1 W2.2.2.2 W2.2.2.1 W1.2.2.2 om oo hB
  rw [← hv] at g1
  have hcx : (if (ms L (gt L)).1 = 0 then lt L (gt L) else 0) = if v.1 = 0 then lt L (gt L) else 0 := by
    by_cases c0 : v.1 = 0
    · rw [if_pos c0, if_pos (kz.mp c0)]
    · rw [if_neg c0, if_neg (fun hh => c0 (kz.mpr hh))]
  rw [hcx] at g2
  generalize hcc : (if v.1 = 0 then lt L (gt L) else 0) = cx at g2 ⊢
  have hcx2 : cx < 65536 := by rw [← hcc]; split <;> omega
  generalize hG : md_g4 (la_up mu m0 0 0) m0 L (sn L - gt L) (sn Bk - kn Bk) (kb - kn Bk) = G at g1 g2 g3 g4 g5 ⊢
  have eT : ∀ z, z = m0 + 1 ∨ z = m0 + 2 → G z = mu z := fun z hz => by rw [← hG, md_g4_t hz, la_up_n (by omega)]
  have hT := TM_app (mu := G) (m0 := m0) (j := j) (n := n) (kd := v.1) (q := v.2.1) (c := cx) (nn := nn) (tx := tx) (fun s hs4 => (h.2.1 s hs4).cong (eT _ (Or.inl rfl)) (eT _ (Or.inr rfl))) (by rw [eT _ (Or.inr rfl)]; exact h.2.2) h64 hj hn h0 h1 (chz_n hcx2)
  have htd : td v.1 v.2.1 cx (tx j) = td v.1 v.2.1 (lt L (gt L)) (tx j) := by
    by_cases k0 : v.1 = 0
    · rw [← hcc, if_pos k0]
    · unfold td
      rw [if_neg k0, if_neg k0]
  rw [htd] at hT
  have eA : ∀ z, z ≠ m0 + 1 → z ≠ m0 + 2 → md_app G m0 j v.1 v.2.1 n cx z = G z := fun z z1 z2 => md_app_n z1 z2
  have eL : ∀ a, 3 ≤ a → a ≤ 15 → la_up (md_app G m0 j v.1 v.2.1 n cx) (m0 + 4) L (nI (gt L + 1)) (m0 + a) = la_up G (m0 + 4) L (nI (gt L + 1)) (m0 + a) := fun a a1 a2 => by
    by_cases h4 : a = 4
    · subst h4
      rw [la_up_at, la_up_at, eA _ (by omega) (by omega)]
    · rw [la_up_n (by omega), la_up_n (by omega), eA _ (by omega) (by omega)]
  have eM : md_get (la_up mu m0 0 0) m0 L (sn L - gt L) (sn Bk - kn Bk) (kb - kn Bk) j v.1 v.2.1 n cx (gt L) = la_up (md_app G m0 j v.1 v.2.1 n cx) (m0 + 4) L (nI (gt L + 1)) := by
    unfold md_get
    rw [hG]
  rw [eM]
  refine ⟨⟨fun l hl => ?_, fun s hs4 => (hT.1 s hs4).cong (la_up_n (by omega)) (la_up_n (by omega)), by rw [la_up_n (by omega)]; exact hT.2⟩, g1, g2, fun z hz => ?_⟩
  · refine RMl.fr (mu := la_up G (m0 + 4) L (nI (gt L + 1))) ?_ eL
    by_cases hlL : l = L
    · subst hlL
      rw [ot_up_s, ot_up_n (show l ≠ Bk by omega), ot_up_n (show l ≠ Bk by omega)]
      exact g3
    · rw [ot_up_n hlL]
      by_cases hlB : l = Bk
      · subst hlB
        rw [ot_up_s, ot_up_s]
        exact g4
      · rw [ot_up_n hlB, ot_up_n hlB]
        have W3 := W l hl
        exact g5 l _ _ _ _ _ _ _ hlL hlB (by omega) (by omega) (hU l hl)
  · rw [la_up_n (by omega), eA z (by omega) (by omega)]
/-! what holds is kept -/
theorem bd_le {T T' : Nat} (h : T ≤ T') : bd T ≤ bd T' := by unfold bd; omega
theorem IVo.mono {T' : Nat} (h : IVo T sn gt kn ms lt op) (hT : T ≤ T') : IVo T' sn gt kn ms lt op := fun l hl => ⟨by have := (h l hl).1; omega, fun n a b => ⟨((h l hl).2.1 n a b).1.le (bd_le hT), ((h l hl).2.1 n a b).2⟩, fun n a b => ((h l hl).2.2 n a b).le (bd_le hT)⟩
theorem IVo.send (h : IVo T sn gt kn ms lt op) {L c : Nat} {v : ot_T} (hL : sn L + 1 ≤ T) (hv : okT (bd T) v) (hc : c < 65536) : IVo T (ot_up sn L (sn L + 1)) gt kn (ot_up ms L (ot_up (ms L) (sn L) v)) (ot_up lt L (ot_up (lt L) (sn L) c)) (ot_up op L (ot_up (op L) (sn L) v)) := by
  intro l hl
  by_cases hlL : l = L
  · subst hlL
    rw [ot_up_s, ot_up_s, ot_up_s, ot_up_s]
    refine ⟨hL, fun n a b => ?_, fun n a b => ?_⟩
    · by_cases hn : n = sn l
      · subst hn
        rw [ot_up_s, ot_up_s]
        exact ⟨hv, hc⟩
      · rw [ot_up_n hn, ot_up_n hn]
        exact (h l hl).2.1 n a (by omega)
    · by_cases hn : n = sn l
      · subst hn
        rw [ot_up_s]
        exact hv
      · rw [ot_up_n hn]
        exact (h l hl).2.2 n a (by omega)
  · rw [ot_up_n hlL, ot_up_n hlL, ot_up_n hlL, ot_up_n hlL]
    exact h l hl
theorem ot_ro_ok {B : Nat} {m : ot_T} {o : Nat → ot_T} {k s : Nat} (hm : okT B m) (ho : ∀ n, k ≤ n → n < s → okT B (o n)) (hw : s ≤ k + 24) : ∀ n, k ≤ n → n < s → okT (B + 24) (ot_ro m o k s n) := by
  intro n h1 h2
  unfold ot_ro
  rw [if_pos ⟨h1, h2⟩]
  have ha := (ho n h1 h2).le (show B ≤ B + (n - k) by omega)
  have hb := ot_rm_ok (k := k) hm (n - k) (fun j hj => ho (k + j) (by omega) (by omega))
  exact (ha.fit hb).le (by omega)
theorem IVo.get (h : IVo T sn gt kn ms lt op) {L Bk kb : Nat} (hB6 : Bk < 6) (hL6 : L < 6) (hg : gt L < sn L) (hk : kn Bk ≤ kb) (hw : sn Bk ≤ kb + 24) : IVo (T + 1) sn (ot_up gt L (gt L + 1)) (ot_up kn Bk kb) ms lt (ot_up op Bk (ot_ro (ms L (gt L)) (op Bk) kb (sn Bk))) := by
  intro l hl
  have h1 := (h.mono (show T ≤ T + 1 by omega)) l hl
  refine ⟨h1.1, fun n a b => ?_, fun n a b => ?_⟩
  · by_cases hlL : l = L
    · subst hlL
      rw [ot_up_s] at a
      exact h1.2.1 n (by omega) b
    · rw [ot_up_n hlL] at a
      exact h1.2.1 n a b
  · by_cases hlB : l = Bk
    · subst hlB
      rw [ot_up_s] at a ⊢
      have h9 := ot_ro_ok (k := kb) ((h L hL6).2.1 (gt L) (Nat.le_refl _) hg).1 (fun n a b => (h l hl).2.2 n (by omega) b) hw n a b
      exact h9.le (by unfold bd; omega)
    · rw [ot_up_n hlB] at a ⊢
      exact h1.2.2 n a b
end MS
