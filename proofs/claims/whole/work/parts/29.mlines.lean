/-! PURE: one line in the reference's memory: rows 40 * L + i from got, known on -/
def mR (mu : la_M) (m0 K : Nat) (v : ot_T) (h c : Nat) : Prop := mu (m0 + 6) K = nI v.1 ∧ mu (m0 + 7) K = nI v.2.1 ∧ mu (m0 + 9) K = nI v.2.2 ∧ mu (m0 + 10) K = nI h ∧ mu (m0 + 8) K = nI (if v.1 = 0 then c else 0)
def RMl (mu : la_M) (m0 L s g k : Nat) (ms : Nat → ot_T) (hs lt : Nat → Nat) (op : Nat → ot_T) : Prop :=
  mu (m0 + 3) L = nI s ∧ mu (m0 + 4) L = nI g ∧ mu (m0 + 5) L = nI (s - g) ∧ mu (m0 + 11) L = nI (s - k) ∧
  (∀ i, i < s - g → mR mu m0 (40 * L + i) (ms (g + i)) (hs (g + i)) (lt (g + i))) ∧ (∀ i, i < s - k → oR mu m0 (40 * L + i) (op (k + i)))
theorem RMl.cong {mu mu' : la_M} {m0 L s g k : Nat} {ms op : Nat → ot_T} {hs lt : Nat → Nat} (h : RMl mu m0 L s g k ms hs lt op) (h1 : s - g ≤ 40) (h2 : s - k ≤ 40) (e3 : mu' (m0 + 3) L = mu (m0 + 3) L) (e4 : mu' (m0 + 4) L = mu (m0 + 4) L) (e5 : mu' (m0 + 5) L = mu (m0 + 5) L) (e11 : mu' (m0 + 11) L = mu (m0 + 11) L)
    (er : ∀ K, 40 * L ≤ K → K < 40 * L + 40 → mu' (m0 + 6) K = mu (m0 + 6) K ∧ mu' (m0 + 7) K = mu (m0 + 7) K ∧ mu' (m0 + 8) K = mu (m0 + 8) K ∧ mu' (m0 + 9) K = mu (m0 + 9) K ∧ mu' (m0 + 10) K = mu (m0 + 10) K ∧ mu' (m0 + 12) K = mu (m0 + 12) K ∧ mu' (m0 + 13) K = mu (m0 + 13) K ∧ mu' (m0 + 15) K = mu (m0 + 15) K) : RMl mu' m0 L s g k ms hs lt op := by
  obtain ⟨a1, a2, a3, a4, a5, a6⟩ := h
  refine ⟨e3.trans a1, e4.trans a2, e5.trans a3, e11.trans a4, fun i hi => ?_, fun i hi => ?_⟩
  · obtain ⟨b6, b7, b8, b9, b10, -⟩ := er (40 * L + i) (by omega) (by omega)
    obtain ⟨c1, c2, c3, c4, c5⟩ := a5 i hi
    exact ⟨b6.trans c1, b7.trans c2, b9.trans c3, b10.trans c4, b8.trans c5⟩
  · obtain ⟨-, -, -, -, -, b12, b13, b15⟩ := er (40 * L + i) (by omega) (by omega)
    obtain ⟨c1, c2, c3⟩ := a6 i hi
    exact ⟨b12.trans c1, b13.trans c2, b15.trans c3⟩
theorem md_send_a {mu : la_M} {m0 L w o t a K : Nat} {f : Nat} (hf : (a = 6 ∧ f = 16) ∨ (a = 7 ∧ f = 17) ∨ (a = 8 ∧ f = 18) ∨ (a = 9 ∧ f = 19)) : md_send mu m0 L w o t (m0 + a) K = if K = 40 * L + w then mu m0 f else mu (m0 + a) K := by
  unfold md_send
  rcases hf with ⟨rfl, rfl⟩ | ⟨rfl, rfl⟩ | ⟨rfl, rfl⟩ | ⟨rfl, rfl⟩
  · rw [la_up_n (by omega), la_up_n (by omega), la_up_n (by omega), la_up_n (by omega), la_up_n (by omega), la_up_n (by omega), la_up_n (by omega), la_up_n (by omega), la_up_n (by omega), la_up_n (by omega), la_up_n (by omega), la_up_at]
    rfl
  · rw [la_up_n (by omega), la_up_n (by omega), la_up_n (by omega), la_up_n (by omega), la_up_n (by omega), la_up_n (by omega), la_up_n (by omega), la_up_n (by omega), la_up_n (by omega), la_up_n (by omega), la_up_at, la_up_n (by omega)]
    rfl
  · rw [la_up_n (by omega), la_up_n (by omega), la_up_n (by omega), la_up_n (by omega), la_up_n (by omega), la_up_n (by omega), la_up_n (by omega), la_up_n (by omega), la_up_n (by omega), la_up_at, la_up_n (by omega), la_up_n (by omega)]
    rfl
  · rw [la_up_n (by omega), la_up_n (by omega), la_up_n (by omega), la_up_n (by omega), la_up_n (by omega), la_up_n (by omega), la_up_n (by omega), la_up_n (by omega), la_up_at, la_up_n (by omega), la_up_n (by omega), la_up_n (by omega)]
    rfl
theorem md_send_10 {mu : la_M} {m0 L w o t K : Nat} : md_send mu m0 L w o t (m0 + 10) K = if K = 40 * L + w then mu (m0 + 4) (bk L) else mu (m0 + 10) K := by
  unfold md_send
  rw [la_up_n (by omega), la_up_n (by omega), la_up_n (by omega), la_up_n (by omega), la_up_n (by omega), la_up_n (by omega), la_up_n (by omega), la_up_at, la_up_n (by omega), la_up_n (by omega), la_up_n (by omega), la_up_n (by omega)]
  rfl
theorem md_send_o {mu : la_M} {m0 L w o t a K : Nat} {f : Nat} (hf : (a = 12 ∧ f = 16) ∨ (a = 13 ∧ f = 17) ∨ (a = 15 ∧ f = 19)) : md_send mu m0 L w o t (m0 + a) K = if K = 40 * L + o then mu m0 f else mu (m0 + a) K := by
  unfold md_send
  rcases hf with ⟨rfl, rfl⟩ | ⟨rfl, rfl⟩ | ⟨rfl, rfl⟩
  · rw [la_up_n (by omega), la_up_n (by omega), la_up_n (by omega), la_up_n (by omega), la_up_n (by omega), la_up_at, la_up_n (by omega), la_up_n (by omega), la_up_n (by omega), la_up_n (by omega), la_up_n (by omega), la_up_n (by omega)]
    rfl
  · rw [la_up_n (by omega), la_up_n (by omega), la_up_n (by omega), la_up_n (by omega), la_up_at, la_up_n (by omega), la_up_n (by omega), la_up_n (by omega), la_up_n (by omega), la_up_n (by omega), la_up_n (by omega), la_up_n (by omega)]
    rfl
  · rw [la_up_n (by omega), la_up_n (by omega), la_up_at, la_up_n (by omega), la_up_n (by omega), la_up_n (by omega), la_up_n (by omega), la_up_n (by omega), la_up_n (by omega), la_up_n (by omega), la_up_n (by omega), la_up_n (by omega)]
    rfl
theorem md_send_6 {mu : la_M} {m0 L w o t a K : Nat} {x : Nat} (hf : (a = 3 ∧ x = t + 1) ∨ (a = 5 ∧ x = w + 1) ∨ (a = 11 ∧ x = o + 1)) : md_send mu m0 L w o t (m0 + a) K = if K = L then nI x else mu (m0 + a) K := by
  unfold md_send
  rcases hf with ⟨rfl, rfl⟩ | ⟨rfl, rfl⟩ | ⟨rfl, rfl⟩
  · rw [la_up_at, la_up_n (by omega), la_up_n (by omega), la_up_n (by omega), la_up_n (by omega), la_up_n (by omega), la_up_n (by omega), la_up_n (by omega), la_up_n (by omega), la_up_n (by omega), la_up_n (by omega), la_up_n (by omega)]
    rfl
  · rw [la_up_n (by omega), la_up_n (by omega), la_up_n (by omega), la_up_n (by omega), la_up_n (by omega), la_up_n (by omega), la_up_at, la_up_n (by omega), la_up_n (by omega), la_up_n (by omega), la_up_n (by omega), la_up_n (by omega)]
    rfl
  · rw [la_up_n (by omega), la_up_at, la_up_n (by omega), la_up_n (by omega), la_up_n (by omega), la_up_n (by omega), la_up_n (by omega), la_up_n (by omega), la_up_n (by omega), la_up_n (by omega), la_up_n (by omega), la_up_n (by omega)]
    rfl
theorem md_send_z {mu : la_M} {m0 L w o t z : Nat} (hz : z = m0 ∨ z = m0 + 1 ∨ z = m0 + 2 ∨ z = m0 + 4) : md_send mu m0 L w o t z = mu z := by
  rcases hz with rfl | rfl | rfl | rfl <;> exact md_send_1 (by omega) (by omega) (by omega) (by omega) (by omega) (by omega) (by omega) (by omega) (by omega) (by omega) (by omega) (by omega)
/-- a line's send -/
theorem RMl.send {mu : la_M} {m0 L s g k x c : Nat} {ms op : Nat → ot_T} {hs lt : Nat → Nat} {v : ot_T} (h : RMl mu m0 L s g k ms hs lt op) (hg : g ≤ s) (hk : k ≤ s) (hv : gR mu m0 v) (hl : mu m0 18 = nI (if v.1 = 0 then c else 0)) (hx : mu (m0 + 4) (bk L) = nI x) : RMl (md_send mu m0 L (s - g) (s - k) s) m0 L (s + 1) g k (ot_up ms s v) (ot_up hs s x) (ot_up lt s c) (ot_up op s v) := by
  obtain ⟨a1, a2, a3, a4, a5, a6⟩ := h
  refine ⟨?_, ?_, ?_, ?_, fun i hi => ?_, fun i hi => ?_⟩
  · rw [md_send_6 (Or.inl ⟨rfl, rfl⟩), if_pos rfl]
  · rw [md_send_z (by omega)]
    exact a2
  · rw [md_send_6 (Or.inr (Or.inl ⟨rfl, rfl⟩)), if_pos rfl, show s - g + 1 = s + 1 - g by omega]
  · rw [md_send_6 (Or.inr (Or.inr ⟨rfl, rfl⟩)), if_pos rfl, show s - k + 1 = s + 1 - k by omega]
  · unfold mR
    rw [md_send_a (Or.inl ⟨rfl, rfl⟩), md_send_a (Or.inr (Or.inl ⟨rfl, rfl⟩)), md_send_a (Or.inr (Or.inr (Or.inl ⟨rfl, rfl⟩))), md_send_a (Or.inr (Or.inr (Or.inr ⟨rfl, rfl⟩))), md_send_10]
    by_cases hi2 : i = s - g
    · subst hi2
      rw [if_pos rfl, if_pos rfl, if_pos rfl, if_pos rfl, if_pos rfl, show g + (s - g) = s by omega, ot_up_s, ot_up_s, ot_up_s]
      exact ⟨hv.1, hv.2.1, hv.2.2, hx, hl⟩
    · rw [if_neg (by omega), if_neg (by omega), if_neg (by omega), if_neg (by omega), if_neg (by omega), ot_up_n (by omega), ot_up_n (by omega), ot_up_n (by omega)]
      exact a5 i (by omega)
  · unfold oR
    rw [md_send_o (Or.inl ⟨rfl, rfl⟩), md_send_o (Or.inr (Or.inl ⟨rfl, rfl⟩)), md_send_o (Or.inr (Or.inr ⟨rfl, rfl⟩))]
    by_cases hi2 : i = s - k
    · subst hi2
      rw [if_pos rfl, if_pos rfl, if_pos rfl, show k + (s - k) = s by omega, ot_up_s]
      exact hv
    · rw [if_neg (by omega), if_neg (by omega), if_neg (by omega), ot_up_n (by omega)]
      exact a6 i (by omega)
/-- .. the other lines don't see it -/
theorem RMl.send_n {mu : la_M} {m0 L L' w o t s g k : Nat} {ms op : Nat → ot_T} {hs lt : Nat → Nat} (h : RMl mu m0 L s g k ms hs lt op) (h1 : s - g ≤ 40) (h2 : s - k ≤ 40) (hL : L ≠ L') (hw : w < 40) (ho : o < 40) : RMl (md_send mu m0 L' w o t) m0 L s g k ms hs lt op := by
  refine h.cong h1 h2 ?_ ?_ ?_ ?_ (fun K k1 k2 => ⟨?_, ?_, ?_, ?_, ?_, ?_, ?_, ?_⟩)
  · rw [md_send_6 (Or.inl ⟨rfl, rfl⟩), if_neg hL]
  · rw [md_send_z (by omega)]
  · rw [md_send_6 (Or.inr (Or.inl ⟨rfl, rfl⟩)), if_neg hL]
  · rw [md_send_6 (Or.inr (Or.inr ⟨rfl, rfl⟩)), if_neg hL]
  · rw [md_send_a (Or.inl ⟨rfl, rfl⟩), if_neg (by omega)]
  · rw [md_send_a (Or.inr (Or.inl ⟨rfl, rfl⟩)), if_neg (by omega)]
  · rw [md_send_a (Or.inr (Or.inr (Or.inl ⟨rfl, rfl⟩))), if_neg (by omega)]
  · rw [md_send_a (Or.inr (Or.inr (Or.inr ⟨rfl, rfl⟩))), if_neg (by omega)]
  · rw [md_send_10, if_neg (by omega)]
  · rw [md_send_o (Or.inl ⟨rfl, rfl⟩), if_neg (by omega)]
  · rw [md_send_o (Or.inr (Or.inl ⟨rfl, rfl⟩)), if_neg (by omega)]
  · rw [md_send_o (Or.inr (Or.inr ⟨rfl, rfl⟩)), if_neg (by omega)]
/-! get, piece by piece -/
theorem md_g2_n {mu : la_M} {m0 L w z : Nat} (h0 : z ≠ m0) (h5 : z ≠ m0 + 5) (h6 : z ≠ m0 + 6) (h7 : z ≠ m0 + 7) (h8 : z ≠ m0 + 8) (h9 : z ≠ m0 + 9) (h10 : z ≠ m0 + 10) : md_g2 mu m0 L w z = mu z := by
  unfold md_g2
  rw [md_sh5_n h6 h7 h8 h9 h10, md_gA_n h0 h5]
theorem md_g2_row {mu : la_M} {m0 L w a K : Nat} (ha : a = m0 + 6 ∨ a = m0 + 7 ∨ a = m0 + 8 ∨ a = m0 + 9 ∨ a = m0 + 10) : md_g2 mu m0 L w a K = va_cpy (mu a) (mu a) (40 * L + 1) (40 * L) (w - 1) K := by
  unfold md_g2
  have hz : md_gA mu m0 L w a = mu a := md_gA_n (by omega) (by omega)
  rcases ha with rfl | rfl | rfl | rfl | rfl
  · rw [md_sh5_6, hz]
  · rw [md_sh5_7, hz]
  · rw [md_sh5_8, hz]
  · rw [md_sh5_9, hz]
  · rw [md_sh5_10, hz]
theorem md_g2_5 {mu : la_M} {m0 L w K : Nat} : md_g2 mu m0 L w (m0 + 5) K = if K = L then nI (w - 1) else mu (m0 + 5) K := by
  unfold md_g2 md_gA
  rw [md_sh5_n (by omega) (by omega) (by omega) (by omega) (by omega), la_up_at, la_up_n (by omega), la_up_n (by omega), la_up_n (by omega), la_up_n (by omega)]
  rfl
theorem md_g2_r {mu : la_M} {m0 L w : Nat} : md_g2 mu m0 L w m0 16 = mu (m0 + 6) (40 * L) ∧ md_g2 mu m0 L w m0 17 = mu (m0 + 7) (40 * L) ∧ md_g2 mu m0 L w m0 18 = mu (m0 + 8) (40 * L) ∧ md_g2 mu m0 L w m0 19 = mu (m0 + 9) (40 * L) := by
  unfold md_g2 md_gA
  rw [md_sh5_n (by omega) (by omega) (by omega) (by omega) (by omega), la_up_n (by omega)]
  exact ⟨by rw [la_up_k (by decide), la_up_k (by decide), la_up_k (by decide), la_up_s], by rw [la_up_k (by decide), la_up_k (by decide), la_up_s], by rw [la_up_k (by decide), la_up_s], la_up_s⟩
theorem md_fgs_11k {mu : la_M} {m0 b o K : Nat} (hK : K ≠ b) : ∀ t, md_fgs mu m0 b o t (m0 + 11) K = mu (m0 + 11) K := by
  intro t
  induction t with
  | zero => rfl
  | succ t ih =>
    show md_sh4 _ _ _ _ (m0 + 11) K = _
    rw [md_sh4_n (by omega) (by omega) (by omega) (by omega), la_up_k hK]
    exact ih
/-- what get has done before it applies -/
theorem md_g4_R {mu : la_M} {m0 L Bk s g s2 g2 k2 kb B : Nat} {k : Nat} {ms op ms2 op2 : Nat → ot_T} {hs lt hs2 lt2 : Nat → Nat} (hBk : Bk = bk L) (hne : Bk ≠ L) (h : RMl mu m0 L s g k ms hs lt op) (h2 : RMl mu m0 Bk s2 g2 k2 ms2 hs2 lt2 op2) (hg : g < s) (hk2 : k2 ≤ kb) (hkb : kb ≤ s2) (w1 : s - g < 40) (w2 : s2 - k2 < 40) (w3 : s2 - g2 < 40) (w4 : s - k < 40) (om : okT B (ms g)) (oo : ∀ n, k2 ≤ n → n < s2 → okT B (op2 n)) (hB : B + 40 < 2 ^ 29) :
    gR (md_g4 mu m0 L (s - g) (s2 - k2) (kb - k2)) m0 (ot_rm (ms g) op2 kb (s2 - kb)) ∧ md_g4 mu m0 L (s - g) (s2 - k2) (kb - k2) m0 18 = nI (if (ms g).1 = 0 then lt g else 0) ∧
    RMl (la_up (md_g4 mu m0 L (s - g) (s2 - k2) (kb - k2)) (m0 + 4) L (nI (g + 1))) m0 L s (g + 1) k ms hs lt op ∧
    RMl (la_up (md_g4 mu m0 L (s - g) (s2 - k2) (kb - k2)) (m0 + 4) L (nI (g + 1))) m0 Bk s2 g2 kb ms2 hs2 lt2 (ot_ro (ms g) op2 kb s2) ∧
    (∀ L' s' g' k' ms' hs' lt' op', L' ≠ L → L' ≠ Bk → s' - g' ≤ 40 → s' - k' ≤ 40 → RMl mu m0 L' s' g' k' ms' hs' lt' op' → RMl (la_up (md_g4 mu m0 L (s - g) (s2 - k2) (kb - k2)) (m0 + 4) L (nI (g + 1))) m0 L' s' g' k' ms' hs' lt' op') := by
  subst hBk
  obtain ⟨a1, a2, a3, a4, a5, a6⟩ := h
  obtain ⟨b1, b2, b3, b4, b5, b6⟩ := h2
  have hm := a5 0 (by omega)
  rw [Nat.add_zero, Nat.add_zero] at hm
  have hr := md_g2_r (mu := mu) (m0 := m0) (L := L) (w := s - g)
  have hfg : ∀ z, z ≠ m0 + 11 → z ≠ m0 + 12 → z ≠ m0 + 13 → z ≠ m0 + 14 → z ≠ m0 + 15 → md_g3 mu m0 L (s - g) (s2 - k2) (kb - k2) z = md_g2 mu m0 L (s - g) z := fun z h1 h2 h3 h4 h5 => md_fgs_n h1 h2 h3 h4 h5 _
  have g3r := hfg m0 (by omega) (by omega) (by omega) (by omega) (by omega)
  have hrow : ∀ a, (a = m0 + 12 ∨ a = m0 + 13 ∨ a = m0 + 14 ∨ a = m0 + 15) → (∀ i, i < s2 - kb → md_g3 mu m0 L (s - g) (s2 - k2) (kb - k2) a (40 * bk L + i) = mu a (40 * bk L + i + (kb - k2))) ∧ (∀ K, K < 40 * bk L ∨ 40 * bk L + 40 ≤ K → md_g3 mu m0 L (s - g) (s2 - k2) (kb - k2) a K = mu a K) := by
    intro a ha
    have h9 := md_fgs_R (mu := md_g2 mu m0 L (s - g)) (m0 := m0) (b := bk L) (o := s2 - k2) (kb - k2) (by omega) a ha
    have e2 : md_g2 mu m0 L (s - g) a = mu a := md_g2_n (by omega) (by omega) (by omega) (by omega) (by omega) (by omega) (by omega)
    refine ⟨fun i hi => ?_, fun K hK => ?_⟩
    · show md_fgs _ _ _ _ _ a _ = _
      rw [h9.1 i (by omega), e2]
    · show md_fgs _ _ _ _ _ a _ = _
      rw [h9.2 K (by omega), e2]
  have ho : ∀ j, j < s2 - kb → oR (md_g3 mu m0 L (s - g) (s2 - k2) (kb - k2)) m0 (40 * bk L + j) (op2 (kb + j)) := by
    intro j hj
    have h9 := b6 (j + (kb - k2)) (by omega)
    rw [show k2 + (j + (kb - k2)) = kb + j by omega, show 40 * bk L + (j + (kb - k2)) = 40 * bk L + j + (kb - k2) by omega] at h9
    exact ⟨((hrow _ (Or.inl rfl)).1 j hj).trans h9.1, ((hrow _ (Or.inr (Or.inl rfl))).1 j hj).trans h9.2.1, ((hrow _ (Or.inr (Or.inr (Or.inr rfl)))).1 j hj).trans h9.2.2⟩
  have hg0 : gR (md_g3 mu m0 L (s - g) (s2 - k2) (kb - k2)) m0 (ms g) := ⟨by rw [g3r, hr.1]; exact hm.1, by rw [g3r, hr.2.1]; exact hm.2.1, by rw [g3r, hr.2.2.2]; exact hm.2.2.1⟩
  have hcount : s2 - k2 - (kb - k2) = s2 - kb := by omega
  have e4 : md_g4 mu m0 L (s - g) (s2 - k2) (kb - k2) = md_fts (md_g3 mu m0 L (s - g) (s2 - k2) (kb - k2)) m0 (bk L) (s2 - kb) := by
    unfold md_g4
    rw [hcount]
  obtain ⟨f1, f2, f3, f4⟩ := md_fts_R hg0 om ho (fun j hj => oo (kb + j) (by omega) (by omega)) (by omega) (s2 - kb) (Nat.le_refl _)
  rw [← e4] at f1 f2 f3 f4
  have hn4 : ∀ z, z ≠ m0 → z ≠ m0 + 12 → z ≠ m0 + 13 → md_g4 mu m0 L (s - g) (s2 - k2) (kb - k2) z = md_g3 mu m0 L (s - g) (s2 - k2) (kb - k2) z := fun z h1 h2 h3 => by rw [e4]; exact md_fts_n h1 h2 h3 _
  -- reading the arrays of the last memory
  have r3 : ∀ K, la_up (md_g4 mu m0 L (s - g) (s2 - k2) (kb - k2)) (m0 + 4) L (nI (g + 1)) (m0 + 3) K = mu (m0 + 3) K := fun K => by
    rw [la_up_n (by omega), hn4 _ (by omega) (by omega) (by omega), hfg _ (by omega) (by omega) (by omega) (by omega) (by omega), md_g2_n (by omega) (by omega) (by omega) (by omega) (by omega) (by omega) (by omega)]
  have r4 : ∀ K, la_up (md_g4 mu m0 L (s - g) (s2 - k2) (kb - k2)) (m0 + 4) L (nI (g + 1)) (m0 + 4) K = if K = L then nI (g + 1) else mu (m0 + 4) K := fun K => by
    rw [la_up_at, hn4 _ (by omega) (by omega) (by omega), hfg _ (by omega) (by omega) (by omega) (by omega) (by omega), md_g2_n (by omega) (by omega) (by omega) (by omega) (by omega) (by omega) (by omega)]
    rfl
  have r5 : ∀ K, la_up (md_g4 mu m0 L (s - g) (s2 - k2) (kb - k2)) (m0 + 4) L (nI (g + 1)) (m0 + 5) K = if K = L then nI (s - g - 1) else mu (m0 + 5) K := fun K => by
    rw [la_up_n (by omega), hn4 _ (by omega) (by omega) (by omega), hfg _ (by omega) (by omega) (by omega) (by omega) (by omega), md_g2_5]
  have r11 : ∀ K, la_up (md_g4 mu m0 L (s - g) (s2 - k2) (kb - k2)) (m0 + 4) L (nI (g + 1)) (m0 + 11) K = md_g3 mu m0 L (s - g) (s2 - k2) (kb - k2) (m0 + 11) K := fun K => by
    rw [la_up_n (by omega), hn4 _ (by omega) (by omega) (by omega)]
  have rm : ∀ a K, (a = m0 + 6 ∨ a = m0 + 7 ∨ a = m0 + 8 ∨ a = m0 + 9 ∨ a = m0 + 10) → la_up (md_g4 mu m0 L (s - g) (s2 - k2) (kb - k2)) (m0 + 4) L (nI (g + 1)) a K = va_cpy (mu a) (mu a) (40 * L + 1) (40 * L) (s - g - 1) K := fun a K ha => by
    rw [la_up_n (by omega), hn4 _ (by omega) (by omega) (by omega), hfg _ (by omega) (by omega) (by omega) (by omega) (by omega), md_g2_row ha]
  have rmo : ∀ a K, (a = m0 + 6 ∨ a = m0 + 7 ∨ a = m0 + 8 ∨ a = m0 + 9 ∨ a = m0 + 10) → K < 40 * L ∨ 40 * L + 40 ≤ K → la_up (md_g4 mu m0 L (s - g) (s2 - k2) (kb - k2)) (m0 + 4) L (nI (g + 1)) a K = mu a K := fun a K ha hK => by
    rw [rm a K ha, pk_cpy_out (by omega)]
  have rmi : ∀ a i, (a = m0 + 6 ∨ a = m0 + 7 ∨ a = m0 + 8 ∨ a = m0 + 9 ∨ a = m0 + 10) → i < s - g - 1 → la_up (md_g4 mu m0 L (s - g) (s2 - k2) (kb - k2)) (m0 + 4) L (nI (g + 1)) a (40 * L + i) = mu a (40 * L + (i + 1)) := fun a i ha hi => by
    rw [rm a _ ha, pk_cpy_in (by omega) (by omega), show 40 * L + 1 + (40 * L + i - 40 * L) = 40 * L + (i + 1) by omega]
  have ro : ∀ a K, (a = m0 + 12 ∨ a = m0 + 13 ∨ a = m0 + 15) → K < 40 * bk L ∨ 40 * bk L + 40 ≤ K → la_up (md_g4 mu m0 L (s - g) (s2 - k2) (kb - k2)) (m0 + 4) L (nI (g + 1)) a K = mu a K := fun a K ha hK => by
    rw [la_up_n (by omega), ← (hrow a (by omega)).2 K hK]
    have h9 := f4 K (by omega)
    rcases ha with rfl | rfl | rfl
    · exact h9.1
    · exact h9.2.1
    · exact h9.2.2
  refine ⟨f1, f2.trans (by rw [g3r, hr.2.2.1]; exact hm.2.2.2.2), ⟨(r3 L).trans a1, by rw [r4, if_pos rfl], by rw [r5, if_pos rfl, show s - g - 1 = s - (g + 1) by omega], ?_, fun i hi => ?_, fun i hi => ?_⟩, ⟨(r3 _).trans b1, by rw [r4, if_neg hne]; exact b2, by rw [r5, if_neg hne]; exact b3, ?_, fun i hi => ?_, fun i hi => ?_⟩, ?_⟩
  · rw [r11]
    show md_fgs _ _ _ _ _ (m0 + 11) L = _
    rw [md_fgs_11k (Ne.symm hne), md_g2_n (by omega) (by omega) (by omega) (by omega) (by omega) (by omega) (by omega)]
    exact a4
  · have h9 := a5 (i + 1) (by omega)
    rw [show g + (i + 1) = g + 1 + i by omega] at h9
    exact ⟨(rmi _ i (by omega) (by omega)).trans h9.1, (rmi _ i (by omega) (by omega)).trans h9.2.1, (rmi _ i (by omega) (by omega)).trans h9.2.2.1, (rmi _ i (by omega) (by omega)).trans h9.2.2.2.1, (rmi _ i (by omega) (by omega)).trans h9.2.2.2.2⟩
  · have h9 := a6 i hi
    exact ⟨(ro _ _ (by omega) (by omega)).trans h9.1, (ro _ _ (by omega) (by omega)).trans h9.2.1, (ro _ _ (by omega) (by omega)).trans h9.2.2⟩
  · rw [r11]
    show md_fgs _ _ _ _ _ (m0 + 11) (bk L) = _
    rw [md_fgs_11 (o := s2 - k2) (by rw [md_g2_n (by omega) (by omega) (by omega) (by omega) (by omega) (by omega) (by omega)]; exact b4) _ (by omega), hcount]
  · have h9 := b5 i hi
    exact ⟨(rmo _ _ (by omega) (by omega)).trans h9.1, (rmo _ _ (by omega) (by omega)).trans h9.2.1, (rmo _ _ (by omega) (by omega)).trans h9.2.2.1, (rmo _ _ (by omega) (by omega)).trans h9.2.2.2.1, (rmo _ _ (by omega) (by omega)).trans h9.2.2.2.2⟩
  · have h9 := f3 i hi
    unfold ot_ro
    rw [if_pos (by omega), show kb + i - kb = i by omega]
    exact ⟨(congrFun (la_up_n (by omega)) _).trans h9.1, (congrFun (la_up_n (by omega)) _).trans h9.2.1, (congrFun (la_up_n (by omega)) _).trans h9.2.2⟩
  · intro L' s' g' k' ms' hs' lt' op' n1 n2 v1 v2 hR
    refine hR.cong v1 v2 (r3 _) (by rw [r4, if_neg n1]) (by rw [r5, if_neg n1]) ?_ (fun K q1 q2 => ⟨rmo _ _ (by omega) (by omega), rmo _ _ (by omega) (by omega), rmo _ _ (by omega) (by omega), rmo _ _ (by omega) (by omega), rmo _ _ (by omega) (by omega), ro _ _ (by omega) (by omega), ro _ _ (by omega) (by omega), ro _ _ (by omega) (by omega)⟩)
    rw [r11]
    show md_fgs _ _ _ _ _ (m0 + 11) L' = _
    rw [md_fgs_11k n2, md_g2_n (by omega) (by omega) (by omega) (by omega) (by omega) (by omega) (by omega)]
