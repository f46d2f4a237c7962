/-! PURE: one line in the class's memory: a way at w with room r; s sent, g got, k known; messages, heards, letters, open changes by number -/
def RCl (mu : la_M) (w r s g k : Nat) (ms : Nat → ot_T) (hs lt : Nat → Nat) (op : Nat → ot_T) : Prop :=
  mu w 4 = nI s ∧ mu w 5 = nI k ∧ mu w 6 = nI g ∧
  (∀ n, g ≤ n → n < s → chR mu (w + 4 + 2 * (n % r)) (ms n) ∧ ((ms n).1 = 0 → mu (w + 4 + 2 * (n % r)) 2 = nI (lt n)) ∧ chz (mu (w + 4 + 2 * (n % r)) 2) ∧ mu (w + 3) (n % r) = nI (hs n)) ∧
  (∀ n, k ≤ n → n < s → chR mu (w + 5 + 2 * (n % r)) (op n))
theorem chR.cong {mu mu' : la_M} {c : Nat} {v : ot_T} (h : chR mu c v) (e : mu' c = mu c) : chR mu' c v := by
  unfold chR
  rw [e]
  exact h
theorem RCl.cong {mu mu' : la_M} {w r s g k : Nat} {ms op : Nat → ot_T} {hs lt : Nat → Nat} (h : RCl mu w r s g k ms hs lt op) (hr : 0 < r) (e : ∀ z, w ≤ z → z < w + 4 + 2 * r → mu' z = mu z) : RCl mu' w r s g k ms hs lt op := by
  obtain ⟨h1, h2, h3, h4, h5⟩ := h
  have e0 := e w (by omega) (by omega)
  have e3 := e (w + 3) (by omega) (by omega)
  refine ⟨by rw [e0]; exact h1, by rw [e0]; exact h2, by rw [e0]; exact h3, fun n a b => ?_, fun n a b => ?_⟩
  · have hm := Nat.mod_lt n hr
    obtain ⟨i1, i2, i3, i4⟩ := h4 n a b
    have e4 := e (w + 4 + 2 * (n % r)) (by omega) (by omega)
    exact ⟨i1.cong e4, by rw [e4]; exact i2, by rw [e4]; exact i3, by rw [e3]; exact i4⟩
  · have hm := Nat.mod_lt n hr
    exact (h5 n a b).cong (e _ (by omega) (by omega))
/-- a message has been got -/
theorem RCl.got {mu : la_M} {w r s g k : Nat} {ms op : Nat → ot_T} {hs lt : Nat → Nat} (h : RCl mu w r s g k ms hs lt op) : RCl (la_up mu w 6 (nI (g + 1))) w r s (g + 1) k ms hs lt op := by
  obtain ⟨h1, h2, h3, h4, h5⟩ := h
  refine ⟨(la_up_k (by decide)).trans h1, (la_up_k (by decide)).trans h2, la_up_s, fun n a b => ?_, fun n a b => ?_⟩
  · obtain ⟨i1, i2, i3, i4⟩ := h4 n (by omega) b
    have e4 : la_up mu w 6 (nI (g + 1)) (w + 4 + 2 * (n % r)) = mu (w + 4 + 2 * (n % r)) := la_up_n (by omega)
    have e3 : la_up mu w 6 (nI (g + 1)) (w + 3) = mu (w + 3) := la_up_n (by omega)
    exact ⟨i1.cong e4, by rw [e4]; exact i2, by rw [e4]; exact i3, by rw [e3]; exact i4⟩
  · exact (h5 n a b).cong (la_up_n (by omega))
theorem ch_copy_d {mu : la_M} {d s : Nat} (h : s ≠ d) : ch_copy mu d s d 0 = mu s 0 ∧ ch_copy mu d s d 1 = mu s 1 ∧ ch_copy mu d s d 2 = mu s 2 ∧ ch_copy mu d s d 3 = mu s 3 := by
  unfold ch_copy
  exact ⟨by rw [la_up_k (by decide), la_up_k (by decide), la_up_k (by decide), la_up_s], by rw [la_up_k (by decide), la_up_k (by decide), la_up_s], by rw [la_up_k (by decide), la_up_s], la_up_s⟩
/-- a change in the cell c0 is sent -/
theorem RCl.send {mu : la_M} {w r s g k c0 x c : Nat} {ms op : Nat → ot_T} {hs lt : Nat → Nat} {v : ot_T} (h : RCl mu w r s g k ms hs lt op) (hr : 0 < r) (hg : s < g + r) (hk : s < k + r) (hv : chR mu c0 v) (hl : v.1 = 0 → mu c0 2 = nI c) (hz : chz (mu c0 2)) (ho : c0 < w ∨ w + 4 + 2 * r ≤ c0) : RCl (wy_send mu w r c0 s (nI x)) w r (s + 1) g k (ot_up ms s v) (ot_up hs s x) (ot_up lt s c) (ot_up op s v) := by
  obtain ⟨h1, h2, h3, h4, h5⟩ := h
  have hm := Nat.mod_lt s hr
  have cA := ch_copy_d (mu := mu) (d := w + 4 + 2 * (s % r)) (s := c0) (by omega)
  have cB := ch_copy_d (mu := ch_copy mu (w + 4 + 2 * (s % r)) c0) (d := w + 5 + 2 * (s % r)) (s := c0) (by omega)
  have nc : ∀ z, z ≠ w + 4 + 2 * (s % r) → ch_copy mu (w + 4 + 2 * (s % r)) c0 z = mu z := fun z hz => ch_copy_n hz
  have eA : wy_send mu w r c0 s (nI x) (w + 4 + 2 * (s % r)) = ch_copy mu (w + 4 + 2 * (s % r)) c0 (w + 4 + 2 * (s % r)) := by
    unfold wy_send
    rw [la_up_n (by omega), la_up_n (by omega), ch_copy_n (by omega)]
  have eB : wy_send mu w r c0 s (nI x) (w + 5 + 2 * (s % r)) = ch_copy (ch_copy mu (w + 4 + 2 * (s % r)) c0) (w + 5 + 2 * (s % r)) c0 (w + 5 + 2 * (s % r)) := by
    unfold wy_send
    rw [la_up_n (by omega), la_up_n (by omega)]
  have e0 : ∀ j, j ≠ 4 → wy_send mu w r c0 s (nI x) w j = mu w j := fun j hj => by
    unfold wy_send
    rw [la_up_k hj, la_up_n (by omega), ch_copy_n (by omega), ch_copy_n (by omega)]
  have e3 : ∀ j, wy_send mu w r c0 s (nI x) (w + 3) j = if j = s % r then nI x else mu (w + 3) j := fun j => by
    unfold wy_send
    rw [la_up_n (by omega), la_up_at, ch_copy_n (by omega), ch_copy_n (by omega)]
    rfl
  refine ⟨?_, (e0 5 (by decide)).trans h2, (e0 6 (by decide)).trans h3, fun n a b => ?_, fun n a b => ?_⟩
  · unfold wy_send
    exact la_up_s
  · by_cases hn : n = s
    · subst hn
      rw [ot_up_s, ot_up_s, ot_up_s]
      unfold chR
      rw [eA, cA.1, cA.2.1, cA.2.2.1, cA.2.2.2, e3, if_pos rfl]
      exact ⟨hv, hl, hz, rfl⟩
    · have hne : n % r ≠ s % r := fun he => hn (mod_inj (by omega) (by omega) he)
      have hm2 := Nat.mod_lt n hr
      obtain ⟨i1, i2, i3, i4⟩ := h4 n a (by omega)
      rw [ot_up_n hn, ot_up_n hn, ot_up_n hn]
      have e4 : wy_send mu w r c0 s (nI x) (w + 4 + 2 * (n % r)) = mu (w + 4 + 2 * (n % r)) := wy_send_n (by omega) (by omega) (by omega) (by omega)
      exact ⟨i1.cong e4, by rw [e4]; exact i2, by rw [e4]; exact i3, by rw [e3, if_neg hne]; exact i4⟩
  · by_cases hn : n = s
    · subst hn
      rw [ot_up_s]
      unfold chR
      rw [eB, cB.1, cB.2.1, cB.2.2.2, nc c0 (by omega)]
      exact hv
    · have hne : n % r ≠ s % r := fun he => hn (mod_inj (by omega) (by omega) he)
      rw [ot_up_n hn]
      exact (h5 n a (by omega)).cong (wy_send_n (by omega) (by omega) (by omega) (by omega))
/-- the other line gets: what is known is forgotten, the rest is fitted to the message in the cell c0 -/
theorem RCl.fit {mu : la_M} {w r s g k c0 kb B : Nat} {ms op : Nat → ot_T} {hs lt : Nat → Nat} {m : ot_T} (h : RCl mu w r s g k ms hs lt op) (hr : 0 < r) (hw : s ≤ k + r) (hkb : k ≤ kb) (hks : kb ≤ s) (hc : ∀ j, c0 ≠ w + 5 + 2 * (j % r)) (hc2 : ∀ j, c0 ≠ w + 4 + 2 * (j % r)) (hc0 : c0 ≠ w) (hc3 : c0 ≠ w + 3) (hm : chR mu c0 m) (om : okT B m) (oo : ∀ n, k ≤ n → n < s → okT B (op n)) (hB : B + 24 < 2 ^ 29) (hr24 : r ≤ 24) :
    RCl (wy_fit (la_up mu w 5 (nI kb)) w r c0 kb (s - kb)) w r s g kb ms hs lt (ot_ro m op kb s) ∧ chR (wy_fit (la_up mu w 5 (nI kb)) w r c0 kb (s - kb)) c0 (ot_rm m op kb (s - kb)) ∧ wy_fit (la_up mu w 5 (nI kb)) w r c0 kb (s - kb) c0 2 = mu c0 2 := by
  obtain ⟨h1, h2, h3, h4, h5⟩ := h
  have e5 : ∀ z, z ≠ w → la_up mu w 5 (nI kb) z = mu z := fun z hz => la_up_n hz
  obtain ⟨f1, f2, f3, -⟩ := wy_fit_R (mu := la_up mu w 5 (nI kb)) (w0 := w) (r := r) (c0 := c0) (k := kb) (n := s - kb) (B := B) (m := m) (o := op) (by omega) hc (hm.cong (e5 _ hc0)) om (fun j hj => (h5 (kb + j) (by omega) (by omega)).cong (e5 _ (by omega))) (fun j hj => oo (kb + j) (by omega) (by omega)) (by omega) (s - kb) (Nat.le_refl _)
  have hn : ∀ z, z ≠ c0 → (∀ j, z ≠ w + 5 + 2 * j) → wy_fit (la_up mu w 5 (nI kb)) w r c0 kb (s - kb) z = la_up mu w 5 (nI kb) z := fun z hz hz2 => wy_fit_n hz hz2 _
  have hnw := hn w (Ne.symm hc0) (fun j => by omega)
  have hn3 := hn (w + 3) (Ne.symm hc3) (fun j => by omega)
  refine ⟨⟨?_, ?_, ?_, fun n a b => ?_, fun n a b => ?_⟩, f1, f2.trans (congrFun (e5 _ hc0) 2)⟩
  · rw [hnw, la_up_k (by decide)]
    exact h1
  · rw [hnw, la_up_s]
  · rw [hnw, la_up_k (by decide)]
    exact h3
  · obtain ⟨i1, i2, i3, i4⟩ := h4 n a b
    have e4 : wy_fit (la_up mu w 5 (nI kb)) w r c0 kb (s - kb) (w + 4 + 2 * (n % r)) = mu (w + 4 + 2 * (n % r)) := (hn _ (Ne.symm (hc2 n)) (fun j => by omega)).trans (e5 _ (by omega))
    exact ⟨i1.cong e4, by rw [e4]; exact i2, by rw [e4]; exact i3, by rw [hn3, e5 _ (by omega)]; exact i4⟩
  · have h9 := f3 (n - kb) (by omega)
    rw [show kb + (n - kb) = n by omega] at h9
    unfold ot_ro
    rw [if_pos ⟨a, b⟩]
    exact h9
