/-! PURE: a message fitted through the open changes: in the class's memory, in the reference's -/
theorem mod_inj {n n' r : Nat} (h : n ≤ n') (h2 : n' < n + r) (he : n % r = n' % r) : n = n' := by
  have h3 : (n' - n) % r = 0 := Nat.sub_mod_eq_zero_of_mod_eq he.symm
  have h4 : n' - n < r := by omega
  rw [Nat.mod_eq_of_lt h4] at h3
  omega
theorem ot_rm_ok {B : Nat} {m : ot_T} {o : Nat → ot_T} {k : Nat} (hm : okT B m) : ∀ t, (∀ j, j < t → okT B (o (k + j))) → okT (B + t) (ot_rm m o k t) := by
  intro t
  induction t with
  | zero => intro _; exact hm
  | succ t ih =>
    intro h
    have h1 := ih (fun j hj => h j (by omega))
    have h2 := (h t (by omega)).le (show B ≤ B + t by omega)
    exact (h1.fit h2).le (by omega)
/-- the class: the message in the cell c0, the open ones from number k on in the cells w0 + 5 + 2 * (number % r) -/
theorem wy_fit_R {mu : la_M} {w0 r c0 k n B : Nat} {m : ot_T} {o : Nat → ot_T} (hr : n ≤ r) (hc : ∀ j, c0 ≠ w0 + 5 + 2 * (j % r)) (hm : chR mu c0 m) (om : okT B m) (ho : ∀ j, j < n → chR mu (w0 + 5 + 2 * ((k + j) % r)) (o (k + j))) (oo : ∀ j, j < n → okT B (o (k + j))) (hB : B + n < 2 ^ 29) :
    ∀ t, t ≤ n → chR (wy_fit mu w0 r c0 k t) c0 (ot_rm m o k t) ∧ wy_fit mu w0 r c0 k t c0 2 = mu c0 2 ∧ (∀ j, j < t → chR (wy_fit mu w0 r c0 k t) (w0 + 5 + 2 * ((k + j) % r)) (ot_fit (o (k + j)) (ot_rm m o k j))) ∧ (∀ j, t ≤ j → j < n → chR (wy_fit mu w0 r c0 k t) (w0 + 5 + 2 * ((k + j) % r)) (o (k + j))) := by
  intro t
  induction t with
  | zero =>
    intro _
    exact ⟨hm, rfl, fun j hj => absurd hj (Nat.not_lt_zero j), fun j _ hj => ho j hj⟩
  | succ t ih =>
    intro ht
    obtain ⟨i1, i2, i3, i4⟩ := ih (by omega)
    have om1 : okT (B + n) (ot_rm m o k t) := (ot_rm_ok om t (fun j hj => oo j (by omega))).le (by omega)
    have oo1 : okT (B + n) (o (k + t)) := (oo t (by omega)).le (by omega)
    obtain ⟨b1, b2, b3⟩ := ch_both_R (hc (k + t)) i1 (i4 t (Nat.le_refl _) (by omega)) om1 oo1 hB
    have hne : ∀ j, j < n → j ≠ t → w0 + 5 + 2 * ((k + j) % r) ≠ w0 + 5 + 2 * ((k + t) % r) := by
      intro j hj hjt he
      have he2 : (k + j) % r = (k + t) % r := by omega
      rcases Nat.lt_or_gt_of_ne hjt with h | h
      · have := mod_inj (n := k + j) (n' := k + t) (by omega) (by omega) he2
        omega
      · have := mod_inj (n := k + t) (n' := k + j) (by omega) (by omega) he2.symm
        omega
    refine ⟨b1, b3.trans i2, fun j hj => ?_, fun j h1 h2 => ?_⟩
    · by_cases hjt : j = t
      · subst hjt
        exact b2
      · have h3 := i3 j (by omega)
        have h4 : ∀ z, ch_both (wy_fit mu w0 r c0 k t) c0 (w0 + 5 + 2 * ((k + t) % r)) (w0 + 5 + 2 * ((k + j) % r)) z = wy_fit mu w0 r c0 k t (w0 + 5 + 2 * ((k + j) % r)) z := fun z => congrFun (ch_both_n (Ne.symm (hc (k + j))) (hne j (by omega) hjt)) z
        exact ⟨(h4 0).trans h3.1, (h4 1).trans h3.2.1, (h4 3).trans h3.2.2⟩
    · have h3 := i4 j (by omega) h2
      have h4 : ∀ z, ch_both (wy_fit mu w0 r c0 k t) c0 (w0 + 5 + 2 * ((k + t) % r)) (w0 + 5 + 2 * ((k + j) % r)) z = wy_fit mu w0 r c0 k t (w0 + 5 + 2 * ((k + j) % r)) z := fun z => congrFun (ch_both_n (Ne.symm (hc (k + j))) (hne j h2 (by omega))) z
      exact ⟨(h4 0).trans h3.1, (h4 1).trans h3.2.1, (h4 3).trans h3.2.2⟩
/-- the reference: rows 40 * b + i -/
theorem md_fts_R {mu : la_M} {m0 b k n B : Nat} {m : ot_T} {o : Nat → ot_T} (hm : gR mu m0 m) (om : okT B m) (ho : ∀ j, j < n → oR mu m0 (40 * b + j) (o (k + j))) (oo : ∀ j, j < n → okT B (o (k + j))) (hB : B + n < 2 ^ 29) :
    ∀ t, t ≤ n → gR (md_fts mu m0 b t) m0 (ot_rm m o k t) ∧ md_fts mu m0 b t m0 18 = mu m0 18 ∧ (∀ j, j < t → oR (md_fts mu m0 b t) m0 (40 * b + j) (ot_fit (o (k + j)) (ot_rm m o k j))) ∧ (∀ K, (K < 40 * b ∨ 40 * b + t ≤ K) → md_fts mu m0 b t (m0 + 12) K = mu (m0 + 12) K ∧ md_fts mu m0 b t (m0 + 13) K = mu (m0 + 13) K ∧ md_fts mu m0 b t (m0 + 15) K = mu (m0 + 15) K) := by
  intro t
  induction t with
  | zero =>
    intro _
    exact ⟨hm, rfl, fun j hj => absurd hj (Nat.not_lt_zero j), fun K _ => ⟨rfl, rfl, rfl⟩⟩
  | succ t ih =>
    intro ht
    obtain ⟨i1, i2, i3, i4⟩ := ih (by omega)
    have om1 : okT (B + n) (ot_rm m o k t) := (ot_rm_ok om t (fun j hj => oo j (by omega))).le (by omega)
    have oo1 : okT (B + n) (o (k + t)) := (oo t (by omega)).le (by omega)
    have hT := ho t (by omega)
    have h4 := i4 (40 * b + t) (by omega)
    obtain ⟨b1, b2, b3, b4⟩ := md_ft1_R (K := 40 * b + t) i1 (u := o (k + t)) ⟨h4.1.trans hT.1, h4.2.1.trans hT.2.1, h4.2.2.trans hT.2.2⟩ om1 oo1 hB
    refine ⟨b1, b3.trans i2, fun j hj => ?_, fun K hK => ?_⟩
    · by_cases hjt : j = t
      · subst hjt
        exact b2
      · have h3 := i3 j (by omega)
        have h5 := b4 (40 * b + j) (by omega)
        exact ⟨h5.1.trans h3.1, h5.2.1.trans h3.2.1, h5.2.2.trans h3.2.2⟩
    · have h3 := i4 K (by omega)
      have h5 := b4 K (by omega)
      exact ⟨h5.1.trans h3.1, h5.2.1.trans h3.2.1, h5.2.2.trans h3.2.2⟩
/-- the reference forgets its t oldest open changes of the line b -/
theorem md_fgs_R {mu : la_M} {m0 b o : Nat} : ∀ t, t ≤ o → ∀ a, (a = m0 + 12 ∨ a = m0 + 13 ∨ a = m0 + 14 ∨ a = m0 + 15) → (∀ i, i < o - t → md_fgs mu m0 b o t a (40 * b + i) = mu a (40 * b + i + t)) ∧ (∀ K, K < 40 * b ∨ 40 * b + o ≤ K → md_fgs mu m0 b o t a K = mu a K) := by
  intro t
  induction t with
  | zero => intro _ a _; exact ⟨fun i _ => rfl, fun K _ => rfl⟩
  | succ t ih =>
    intro ht a ha
    obtain ⟨h1, h2⟩ := ih (by omega) a ha
    have key : ∀ K, md_fgs mu m0 b o (t + 1) a K = va_cpy (md_fgs mu m0 b o t a) (md_fgs mu m0 b o t a) (40 * b + 1) (40 * b) (o - t - 1) K := by
      intro K
      show md_sh4 (la_up (md_fgs mu m0 b o t) (m0 + 11) b (nI (o - t - 1))) m0 b (o - t - 1) a K = _
      have hz : la_up (md_fgs mu m0 b o t) (m0 + 11) b (nI (o - t - 1)) a = md_fgs mu m0 b o t a := la_up_n (by omega)
      rcases ha with rfl | rfl | rfl | rfl
      · rw [md_sh4_12, hz]
      · rw [md_sh4_13, hz]
      · rw [md_sh4_14, hz]
      · rw [md_sh4_15, hz]
    refine ⟨fun i hi => ?_, fun K hK => ?_⟩
    · rw [key, pk_cpy_in (by omega) (by omega), show 40 * b + 1 + (40 * b + i - 40 * b) = 40 * b + (i + 1) by omega, h1 (i + 1) (by omega), show 40 * b + (i + 1) + t = 40 * b + i + (t + 1) by omega]
    · rw [key, pk_cpy_out (by omega)]
      exact h2 K hK
