/-! PURE: what fitting does in the class's memory, in the reference's memory, and to changes as (kind, place, origin) -/
theorem nI_ne {a b : Nat} (ha : a < 2 ^ 31) (hb : b < 2 ^ 31) (h : a ≠ b) : ¬ nI a = nI b := fun e => h ((nI_eq ha hb).mp e)
theorem nI_lti {a b : Nat} (ha : a < 2 ^ 31) (hb : b < 2 ^ 31) : nI a < nI b ↔ a < b := by
  constructor
  · intro h
    by_cases h1 : a < b
    · exact h1
    · exact absurd h (nI_nlt (Nat.not_lt.mp h1) ha)
  · intro h
    exact nI_lt h hb
theorem nI_eqi {a b : Nat} (ha : a < 2 ^ 31) (hb : b < 2 ^ 31) : nI a = nI b ↔ a = b := nI_eq ha hb
def chR (mu : la_M) (c : Nat) (v : ot_T) : Prop := mu c 0 = nI v.1 ∧ mu c 1 = nI v.2.1 ∧ mu c 3 = nI v.2.2
def okT (B : Nat) (v : ot_T) : Prop := v.1 ≤ 2 ∧ (v.1 = 2 → v.2.1 = 0) ∧ v.2.1 ≤ B ∧ v.2.2 ≤ 3
theorem okT.fit {B : Nat} {v u : ot_T} (hv : okT B v) (hu : okT B u) : okT (B + 1) (ot_fit v u) := by
  obtain ⟨k, p, o⟩ := v
  obtain ⟨k', p', o'⟩ := u
  obtain ⟨h1, h2, h3, h4⟩ := hv
  simp only at h1 h2 h3 h4
  refine ⟨?_, ?_, ?_, h4⟩
  · show ot_fk k p k' p' ≤ 2
    unfold ot_fk
    split <;> omega
  · show ot_fk k p k' p' = 2 → ot_fp k p o k' p' o' = 0
    unfold ot_fk ot_fp
    intro h
    by_cases hk0 : k = 0
    · subst hk0
      rw [if_neg (by omega)] at h
      cases h
    · rw [if_neg hk0]
      by_cases hk1 : k = 1
      · rw [if_pos hk1]
        split at h
        · rename_i hc
          rw [if_neg (by omega), if_pos hc.2.1, if_pos hc.2.2]
        · omega
      · rw [if_neg hk1]
        exact h2 (by omega)
  · show ot_fp k p o k' p' o' ≤ B + 1
    unfold ot_fp
    repeat' split
    all_goals omega
theorem okT.le {B C : Nat} {v : ot_T} (h : okT B v) (hbc : B ≤ C) : okT C v := ⟨h.1, h.2.1, by have := h.2.2.1; omega, h.2.2.2⟩
/-- one change fitted in place -/
theorem ch_fit_R {mu : la_M} {a k p o k' p' o' : Nat} (h0 : mu a 0 = nI k) (h1 : mu a 1 = nI p) (h3 : mu a 3 = nI o) (hk : k ≤ 2) (hk' : k' ≤ 2) (hp : p < 2 ^ 30) (hp' : p' < 2 ^ 30) (ho : o < 2 ^ 30) (ho' : o' < 2 ^ 30) :
    ch_fit mu a (nI k') (nI p') (nI o') a 0 = nI (ot_fk k p k' p') ∧ ch_fit mu a (nI k') (nI p') (nI o') a 1 = nI (ot_fp k p o k' p' o') ∧ ch_fit mu a (nI k') (nI p') (nI o') a 2 = mu a 2 ∧ ch_fit mu a (nI k') (nI p') (nI o') a 3 = nI o := by
  have z0 : ¬ nI k' = 0 ↔ ¬ k' = 0 := not_congr (nI_eqi (b := 0) (by omega) (by decide))
  have e2 : (nI k = (2 : Int32)) ↔ k = 2 := nI_eqi (b := 2) (by omega) (by decide)
  have e1 : (nI k = (1 : Int32)) ↔ k = 1 := nI_eqi (b := 1) (by omega) (by decide)
  have e0' : (nI k' = (0 : Int32)) ↔ k' = 0 := nI_eqi (b := 0) (by omega) (by decide)
  have e1' : (nI k' = (1 : Int32)) ↔ k' = 1 := nI_eqi (b := 1) (by omega) (by decide)
  have lp : (nI p' < nI p) ↔ p' < p := nI_lti (by omega) (by omega)
  have ep : (nI p' = nI p) ↔ p' = p := nI_eqi (by omega) (by omega)
  have lo : (nI o' < nI o) ↔ o' < o := nI_lti (by omega) (by omega)
  unfold ch_fit ch_ins ch_del
  rw [h0, h1, h3]
  simp only [e2, e1, e0', e1', lp, ep, lo]
  unfold ot_fk ot_fp
  rcases (show k = 0 ∨ k = 1 ∨ k = 2 by omega) with rfl | rfl | rfl
  · rcases (show k' = 0 ∨ k' = 1 ∨ k' = 2 by omega) with rfl | rfl | rfl
    · simp (decide := true) only [if_true, if_false, false_or, true_or, and_true, and_false, true_and, false_and]
      by_cases hc : p' < p ∨ p' = p ∧ o' < o
      · rw [if_pos hc, if_pos hc]
        exact ⟨(la_up_k (by decide)).trans h0, by rw [la_up_s, nI_1], la_up_k (by decide), (la_up_k (by decide)).trans h3⟩
      · rw [if_neg hc, if_neg hc]
        exact ⟨h0, h1, rfl, h3⟩
    · simp (decide := true) only [if_true, if_false, false_or, true_or, and_true, and_false, true_and, false_and]
      by_cases hc : p' < p
      · rw [if_pos hc, if_pos hc]
        exact ⟨(la_up_k (by decide)).trans h0, by rw [la_up_s, nI_s1 (by omega)], la_up_k (by decide), (la_up_k (by decide)).trans h3⟩
      · rw [if_neg hc, if_neg hc]
        exact ⟨h0, h1, rfl, h3⟩
    · simp (decide := true) only [if_true, if_false, false_or, true_or, and_true, and_false, true_and, false_and]
      exact ⟨h0, h1, h3⟩
  · rcases (show k' = 0 ∨ k' = 1 ∨ k' = 2 by omega) with rfl | rfl | rfl
    · simp (decide := true) only [if_true, if_false, false_or, true_or, and_true, and_false, true_and, false_and]
      by_cases hc : p' ≤ p
      · rw [if_pos (by omega), if_pos hc]
        exact ⟨(la_up_k (by decide)).trans h0, by rw [la_up_s, nI_1], la_up_k (by decide), (la_up_k (by decide)).trans h3⟩
      · rw [if_neg (by omega), if_neg hc]
        exact ⟨h0, h1, rfl, h3⟩
    · simp (decide := true) only [if_true, if_false, false_or, true_or, and_true, and_false, true_and, false_and]
      by_cases hc : p' = p
      · rw [if_neg (by omega), if_pos hc, if_pos hc, if_pos hc]
        exact ⟨(la_up_k (by decide)).trans la_up_s, la_up_s, (la_up_k (by decide)).trans (la_up_k (by decide)), (la_up_k (by decide)).trans ((la_up_k (by decide)).trans h3)⟩
      · simp only [if_neg hc]
        by_cases hc2 : p' < p
        · simp only [if_pos hc2]
          exact ⟨(la_up_k (by decide)).trans h0, by rw [la_up_s, nI_s1 (by omega)], la_up_k (by decide), (la_up_k (by decide)).trans h3⟩
        · simp only [if_neg hc2]
          exact ⟨h0, h1, trivial, h3⟩
    · simp (decide := true) only [if_true, if_false, false_or, true_or, and_true, and_false, true_and, false_and]
      exact ⟨h0, h1, h3⟩
  · simp (decide := true) only [if_true, if_false, false_or, true_or, and_true, and_false, true_and, false_and]
    exact ⟨h0, h1, h3⟩
/-- two changes fitted to each other in place -/
theorem ch_both_R {mu : la_M} {a b B : Nat} {v u : ot_T} (hab : a ≠ b) (hv : chR mu a v) (hu : chR mu b u) (ov : okT B v) (ou : okT B u) (hB : B < 2 ^ 29) :
    chR (ch_both mu a b) a (ot_fit v u) ∧ chR (ch_both mu a b) b (ot_fit u v) ∧ ch_both mu a b a 2 = mu a 2 := by
  obtain ⟨k, p, o⟩ := v
  obtain ⟨k', p', o'⟩ := u
  obtain ⟨a0, a1, a3⟩ := hv
  obtain ⟨b0, b1, b3⟩ := hu
  obtain ⟨o1, -, o2, o3⟩ := ov
  obtain ⟨w1, -, w2, w3⟩ := ou
  simp only at a0 a1 a3 b0 b1 b3 o1 o2 o3 w1 w2 w3
  obtain ⟨c0, c1, c2, c3⟩ := ch_fit_R (k' := k') (p' := p') (o' := o') a0 a1 a3 o1 w1 (by omega) (by omega) (by omega) (by omega)
  have hF : ch_fit mu a (mu b 0) (mu b 1) (mu b 3) = ch_fit mu a (nI k') (nI p') (nI o') := by rw [b0, b1, b3]
  have e : ch_both mu a b = ch_fit (ch_fit mu a (nI k') (nI p') (nI o')) b (nI k) (nI p) (nI o) := by
    unfold ch_both
    rw [hF, a0, a1, c3]
  have n0 : ∀ j, ch_fit mu a (nI k') (nI p') (nI o') b j = mu b j := fun j => congrFun (ch_fit_n (Ne.symm hab)) j
  obtain ⟨d0, d1, -, d3⟩ := ch_fit_R (k' := k) (p' := p) (o' := o) (mu := ch_fit mu a (nI k') (nI p') (nI o')) (a := b) (k := k') (p := p') (o := o') (by rw [n0, b0]) (by rw [n0, b1]) (by rw [n0, b3]) w1 o1 (by omega) (by omega) (by omega) (by omega)
  have n1 : ∀ j, ch_both mu a b a j = ch_fit mu a (nI k') (nI p') (nI o') a j := fun j => by rw [e]; exact congrFun (ch_fit_n hab) j
  refine ⟨⟨by rw [n1]; exact c0, by rw [n1]; exact c1, by rw [n1]; exact c3⟩, ⟨?_, ?_, ?_⟩, by rw [n1]; exact c2⟩
  · rw [e]; exact d0
  · rw [e]; exact d1
  · rw [e]; exact d3
/-- the reference's fitted places -/
theorem md_fit_R {k p o k' p' o' : Nat} (hk : k ≤ 2) (hk' : k' ≤ 2) (hp : p < 2 ^ 30) (hp' : p' < 2 ^ 30) (ho : o < 2 ^ 30) (ho' : o' < 2 ^ 30) :
    (if md_fit (nI k) (nI p) (nI o) (nI k') (nI p') (nI o') < 0 then 2 else nI k) = nI (ot_fk k p k' p') ∧ (if md_fit (nI k) (nI p) (nI o) (nI k') (nI p') (nI o') < 0 then 0 else md_fit (nI k) (nI p) (nI o) (nI k') (nI p') (nI o')) = nI (ot_fp k p o k' p' o') := by
  have e0 : (nI k = (0 : Int32)) ↔ k = 0 := nI_eqi (b := 0) (by omega) (by decide)
  have e1 : (nI k = (1 : Int32)) ↔ k = 1 := nI_eqi (b := 1) (by omega) (by decide)
  have e0' : (nI k' = (0 : Int32)) ↔ k' = 0 := nI_eqi (b := 0) (by omega) (by decide)
  have e1' : (nI k' = (1 : Int32)) ↔ k' = 1 := nI_eqi (b := 1) (by omega) (by decide)
  have lp : (nI p' < nI p) ↔ p' < p := nI_lti (by omega) (by omega)
  have lp2 : (nI p < nI p') ↔ p < p' := nI_lti (by omega) (by omega)
  have ep : (nI p' = nI p) ↔ p' = p := nI_eqi (by omega) (by omega)
  have lo : (nI o' < nI o) ↔ o' < o := nI_lti (by omega) (by omega)
  have np : ∀ z : Nat, z < 2 ^ 31 → ¬ nI z < 0 := fun z hz => nI_pos hz
  have fin : ∀ z : Nat, z < 2 ^ 31 → md_fit (nI k) (nI p) (nI o) (nI k') (nI p') (nI o') = nI z → ot_fk k p k' p' = k → ot_fp k p o k' p' o' = z → ((if md_fit (nI k) (nI p) (nI o) (nI k') (nI p') (nI o') < 0 then 2 else nI k) = nI (ot_fk k p k' p') ∧ (if md_fit (nI k) (nI p) (nI o) (nI k') (nI p') (nI o') < 0 then 0 else md_fit (nI k) (nI p) (nI o) (nI k') (nI p') (nI o')) = nI (ot_fp k p o k' p' o')) := by
    intro z hz h1 h2 h3
    rw [h1, if_neg (np z hz), if_neg (np z hz), h2, h3]
    exact ⟨rfl, rfl⟩
  have hm : md_fit (nI k) (nI p) (nI o) (nI k') (nI p') (nI o') = if k = 0 ∧ k' = 0 then (if p' < p ∨ (p' = p ∧ o' < o) then nI p + 1 else nI p) else if k = 0 ∧ k' = 1 then (if p' < p then nI p - 1 else nI p) else if k = 1 ∧ k' = 0 then (if p < p' then nI p else nI p + 1) else if k = 1 ∧ k' = 1 then (if p' = p then -1 else if p' < p then nI p - 1 else nI p) else nI p := by
    unfold md_fit
    simp only [e0, e1, e0', e1', lp, lp2, ep, lo]
  rcases (show k = 0 ∨ k = 1 ∨ k = 2 by omega) with rfl | rfl | rfl
  · rcases (show k' = 0 ∨ k' = 1 ∨ k' = 2 by omega) with rfl | rfl | rfl
    · rw [if_pos ⟨rfl, rfl⟩] at hm
      by_cases hc : p' < p ∨ p' = p ∧ o' < o
      · rw [if_pos hc, nI_1] at hm
        refine fin (p + 1) (by omega) hm rfl ?_
        show (if p' < p ∨ p' = p ∧ o' < o then p + 1 else p) = p + 1
        rw [if_pos hc]
      · rw [if_neg hc] at hm
        refine fin p (by omega) hm rfl ?_
        show (if p' < p ∨ p' = p ∧ o' < o then p + 1 else p) = p
        rw [if_neg hc]
    · rw [if_neg (by omega), if_pos ⟨rfl, rfl⟩] at hm
      by_cases hc : p' < p
      · rw [if_pos hc, nI_s1 (by omega)] at hm
        refine fin (p - 1) (by omega) hm rfl ?_
        show (if p' < p then p - 1 else p) = p - 1
        rw [if_pos hc]
      · rw [if_neg hc] at hm
        refine fin p (by omega) hm rfl ?_
        show (if p' < p then p - 1 else p) = p
        rw [if_neg hc]
    · rw [if_neg (by omega), if_neg (by omega), if_neg (by omega), if_neg (by omega)] at hm
      exact fin p (by omega) hm rfl rfl
  · rcases (show k' = 0 ∨ k' = 1 ∨ k' = 2 by omega) with rfl | rfl | rfl
    · rw [if_neg (by omega), if_neg (by omega), if_pos ⟨rfl, rfl⟩] at hm
      by_cases hc : p < p'
      · rw [if_pos hc] at hm
        refine fin p (by omega) hm rfl ?_
        show (if p' ≤ p then p + 1 else p) = p
        rw [if_neg (by omega)]
      · rw [if_neg hc, nI_1] at hm
        refine fin (p + 1) (by omega) hm rfl ?_
        show (if p' ≤ p then p + 1 else p) = p + 1
        rw [if_pos (by omega)]
    · rw [if_neg (by omega), if_neg (by omega), if_neg (by omega), if_pos ⟨rfl, rfl⟩] at hm
      by_cases hc : p' = p
      · rw [if_pos hc] at hm
        rw [hm, if_pos (by decide), if_pos (by decide)]
        subst hc
        refine ⟨?_, ?_⟩
        · unfold ot_fk
          rw [if_pos ⟨rfl, rfl, rfl⟩]
          rfl
        · show 0 = nI (if p' = p' then 0 else if p' < p' then p' - 1 else p')
          rw [if_pos rfl]
          rfl
      · rw [if_neg hc] at hm
        by_cases hc2 : p' < p
        · rw [if_pos hc2, nI_s1 (by omega)] at hm
          refine fin (p - 1) (by omega) hm ?_ ?_
          · unfold ot_fk
            rw [if_neg (by omega)]
          · show (if p' = p then 0 else if p' < p then p - 1 else p) = p - 1
            rw [if_neg hc, if_pos hc2]
        · rw [if_neg hc2] at hm
          refine fin p (by omega) hm ?_ ?_
          · unfold ot_fk
            rw [if_neg (by omega)]
          · show (if p' = p then 0 else if p' < p then p - 1 else p) = p
            rw [if_neg hc, if_neg hc2]
    · rw [if_neg (by omega), if_neg (by omega), if_neg (by omega), if_neg (by omega)] at hm
      refine fin p (by omega) hm ?_ rfl
      unfold ot_fk
      rw [if_neg (by omega)]
  · rw [if_neg (by omega), if_neg (by omega), if_neg (by omega), if_neg (by omega)] at hm
    refine fin p (by omega) hm ?_ rfl
    unfold ot_fk
    rw [if_neg (by omega)]
/-- one row of the reference's open changes and its change, fitted -/
def oR (mu : la_M) (m0 K : Nat) (v : ot_T) : Prop := mu (m0 + 12) K = nI v.1 ∧ mu (m0 + 13) K = nI v.2.1 ∧ mu (m0 + 15) K = nI v.2.2
def gR (mu : la_M) (m0 : Nat) (v : ot_T) : Prop := mu m0 16 = nI v.1 ∧ mu m0 17 = nI v.2.1 ∧ mu m0 19 = nI v.2.2
theorem md_ft1_R {mu : la_M} {m0 K B : Nat} {v u : ot_T} (hv : gR mu m0 v) (hu : oR mu m0 K u) (ov : okT B v) (ou : okT B u) (hB : B < 2 ^ 29) :
    gR (md_ft1 mu m0 K) m0 (ot_fit v u) ∧ oR (md_ft1 mu m0 K) m0 K (ot_fit u v) ∧ md_ft1 mu m0 K m0 18 = mu m0 18 ∧ ∀ K', K' ≠ K → (md_ft1 mu m0 K (m0 + 12) K' = mu (m0 + 12) K' ∧ md_ft1 mu m0 K (m0 + 13) K' = mu (m0 + 13) K' ∧ md_ft1 mu m0 K (m0 + 15) K' = mu (m0 + 15) K') := by
  obtain ⟨k, p, o⟩ := v
  obtain ⟨k', p', o'⟩ := u
  obtain ⟨a0, a1, a3⟩ := hv
  obtain ⟨b0, b1, b3⟩ := hu
  obtain ⟨o1, -, o2, o3⟩ := ov
  obtain ⟨w1, -, w2, w3⟩ := ou
  simp only at a0 a1 a3 b0 b1 b3 o1 o2 o3 w1 w2 w3
  have f1 := md_fit_R (k := k) (p := p) (o := o) (k' := k') (p' := p') (o' := o') o1 w1 (by omega) (by omega) (by omega) (by omega)
  have f2 := md_fit_R (k := k') (p := p') (o := o') (k' := k) (p' := p) (o' := o) w1 o1 (by omega) (by omega) (by omega) (by omega)
  have e : md_ft1 mu m0 K = la_up (la_up (la_up (la_up mu m0 16 (nI (ot_fk k p k' p'))) m0 17 (nI (ot_fp k p o k' p' o'))) (m0 + 12) K (nI (ot_fk k' p' k p))) (m0 + 13) K (nI (ot_fp k' p' o' k p o)) := by
    unfold md_ft1
    rw [a0, a1, a3, b0, b1, b3, f1.1, f1.2, f2.1, f2.2]
  rw [e]
  have n13 : ∀ j, j ≠ m0 + 13 → j ≠ m0 + 12 → j ≠ m0 → la_up (la_up (la_up (la_up mu m0 16 (nI (ot_fk k p k' p'))) m0 17 (nI (ot_fp k p o k' p' o'))) (m0 + 12) K (nI (ot_fk k' p' k p))) (m0 + 13) K (nI (ot_fp k' p' o' k p o)) j = mu j := fun j h1 h2 h3 => by rw [la_up_n h1, la_up_n h2, la_up_n h3, la_up_n h3]
  refine ⟨⟨?_, ?_, ?_⟩, ⟨?_, ?_, ?_⟩, ?_, fun K' hK => ⟨?_, ?_, ?_⟩⟩
  · rw [la_up_n (by omega), la_up_n (by omega), la_up_k (by decide), la_up_s]; rfl
  · rw [la_up_n (by omega), la_up_n (by omega), la_up_s]; rfl
  · rw [la_up_n (by omega), la_up_n (by omega), la_up_k (by decide), la_up_k (by decide)]; exact a3
  · rw [la_up_n (by omega), la_up_s]; rfl
  · rw [la_up_s]; rfl
  · rw [n13 _ (by omega) (by omega) (by omega)]; exact b3
  · rw [la_up_n (by omega), la_up_n (by omega), la_up_k (by decide), la_up_k (by decide)]
  · rw [la_up_n (by omega), la_up_k hK, la_up_n (by omega), la_up_n (by omega)]
  · rw [la_up_k hK, la_up_n (by omega), la_up_n (by omega), la_up_n (by omega)]
  · rw [n13 _ (by omega) (by omega) (by omega)]
