/-! PURE: texts in the class's memory, in the reference's, and as letters by place -/
def tn (kd n : Nat) : Nat := if kd = 0 then n + 1 else if kd = 1 then n - 1 else n
def td (kd q c : Nat) (tx : Nat → Nat) : Nat → Nat := if kd = 0 then (fun i => if i < q then tx i else if i = q then c else tx (i - 1)) else if kd = 1 then (fun i => if i < q then tx i else tx (i + 1)) else tx
def TC (mu : la_M) (a n : Nat) (tx : Nat → Nat) : Prop := mu a 1 = nI n ∧ (∀ i, i < n → mu (a + 1) i = nI (tx i)) ∧ ∀ i, chz (mu (a + 1) i)
def TM (mu : la_M) (m0 s n : Nat) (tx : Nat → Nat) : Prop := mu (m0 + 1) s = nI n ∧ ∀ i, i < n → mu (m0 + 2) (200 * s + i) = nI (tx i)
theorem TC.cong {mu mu' : la_M} {a n : Nat} {tx : Nat → Nat} (h : TC mu a n tx) (h0 : mu' a = mu a) (h1 : mu' (a + 1) = mu (a + 1)) : TC mu' a n tx := by
  unfold TC
  rw [h0, h1]
  exact h
theorem TM.cong {mu mu' : la_M} {m0 s n : Nat} {tx : Nat → Nat} (h : TM mu m0 s n tx) (h0 : mu' (m0 + 1) = mu (m0 + 1)) (h1 : mu' (m0 + 2) = mu (m0 + 2)) : TM mu' m0 s n tx := by
  unfold TM
  rw [h0, h1]
  exact h
theorem td_lt {kd q c n : Nat} {tx : Nat → Nat} (hk0 : kd = 0 → q ≤ n) (hc : kd = 0 → c < 65536) (h : ∀ i, i < n → tx i < 65536) : ∀ i, i < tn kd n → td kd q c tx i < 65536 := by
  intro i hi
  unfold tn at hi
  unfold td
  by_cases h0 : kd = 0
  · rw [if_pos h0] at hi ⊢
    have := hk0 h0
    have := hc h0
    show (if i < q then tx i else if i = q then c else tx (i - 1)) < 65536
    by_cases h1 : i < q
    · rw [if_pos h1]
      exact h i (by omega)
    · rw [if_neg h1]
      by_cases h2 : i = q
      · rw [if_pos h2]
        omega
      · rw [if_neg h2]
        exact h (i - 1) (by omega)
  · rw [if_neg h0] at hi ⊢
    by_cases h1 : kd = 1
    · rw [if_pos h1] at hi ⊢
      show (if i < q then tx i else tx (i + 1)) < 65536
      split
      · exact h i (by omega)
      · exact h (i + 1) (by omega)
    · rw [if_neg h1] at hi ⊢
      exact h i hi
theorem TC_do {mu : la_M} {a n kd q c : Nat} {tx : Nat → Nat} {x : Int32} (h : TC mu a n tx) (h0 : kd = 0 → q ≤ n) (h1 : kd = 1 → q < n) (hx : kd = 0 → x = nI c) (hz : chz x) : TC (tx_do mu a kd q n x) a (tn kd n) (td kd q c tx) := by
  obtain ⟨t1, t2, t3⟩ := h
  unfold tx_do tn td
  by_cases k0 : kd = 0
  · rw [if_pos k0, if_pos k0, if_pos k0]
    have hq := h0 k0
    unfold tx_put
    have e : ∀ i, la_up (la_up (la_set mu (a + 1) (va_cpy (mu (a + 1)) (mu (a + 1)) q (q + 1) (n - q))) (a + 1) q x) a 1 (nI (n + 1)) (a + 1) i = if i = q then x else va_cpy (mu (a + 1)) (mu (a + 1)) q (q + 1) (n - q) i := by
      intro i
      rw [la_up_n (by omega), la_up_at, la_set_s]
      rfl
    refine ⟨la_up_s, fun i hi => ?_, fun i => ?_⟩
    · rw [e]
      show _ = nI (if i < q then tx i else if i = q then c else tx (i - 1))
      by_cases c1 : i < q
      · rw [if_neg (by omega), if_pos c1, pk_cpy_out (by omega)]
        exact t2 i (by omega)
      · rw [if_neg c1]
        by_cases c2 : i = q
        · rw [if_pos c2, if_pos c2]
          exact hx k0
        · rw [if_neg c2, if_neg c2, pk_cpy_in (by omega) (by omega), show q + (i - (q + 1)) = i - 1 by omega]
          exact t2 (i - 1) (by omega)
    · rw [e]
      split
      · exact hz
      · by_cases c1 : q + 1 ≤ i ∧ i < q + 1 + (n - q)
        · rw [pk_cpy_in c1.1 c1.2]
          exact t3 _
        · rw [pk_cpy_out (by omega)]
          exact t3 _
  · rw [if_neg k0, if_neg k0, if_neg k0]
    by_cases k1 : kd = 1
    · rw [if_pos k1, if_pos k1, if_pos k1]
      have hq := h1 k1
      unfold tx_rem
      have e : ∀ i, la_up (la_set mu (a + 1) (va_cpy (mu (a + 1)) (mu (a + 1)) (q + 1) q (n - q - 1))) a 1 (nI (n - 1)) (a + 1) i = va_cpy (mu (a + 1)) (mu (a + 1)) (q + 1) q (n - q - 1) i := by
        intro i
        rw [la_up_n (by omega), la_set_s]
      refine ⟨la_up_s, fun i hi => ?_, fun i => ?_⟩
      · rw [e]
        show _ = nI (if i < q then tx i else tx (i + 1))
        by_cases c1 : i < q
        · rw [if_pos c1, pk_cpy_out (by omega)]
          exact t2 i (by omega)
        · rw [if_neg c1, pk_cpy_in (by omega) (by omega), show q + 1 + (i - q) = i + 1 by omega]
          exact t2 (i + 1) (by omega)
      · rw [e]
        by_cases c1 : q ≤ i ∧ i < q + (n - q - 1)
        · rw [pk_cpy_in c1.1 c1.2]
          exact t3 _
        · rw [pk_cpy_out (by omega)]
          exact t3 _
    · rw [if_neg k1, if_neg k1, if_neg k1]
      exact ⟨t1, t2, t3⟩
/-- the reference's apply -/
theorem TM_app {mu : la_M} {m0 j n kd q c : Nat} {nn : Nat → Nat} {tx : Nat → Nat → Nat} (h : ∀ s, s < 4 → TM mu m0 s (nn s) (tx s)) (hz : ∀ i, chz (mu (m0 + 2) i)) (h64 : ∀ s, s < 4 → nn s ≤ 64) (hj : j < 4) (hn : nn j = n) (h0 : kd = 0 → q ≤ n) (h1 : kd = 1 → q < n) (hc : chz (nI c)) :
    (∀ s, s < 4 → TM (md_app mu m0 j kd q n c) m0 s (ot_up nn j (tn kd n) s) (ot_up tx j (td kd q c (tx j)) s)) ∧ ∀ i, chz (md_app mu m0 j kd q n c (m0 + 2) i) := by
  subst hn
  have h6 := h64 j hj
  obtain ⟨t1, t2⟩ := h j hj
  unfold md_app
  by_cases k0 : kd = 0
  · rw [if_pos k0]
    have hq := h0 k0
    have e : ∀ i, la_up (la_up (la_set mu (m0 + 2) (va_cpy (mu (m0 + 2)) (mu (m0 + 2)) (200 * j + q) (200 * j + q + 1) (nn j - q))) (m0 + 2) (200 * j + q) (nI c)) (m0 + 1) j (nI (nn j + 1)) (m0 + 2) i = if i = 200 * j + q then nI c else va_cpy (mu (m0 + 2)) (mu (m0 + 2)) (200 * j + q) (200 * j + q + 1) (nn j - q) i := by
      intro i
      rw [la_up_n (by omega), la_up_at, la_set_s]
      rfl
    refine ⟨fun s hs => ⟨?_, fun i hi => ?_⟩, fun i => ?_⟩
    · by_cases hsj : s = j
      · subst hsj
        rw [la_up_s, ot_up_s]
        unfold tn
        rw [if_pos k0]
      · rw [la_up_k hsj, la_up_n (by omega), la_set_n (by omega), ot_up_n hsj]
        exact (h s hs).1
    · rw [e]
      by_cases hsj : s = j
      · subst hsj
        rw [ot_up_s] at hi ⊢
        unfold tn at hi
        rw [if_pos k0] at hi
        unfold td
        rw [if_pos k0]
        show _ = nI (if i < q then tx s i else if i = q then c else tx s (i - 1))
        by_cases c1 : i < q
        · rw [if_neg (by omega), if_pos c1, pk_cpy_out (by omega)]
          exact t2 i (by omega)
        · rw [if_neg c1]
          by_cases c2 : i = q
          · rw [if_pos (by omega), if_pos c2]
          · rw [if_neg (by omega), if_neg c2, pk_cpy_in (by omega) (by omega), show 200 * s + q + (200 * s + i - (200 * s + q + 1)) = 200 * s + (i - 1) by omega]
            exact t2 (i - 1) (by omega)
      · rw [ot_up_n hsj] at hi ⊢
        have := h64 s hs
        rw [if_neg (by omega), pk_cpy_out (by omega)]
        exact (h s hs).2 i hi
    · rw [e]
      split
      · exact hc
      · by_cases c1 : 200 * j + q + 1 ≤ i ∧ i < 200 * j + q + 1 + (nn j - q)
        · rw [pk_cpy_in c1.1 c1.2]
          exact hz _
        · rw [pk_cpy_out (by omega)]
          exact hz _
  · rw [if_neg k0]
    by_cases k1 : kd = 1
    · rw [if_pos k1]
      have hq := h1 k1
      have e : ∀ i, la_set (la_up mu (m0 + 1) j (nI (nn j - 1))) (m0 + 2) (va_cpy (mu (m0 + 2)) (mu (m0 + 2)) (200 * j + q + 1) (200 * j + q) (nn j - 1 - q)) (m0 + 2) i = va_cpy (mu (m0 + 2)) (mu (m0 + 2)) (200 * j + q + 1) (200 * j + q) (nn j - 1 - q) i := by
        intro i
        rw [la_set_s]
      refine ⟨fun s hs => ⟨?_, fun i hi => ?_⟩, fun i => ?_⟩
      · by_cases hsj : s = j
        · subst hsj
          rw [la_set_n (by omega), la_up_s, ot_up_s]
          unfold tn
          rw [if_neg k0, if_pos k1]
        · rw [la_set_n (by omega), la_up_k hsj, ot_up_n hsj]
          exact (h s hs).1
      · rw [e]
        by_cases hsj : s = j
        · subst hsj
          rw [ot_up_s] at hi ⊢
          unfold tn at hi
          rw [if_neg k0, if_pos k1] at hi
          unfold td
          rw [if_neg k0, if_pos k1]
          show _ = nI (if i < q then tx s i else tx s (i + 1))
          by_cases c1 : i < q
          · rw [if_pos c1, pk_cpy_out (by omega)]
            exact t2 i (by omega)
          · rw [if_neg c1, pk_cpy_in (by omega) (by omega), show 200 * s + q + 1 + (200 * s + i - (200 * s + q)) = 200 * s + (i + 1) by omega]
            exact t2 (i + 1) (by omega)
        · rw [ot_up_n hsj] at hi ⊢
          have := h64 s hs
          rw [pk_cpy_out (by omega)]
          exact (h s hs).2 i hi
      · rw [e]
        by_cases c1 : 200 * j + q ≤ i ∧ i < 200 * j + q + (nn j - 1 - q)
        · rw [pk_cpy_in c1.1 c1.2]
          exact hz _
        · rw [pk_cpy_out (by omega)]
          exact hz _
    · rw [if_neg k1]
      refine ⟨fun s hs => ?_, hz⟩
      have ht : tn kd (nn j) = nn j := by
        unfold tn
        rw [if_neg k0, if_neg k1]
      have hd : td kd q c (tx j) = tx j := by
        unfold td
        rw [if_neg k0, if_neg k1]
      rw [ht, hd]
      by_cases hsj : s = j
      · subst hsj
        rw [ot_up_s, ot_up_s]
        exact h s hs
      · rw [ot_up_n hsj, ot_up_n hsj]
        exact h s hs
