/-! PURE: changes as (kind, place, origin); what fitting does to lengths and to the places' being valid; the grid of one client -/
abbrev ot_T : Type := Nat × Nat × Nat
def ot_fk (k p k' p' : Nat) : Nat := if k = 1 ∧ k' = 1 ∧ p' = p then 2 else k
def ot_fp (k p o k' p' o' : Nat) : Nat :=
  if k = 0 then
    (if k' = 0 then (if p' < p ∨ (p' = p ∧ o' < o) then p + 1 else p)
     else if k' = 1 then (if p' < p then p - 1 else p) else p)
  else if k = 1 then
    (if k' = 0 then (if p' ≤ p then p + 1 else p)
     else if k' = 1 then (if p' = p then 0 else if p' < p then p - 1 else p) else p)
  else p
def ot_fit (a b : ot_T) : ot_T := (ot_fk a.1 a.2.1 b.1 b.2.1, ot_fp a.1 a.2.1 a.2.2 b.1 b.2.1 b.2.2, a.2.2)
def ot_dl (a : ot_T) : Int := if a.1 = 0 then 1 else if a.1 = 1 then -1 else 0
def ot_ok (n : Int) (a : ot_T) : Prop := (a.1 = 0 → (a.2.1 : Int) ≤ n) ∧ (a.1 = 1 → (a.2.1 : Int) < n)
def ot_up {α : Type} (f : Nat → α) (k : Nat) (v : α) : Nat → α := fun j => if j = k then v else f j
theorem ot_up_s {α : Type} {f : Nat → α} {k : Nat} {v : α} : ot_up f k v k = v := if_pos rfl
theorem ot_up_n {α : Type} {f : Nat → α} {k j : Nat} {v : α} (h : j ≠ k) : ot_up f k v j = f j := if_neg h
theorem ot_ok_fit {n : Int} {a b : ot_T} (ha : ot_ok n a) (hb : ot_ok n b) : ot_ok (n + ot_dl b) (ot_fit a b) := by
  obtain ⟨k, p, o⟩ := a
  obtain ⟨k', p', o'⟩ := b
  obtain ⟨ha0, ha1⟩ := ha
  obtain ⟨hb0, hb1⟩ := hb
  dsimp only at ha0 ha1 hb0 hb1
  by_cases h0 : k = 0
  · subst h0
    have ha := ha0 rfl
    refine ⟨fun _ => ?_, fun h => ?_⟩
    · by_cases h0' : k' = 0
      · subst h0'
        simp only [ot_fit, ot_fp, ot_dl, if_true]
        split <;> omega
      · by_cases h1' : k' = 1
        · subst h1'
          have hb := hb1 rfl
          simp only [ot_fit, ot_fp, ot_dl, if_true, if_neg h0']
          split <;> omega
        · simp only [ot_fit, ot_fp, ot_dl, if_true, if_neg h0', if_neg h1']
          omega
    · simp [ot_fit, ot_fk] at h
  · by_cases h1 : k = 1
    · subst h1
      have ha := ha1 rfl
      refine ⟨fun h => ?_, fun h => ?_⟩
      · simp only [ot_fit, ot_fk] at h
        split at h <;> omega
      · simp only [ot_fit, ot_fk] at h
        by_cases h0' : k' = 0
        · subst h0'
          simp only [ot_fit, ot_fp, ot_dl, if_true, if_neg h0]
          split <;> omega
        · by_cases h1' : k' = 1
          · subst h1'
            have hb := hb1 rfl
            have hne : ¬ p' = p := by
              intro e
              simp [e] at h
            simp only [ot_fit, ot_fp, ot_dl, if_true, if_neg h0, if_neg hne]
            split <;> omega
          · simp only [ot_fit, ot_fp, ot_dl, if_true, if_neg h0, if_neg h0', if_neg h1']
            omega
    · have e : ot_fk k p k' p' = k := if_neg (fun q => h1 q.1)
      refine ⟨fun h => absurd (e.symm.trans h) h0, fun h => absurd (e.symm.trans h) h1⟩
theorem ot_dl_fit (a b : ot_T) : ot_dl a + ot_dl (ot_fit b a) = ot_dl b + ot_dl (ot_fit a b) := by
  obtain ⟨k, p, o⟩ := a
  obtain ⟨k', p', o'⟩ := b
  by_cases hc : k = 1 ∧ k' = 1 ∧ p' = p
  · have hc' : k' = 1 ∧ k = 1 ∧ p = p' := ⟨hc.2.1, hc.1, hc.2.2.symm⟩
    simp only [ot_dl, ot_fit, ot_fk, if_pos hc, if_pos hc']
    obtain ⟨h1, h2, -⟩ := hc
    subst h1; subst h2
    rfl
  · have hc' : ¬ (k' = 1 ∧ k = 1 ∧ p = p') := fun q => hc ⟨q.2.1, q.1, q.2.2.symm⟩
    simp only [ot_dl, ot_fit, ot_fk, if_neg hc, if_neg hc']
    omega
theorem ot_kind_fit (a b : ot_T) : (ot_fit a b).1 = 0 ↔ a.1 = 0 := by
  simp only [ot_fit, ot_fk]
  split
  · rename_i h
    omega
  · exact Iff.rfl
theorem ot_dl_le (a : ot_T) : ot_dl a ≤ 1 := by
  unfold ot_dl
  split
  · omega
  · split <;> omega
theorem ot_dl_np {a : ot_T} (h : a.1 ≠ 0) : ot_dl a ≤ 0 := by
  unfold ot_dl
  rw [if_neg h]
  split <;> omega
/-! the grid -/
def ot_cons (h g : Nat → Nat) (i j : Nat) : Prop := (∀ q, q < i → h q ≤ j) ∧ (∀ q, q < j → g q ≤ i)
def ot_grid (a y : Nat) (u : Nat → ot_T) (h : Nat → Nat) (d : Nat → ot_T) (g : Nat → Nat) (C S : Nat → Nat → ot_T) (ln : Nat → Nat → Int) : Prop :=
  (∀ i, i < a → C i (h i) = u i) ∧ (∀ j, j < y → S (g j) j = d j) ∧
  (∀ i j, i < a → j < y → h i ≤ j → g j ≤ i → C i (j + 1) = ot_fit (C i j) (S i j) ∧ S (i + 1) j = ot_fit (S i j) (C i j)) ∧
  (∀ i j, i < a → j ≤ y → h i ≤ j → ot_cons h g i j → ot_ok (ln i j) (C i j) ∧ ln (i + 1) j = ln i j + ot_dl (C i j)) ∧
  (∀ i j, i ≤ a → j < y → g j ≤ i → ot_cons h g i j → ot_ok (ln i j) (S i j) ∧ ln i (j + 1) = ln i j + ot_dl (S i j))
theorem ot_grid.swap {a y : Nat} {u : Nat → ot_T} {h : Nat → Nat} {d : Nat → ot_T} {g : Nat → Nat} {C S : Nat → Nat → ot_T} {ln : Nat → Nat → Int} (G : ot_grid a y u h d g C S ln) :
    ot_grid y a d g u h (fun j i => S i j) (fun j i => C i j) (fun j i => ln i j) := by
  obtain ⟨E1, E2, E3, E4, E5⟩ := G
  exact ⟨E2, E1, fun j i hj hi hg hh => ⟨(E3 i j hi hj hh hg).2, (E3 i j hi hj hh hg).1⟩, fun j i hj hi hg hc => E5 i j hi hj hg ⟨hc.2, hc.1⟩, fun j i hj hi hh hc => E4 i j hi hj hh ⟨hc.2, hc.1⟩⟩
def ot_cf (S : Nat → ot_T) (v : ot_T) (b : Nat) : Nat → ot_T
  | 0 => v
  | t + 1 => ot_fit (ot_cf S v b t) (S (b + t))
theorem ot_grid.more {a y : Nat} {u : Nat → ot_T} {h : Nat → Nat} {d : Nat → ot_T} {g : Nat → Nat} {C S : Nat → Nat → ot_T} {ln : Nat → Nat → Int} (G : ot_grid a y u h d g C S ln)
    {b : Nat} {v : ot_T} (hb : b ≤ y) (hh : ∀ i, i < a → h i ≤ b) (hg : ∀ j, j < y → g j ≤ a) (hv : ot_ok (ln a b) v) :
    ∃ (C' S' : Nat → Nat → ot_T) (ln' : Nat → Nat → Int), ot_grid (a + 1) y (ot_up u a v) (ot_up h a b) d g C' S' ln' ∧ (∀ i j, i < a → C' i j = C i j) ∧ (∀ i j, i ≤ a → S' i j = S i j) ∧ (∀ i j, i ≤ a → ln' i j = ln i j) ∧ C' a b = v ∧ ln' (a + 1) b = ln a b + ot_dl v := by
  obtain ⟨E1, E2, E3, E4, E5⟩ := G
  have hc0 : ∀ j, b ≤ j → j ≤ y → ot_cons h g a j := fun j h1 h2 => ⟨fun q hq => Nat.le_trans (hh q hq) h1, fun q hq => hg q (Nat.lt_of_lt_of_le hq h2)⟩
  have hok : ∀ t, b + t ≤ y → ot_ok (ln a (b + t)) (ot_cf (S a) v b t) := by
    intro t
    induction t with
    | zero => intro _; exact hv
    | succ t ih =>
      intro ht
      have h1 := ih (by omega)
      obtain ⟨h2, h3⟩ := E5 a (b + t) (Nat.le_refl _) (by omega) (hg _ (by omega)) (hc0 _ (by omega) (by omega))
      have h4 := ot_ok_fit h1 h2
      rw [← h3] at h4
      exact h4
  have hokj : ∀ j, b ≤ j → j ≤ y → ot_ok (ln a j) (ot_cf (S a) v b (j - b)) := by
    intro j h1 h2
    have h3 := hok (j - b) (by omega)
    rw [show b + (j - b) = j by omega] at h3
    exact h3
  have hst : ∀ j, b ≤ j → ot_cf (S a) v b (j + 1 - b) = ot_fit (ot_cf (S a) v b (j - b)) (S a j) := by
    intro j h1
    rw [show j + 1 - b = (j - b) + 1 by omega]
    show ot_fit _ (S a (b + (j - b))) = _
    rw [show b + (j - b) = j by omega]
  have na : ∀ i, i < a → ¬ i = a := fun i hi => Nat.ne_of_lt hi
  have na1 : ∀ i, i ≤ a → ¬ i = a + 1 := fun i hi => by omega
  have hcc : ∀ i j, i ≤ a → ot_cons (ot_up h a b) g i j → ot_cons h g i j := fun i j hi hc => ⟨fun q hq => by
    have h1 := hc.1 q hq
    rw [ot_up_n (by omega)] at h1
    exact h1, hc.2⟩
  refine ⟨fun i j => if i = a then ot_cf (S a) v b (j - b) else C i j, fun i j => if i = a + 1 then ot_fit (S a j) (ot_cf (S a) v b (j - b)) else S i j, fun i j => if i = a + 1 then ln a j + ot_dl (ot_cf (S a) v b (j - b)) else ln i j, ⟨?_, ?_, ?_, ?_, ?_⟩, ?_, ?_, ?_, ?_, ?_⟩
  · intro i hi
    dsimp only
    by_cases hia : i = a
    · subst hia
      rw [if_pos rfl, ot_up_s, ot_up_s, Nat.sub_self]
      rfl
    · rw [if_neg hia, ot_up_n hia, ot_up_n hia]
      exact E1 i (by omega)
  · intro j hj
    dsimp only
    rw [if_neg (na1 _ (hg j hj))]
    exact E2 j hj
  · intro i j hi hj h1 h2
    dsimp only
    by_cases hia : i = a
    · subst hia
      rw [ot_up_s] at h1
      rw [if_pos rfl, if_pos rfl, if_neg (by omega), if_pos rfl]
      exact ⟨hst j h1, rfl⟩
    · rw [ot_up_n hia] at h1
      rw [if_neg hia, if_neg hia, if_neg (by omega), if_neg (by omega)]
      exact E3 i j (by omega) hj h1 h2
  · intro i j hi hj h1 hc
    dsimp only
    by_cases hia : i = a
    · subst hia
      rw [ot_up_s] at h1
      rw [if_pos rfl, if_neg (by omega), if_pos rfl]
      exact ⟨hokj j h1 hj, rfl⟩
    · rw [ot_up_n hia] at h1
      rw [if_neg hia, if_neg (by omega), if_neg (by omega)]
      exact E4 i j (by omega) hj h1 (hcc i j (by omega) hc)
  · intro i j hi hj h1 hc
    dsimp only
    by_cases hia : i = a + 1
    · subst hia
      have hbj : b ≤ j := by
        have h3 := hc.1 a (by omega)
        rw [ot_up_s] at h3
        exact h3
      obtain ⟨h4, h5⟩ := E5 a j (Nat.le_refl _) hj (hg j hj) (hc0 j hbj (by omega))
      rw [if_pos rfl, if_pos rfl, if_pos rfl]
      refine ⟨ot_ok_fit h4 (hokj j hbj (by omega)), ?_⟩
      rw [hst j hbj, h5]
      have h6 := ot_dl_fit (ot_cf (S a) v b (j - b)) (S a j)
      omega
    · rw [if_neg hia, if_neg hia, if_neg hia]
      exact E5 i j (by omega) hj h1 (hcc i j (by omega) hc)
  · intro i j hi
    exact if_neg (na i hi)
  · intro i j hi
    exact if_neg (na1 i hi)
  · intro i j hi
    exact if_neg (na1 i hi)
  · dsimp only
    rw [if_pos rfl, Nat.sub_self]
    rfl
  · dsimp only
    rw [if_pos rfl, Nat.sub_self]
    rfl
theorem ot_grid.moreD {a y : Nat} {u : Nat → ot_T} {h : Nat → Nat} {d : Nat → ot_T} {g : Nat → Nat} {C S : Nat → Nat → ot_T} {ln : Nat → Nat → Int} (G : ot_grid a y u h d g C S ln)
    {x : Nat} {v : ot_T} (hx : x ≤ a) (hg : ∀ j, j < y → g j ≤ x) (hh : ∀ i, i < a → h i ≤ y) (hv : ot_ok (ln x y) v) :
    ∃ (C' S' : Nat → Nat → ot_T) (ln' : Nat → Nat → Int), ot_grid a (y + 1) u h (ot_up d y v) (ot_up g y x) C' S' ln' ∧ (∀ i j, j < y → S' i j = S i j) ∧ (∀ i j, j ≤ y → C' i j = C i j) ∧ (∀ i j, j ≤ y → ln' i j = ln i j) ∧ S' x y = v ∧ ln' x (y + 1) = ln x y + ot_dl v := by
  obtain ⟨C1, S1, l1, G1, e1, e2, e3, e4, e5⟩ := G.swap.more (b := x) (v := v) hx hg hh hv
  exact ⟨fun i j => S1 j i, fun i j => C1 j i, fun i j => l1 j i, G1.swap, fun i j hj => e1 j i hj, fun i j hj => e2 j i hj, fun i j hj => e3 j i hj, e4, e5⟩
theorem ot_grid.kind {a y : Nat} {u : Nat → ot_T} {h : Nat → Nat} {d : Nat → ot_T} {g : Nat → Nat} {C S : Nat → Nat → ot_T} {ln : Nat → Nat → Int} (G : ot_grid a y u h d g C S ln)
    {i : Nat} (hi : i < a) : ∀ t, (∀ j, h i ≤ j → j < h i + t → j < y ∧ g j ≤ i) → ((C i (h i + t)).1 = 0 ↔ (u i).1 = 0) := by
  intro t
  induction t with
  | zero =>
    intro _
    rw [Nat.add_zero, G.1 i hi]
  | succ t ih =>
    intro hj
    obtain ⟨h1, h2⟩ := hj (h i + t) (by omega) (by omega)
    rw [← Nat.add_assoc, (G.2.2.1 i (h i + t) hi h1 (by omega) h2).1, ot_kind_fit]
    exact ih (fun j h3 h4 => hj j h3 (by omega))
theorem ot_grid.growS {a y : Nat} {u : Nat → ot_T} {h : Nat → Nat} {d : Nat → ot_T} {g : Nat → Nat} {C S : Nat → Nat → ot_T} {ln : Nat → Nat → Int} (G : ot_grid a y u h d g C S ln)
    {i j : Nat} (hi : i ≤ a) (h0 : ∀ q, q < i → h q ≤ j) : ∀ t, (∀ q, q < j + t → g q ≤ i) → j + t ≤ y → ln i (j + t) ≤ ln i j + t := by
  intro t
  induction t with
  | zero =>
    intro _ _
    simp
  | succ t ih =>
    intro hg hy
    have h1 := ih (fun q hq => hg q (by omega)) (by omega)
    have h2 := (G.2.2.2.2 i (j + t) hi (by omega) (hg _ (by omega)) ⟨fun q hq => Nat.le_trans (h0 q hq) (by omega), fun q hq => hg q (by omega)⟩).2
    have h3 := ot_dl_le (S i (j + t))
    rw [← Nat.add_assoc, h2]
    omega
