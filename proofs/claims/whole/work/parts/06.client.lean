/-! PURE: what holds between the server and ONE client. a: sent up, x: got up, y: sent down, b: got down, kU, kD: known up, down; mu, hu / md, hd: the messages by number; ou, od: the open changes by number; nC, nS: the letters of the client's and of the server's text -/
def ot_cli (a x y b kU kD : Nat) (mu : Nat → ot_T) (hu : Nat → Nat) (md : Nat → ot_T) (hd : Nat → Nat) (ou od : Nat → ot_T) (nC nS : Int) : Prop :=
  ∃ (u : Nat → ot_T) (h : Nat → Nat) (d : Nat → ot_T) (g : Nat → Nat) (C S : Nat → Nat → ot_T) (ln : Nat → Nat → Int), ot_grid a y u h d g C S ln ∧
    (x ≤ a ∧ b ≤ y ∧ kU ≤ x ∧ kD ≤ b ∧ y ≤ kD + 24 ∧ a ≤ kU + 16) ∧
    (∀ i, x ≤ i → i < a → mu i = u i ∧ hu i = h i) ∧ (∀ j, b ≤ j → j < y → md j = d j ∧ hd j = g j) ∧
    (∀ i, kU ≤ i → i < a → ou i = C i b) ∧ (∀ j, kD ≤ j → j < y → od j = S x j) ∧
    (ln a b = nC ∧ ln x y = nS ∧ nC ≤ 64 ∧ nS ≤ 64) ∧
    (∀ i, i < a → h i ≤ b) ∧ (∀ j, j < y → g j ≤ x) ∧
    (∀ i, x ≤ i → i < a → kD ≤ h i) ∧ (∀ j, b ≤ j → j < y → kU ≤ g j) ∧
    (∀ i i', i ≤ i' → i' < a → h i ≤ h i') ∧ (∀ j j', j ≤ j' → j' < y → g j ≤ g j') ∧
    (∀ i, i < a → (u i).1 = 0 → ln (i + 1) (h i) ≤ 40) ∧
    (∀ j, b ≤ j → j < y → ln (g j) (j + 1) ≤ 64 ∧ ∀ i, g j ≤ i → i < a → j + 1 ≤ 24 + h i)
theorem ot_cli_0 {mu md ou od : Nat → ot_T} {hu hd : Nat → Nat} : ot_cli 0 0 0 0 0 0 mu hu md hd ou od 0 0 := by
  refine ⟨mu, hu, md, hd, fun i _ => mu i, fun _ j => md j, fun _ _ => 0, ⟨?_, ?_, ?_, ?_, ?_⟩, ⟨by omega, by omega, by omega, by omega, by omega, by omega⟩, ?_, ?_, ?_, ?_, ⟨rfl, rfl, by omega, by omega⟩, ?_, ?_, ?_, ?_, ?_, ?_, ?_, ?_⟩
  all_goals (intros; omega)
/-- a client makes a change -/
theorem ot_cli.make {a x y b kU kD : Nat} {mu md ou od : Nat → ot_T} {hu hd : Nat → Nat} {nC nS : Int} (I : ot_cli a x y b kU kD mu hu md hd ou od nC nS) {v : ot_T}
    (hv : ot_ok nC v) (h16 : a < kU + 16) (h40 : v.1 = 0 → nC < 40) :
    ot_cli (a + 1) x y b kU kD (ot_up mu a v) (ot_up hu a b) md hd (ot_up ou a v) od (nC + ot_dl v) nS := by
  obtain ⟨u, h, d, g, C, S, ln, G, ⟨p1, p2, p3, p4, p5, p6⟩, q1, q2, q3, q4, ⟨r1, r2, r3, r4⟩, s1, s2, s3, s4, s5, s6, s7, s8⟩ := I
  obtain ⟨C', S', ln', G', e1, e2, e3, e4, e5⟩ := G.more (b := b) (v := v) p2 s1 (fun j hj => Nat.le_trans (s2 j hj) p1) (by rw [r1]; exact hv)
  have h64 : nC + ot_dl v ≤ 64 := by
    by_cases h0 : v.1 = 0
    · have := h40 h0
      have := ot_dl_le v
      omega
    · have := ot_dl_np h0
      omega
  refine ⟨ot_up u a v, ot_up h a b, d, g, C', S', ln', G', ⟨by omega, p2, p3, p4, p5, by omega⟩, ?_, q2, ?_, ?_, ⟨by rw [e5, r1], by rw [e3 _ _ p1, r2], h64, r4⟩, ?_, s2, ?_, s4, ?_, s6, ?_, ?_⟩
  · intro i h1 h2
    by_cases hi : i = a
    · subst hi
      exact ⟨by rw [ot_up_s, ot_up_s], by rw [ot_up_s, ot_up_s]⟩
    · rw [ot_up_n hi, ot_up_n hi, ot_up_n hi, ot_up_n hi]
      exact q1 i h1 (by omega)
  · intro i h1 h2
    by_cases hi : i = a
    · subst hi
      rw [ot_up_s, e4]
    · rw [ot_up_n hi, e1 i b (by omega)]
      exact q3 i h1 (by omega)
  · intro j h1 h2
    rw [e2 x j p1]
    exact q4 j h1 h2
  · intro i h1
    by_cases hi : i = a
    · subst hi
      rw [ot_up_s]
      exact Nat.le_refl _
    · rw [ot_up_n hi]
      exact s1 i (by omega)
  · intro i h1 h2
    by_cases hi : i = a
    · subst hi
      rw [ot_up_s]
      exact p4
    · rw [ot_up_n hi]
      exact s3 i h1 (by omega)
  · intro i i' h1 h2
    by_cases hi : i' = a
    · subst hi
      rw [ot_up_s]
      by_cases hj : i = i'
      · subst hj
        rw [ot_up_s]
        exact Nat.le_refl _
      · rw [ot_up_n hj]
        exact s1 i (by omega)
    · rw [ot_up_n hi, ot_up_n (by omega)]
      exact s5 i i' h1 (by omega)
  · intro i h1 h2
    by_cases hi : i = a
    · subst hi
      rw [ot_up_s] at h2
      rw [ot_up_s, e5, r1]
      have := h40 h2
      have := ot_dl_le v
      omega
    · rw [ot_up_n hi] at h2
      rw [ot_up_n hi, e3 _ _ (by omega)]
      exact s7 i (by omega) h2
  · intro j h1 h2
    obtain ⟨h3, h4⟩ := s8 j h1 h2
    refine ⟨by rw [e3 _ _ (Nat.le_trans (s2 j h2) p1)]; exact h3, fun i h5 h6 => ?_⟩
    by_cases hi : i = a
    · subst hi
      rw [ot_up_s]
      omega
    · rw [ot_up_n hi]
      exact h4 i h5 (by omega)
/-- the server sends a change that it has just done: v, on its text of nS letters -/
theorem ot_cli.sent {a x y b kU kD : Nat} {mu md ou od : Nat → ot_T} {hu hd : Nat → Nat} {nC nS : Int} (I : ot_cli a x y b kU kD mu hu md hd ou od nC nS) {v : ot_T}
    (hv : ot_ok nS v) (h24 : y < kD + 24) (h64 : nS + ot_dl v ≤ 64) :
    ot_cli a x (y + 1) b kU kD mu hu (ot_up md y v) (ot_up hd y x) ou (ot_up od y v) nC (nS + ot_dl v) := by
  obtain ⟨u, h, d, g, C, S, ln, G, ⟨p1, p2, p3, p4, p5, p6⟩, q1, q2, q3, q4, ⟨r1, r2, r3, r4⟩, s1, s2, s3, s4, s5, s6, s7, s8⟩ := I
  obtain ⟨C', S', ln', G', e1, e2, e3, e4, e5⟩ := G.moreD (x := x) (v := v) p1 s2 (fun i hi => Nat.le_trans (s1 i hi) p2) (by rw [r2]; exact hv)
  refine ⟨u, h, ot_up d y v, ot_up g y x, C', S', ln', G', ⟨p1, by omega, p3, p4, by omega, p6⟩, q1, ?_, ?_, ?_, ⟨by rw [e3 _ _ p2, r1], by rw [e5, r2], r3, h64⟩, s1, ?_, s3, ?_, s5, ?_, ?_, ?_⟩
  · intro j h1 h2
    by_cases hj : j = y
    · subst hj
      exact ⟨by rw [ot_up_s, ot_up_s], by rw [ot_up_s, ot_up_s]⟩
    · rw [ot_up_n hj, ot_up_n hj, ot_up_n hj, ot_up_n hj]
      exact q2 j h1 (by omega)
  · intro i h1 h2
    rw [e2 i b p2]
    exact q3 i h1 h2
  · intro j h1 h2
    by_cases hj : j = y
    · subst hj
      rw [ot_up_s, e4]
    · rw [ot_up_n hj, e1 x j (by omega)]
      exact q4 j h1 (by omega)
  · intro j h1
    by_cases hj : j = y
    · subst hj
      rw [ot_up_s]
      exact Nat.le_refl _
    · rw [ot_up_n hj]
      exact s2 j (by omega)
  · intro j h1 h2
    by_cases hj : j = y
    · subst hj
      rw [ot_up_s]
      exact p3
    · rw [ot_up_n hj]
      exact s4 j h1 (by omega)
  · intro j j' h1 h2
    by_cases hj : j' = y
    · subst hj
      rw [ot_up_s]
      by_cases hi : j = j'
      · subst hi
        rw [ot_up_s]
        exact Nat.le_refl _
      · rw [ot_up_n hi]
        exact s2 j (by omega)
    · rw [ot_up_n hj, ot_up_n (by omega)]
      exact s6 j j' h1 (by omega)
  · intro i h1 h2
    rw [e3 _ _ (Nat.le_trans (s1 i h1) p2)]
    exact s7 i h1 h2
  · intro j h1 h2
    by_cases hj : j = y
    · subst hj
      rw [ot_up_s, e5, r2]
      refine ⟨h64, fun i h5 h6 => ?_⟩
      have := s3 i h5 h6
      omega
    · obtain ⟨h3, h4⟩ := s8 j h1 (by omega)
      rw [ot_up_n hj, e3 _ _ (by omega)]
      exact ⟨h3, h4⟩
/-- a message m fitted through n open changes from number k on -/
def ot_rm (m : ot_T) (o : Nat → ot_T) (k : Nat) : Nat → ot_T
  | 0 => m
  | t + 1 => ot_fit (ot_rm m o k t) (o (k + t))
/-- the open changes behind it -/
def ot_ro (m : ot_T) (o : Nat → ot_T) (k n : Nat) : Nat → ot_T := fun j => if k ≤ j ∧ j < n then ot_fit (o j) (ot_rm m o k (j - k)) else o j
/-- the server gets the client's oldest message -/
theorem ot_cli.serverGets {a x y b kU kD : Nat} {mu md ou od : Nat → ot_T} {hu hd : Nat → Nat} {nC nS : Int} (I : ot_cli a x y b kU kD mu hu md hd ou od nC nS) (hx : x < a) :
    ot_ok nS (ot_rm (mu x) od (max kD (hu x)) (y - max kD (hu x))) ∧ nS + ot_dl (ot_rm (mu x) od (max kD (hu x)) (y - max kD (hu x))) ≤ 64 ∧ max kD (hu x) ≤ y ∧ kD ≤ hu x ∧
      ot_cli a (x + 1) y b kU (max kD (hu x)) mu hu md hd ou (ot_ro (mu x) od (max kD (hu x)) y) nC (nS + ot_dl (ot_rm (mu x) od (max kD (hu x)) (y - max kD (hu x)))) := by
  obtain ⟨u, h, d, g, C, S, ln, G, ⟨p1, p2, p3, p4, p5, p6⟩, q1, q2, q3, q4, ⟨r1, r2, r3, r4⟩, s1, s2, s3, s4, s5, s6, s7, s8⟩ := I
  obtain ⟨m1, m2⟩ := q1 x (Nat.le_refl _) hx
  have k1 : kD ≤ h x := s3 x (Nat.le_refl _) hx
  have hk : max kD (hu x) = h x := by rw [m2]; omega
  have hb := s1 x hx
  rw [hk]
  have hrm : ∀ t, h x + t ≤ y → ot_rm (mu x) od (h x) t = C x (h x + t) := by
    intro t
    induction t with
    | zero =>
      intro _
      show mu x = _
      rw [m1, Nat.add_zero, G.1 x hx]
    | succ t ih =>
      intro ht
      show ot_fit (ot_rm (mu x) od (h x) t) (od (h x + t)) = _
      rw [ih (by omega), q4 _ (by omega) (by omega), ← Nat.add_assoc, (G.2.2.1 x (h x + t) hx (by omega) (by omega) (s2 _ (by omega))).1]
  have hm : ot_rm (mu x) od (h x) (y - h x) = C x y := by
    rw [hrm (y - h x) (by omega), show h x + (y - h x) = y by omega]
  rw [hm]
  have hcons : ot_cons h g x y := ⟨fun q hq => Nat.le_trans (s1 q (by omega)) p2, fun q hq => s2 q hq⟩
  obtain ⟨g1, g2⟩ := G.2.2.2.1 x y hx (Nat.le_refl _) (by omega) hcons
  rw [r2] at g1 g2
  have h64 : nS + ot_dl (C x y) ≤ 64 := by
    by_cases h0 : (C x y).1 = 0
    · have h1 := G.kind hx (y - h x) (fun j h1 h2 => ⟨by omega, s2 j (by omega)⟩)
      rw [show h x + (y - h x) = y by omega] at h1
      have h2 := s7 x hx (h1.mp h0)
      have h3 := G.growS (i := x + 1) (j := h x) (by omega) (fun q hq => s5 q x (by omega) hx) (y - h x) (fun q hq => Nat.le_trans (s2 q (by omega)) (by omega)) (by omega)
      rw [show h x + (y - h x) = y by omega] at h3
      omega
    · have := ot_dl_np h0
      omega
  refine ⟨g1, h64, by omega, by omega, ?_⟩
  refine ⟨u, h, d, g, C, S, ln, G, ⟨hx, p2, by omega, hb, by omega, p6⟩, fun i h1 h2 => q1 i (by omega) h2, q2, q3, ?_, ⟨r1, g2, r3, h64⟩, s1, fun j hj => Nat.le_trans (s2 j hj) (by omega), fun i h1 h2 => s5 x i (by omega) h2, s4, s5, s6, s7, s8⟩
  intro j h1 h2
  unfold ot_ro
  rw [if_pos ⟨h1, h2⟩, hrm (j - h x) (by omega), show h x + (j - h x) = j by omega, q4 j (by omega) h2, (G.2.2.1 x j hx h2 h1 (s2 j h2)).2]
/-- the client gets the server's oldest message -/
theorem ot_cli.clientGets {a x y b kU kD : Nat} {mu md ou od : Nat → ot_T} {hu hd : Nat → Nat} {nC nS : Int} (I : ot_cli a x y b kU kD mu hu md hd ou od nC nS) (hb : b < y) :
    ot_ok nC (ot_rm (md b) ou (max kU (hd b)) (a - max kU (hd b))) ∧ nC + ot_dl (ot_rm (md b) ou (max kU (hd b)) (a - max kU (hd b))) ≤ 64 ∧ max kU (hd b) ≤ a ∧ kU ≤ hd b ∧
      ot_cli a x y (b + 1) (max kU (hd b)) kD mu hu md hd (ot_ro (md b) ou (max kU (hd b)) a) od (nC + ot_dl (ot_rm (md b) ou (max kU (hd b)) (a - max kU (hd b)))) nS := by
  obtain ⟨u, h, d, g, C, S, ln, G, ⟨p1, p2, p3, p4, p5, p6⟩, q1, q2, q3, q4, ⟨r1, r2, r3, r4⟩, s1, s2, s3, s4, s5, s6, s7, s8⟩ := I
  obtain ⟨m1, m2⟩ := q2 b (Nat.le_refl _) hb
  have k1 : kU ≤ g b := s4 b (Nat.le_refl _) hb
  have hk : max kU (hd b) = g b := by rw [m2]; omega
  have hx := s2 b hb
  rw [hk]
  have hrm : ∀ t, g b + t ≤ a → ot_rm (md b) ou (g b) t = S (g b + t) b := by
    intro t
    induction t with
    | zero =>
      intro _
      show md b = _
      rw [m1, Nat.add_zero, G.2.1 b hb]
    | succ t ih =>
      intro ht
      show ot_fit (ot_rm (md b) ou (g b) t) (ou (g b + t)) = _
      rw [ih (by omega), q3 _ (by omega) (by omega), ← Nat.add_assoc, (G.2.2.1 (g b + t) b (by omega) hb (s1 _ (by omega)) (by omega)).2]
  have hm : ot_rm (md b) ou (g b) (a - g b) = S a b := by
    rw [hrm (a - g b) (by omega), show g b + (a - g b) = a by omega]
  rw [hm]
  have hcons : ot_cons h g a b := ⟨fun q hq => s1 q hq, fun q hq => Nat.le_trans (s2 q (by omega)) p1⟩
  obtain ⟨g1, g2⟩ := G.2.2.2.2 a b (Nat.le_refl _) hb (by omega) hcons
  rw [r1] at g1 g2
  obtain ⟨t1, t2⟩ := s8 b (Nat.le_refl _) hb
  have hall : ∀ t, g b + t ≤ a → ln (g b + t) (b + 1) ≤ 64 := by
    intro t
    induction t with
    | zero => intro _; exact t1
    | succ t ih =>
      intro ht
      have h1 := ih (by omega)
      have h2 := (G.2.2.2.1 (g b + t) (b + 1) (by omega) (by omega) (Nat.le_trans (s1 _ (by omega)) (by omega)) ⟨fun q hq => Nat.le_trans (s1 q (by omega)) (by omega), fun q hq => Nat.le_trans (s6 q b (by omega) hb) (by omega)⟩).2
      rw [← Nat.add_assoc]
      by_cases h0 : (C (g b + t) (b + 1)).1 = 0
      · have hhb := s1 (g b + t) (by omega)
        have h3 := G.kind (i := g b + t) (by omega) (b + 1 - h (g b + t)) (fun j h3 h4 => ⟨by omega, Nat.le_trans (s6 j b (by omega) hb) (by omega)⟩)
        rw [show h (g b + t) + (b + 1 - h (g b + t)) = b + 1 by omega] at h3
        have h4 := s7 (g b + t) (by omega) (h3.mp h0)
        have h5 := G.growS (i := g b + t + 1) (j := h (g b + t)) (by omega) (fun q hq => s5 q (g b + t) (by omega) (by omega)) (b + 1 - h (g b + t)) (fun q hq => Nat.le_trans (s6 q b (by omega) hb) (by omega)) (by omega)
        rw [show h (g b + t) + (b + 1 - h (g b + t)) = b + 1 by omega] at h5
        have h6 := t2 (g b + t) (by omega) (by omega)
        omega
      · have := ot_dl_np h0
        omega
  have h64 : nC + ot_dl (S a b) ≤ 64 := by
    have h1 := hall (a - g b) (by omega)
    rw [show g b + (a - g b) = a by omega, g2] at h1
    exact h1
  refine ⟨g1, h64, by omega, by omega, ?_⟩
  refine ⟨u, h, d, g, C, S, ln, G, ⟨p1, hb, hx, by omega, p5, by omega⟩, q1, fun j h1 h2 => q2 j (by omega) h2, ?_, q4, ⟨g2, r2, h64, r4⟩, fun i hi => Nat.le_trans (s1 i hi) (by omega), s2, s3, fun j h1 h2 => s6 b j (by omega) h2, s5, s6, s7, fun j h1 h2 => s8 j (by omega) h2⟩
  intro i h1 h2
  unfold ot_ro
  rw [if_pos ⟨h1, h2⟩, hrm (i - g b) (by omega), show g b + (i - g b) = i by omega, q3 i (by omega) h2, (G.2.2.1 i b h2 hb (s1 i h2) h1).1]
