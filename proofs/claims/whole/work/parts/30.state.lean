/-! PURE: the whole state, in the class's memory (RC), in the reference's (RM), and what holds of it (IV) -/
def rl (l : Nat) : Nat := 16 + 8 * (l % 2)
def wl (b l : Nat) : Nat := b + 12 + 88 * (l / 2) + 36 * (l % 2)
def RC (b : Nat) (mu : la_M) (sn gt kn : Nat → Nat) (ms : Nat → Nat → ot_T) (hs lt : Nat → Nat → Nat) (op : Nat → Nat → ot_T) (nn : Nat → Nat) (tx : Nat → Nat → Nat) : Prop :=
  (∀ l, l < 6 → RCl mu (wl b l) (rl l) (sn l) (gt l) (kn l) (ms l) (hs l) (lt l) (op l)) ∧ (∀ s, s < 4 → TC mu (b + 2 + 2 * s) (nn s) (tx s))
def RM (m0 : Nat) (mu : la_M) (sn gt kn : Nat → Nat) (ms : Nat → Nat → ot_T) (hs lt : Nat → Nat → Nat) (op : Nat → Nat → ot_T) (nn : Nat → Nat) (tx : Nat → Nat → Nat) : Prop :=
  (∀ l, l < 6 → RMl mu m0 l (sn l) (gt l) (kn l) (ms l) (hs l) (lt l) (op l)) ∧ (∀ s, s < 4 → TM mu m0 s (nn s) (tx s)) ∧ ∀ i, chz (mu (m0 + 2) i)
def bd (T : Nat) : Nat := 64 + 24 * T
def IVo (T : Nat) (sn gt kn : Nat → Nat) (ms : Nat → Nat → ot_T) (lt : Nat → Nat → Nat) (op : Nat → Nat → ot_T) : Prop := ∀ l, l < 6 → sn l ≤ T ∧ (∀ n, gt l ≤ n → n < sn l → okT (bd T) (ms l n) ∧ lt l n < 65536) ∧ (∀ n, kn l ≤ n → n < sn l → okT (bd T) (op l n))
def cli (sn gt kn : Nat → Nat) (ms : Nat → Nat → ot_T) (hs : Nat → Nat → Nat) (op : Nat → Nat → ot_T) (nn : Nat → Nat) (k : Nat) : Prop :=
  ot_cli (sn (2 * k)) (gt (2 * k)) (sn (2 * k + 1)) (gt (2 * k + 1)) (kn (2 * k)) (kn (2 * k + 1)) (ms (2 * k)) (hs (2 * k)) (ms (2 * k + 1)) (hs (2 * k + 1)) (op (2 * k)) (op (2 * k + 1)) (nn (k + 1)) (nn 0)
def IV (T : Nat) (sn gt kn : Nat → Nat) (ms : Nat → Nat → ot_T) (hs lt : Nat → Nat → Nat) (op : Nat → Nat → ot_T) (nn : Nat → Nat) (tx : Nat → Nat → Nat) : Prop :=
  (∀ k, k < 3 → cli sn gt kn ms hs op nn k) ∧ IVo T sn gt kn ms lt op ∧ (∀ s, s < 4 → ∀ i, i < nn s → tx s i < 65536)
section ST
variable {T b m0 : Nat} {mu : la_M} {sn gt kn : Nat → Nat} {ms : Nat → Nat → ot_T} {hs lt : Nat → Nat → Nat} {op : Nat → Nat → ot_T} {nn : Nat → Nat} {tx : Nat → Nat → Nat}
theorem rl_pos (l : Nat) : 0 < rl l := by unfold rl; omega
theorem rl_24 (l : Nat) : rl l ≤ 24 := by unfold rl; omega
theorem wl_b (b l : Nat) : b + 12 ≤ wl b l := by unfold wl; omega
theorem wl_apart {b l l' z : Nat} (hne : l ≠ l') (h1 : wl b l ≤ z) (h2 : z < wl b l + 4 + 2 * rl l) : z < wl b l' ∨ wl b l' + 4 + 2 * rl l' ≤ z := by
  unfold wl at h1 h2
  unfold rl at h2
  unfold wl rl
  rcases Nat.lt_trichotomy (l / 2) (l' / 2) with h | h | h
  · left
    omega
  · omega
  · right
    omega
theorem IV.win (I : IV T sn gt kn ms hs lt op nn tx) {l : Nat} (hl : l < 6) : gt l ≤ sn l ∧ kn l ≤ gt l ∧ sn l ≤ kn l + rl l := by
  obtain ⟨u, h, d, g, C, S, ln, G, ⟨p1, p2, p3, p4, p5, p6⟩, -⟩ := I.1 (l / 2) (by omega)
  unfold rl
  by_cases he : l % 2 = 0
  · rw [show 2 * (l / 2) = l by omega] at p1 p3 p6
    exact ⟨p1, p3, by omega⟩
  · rw [show 2 * (l / 2) + 1 = l by omega] at p2 p4 p5
    exact ⟨p2, p4, by omega⟩
theorem IV.len (I : IV T sn gt kn ms hs lt op nn tx) {s : Nat} (hs4 : s < 4) : nn s ≤ 64 := by
  by_cases h0 : s = 0
  · subst h0
    obtain ⟨u, h, d, g, C, S, ln, G, -, -, -, -, -, ⟨r1, r2, r3, r4⟩, -⟩ := I.1 0 (by omega)
    omega
  · obtain ⟨u, h, d, g, C, S, ln, G, -, -, -, -, -, ⟨r1, r2, r3, r4⟩, -⟩ := I.1 (s - 1) (by omega)
    rw [show s - 1 + 1 = s by omega] at r3
    omega
theorem tn_dl {v : ot_T} {n : Nat} (h : ot_ok n v) (hk : v.1 ≤ 2) : ((tn v.1 n : Nat) : Int) = n + ot_dl v := by
  unfold tn ot_dl
  by_cases h0 : v.1 = 0
  · rw [if_pos h0, if_pos h0]
    omega
  · rw [if_neg h0, if_neg h0]
    by_cases h1 : v.1 = 1
    · rw [if_pos h1, if_pos h1]
      have := h.2 h1
      omega
    · rw [if_neg h1, if_neg h1]
      omega
/-! the class: frames -/
theorem RC.congl {mu' : la_M} (h : RC b mu sn gt kn ms hs lt op nn tx) (e : ∀ z, b ≤ z → z < b + 276 → mu' z = mu z) : RC b mu' sn gt kn ms hs lt op nn tx := by
  refine ⟨fun l hl => (h.1 l hl).cong (rl_pos l) (fun z h1 h2 => e z ?_ ?_), fun s hs4 => (h.2 s hs4).cong (e _ (by omega) (by omega)) (e _ (by omega) (by omega))⟩
  · unfold wl at h1
    omega
  · unfold wl at h1 h2
    unfold rl at h2
    omega
/-- a client makes a change, in the class's memory -/
theorem RC.make (h : RC b mu sn gt kn ms hs lt op nn tx) {k kd q n c : Nat} {x : Int32} (hk : k < 3) (hn : nn (k + 1) = n) (h0 : kd = 0 → q ≤ n) (h1 : kd = 1 → q < n) (hx : kd = 0 → x = nI c) (hz : chz x) (hw : sn (2 * k) < kn (2 * k) + 16) (hg : kn (2 * k) ≤ gt (2 * k)) :
    RC b (er_make mu b k kd q n (sn (2 * k)) x) (ot_up sn (2 * k) (sn (2 * k) + 1)) gt kn (ot_up ms (2 * k) (ot_up (ms (2 * k)) (sn (2 * k)) (kd, q, k + 1))) (ot_up hs (2 * k) (ot_up (hs (2 * k)) (sn (2 * k)) (gt (2 * k + 1)))) (ot_up lt (2 * k) (ot_up (lt (2 * k)) (sn (2 * k)) c)) (ot_up op (2 * k) (ot_up (op (2 * k)) (sn (2 * k)) (kd, q, k + 1))) (ot_up nn (k + 1) (tn kd n)) (ot_up tx (k + 1) (td kd q c (tx (k + 1)))) := by
  subst hn
  have hA := Nat.mod_lt (sn (2 * k)) (show 0 < 16 by decide)
  have eW : wl b (2 * k) = b + 12 + 88 * k := by unfold wl; omega
  have eR : rl (2 * k) = 16 := by unfold rl; omega
  have e1 : ∀ z, z ≠ b + 276 → er_mk mu (b + 276) kd q x (k + 1) z = mu z := fun z hz => er_mk_n hz
  have H1 : RC b (er_mk mu (b + 276) kd q x (k + 1)) sn gt kn ms hs lt op nn tx := h.congl (fun z _ h2 => e1 z (by omega))
  have e2 : ∀ z, z ≠ b + 2 + 2 * (k + 1) → z ≠ b + 2 + 2 * (k + 1) + 1 → tx_do (er_mk mu (b + 276) kd q x (k + 1)) (b + 2 + 2 * (k + 1)) kd q (nn (k + 1)) x z = er_mk mu (b + 276) kd q x (k + 1) z := fun z a1 a2 => tx_do_n a1 a2
  have hd6 : mu (b + 48 + 88 * k) 6 = nI (gt (2 * k + 1)) := by
    have h9 := (h.1 (2 * k + 1) (by omega)).2.2.1
    rw [show wl b (2 * k + 1) = b + 48 + 88 * k by unfold wl; omega] at h9
    exact h9
  have hc0 : chR (tx_do (er_mk mu (b + 276) kd q x (k + 1)) (b + 2 + 2 * (k + 1)) kd q (nn (k + 1)) x) (b + 276) (kd, q, k + 1) := by
    unfold chR
    rw [e2 _ (by omega) (by omega)]
    unfold er_mk
    exact ⟨by rw [la_up_k (by decide), la_up_k (by decide), la_up_k (by decide), la_up_s], by rw [la_up_k (by decide), la_up_k (by decide), la_up_s], la_up_s⟩
  have hc2 : tx_do (er_mk mu (b + 276) kd q x (k + 1)) (b + 2 + 2 * (k + 1)) kd q (nn (k + 1)) x (b + 276) 2 = x := by
    rw [e2 _ (by omega) (by omega)]
    unfold er_mk
    rw [la_up_k (by decide), la_up_s]
  have eM : er_make mu b k kd q (nn (k + 1)) (sn (2 * k)) x = wy_send (tx_do (er_mk mu (b + 276) kd q x (k + 1)) (b + 2 + 2 * (k + 1)) kd q (nn (k + 1)) x) (b + 12 + 88 * k) 16 (b + 276) (sn (2 * k)) (nI (gt (2 * k + 1))) := by
    unfold er_make
    rw [hd6]
  rw [eM]
  have eS : ∀ z, z < b + 12 + 88 * k ∨ b + 12 + 88 * k + 36 ≤ z → wy_send (tx_do (er_mk mu (b + 276) kd q x (k + 1)) (b + 2 + 2 * (k + 1)) kd q (nn (k + 1)) x) (b + 12 + 88 * k) 16 (b + 276) (sn (2 * k)) (nI (gt (2 * k + 1))) z = tx_do (er_mk mu (b + 276) kd q x (k + 1)) (b + 2 + 2 * (k + 1)) kd q (nn (k + 1)) x z := fun z hz => wy_send_n (by omega) (by omega) (by omega) (by omega)
  refine ⟨fun l hl => ?_, fun s hs4 => ?_⟩
  · by_cases hlk : l = 2 * k
    · subst hlk
      rw [ot_up_s, ot_up_s, ot_up_s, ot_up_s, ot_up_s, eW, eR]
      have h9 := (H1.1 (2 * k) hl).cong (mu' := tx_do (er_mk mu (b + 276) kd q x (k + 1)) (b + 2 + 2 * (k + 1)) kd q (nn (k + 1)) x) (rl_pos _) (fun z a1 a2 => e2 z (by rw [eW] at a1; omega) (by rw [eW] at a1; omega))
      rw [eW, eR] at h9
      exact h9.send (by decide) (by omega) (by omega) hc0 (fun hv => by rw [hc2]; exact hx hv) (by rw [hc2]; exact hz) (by omega)
    · rw [ot_up_n hlk, ot_up_n hlk, ot_up_n hlk, ot_up_n hlk, ot_up_n hlk]
      refine (H1.1 l hl).cong (rl_pos l) (fun z a1 a2 => ?_)
      unfold wl at a1 a2
      unfold rl at a2
      rw [eS z (by omega), e2 z (by omega) (by omega)]
  · have hTC : TC (tx_do (er_mk mu (b + 276) kd q x (k + 1)) (b + 2 + 2 * (k + 1)) kd q (nn (k + 1)) x) (b + 2 + 2 * s) (ot_up nn (k + 1) (tn kd (nn (k + 1))) s) (ot_up tx (k + 1) (td kd q c (tx (k + 1))) s) := by
      by_cases hsk : s = k + 1
      · subst hsk
        rw [ot_up_s, ot_up_s]
        exact TC_do (H1.2 (k + 1) hs4) h0 h1 hx hz
      · rw [ot_up_n hsk, ot_up_n hsk]
        exact (H1.2 s hs4).cong (e2 _ (by omega) (by omega)) (e2 _ (by omega) (by omega))
    exact hTC.cong (eS _ (by omega)) (eS _ (by omega))
theorem RCl.congx {mu' : la_M} {w r s g k n0 : Nat} {ms op : Nat → ot_T} {hs lt : Nat → Nat} (h : RCl mu w r s g k ms hs lt op) (hr : 0 < r) (h0 : n0 < g) (h1 : s ≤ n0 + r) (e : ∀ z, w ≤ z → z < w + 4 + 2 * r → z ≠ w + 4 + 2 * (n0 % r) → mu' z = mu z) : RCl mu' w r s g k ms hs lt op := by
  obtain ⟨a1, a2, a3, a4, a5⟩ := h
  have hm0 := Nat.mod_lt n0 hr
  have e0 := e w (by omega) (by omega) (by omega)
  have e3 := e (w + 3) (by omega) (by omega) (by omega)
  refine ⟨by rw [e0]; exact a1, by rw [e0]; exact a2, by rw [e0]; exact a3, fun n p1 p2 => ?_, fun n p1 p2 => ?_⟩
  · have hm := Nat.mod_lt n hr
    have hne : n0 % r ≠ n % r := fun he => by
      have := mod_inj (n := n0) (n' := n) (by omega) (by omega) he
      omega
    obtain ⟨i1, i2, i3, i4⟩ := a4 n p1 p2
    have e4 := e (w + 4 + 2 * (n % r)) (by omega) (by omega) (by omega)
    exact ⟨i1.cong e4, by rw [e4]; exact i2, by rw [e4]; exact i3, by rw [e3]; exact i4⟩
  · have hm := Nat.mod_lt n hr
    exact (a5 n p1 p2).cong (e _ (by omega) (by omega) (by omega))
theorem bk_c (L : Nat) : (L % 2 = 0 ∧ bk L = L + 1) ∨ (L % 2 = 1 ∧ bk L = L - 1) := by
  unfold bk
  split
  · exact Or.inl ⟨by omega, rfl⟩
  · exact Or.inr ⟨by omega, rfl⟩
theorem ot_rm_kind {m : ot_T} {o : Nat → ot_T} {k : Nat} : ∀ t, (ot_rm m o k t).1 = 0 ↔ m.1 = 0 := by
  intro t
  induction t with
  | zero => exact Iff.rfl
  | succ t ih => exact (ot_kind_fit _ _).trans ih
/-- a message is got, in the class's memory -/
theorem RC.get (h : RC b mu sn gt kn ms hs lt op nn tx) {L Bk j kb B n : Nat} {v : ot_T} (hL : L < 6) (hBk : Bk = bk L) (hj : j < 4) (hn : nn j = n) (hg : gt L < sn L) (hkb : kb = max (kn Bk) (hs L (gt L))) (hks : kb ≤ sn Bk) (hv : v = ot_rm (ms L (gt L)) (op Bk) kb (sn Bk - kb)) (w1 : sn L ≤ gt L + rl L) (w2 : sn Bk ≤ kn Bk + rl Bk) (om : okT B (ms L (gt L))) (oo : ∀ n, kn Bk ≤ n → n < sn Bk → okT B (op Bk n)) (hB : B + 24 < 2 ^ 29) (h0 : v.1 = 0 → v.2.1 ≤ n) (h1 : v.1 = 1 → v.2.1 < n) :
    RC b (er_recv mu (b + 2 + 2 * j) (wl b L) (rl L) (wl b Bk) (rl Bk) (gt L) (hs L (gt L)) (sn Bk) (kn Bk) v.1 v.2.1 n) sn (ot_up gt L (gt L + 1)) (ot_up kn Bk kb) ms hs lt (ot_up op Bk (ot_ro (ms L (gt L)) (op Bk) kb (sn Bk))) (ot_up nn j (tn v.1 n)) (ot_up tx j (td v.1 v.2.1 (lt L (gt L)) (tx j))) ∧
    chR (er_recv mu (b + 2 + 2 * j) (wl b L) (rl L) (wl b Bk) (rl Bk) (gt L) (hs L (gt L)) (sn Bk) (kn Bk) v.1 v.2.1 n) (wl b L + 4 + 2 * (gt L % rl L)) v ∧ (v.1 = 0 → er_recv mu (b + 2 + 2 * j) (wl b L) (rl L) (wl b Bk) (rl Bk) (gt L) (hs L (gt L)) (sn Bk) (kn Bk) v.1 v.2.1 n (wl b L + 4 + 2 * (gt L % rl L)) 2 = nI (lt L (gt L))) ∧ chz (er_recv mu (b + 2 + 2 * j) (wl b L) (rl L) (wl b Bk) (rl Bk) (gt L) (hs L (gt L)) (sn Bk) (kn Bk) v.1 v.2.1 n (wl b L + 4 + 2 * (gt L % rl L)) 2) ∧
    chR (er_fit mu (wl b L) (rl L) (wl b Bk) (rl Bk) (gt L) (hs L (gt L)) (sn Bk) (kn Bk)) (wl b L + 4 + 2 * (gt L % rl L)) v ∧ chz (er_fit mu (wl b L) (rl L) (wl b Bk) (rl Bk) (gt L) (hs L (gt L)) (sn Bk) (kn Bk) (wl b L + 4 + 2 * (gt L % rl L)) 2) ∧ TC (er_fit mu (wl b L) (rl L) (wl b Bk) (rl Bk) (gt L) (hs L (gt L)) (sn Bk) (kn Bk)) (b + 2 + 2 * j) n (tx j) ∧
    (∀ z, z < b ∨ b + 276 ≤ z → er_recv mu (b + 2 + 2 * j) (wl b L) (rl L) (wl b Bk) (rl Bk) (gt L) (hs L (gt L)) (sn Bk) (kn Bk) v.1 v.2.1 n z = mu z) := by
  subst hn
  have hbk := bk_c L
  have hm := Nat.mod_lt (gt L) (rl_pos L)
  have hBk6 : Bk < 6 := by omega
  have hLB : L ≠ Bk := by omega
  obtain ⟨c1, c2, c3, c4⟩ := (h.1 L hL).2.2.2.1 (gt L) (Nat.le_refl _) hg
  have q1 : ∀ x, wl b L + 4 + 2 * (gt L % rl L) ≠ wl b Bk + 5 + 2 * (x % rl Bk) := by
    intro x
    have hx := Nat.mod_lt x (rl_pos Bk)
    unfold wl rl at *
    omega
  have q2 : ∀ x, wl b L + 4 + 2 * (gt L % rl L) ≠ wl b Bk + 4 + 2 * (x % rl Bk) := by
    intro x
    have hx := Nat.mod_lt x (rl_pos Bk)
    unfold wl rl at *
    omega
  have q3 : wl b L + 4 + 2 * (gt L % rl L) ≠ wl b Bk ∧ wl b L + 4 + 2 * (gt L % rl L) ≠ wl b Bk + 3 := by
    unfold wl rl at *
    omega
  obtain ⟨f1, f2, f3⟩ := (h.1 Bk hBk6).fit (m := ms L (gt L)) (kb := kb) (B := B) (rl_pos _) w2 (by omega) hks q1 q2 q3.1 q3.2 c1 om oo hB (rl_24 _)
  have eF : er_fit mu (wl b L) (rl L) (wl b Bk) (rl Bk) (gt L) (hs L (gt L)) (sn Bk) (kn Bk) = wy_fit (la_up mu (wl b Bk) 5 (nI kb)) (wl b Bk) (rl Bk) (wl b L + 4 + 2 * (gt L % rl L)) kb (sn Bk - kb) := by
    unfold er_fit
    rw [hkb]
  rw [← eF] at f1 f2 f3
  rw [← hv] at f2
  have hF : ∀ z, z ≠ wl b L + 4 + 2 * (gt L % rl L) → (z < wl b Bk ∨ wl b Bk + 4 + 2 * rl Bk ≤ z) → er_fit mu (wl b L) (rl L) (wl b Bk) (rl Bk) (gt L) (hs L (gt L)) (sn Bk) (kn Bk) z = mu z := by
    intro z z1 z2
    rw [eF]
    have h9 : ∀ t, t ≤ sn Bk - kb → wy_fit (la_up mu (wl b Bk) 5 (nI kb)) (wl b Bk) (rl Bk) (wl b L + 4 + 2 * (gt L % rl L)) kb t z = la_up mu (wl b Bk) 5 (nI kb) z := by
      intro t
      induction t with
      | zero => intro _; rfl
      | succ t ih =>
        intro ht
        have hx := Nat.mod_lt (kb + t) (rl_pos Bk)
        show ch_both _ _ _ z = _
        rw [ch_both_n z1 (by omega)]
        exact ih (by omega)
    rw [h9 _ (Nat.le_refl _), la_up_n (by omega)]
  have f2' := f2
  have hz2 : chz (er_fit mu (wl b L) (rl L) (wl b Bk) (rl Bk) (gt L) (hs L (gt L)) (sn Bk) (kn Bk) (wl b L + 4 + 2 * (gt L % rl L)) 2) := by rw [f3]; exact c3
  have kz : v.1 = 0 → (ms L (gt L)).1 = 0 := fun hv0 => by rw [hv] at hv0; exact (ot_rm_kind _).mp hv0
  have hTj : TC (er_fit mu (wl b L) (rl L) (wl b Bk) (rl Bk) (gt L) (hs L (gt L)) (sn Bk) (kn Bk)) (b + 2 + 2 * j) (nn j) (tx j) := (h.2 j hj).cong (hF _ (by unfold wl; omega) (by unfold wl; omega)) (hF _ (by unfold wl; omega) (by unfold wl; omega))
  -- the last memory
  have eG : ∀ z, z ≠ b + 2 + 2 * j → z ≠ b + 2 + 2 * j + 1 → z ≠ wl b L → er_recv mu (b + 2 + 2 * j) (wl b L) (rl L) (wl b Bk) (rl Bk) (gt L) (hs L (gt L)) (sn Bk) (kn Bk) v.1 v.2.1 (nn j) z = er_fit mu (wl b L) (rl L) (wl b Bk) (rl Bk) (gt L) (hs L (gt L)) (sn Bk) (kn Bk) z := by
    intro z z1 z2 z3
    unfold er_recv
    rw [la_up_n z3, tx_do_n z1 z2]
  have ec : er_recv mu (b + 2 + 2 * j) (wl b L) (rl L) (wl b Bk) (rl Bk) (gt L) (hs L (gt L)) (sn Bk) (kn Bk) v.1 v.2.1 (nn j) (wl b L + 4 + 2 * (gt L % rl L)) = er_fit mu (wl b L) (rl L) (wl b Bk) (rl Bk) (gt L) (hs L (gt L)) (sn Bk) (kn Bk) (wl b L + 4 + 2 * (gt L % rl L)) := eG _ (by unfold wl; omega) (by unfold wl; omega) (by omega)
  refine ⟨⟨fun l hl => ?_, fun s hs4 => ?_⟩, f2.cong ec, fun hv0 => by rw [ec, f3]; exact c2 (kz hv0), by rw [ec]; exact hz2, f2, hz2, hTj, fun z hz => ?_⟩
  · by_cases hlL : l = L
    · subst hlL
      rw [ot_up_s, ot_up_n hLB, ot_up_n hLB]
      refine (h.1 l hl).got.congx (n0 := gt l) (rl_pos l) (by omega) w1 (fun z z1 z2 z3 => ?_)
      have zF : er_fit mu (wl b l) (rl l) (wl b Bk) (rl Bk) (gt l) (hs l (gt l)) (sn Bk) (kn Bk) z = mu z := hF z z3 (by unfold wl rl at *; omega)
      by_cases hz0 : z = wl b l
      · subst hz0
        unfold er_recv
        rw [la_up_at, la_up_at, tx_do_n (by unfold wl; omega) (by unfold wl; omega), zF]
      · rw [la_up_n hz0, eG z (by unfold wl at *; omega) (by unfold wl at *; omega) hz0, zF]
    · rw [ot_up_n hlL]
      by_cases hlB : l = Bk
      · subst hlB
        rw [ot_up_s, ot_up_s]
        exact f1.cong (rl_pos l) (fun z z1 z2 => eG z (by unfold wl at *; omega) (by unfold wl at *; omega) (by unfold wl rl at *; omega))
      · rw [ot_up_n hlB, ot_up_n hlB]
        refine (h.1 l hl).cong (rl_pos l) (fun z z1 z2 => ?_)
        have a1 := wl_apart hlL z1 z2
        have a2 := wl_apart hlB z1 z2
        have a3 := wl_b b l
        rw [eG z (by omega) (by omega) (by omega)]
        exact hF z (by omega) a2
  · have hTC : TC (tx_do (er_fit mu (wl b L) (rl L) (wl b Bk) (rl Bk) (gt L) (hs L (gt L)) (sn Bk) (kn Bk)) (b + 2 + 2 * j) v.1 v.2.1 (nn j) (er_fit mu (wl b L) (rl L) (wl b Bk) (rl Bk) (gt L) (hs L (gt L)) (sn Bk) (kn Bk) (wl b L + 4 + 2 * (gt L % rl L)) 2)) (b + 2 + 2 * s) (ot_up nn j (tn v.1 (nn j)) s) (ot_up tx j (td v.1 v.2.1 (lt L (gt L)) (tx j)) s) := by
      by_cases hsj : s = j
      · subst hsj
        rw [ot_up_s, ot_up_s]
        exact TC_do hTj h0 h1 (fun hv0 => by rw [f3]; exact c2 (kz hv0)) hz2
      · rw [ot_up_n hsj, ot_up_n hsj]
        refine (h.2 s hs4).cong ?_ ?_
        · rw [tx_do_n (by omega) (by omega)]
          exact hF _ (by unfold wl; omega) (by unfold wl; omega)
        · rw [tx_do_n (by omega) (by omega)]
          exact hF _ (by unfold wl; omega) (by unfold wl; omega)
    exact hTC.cong (la_up_n (by unfold wl; omega)) (la_up_n (by unfold wl; omega))
  · unfold er_recv
    rw [la_up_n (by unfold wl rl at *; omega), tx_do_n (by omega) (by omega)]
    exact hF z (by unfold wl rl at *; omega) (by unfold wl rl at *; omega)
/-- the server sends on: from the cell c0 down the line L2 -/
theorem RC.send (h : RC b mu sn gt kn ms hs lt op nn tx) {L2 c0 x c : Nat} {v : ot_T} (hL : L2 < 6) (w1 : sn L2 < gt L2 + rl L2) (w2 : sn L2 < kn L2 + rl L2) (hv : chR mu c0 v) (hl : v.1 = 0 → mu c0 2 = nI c) (hz : chz (mu c0 2)) (hc : c0 < wl b L2 ∨ wl b L2 + 4 + 2 * rl L2 ≤ c0) :
    RC b (wy_send mu (wl b L2) (rl L2) c0 (sn L2) (nI x)) (ot_up sn L2 (sn L2 + 1)) gt kn (ot_up ms L2 (ot_up (ms L2) (sn L2) v)) (ot_up hs L2 (ot_up (hs L2) (sn L2) x)) (ot_up lt L2 (ot_up (lt L2) (sn L2) c)) (ot_up op L2 (ot_up (op L2) (sn L2) v)) nn tx ∧ (∀ z, z < wl b L2 ∨ wl b L2 + 4 + 2 * rl L2 ≤ z → wy_send mu (wl b L2) (rl L2) c0 (sn L2) (nI x) z = mu z) := by
  have hm := Nat.mod_lt (sn L2) (rl_pos L2)
  have eS : ∀ z, z < wl b L2 ∨ wl b L2 + 4 + 2 * rl L2 ≤ z → wy_send mu (wl b L2) (rl L2) c0 (sn L2) (nI x) z = mu z := fun z hz => wy_send_n (by omega) (by have := rl_pos L2; omega) (by omega) (by omega)
  refine ⟨⟨fun l hl6 => ?_, fun s hs4 => ?_⟩, eS⟩
  · by_cases hlk : l = L2
    · subst hlk
      rw [ot_up_s, ot_up_s, ot_up_s, ot_up_s, ot_up_s]
      exact (h.1 l hl6).send (rl_pos l) w1 w2 hv hl hz hc
    · rw [ot_up_n hlk, ot_up_n hlk, ot_up_n hlk, ot_up_n hlk, ot_up_n hlk]
      exact (h.1 l hl6).cong (rl_pos l) (fun z z1 z2 => eS z (wl_apart hlk z1 z2))
  · exact (h.2 s hs4).cong (eS _ (by unfold wl; omega)) (eS _ (by unfold wl; omega))
end ST
