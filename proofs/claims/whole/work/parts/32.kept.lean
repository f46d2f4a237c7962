/-! PURE: what holds of the state is kept by every change (written by wip/whole/p32.py) -/
section KP
variable {T : Nat} {sn gt kn : Nat → Nat} {ms : Nat → Nat → ot_T} {hs lt : Nat → Nat → Nat} {op : Nat → Nat → ot_T} {nn : Nat → Nat} {tx : Nat → Nat → Nat}
theorem ot_ok_nat {n : Nat} {v : ot_T} (h : ot_ok n v) : (v.1 = 0 → v.2.1 ≤ n) ∧ (v.1 = 1 → v.2.1 < n) := ⟨fun h0 => by have := h.1 h0; omega, fun h1 => by have := h.2 h1; omega⟩
theorem IV.make (I : IV T sn gt kn ms hs lt op nn tx) {k kd q n c : Nat} (hk : k < 3) (hn : nn (k + 1) = n) (hkd : kd ≤ 2) (h0 : kd = 0 → q ≤ n ∧ n < 40) (h1 : kd = 1 → q < n) (h2 : kd = 2 → q = 0) (hc : c < 65536) (hw : sn (2 * k) < kn (2 * k) + 16) :
    IV (T + 1) (ot_up sn (2 * k) (sn (2 * k) + 1)) gt kn (ot_up ms (2 * k) (ot_up (ms (2 * k)) (sn (2 * k)) (kd, q, k + 1))) (ot_up hs (2 * k) (ot_up (hs (2 * k)) (sn (2 * k)) (gt (2 * k + 1)))) (ot_up lt (2 * k) (ot_up (lt (2 * k)) (sn (2 * k)) c)) (ot_up op (2 * k) (ot_up (op (2 * k)) (sn (2 * k)) (kd, q, k + 1))) (ot_up nn (k + 1) (tn kd n)) (ot_up tx (k + 1) (td kd q c (tx (k + 1)))) := by
  subst hn
  have h64 := I.len (s := k + 1) (by omega)
  have hok : ot_ok (nn (k + 1)) (kd, q, k + 1) := ⟨fun e => by have := (h0 e).1; show (q : Int) ≤ _; omega, fun e => by have := h1 e; show (q : Int) < _; omega⟩
  refine ⟨fun k' hk' => ?_, ?_, fun s hs4 i hi => ?_⟩
  · by_cases hkk : k' = k
    · subst hkk
      have h9 := (I.1 k' hk').make (v := (kd, q, k' + 1)) hok (by omega) (fun e => by have := (h0 e).2; omega)
      rw [← tn_dl hok hkd] at h9
      unfold cli
      rw [ot_up_s, ot_up_s, ot_up_s, ot_up_s, ot_up_s, ot_up_n (show 2 * k' + 1 ≠ 2 * k' by omega), ot_up_n (show 2 * k' + 1 ≠ 2 * k' by omega), ot_up_n (show 2 * k' + 1 ≠ 2 * k' by omega), ot_up_n (show 2 * k' + 1 ≠ 2 * k' by omega), ot_up_n (show 0 ≠ k' + 1 by omega)]
      exact h9
    · have h9 := I.1 k' hk'
      unfold cli at h9 ⊢
      rw [ot_up_n (show 2 * k' ≠ 2 * k by omega), ot_up_n (show 2 * k' ≠ 2 * k by omega), ot_up_n (show 2 * k' ≠ 2 * k by omega), ot_up_n (show 2 * k' ≠ 2 * k by omega), ot_up_n (show 2 * k' + 1 ≠ 2 * k by omega), ot_up_n (show 2 * k' + 1 ≠ 2 * k by omega), ot_up_n (show 2 * k' + 1 ≠ 2 * k by omega), ot_up_n (show 2 * k' + 1 ≠ 2 * k by omega), ot_up_n (show k' + 1 ≠ k + 1 by omega), ot_up_n (show 0 ≠ k + 1 by omega)]
      exact h9
  · refine (I.2.1.mono (show T ≤ T + 1 by omega)).send (by have := (I.2.1 (2 * k) (by omega)).1; omega) ⟨hkd, h2, ?_, by show k + 1 ≤ 3; omega⟩ hc
    show q ≤ bd (T + 1)
    unfold bd
    rcases (show kd = 0 ∨ kd = 1 ∨ kd = 2 by omega) with e | e | e
    · have := (h0 e).1
      omega
    · have := h1 e
      omega
    · have := h2 e
      omega
  · by_cases hsk : s = k + 1
    · subst hsk
      rw [ot_up_s] at hi ⊢
      exact td_lt (fun e => (h0 e).1) (fun _ => hc) (I.2.2 (k + 1) hs4) i hi
    · rw [ot_up_n hsk] at hi ⊢
      exact I.2.2 s hs4 i hi
theorem IV.pull (I : IV T sn gt kn ms hs lt op nn tx) {k kb n : Nat} {v : ot_T} (hk : k < 3) (hn : nn (k + 1) = n) (hg : gt (2 * k + 1) < sn (2 * k + 1)) (hkb : kb = max (kn (2 * k)) (hs (2 * k + 1) (gt (2 * k + 1)))) (hv : v = ot_rm (ms (2 * k + 1) (gt (2 * k + 1))) (op (2 * k)) kb (sn (2 * k) - kb)) :
    (kb ≤ sn (2 * k) ∧ (v.1 = 0 → v.2.1 ≤ n ∧ n < 64) ∧ (v.1 = 1 → v.2.1 < n) ∧ v.1 ≤ 2) ∧
    IV (T + 1) sn (ot_up gt (2 * k + 1) (gt (2 * k + 1) + 1)) (ot_up kn (2 * k) kb) ms hs lt (ot_up op (2 * k) (ot_ro (ms (2 * k + 1) (gt (2 * k + 1))) (op (2 * k)) kb (sn (2 * k)))) (ot_up nn (k + 1) (tn v.1 n)) (ot_up tx (k + 1) (td v.1 v.2.1 (lt (2 * k + 1) (gt (2 * k + 1))) (tx (k + 1)))) := by
  subst hn
  obtain ⟨c1, c2, c3, c4, c5⟩ := (I.1 k hk).clientGets hg
  rw [← hkb, ← hv] at c1 c2 c5
  rw [← hkb] at c3
  have W1 := I.win (l := 2 * k) (by omega)
  have W2 := I.win (l := 2 * k + 1) (by omega)
  have hr := rl_24 (2 * k)
  have hmo := (I.2.1 (2 * k + 1) (by omega)).2.1 (gt (2 * k + 1)) (Nat.le_refl _) hg
  have hvo : okT (bd T + (sn (2 * k) - kb)) v := by
    rw [hv]
    exact ot_rm_ok hmo.1 _ (fun j hj => (I.2.1 (2 * k) (by omega)).2.2 (kb + j) (by omega) (by omega))
  have hn2 := ot_ok_nat c1
  refine ⟨⟨c3, fun e => ⟨hn2.1 e, ?_⟩, hn2.2, hvo.1⟩, fun k' hk' => ?_, I.2.1.get (by omega) (by omega) hg (by omega) (by omega), fun s hs4 i hi => ?_⟩
  · unfold ot_dl at c2
    rw [if_pos e] at c2
    omega
  · by_cases hkk : k' = k
    · subst hkk
      rw [← tn_dl c1 hvo.1] at c5
      unfold cli
      rw [ot_up_s, ot_up_s, ot_up_s, ot_up_s, ot_up_n (show 2 * k' ≠ 2 * k' + 1 by omega), ot_up_n (show 2 * k' + 1 ≠ 2 * k' by omega), ot_up_n (show 2 * k' + 1 ≠ 2 * k' by omega), ot_up_n (show 0 ≠ k' + 1 by omega)]
      exact c5
    · have h9 := I.1 k' hk'
      unfold cli at h9 ⊢
      rw [ot_up_n (show 2 * k' ≠ 2 * k + 1 by omega), ot_up_n (show 2 * k' + 1 ≠ 2 * k + 1 by omega), ot_up_n (show 2 * k' ≠ 2 * k by omega), ot_up_n (show 2 * k' + 1 ≠ 2 * k by omega), ot_up_n (show 2 * k' ≠ 2 * k by omega), ot_up_n (show 2 * k' + 1 ≠ 2 * k by omega), ot_up_n (show k' + 1 ≠ k + 1 by omega), ot_up_n (show 0 ≠ k + 1 by omega)]
      exact h9
  · by_cases hsk : s = k + 1
    · subst hsk
      rw [ot_up_s] at hi ⊢
      exact td_lt (fun e => (hn2.1 e)) (fun _ => hmo.2) (I.2.2 (k + 1) hs4) i hi
    · rw [ot_up_n hsk] at hi ⊢
      exact I.2.2 s hs4 i hi
set_option maxHeartbeats 4000000 in
theorem IV.push_0 (I : IV T sn gt kn ms hs lt op nn tx) {kb n : Nat} {v : ot_T} (hn : nn 0 = n) (hg : gt 0 < sn 0) (hp0 : sn 3 < kn 3 + 24) (hp1 : sn 5 < kn 5 + 24) (hkb : kb = max (kn 1) (hs 0 (gt 0))) (hv : v = ot_rm (ms 0 (gt 0)) (op 1) kb (sn 1 - kb)) :
    (kb ≤ sn 1 ∧ (v.1 = 0 → v.2.1 ≤ n ∧ n < 64) ∧ (v.1 = 1 → v.2.1 < n) ∧ v.1 ≤ 2) ∧
    IV (T + 1) (ot_up (ot_up sn 3 (sn 3 + 1)) 5 ((ot_up sn 3 (sn 3 + 1)) 5 + 1)) (ot_up gt 0 (gt 0 + 1)) (ot_up kn 1 kb) (ot_up (ot_up ms 3 (ot_up (ms 3) (sn 3) v)) 5 (ot_up ((ot_up ms 3 (ot_up (ms 3) (sn 3) v)) 5) ((ot_up sn 3 (sn 3 + 1)) 5) v)) (ot_up (ot_up hs 3 (ot_up (hs 3) (sn 3) ((ot_up gt 0 (gt 0 + 1)) 2))) 5 (ot_up ((ot_up hs 3 (ot_up (hs 3) (sn 3) ((ot_up gt 0 (gt 0 + 1)) 2))) 5) ((ot_up sn 3 (sn 3 + 1)) 5) ((ot_up gt 0 (gt 0 + 1)) 4))) (ot_up (ot_up lt 3 (ot_up (lt 3) (sn 3) (lt 0 (gt 0)))) 5 (ot_up ((ot_up lt 3 (ot_up (lt 3) (sn 3) (lt 0 (gt 0)))) 5) ((ot_up sn 3 (sn 3 + 1)) 5) (lt 0 (gt 0)))) (ot_up (ot_up (ot_up op 1 (ot_ro (ms 0 (gt 0)) (op 1) kb (sn 1))) 3 (ot_up ((ot_up op 1 (ot_ro (ms 0 (gt 0)) (op 1) kb (sn 1))) 3) (sn 3) v)) 5 (ot_up ((ot_up (ot_up op 1 (ot_ro (ms 0 (gt 0)) (op 1) kb (sn 1))) 3 (ot_up ((ot_up op 1 (ot_ro (ms 0 (gt 0)) (op 1) kb (sn 1))) 3) (sn 3) v)) 5) ((ot_up sn 3 (sn 3 + 1)) 5) v)) (ot_up nn 0 (tn v.1 n)) (ot_up tx 0 (td v.1 v.2.1 (lt 0 (gt 0)) (tx 0))) := by
  subst hn
  obtain ⟨c1, c2, c3, c4, c5⟩ := (I.1 0 (by decide)).serverGets hg
  have hkb2 : kb = max (kn (2 * 0 + 1)) (hs (2 * 0) (gt (2 * 0))) := hkb
  have hv2 : v = ot_rm (ms (2 * 0) (gt (2 * 0))) (op (2 * 0 + 1)) kb (sn (2 * 0 + 1) - kb) := hv
  rw [← hkb2, ← hv2] at c1 c2 c5
  rw [← hkb2] at c3
  have W1 := I.win (l := 1) (by decide)
  have W2 := I.win (l := 0) (by decide)
  have hr := rl_24 1
  have hmo := (I.2.1 0 (by decide)).2.1 (gt 0) (Nat.le_refl _) hg
  have c3 : kb ≤ sn 1 := c3
  have hvo : okT (bd T + (sn 1 - kb)) v := by
    rw [hv]
    exact ot_rm_ok hmo.1 _ (fun j hj => (I.2.1 1 (by decide)).2.2 (kb + j) (by omega) (by omega))
  have hvo1 : okT (bd (T + 1)) v := hvo.le (by unfold bd; omega)
  have hn2 := ot_ok_nat c1
  have d0 := (I.1 1 (by decide)).sent (v := v) c1 hp0 c2
  have d1 := (I.1 2 (by decide)).sent (v := v) c1 hp1 c2
  rw [← tn_dl c1 hvo.1] at c5 d0 d1
  have hO := I.2.1.get (L := 0) (Bk := 1) (kb := kb) (by decide) (by decide) hg (by omega) (by omega)
  have hO0 := hO.send (L := 3) (c := (lt 0 (gt 0))) (v := v) (by have := (I.2.1 3 (by decide)).1; omega) hvo1 hmo.2
  have hO1 := hO0.send (L := 5) (c := (lt 0 (gt 0))) (v := v) (by have := (I.2.1 5 (by decide)).1; show sn 5 + 1 ≤ T + 1; omega) hvo1 hmo.2
  refine ⟨⟨c3, fun e => ⟨hn2.1 e, ?_⟩, hn2.2, hvo.1⟩, fun k' hk' => ?_, hO1, fun s hs4 i hi => ?_⟩
  · unfold ot_dl at c2
    rw [if_pos e] at c2
    omega
  · rcases (show k' = 0 ∨ k' = 1 ∨ k' = 2 by omega) with rfl | rfl | rfl
    · exact c5
    · exact d0
    · exact d1
  · by_cases hsk : s = 0
    · subst hsk
      rw [ot_up_s] at hi ⊢
      exact td_lt (fun e => (hn2.1 e)) (fun _ => hmo.2) (I.2.2 0 hs4) i hi
    · rw [ot_up_n hsk] at hi ⊢
      exact I.2.2 s hs4 i hi
set_option maxHeartbeats 4000000 in
theorem IV.push_1 (I : IV T sn gt kn ms hs lt op nn tx) {kb n : Nat} {v : ot_T} (hn : nn 0 = n) (hg : gt 2 < sn 2) (hp0 : sn 1 < kn 1 + 24) (hp1 : sn 5 < kn 5 + 24) (hkb : kb = max (kn 3) (hs 2 (gt 2))) (hv : v = ot_rm (ms 2 (gt 2)) (op 3) kb (sn 3 - kb)) :
    (kb ≤ sn 3 ∧ (v.1 = 0 → v.2.1 ≤ n ∧ n < 64) ∧ (v.1 = 1 → v.2.1 < n) ∧ v.1 ≤ 2) ∧
    IV (T + 1) (ot_up (ot_up sn 1 (sn 1 + 1)) 5 ((ot_up sn 1 (sn 1 + 1)) 5 + 1)) (ot_up gt 2 (gt 2 + 1)) (ot_up kn 3 kb) (ot_up (ot_up ms 1 (ot_up (ms 1) (sn 1) v)) 5 (ot_up ((ot_up ms 1 (ot_up (ms 1) (sn 1) v)) 5) ((ot_up sn 1 (sn 1 + 1)) 5) v)) (ot_up (ot_up hs 1 (ot_up (hs 1) (sn 1) ((ot_up gt 2 (gt 2 + 1)) 0))) 5 (ot_up ((ot_up hs 1 (ot_up (hs 1) (sn 1) ((ot_up gt 2 (gt 2 + 1)) 0))) 5) ((ot_up sn 1 (sn 1 + 1)) 5) ((ot_up gt 2 (gt 2 + 1)) 4))) (ot_up (ot_up lt 1 (ot_up (lt 1) (sn 1) (lt 2 (gt 2)))) 5 (ot_up ((ot_up lt 1 (ot_up (lt 1) (sn 1) (lt 2 (gt 2)))) 5) ((ot_up sn 1 (sn 1 + 1)) 5) (lt 2 (gt 2)))) (ot_up (ot_up (ot_up op 3 (ot_ro (ms 2 (gt 2)) (op 3) kb (sn 3))) 1 (ot_up ((ot_up op 3 (ot_ro (ms 2 (gt 2)) (op 3) kb (sn 3))) 1) (sn 1) v)) 5 (ot_up ((ot_up (ot_up op 3 (ot_ro (ms 2 (gt 2)) (op 3) kb (sn 3))) 1 (ot_up ((ot_up op 3 (ot_ro (ms 2 (gt 2)) (op 3) kb (sn 3))) 1) (sn 1) v)) 5) ((ot_up sn 1 (sn 1 + 1)) 5) v)) (ot_up nn 0 (tn v.1 n)) (ot_up tx 0 (td v.1 v.2.1 (lt 2 (gt 2)) (tx 0))) := by
  subst hn
  obtain ⟨c1, c2, c3, c4, c5⟩ := (I.1 1 (by decide)).serverGets hg
  have hkb2 : kb = max (kn (2 * 1 + 1)) (hs (2 * 1) (gt (2 * 1))) := hkb
  have hv2 : v = ot_rm (ms (2 * 1) (gt (2 * 1))) (op (2 * 1 + 1)) kb (sn (2 * 1 + 1) - kb) := hv
  rw [← hkb2, ← hv2] at c1 c2 c5
  rw [← hkb2] at c3
  have W1 := I.win (l := 3) (by decide)
  have W2 := I.win (l := 2) (by decide)
  have hr := rl_24 3
  have hmo := (I.2.1 2 (by decide)).2.1 (gt 2) (Nat.le_refl _) hg
  have c3 : kb ≤ sn 3 := c3
  have hvo : okT (bd T + (sn 3 - kb)) v := by
    rw [hv]
    exact ot_rm_ok hmo.1 _ (fun j hj => (I.2.1 3 (by decide)).2.2 (kb + j) (by omega) (by omega))
  have hvo1 : okT (bd (T + 1)) v := hvo.le (by unfold bd; omega)
  have hn2 := ot_ok_nat c1
  have d0 := (I.1 0 (by decide)).sent (v := v) c1 hp0 c2
  have d1 := (I.1 2 (by decide)).sent (v := v) c1 hp1 c2
  rw [← tn_dl c1 hvo.1] at c5 d0 d1
  have hO := I.2.1.get (L := 2) (Bk := 3) (kb := kb) (by decide) (by decide) hg (by omega) (by omega)
  have hO0 := hO.send (L := 1) (c := (lt 2 (gt 2))) (v := v) (by have := (I.2.1 1 (by decide)).1; omega) hvo1 hmo.2
  have hO1 := hO0.send (L := 5) (c := (lt 2 (gt 2))) (v := v) (by have := (I.2.1 5 (by decide)).1; show sn 5 + 1 ≤ T + 1; omega) hvo1 hmo.2
  refine ⟨⟨c3, fun e => ⟨hn2.1 e, ?_⟩, hn2.2, hvo.1⟩, fun k' hk' => ?_, hO1, fun s hs4 i hi => ?_⟩
  · unfold ot_dl at c2
    rw [if_pos e] at c2
    omega
  · rcases (show k' = 0 ∨ k' = 1 ∨ k' = 2 by omega) with rfl | rfl | rfl
    · exact d0
    · exact c5
    · exact d1
  · by_cases hsk : s = 0
    · subst hsk
      rw [ot_up_s] at hi ⊢
      exact td_lt (fun e => (hn2.1 e)) (fun _ => hmo.2) (I.2.2 0 hs4) i hi
    · rw [ot_up_n hsk] at hi ⊢
      exact I.2.2 s hs4 i hi
set_option maxHeartbeats 4000000 in
theorem IV.push_2 (I : IV T sn gt kn ms hs lt op nn tx) {kb n : Nat} {v : ot_T} (hn : nn 0 = n) (hg : gt 4 < sn 4) (hp0 : sn 1 < kn 1 + 24) (hp1 : sn 3 < kn 3 + 24) (hkb : kb = max (kn 5) (hs 4 (gt 4))) (hv : v = ot_rm (ms 4 (gt 4)) (op 5) kb (sn 5 - kb)) :
    (kb ≤ sn 5 ∧ (v.1 = 0 → v.2.1 ≤ n ∧ n < 64) ∧ (v.1 = 1 → v.2.1 < n) ∧ v.1 ≤ 2) ∧
    IV (T + 1) (ot_up (ot_up sn 1 (sn 1 + 1)) 3 ((ot_up sn 1 (sn 1 + 1)) 3 + 1)) (ot_up gt 4 (gt 4 + 1)) (ot_up kn 5 kb) (ot_up (ot_up ms 1 (ot_up (ms 1) (sn 1) v)) 3 (ot_up ((ot_up ms 1 (ot_up (ms 1) (sn 1) v)) 3) ((ot_up sn 1 (sn 1 + 1)) 3) v)) (ot_up (ot_up hs 1 (ot_up (hs 1) (sn 1) ((ot_up gt 4 (gt 4 + 1)) 0))) 3 (ot_up ((ot_up hs 1 (ot_up (hs 1) (sn 1) ((ot_up gt 4 (gt 4 + 1)) 0))) 3) ((ot_up sn 1 (sn 1 + 1)) 3) ((ot_up gt 4 (gt 4 + 1)) 2))) (ot_up (ot_up lt 1 (ot_up (lt 1) (sn 1) (lt 4 (gt 4)))) 3 (ot_up ((ot_up lt 1 (ot_up (lt 1) (sn 1) (lt 4 (gt 4)))) 3) ((ot_up sn 1 (sn 1 + 1)) 3) (lt 4 (gt 4)))) (ot_up (ot_up (ot_up op 5 (ot_ro (ms 4 (gt 4)) (op 5) kb (sn 5))) 1 (ot_up ((ot_up op 5 (ot_ro (ms 4 (gt 4)) (op 5) kb (sn 5))) 1) (sn 1) v)) 3 (ot_up ((ot_up (ot_up op 5 (ot_ro (ms 4 (gt 4)) (op 5) kb (sn 5))) 1 (ot_up ((ot_up op 5 (ot_ro (ms 4 (gt 4)) (op 5) kb (sn 5))) 1) (sn 1) v)) 3) ((ot_up sn 1 (sn 1 + 1)) 3) v)) (ot_up nn 0 (tn v.1 n)) (ot_up tx 0 (td v.1 v.2.1 (lt 4 (gt 4)) (tx 0))) := by
  subst hn
  obtain ⟨c1, c2, c3, c4, c5⟩ := (I.1 2 (by decide)).serverGets hg
  have hkb2 : kb = max (kn (2 * 2 + 1)) (hs (2 * 2) (gt (2 * 2))) := hkb
  have hv2 : v = ot_rm (ms (2 * 2) (gt (2 * 2))) (op (2 * 2 + 1)) kb (sn (2 * 2 + 1) - kb) := hv
  rw [← hkb2, ← hv2] at c1 c2 c5
  rw [← hkb2] at c3
  have W1 := I.win (l := 5) (by decide)
  have W2 := I.win (l := 4) (by decide)
  have hr := rl_24 5
  have hmo := (I.2.1 4 (by decide)).2.1 (gt 4) (Nat.le_refl _) hg
  have c3 : kb ≤ sn 5 := c3
  have hvo : okT (bd T + (sn 5 - kb)) v := by
    rw [hv]
    exact ot_rm_ok hmo.1 _ (fun j hj => (I.2.1 5 (by decide)).2.2 (kb + j) (by omega) (by omega))
  have hvo1 : okT (bd (T + 1)) v := hvo.le (by unfold bd; omega)
  have hn2 := ot_ok_nat c1
  have d0 := (I.1 0 (by decide)).sent (v := v) c1 hp0 c2
  have d1 := (I.1 1 (by decide)).sent (v := v) c1 hp1 c2
  rw [← tn_dl c1 hvo.1] at c5 d0 d1
  have hO := I.2.1.get (L := 4) (Bk := 5) (kb := kb) (by decide) (by decide) hg (by omega) (by omega)
  have hO0 := hO.send (L := 1) (c := (lt 4 (gt 4))) (v := v) (by have := (I.2.1 1 (by decide)).1; omega) hvo1 hmo.2
  have hO1 := hO0.send (L := 3) (c := (lt 4 (gt 4))) (v := v) (by have := (I.2.1 3 (by decide)).1; show sn 3 + 1 ≤ T + 1; omega) hvo1 hmo.2
  refine ⟨⟨c3, fun e => ⟨hn2.1 e, ?_⟩, hn2.2, hvo.1⟩, fun k' hk' => ?_, hO1, fun s hs4 i hi => ?_⟩
  · unfold ot_dl at c2
    rw [if_pos e] at c2
    omega
  · rcases (show k' = 0 ∨ k' = 1 ∨ k' = 2 by omega) with rfl | rfl | rfl
    · exact d0
    · exact d1
    · exact c5
  · by_cases hsk : s = 0
    · subst hsk
      rw [ot_up_s] at hi ⊢
      exact td_lt (fun e => (hn2.1 e)) (fun _ => hmo.2) (I.2.2 0 hs4) i hi
    · rw [ot_up_n hsk] at hi ⊢
      exact I.2.2 s hs4 i hi
end KP
