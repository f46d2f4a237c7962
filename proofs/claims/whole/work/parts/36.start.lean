/-! WHERE THE LAW BEGINS: what the tables and the Statement's words give -/
theorem arr_i {args : Array Value} {s : State} {ty : FieldType} (h : (Cond.arrayClass ty).before args s = true) (hr : ∀ c, va_RA s c ty = (s.vm.findClass ("[" ++ ty.toString) = some c)) : ∃ cA, ArrOfT s cA ty ∧ va_RA s cA ty := by
  obtain ⟨c, k, comp, h1, h2, h3⟩ := Cond.arrayClass_spec h
  exact ⟨c, fun n z => ⟨fun k h => (by cases h), k, h2, comp, h3⟩, by rw [hr]; exact h1⟩
theorem arr_o {args : Array Value} {s : State} {C : String} (h : (Cond.arrayOver (.object C)).before args s = true) : ∃ cA, ArrOfT s cA (.object C) ∧ va_RA s cA (.object C) := by
  obtain ⟨comp, c, k, h1, h2, h3, h4, h5⟩ := Cond.arrayOver_spec h
  exact ⟨c, fun n z => ⟨fun k h => (by cases h), k, h3, comp, h4⟩, k, comp, h3, h4, h1, h5⟩
theorem tb {w : Cond} (h : w ∈ tables_1) : w ∈ lw_tbl := List.mem_append_right _ h
theorem gt_ {args : Array Value} {s : State} (hts : ∀ w ∈ lw_tbl, w.before args s = true) : ∀ w ∈ gw, w.before args s = true := fun w hw => hts w (List.mem_filter.mp hw).1
theorem ki_of {args : Array Value} {s : State} (hts : ∀ w ∈ lw_tbl, w.before args s = true) : ∃ (D : va_G) (E : Nat → ClassId), ki D E s := by
  have hg := gt_ hts
  obtain ⟨c0, i0, k0⟩ := u_known (N := 4) hg wy_Ch (hg _ wn_Ch)
  obtain ⟨c1, i1, k1⟩ := u_known (N := 2) hg wy_Tx (hg _ wn_Tx)
  obtain ⟨c2, i2, k2⟩ := u_known (N := 7) hg wy_Wy (hg _ wn_Wy)
  obtain ⟨c3, i3, k3⟩ := u_known (N := 4) hg wy_Er (hg _ wn_Er)
  obtain ⟨c4, i4, k4⟩ := u_known (N := 20) hg wy_Mo (hg _ wn_Mo)
  obtain ⟨e0, a0, b0⟩ := arr_i (hg _ wa_int) (fun _ => rfl)
  obtain ⟨e1, a1, b1⟩ := arr_i (hg _ wa_char) (fun _ => rfl)
  obtain ⟨e2, a2, b2⟩ := arr_i (hg _ wa_long) (fun _ => rfl)
  obtain ⟨e3, a3, b3⟩ := arr_o (hts (.arrayOver (.object R_Tx)) (tb (by decide +kernel)))
  obtain ⟨e4, a4, b4⟩ := arr_o (hts (.arrayOver (.object R_Wy)) (tb (by decide +kernel)))
  obtain ⟨e5, a5, b5⟩ := arr_o (hts (.arrayOver (.object R_Ch)) (tb (by decide +kernel)))
  refine ⟨(fun n => match n with | 0 => c0 | 1 => c1 | 2 => c2 | 3 => c3 | _ => c4, fun n => match n with | 0 => i0 | 1 => i1 | 2 => i2 | 3 => i3 | _ => i4), (fun n => match n with | 0 => e0 | 1 => e1 | 2 => e2 | 3 => e3 | 4 => e4 | _ => e5), fun c q hq => ?_, fun k q hk => ?_⟩
  · match c, hq with
    | 0, hq => cases hq; exact k0
    | 1, hq => cases hq; exact k1
    | 2, hq => cases hq; exact k2
    | 3, hq => cases hq; exact k3
    | 4, hq => cases hq; exact k4
    | n + 5, hq => cases hq
  · match k, hk with
    | 0, hk => cases hk; exact ⟨a0, b0⟩
    | 1, hk => cases hk; exact ⟨a1, b1⟩
    | 2, hk => cases hk; exact ⟨a2, b2⟩
    | 3, hk => cases hk; exact ⟨a3, b3⟩
    | 4, hk => cases hk; exact ⟨a4, b4⟩
    | 5, hk => cases hk; exact ⟨a5, b5⟩
    | n + 6, hk => cases hk
theorem nx_of {args : Array Value} {s : State} (hts : ∀ w ∈ lw_tbl, w.before args s = true) : nx s :=
  ⟨va_AO.of (hts _ (tb (by decide +kernel))), va_AO.of (hts _ (tb (by decide +kernel))), va_AO.of (hts _ (tb (by decide +kernel))), va_Nw.of rfl (hts _ (tb (by decide +kernel))), va_Nw.of rfl (hts _ (tb (by decide +kernel))), va_Nw.of rfl (hts _ (tb (by decide +kernel)))⟩
theorem tz_of {args : Array Value} {s : State} {n d : String} {La : la_L} (hl : (Cond.laysStatic Bundle.tN n d).before args s = true) (h : (Cond.isRef (.static Bundle.tN n d)).before args s = true) (hA : ∀ a : Nat, a < s.heap.size → ¬ la_A La a) : tz n d La s s.heap := by
  obtain ⟨c, k, i, f, a, cell, h1, h2, h3, h4, h5, h6, h7, h8, h9⟩ := Cond.laysStatic_spec hl
  have hv : cell.slots[f.slot]? = some cell.slots[f.slot] := Array.getElem?_eq_getElem h8
  have he : (Term.static Bundle.tN n d).eval args s none [] s = some cell.slots[f.slot] := by
    simp [Term.eval, State.fieldNamed?, h2, h3, h4, h5, h6, hv]
  refine ⟨c, k, i, f, a, cell, _, h1, h2, h3, h4, h5, h6, h7, h8, h9, hv, ?_, hA a (Array.getElem?_eq_some_iff.mp h5).1⟩
  simp only [Cond.before, Cond.holds, Cond.value, he] at h
  cases hq : cell.slots[f.slot] <;> simp_all [Value.isRef]
theorem fw_tb : ∀ w ∈ fw, w ∈ tables_1 := by decide +kernel
theorem tx_tb : ∀ q ∈ txs, Cond.stringRef R_Er q.1 q.2 ∈ tables_1 := by decide +kernel
theorem tk_of {args : Array Value} {s : State} {La : la_L} (hts : ∀ w ∈ lw_tbl, w.before args s = true) (hgv : (Jvm.Cond.and given_1 narrow_1).before args s = true) {own : ClassId} (hown : s.vm.findClass R_Er = some own) (hA : ∀ a : Nat, a < s.heap.size → ¬ la_A La a) : tk La s s.heap := by
  have hs := flat_of_before _ hgv
  refine ⟨fun w hw => fw_at (Vm.Alike.refl s.vm) hw (hts w (tb (fw_tb w hw))), tz_of (hts _ (tb (by decide +kernel))) (hs _ (by decide +kernel)) hA, tz_of (hts _ (tb (by decide +kernel))) (hs _ (by decide +kernel)) hA, fun q hq => ?_, fun q hq => ?_⟩
  · unfold ncs at hq
    simp only [List.mem_cons, List.not_mem_nil, or_false] at hq
    rcases hq with rfl | rfl | rfl | rfl | rfl
    · exact va_Nc.of (args := args) (hs _ (by decide +kernel))
    · exact va_Nc.of (args := args) (hs _ (by decide +kernel))
    · exact va_Nc.of (args := args) (hs _ (by decide +kernel))
    · exact va_Nc.of (args := args) (hs _ (by decide +kernel))
    · exact va_Nc.of (args := args) (hs _ (by decide +kernel))
  · have h1 := hts _ (tb (tx_tb q hq))
    obtain ⟨k, cf, i, a', -, -, -, -, -, hev⟩ := Cond.stringRef_spec hown h1
    exact ⟨a', vk_R.of h1 hev⟩
/-- the layout of the two systems, one behind the other -/
def lL (E : Nat → ClassId) (b0 : Nat) : la_L := fun q => if q < b0 + 277 then erL E b0 q else moL E (b0 + 277) q
theorem lL_er (E : Nat → ClassId) (b0 : Nat) : isEr E (lL E b0) b0 := isEr_L (fun j hj => if_pos (by omega))
theorem lL_mo (E : Nat → ClassId) (b0 : Nat) : isMo E (lL E b0) (b0 + 277) := isMo_L (fun j hj => if_neg (by omega))
theorem lL_A {E : Nat → ClassId} {b0 q : Nat} (h : la_A (lL E b0) q) : b0 ≤ q ∧ q < b0 + 293 := by
  obtain ⟨f, hf⟩ := h
  unfold lL at hf
  by_cases h1 : q < b0 + 277
  · rw [if_pos h1] at hf
    by_cases h2 : q < b0
    · rw [erL_none (Or.inl h2)] at hf
      cases hf
    · omega
  · rw [if_neg h1] at hf
    by_cases h2 : b0 + 277 + 16 ≤ q
    · rw [moL_none (Or.inr h2)] at hf
      cases hf
    · omega
theorem lL_P {D : va_G} {E : Nat → ClassId} {b0 : Nat} {H : Heap} (h1 : sP D (ls0 (erL E b0)) H) (h2 : sP D (ls0 (moL E (b0 + 277))) H) : la_P D cls5 (lL E b0) (fun _ _ => 0) H := by
  intro a f ha
  unfold lL at ha
  by_cases h : a < b0 + 277
  · rw [if_pos h] at ha
    exact h1.la a f ha
  · rw [if_neg h] at ha
    exact h2.la a f ha
theorem IJ_0 (b0 m0 : Nat) : IJ 0 b0 m0 (fun _ _ => 0) := by
  refine ⟨fun _ => 0, fun _ => 0, fun _ => 0, fun _ _ => (0, 0, 0), fun _ _ => 0, fun _ _ => 0, fun _ _ => (0, 0, 0), fun _ => 0, fun _ _ => 0, ⟨fun k _ => ot_cli_0, fun l _ => ⟨Nat.le_refl _, fun n _ h => absurd h (Nat.not_lt_zero n), fun n _ h => absurd h (Nat.not_lt_zero n)⟩, fun s _ i h => absurd h (Nat.not_lt_zero i)⟩, ⟨fun l _ => ⟨rfl, rfl, rfl, fun n _ h => absurd h (Nat.not_lt_zero n), fun n _ h => absurd h (Nat.not_lt_zero n)⟩, fun s _ => ⟨rfl, fun i h => absurd h (Nat.not_lt_zero i), fun _ => chz_0⟩⟩, ⟨fun l _ => ⟨rfl, rfl, rfl, rfl, fun i h => absurd h (Nat.not_lt_zero i), fun i h => absurd h (Nat.not_lt_zero i)⟩, fun s _ => ⟨rfl, fun i h => absurd h (Nat.not_lt_zero i)⟩, fun _ => chz_0⟩⟩
