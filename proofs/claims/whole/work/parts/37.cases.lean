/-! THE LAW, case by case (written by wip/whole/p37.py) -/
def nA0 (s : State) : Nat → Prop := fun q => s.heap.size ≤ q
/-- what holds at the head of the law's loop -/
def LI (D : va_G) (E : Nat → ClassId) (s : State) (t : Nat) (H : Heap) (locs : List Loc) (mu : la_M) (v : Int64) : Prop := la_P D cls5 (lL E s.heap.size) mu H ∧ ob E (s.heap.size + 293) v H ∧ IJ t s.heap.size (s.heap.size + 277) mu ∧ va_S (nA0 s) s.heap H locs
/-- what stays over the whole law -/
def LZ (D : va_G) (E : Nat → ClassId) (l : Launch) (p : Program) (s : State) (m : MethodId) (c : Code) (b L : Nat) (xs : Nat → Int32) : Prop := zz R_Lw code 7 D E p s m c #[Value.ref b] ∧ l.stackTraces = false ∧ va_X b L xs s s.heap ∧ b < s.heap.size ∧ L ≤ 2048 ∧ tk (lL E s.heap.size) s s.heap
section LWC
variable {p : Program} {l : Launch} {e : Env} {s : State} {m : MethodId} {below : List Frame} {meth : Method} {c : Code} {H : Heap} {locs : List Loc} {cells slots : Nat} {Q : State → Prop}
variable {D : va_G} {E : Nat → ClassId} {b L t pc : Nat} {xs : Nat → Int32} {mu : la_M} {v : Int64} {ls : Array Slot} {rest : List Value}
theorem lL_na (E : Nat → ClassId) (B : Nat) : ¬ la_A (lL E B) (B + 293) := fun h => by have := lL_A h; omega
theorem LI.tk (I : LI D E s t H locs mu v) (Z : LZ D E l p s m c b L xs) : tk (lL E s.heap.size) s H := Z.2.2.2.2.2.kept (fun a h1 _ => I.2.2.2.2.1 a h1 (fun h => by unfold nA0 at h; omega))
theorem x_ld (Z : LZ D E l p s m c b L xs) (hS : va_S (nA0 s) s.heap H locs) {x : Int32} (j : Nat) (hx : x = nI j) (hj : j < L) (hdg : decode code pc = .ok (.iaload, 1)) (kk : W p l e room_1 s m #[Value.ref b] below meth c H locs cells slots Q (F0 m (pc + 1) ls (.int (xs j) :: rest))) : W p l e room_1 s m #[Value.ref b] below meth c H locs cells slots Q (F0 m pc ls (.int x :: .ref b :: rest)) := by
  subst hx
  have hL := Z.2.2.2.2.1
  refine va_sld Z.1.1 Z.1.2.1 Z.2.2.1 Z.2.2.2.1 (fun h => by have := Z.2.2.2.1; unfold nA0 at h; omega) hS (pk_in j L hj) hdg ?_
  rw [nI_clamp (by omega)]
  exact kk
theorem lg_self (x : Int64) : lg_cmp x x = 0 := by
  unfold lg_cmp
  rw [if_neg (show ¬ x > x from Int64.lt_irrefl), if_pos rfl]
theorem nA_la : ∀ q, la_A (lL E s.heap.size) q → nA0 s q := fun q h => (lL_A h).1
theorem nA_w : ∀ q, wA (lL E s.heap.size) (s.heap.size + 293) q → nA0 s q := fun q h => h.elim (nA_la q) (fun e => by unfold nA0; omega)
set_option maxHeartbeats 8000000 in
set_option maxRecDepth 100000 in
theorem lw_c0 (Z : LZ D E l p s m c b L xs) (I : LI D E s t H locs mu v) (ht : 4 * t + 4 ≤ L) (hcs : cells + 1 ≤ room_1.cells ∧ slots + 6 ≤ room_1.slots) (hl : lv_has ls 7 [(4, .int (nI (4 * t))), (0, .ref b), (1, .ref s.heap.size), (2, .ref (s.heap.size + 277)), (3, .ref (s.heap.size + 293))]) (kk : ∀ (H1 : Heap) (locs1 : List Loc) (ls1 : Array Slot) (mu1 : la_M) (v1 : Int64), LI D E s (t + 1) H1 locs1 mu1 v1 → lv_has ls1 7 [(4, .int (nI (4 * t))), (0, .ref b), (1, .ref s.heap.size), (2, .ref (s.heap.size + 277)), (3, .ref (s.heap.size + 293))] → W p l e room_1 s m #[Value.ref b] below meth c H1 locs1 (cells + 1) (slots + 6) Q (F0 m 900 ls1 [])) : W p l e room_1 s m #[Value.ref b] below meth c H locs cells slots Q (F0 m 104 ls []) := by
  obtain ⟨hP, hO, J, hS⟩ := I
  have hx := Z.1.1
  have hb := Z.1.2.1
  have hK : va_K D cls5 (tyE E) s := Z.1.2.2.2.2.2
  have hL := Z.2.2.2.2.1
  have htk := LI.tk ⟨hP, hO, J, hS⟩ Z
  have he := lL_er E s.heap.size
  have hm := lL_mo E s.heap.size
  obtain ⟨k9, r, v1, mu1, mu2, hw, hmo, hk9, hv9, J1⟩ := op_insert l Z.2.1 D E _ he hm (lL_na E _) (Nat.le_refl _) J (by omega) v (xs (4 * t + 1)) (xs (4 * t + 2)) (cx := (xs (4 * t + 3)).toBitVec.toNat % 65536) (Nat.mod_lt _ (by decide))
  have hth := c_Mo_thrown l D E _ hm mu2
  rw [hk9] at hth
  refine lv_aload_n hx hb d_Lw_law_104 rfl (lv_at hl 2 rfl) ?_
  refine lv_aload_n hx hb d_Lw_law_105 rfl (lv_at hl 1 rfl) ?_
  refine lv_iload hx hb d_Lw_law_106 (lv_at hl 0 rfl) ?_
  refine lv_iconst (v := 1) hx hb d_Lw_law_108 (by decide) ?_
  refine lv_iadd hx hb d_Lw_law_109 ?_
  rw [show nI (4 * t) + (1 : Int32) = nI (4 * t + 1) from nI_add _ 1]
  refine x_ld Z hS (4 * t + 1) rfl (by omega) d_Lw_law_110 ?_
  refine lv_aload_n hx hb d_Lw_law_111 rfl (lv_at hl 1 rfl) ?_
  refine lv_iload hx hb d_Lw_law_112 (lv_at hl 0 rfl) ?_
  refine lv_iconst (v := 2) hx hb d_Lw_law_114 (by decide) ?_
  refine lv_iadd hx hb d_Lw_law_115 ?_
  rw [show nI (4 * t) + (2 : Int32) = nI (4 * t + 2) from nI_add _ 2]
  refine x_ld Z hS (4 * t + 2) rfl (by omega) d_Lw_law_116 ?_
  refine lv_aload_n hx hb d_Lw_law_117 rfl (lv_at hl 1 rfl) ?_
  refine lv_iload hx hb d_Lw_law_118 (lv_at hl 0 rfl) ?_
  refine lv_iconst (v := 3) hx hb d_Lw_law_120 (by decide) ?_
  refine lv_iadd hx hb d_Lw_law_121 ?_
  rw [show nI (4 * t) + (3 : Int32) = nI (4 * t + 3) from nI_add _ 3]
  refine x_ld Z hS (4 * t + 3) rfl (by omega) d_Lw_law_122 ?_
  refine lv_i2c hx hb d_Lw_law_123 (pk_char _) ?_
  refine lv_aload_n hx hb d_Lw_law_124 rfl (lv_at hl 4 rfl) ?_
  refine cl_S Z.1 kb_60 hw hP htk hO hS nA_w [] rfl rfl hl.1 (Nat.le_of_ble_eq_true rfl) ⟨by decide, by decide⟩ hcs d_Lw_law_125 (fun H locs hP hO hkp hS => ?_)
  refine lv_istore hx hb d_Lw_law_128 hl (by decide) rfl (fun ls hl => ?_)
  have hl : lv_has ls 7 [(5, .int k9), (4, .int (nI (4 * t))), (0, .ref b), (1, .ref s.heap.size), (2, .ref (s.heap.size + 277)), (3, .ref (s.heap.size + 293))] := hl
  refine lv_aload_n hx hb d_Lw_law_130 rfl (lv_at hl 4 rfl) ?_
  refine lv_aload_n hx hb d_Lw_law_131 rfl (lv_at hl 2 rfl) ?_
  refine lv_iload hx hb d_Lw_law_132 (lv_at hl 1 rfl) ?_
  refine lv_iconst (v := 1) hx hb d_Lw_law_134 (by decide) ?_
  refine lv_iadd hx hb d_Lw_law_135 ?_
  rw [show nI (4 * t) + (1 : Int32) = nI (4 * t + 1) from nI_add _ 1]
  refine x_ld Z hS (4 * t + 1) rfl (by omega) d_Lw_law_136 ?_
  refine lv_aload_n hx hb d_Lw_law_137 rfl (lv_at hl 2 rfl) ?_
  refine lv_iload hx hb d_Lw_law_138 (lv_at hl 1 rfl) ?_
  refine lv_iconst (v := 2) hx hb d_Lw_law_140 (by decide) ?_
  refine lv_iadd hx hb d_Lw_law_141 ?_
  rw [show nI (4 * t) + (2 : Int32) = nI (4 * t + 2) from nI_add _ 2]
  refine x_ld Z hS (4 * t + 2) rfl (by omega) d_Lw_law_142 ?_
  refine lv_aload_n hx hb d_Lw_law_143 rfl (lv_at hl 2 rfl) ?_
  refine lv_iload hx hb d_Lw_law_144 (lv_at hl 1 rfl) ?_
  refine lv_iconst (v := 3) hx hb d_Lw_law_146 (by decide) ?_
  refine lv_iadd hx hb d_Lw_law_147 ?_
  rw [show nI (4 * t) + (3 : Int32) = nI (4 * t + 3) from nI_add _ 3]
  refine x_ld Z hS (4 * t + 3) rfl (by omega) d_Lw_law_148 ?_
  refine lv_i2c hx hb d_Lw_law_149 (pk_char _) ?_
  refine cw_V Z.1 kv_Lw_65 hmo hP hS nA_la (la_recv hK hP kc_Mo hm.1 rfl) [] rfl rfl hl.1 (Nat.le_of_ble_eq_true rfl) ⟨by decide, by decide⟩ hcs d_Lw_law_150 (fun H locs hP hkp hS => ?_)
  have hO : ob E (s.heap.size + 293) v1 H := (hkp (s.heap.size + 293) (Array.getElem?_eq_some_iff.mp hO).1 (lL_na E s.heap.size)).trans hO
  refine lv_istore hx hb d_Lw_law_153 hl (by decide) rfl (fun ls hl => ?_)
  have hl : lv_has ls 7 [(6, .int r), (5, .int k9), (4, .int (nI (4 * t))), (0, .ref b), (1, .ref s.heap.size), (2, .ref (s.heap.size + 277)), (3, .ref (s.heap.size + 293))] := hl
  refine lv_aload_n hx hb d_Lw_law_155 rfl (lv_at hl 5 rfl) ?_
  refine cr_V Z.1 kv_Lw_66 hth hP (la_recv hK hP kc_Mo hm.1 rfl) [] rfl rfl hl.1 (Nat.le_of_ble_eq_true rfl) ⟨by decide, by decide⟩ hcs d_Lw_law_156 ?_
  refine lv_iload hx hb d_Lw_law_159 (lv_at hl 1 rfl) ?_
  refine lv_icmp_eq (tgt := 166) hx hb d_Lw_law_161 rfl (fun br161 => ?_) (fun br161 => absurd (rfl) br161)
  refine lv_iload hx hb d_Lw_law_166 (lv_at hl 1 rfl) ?_
  refine lv_if_ne (tgt := 183) hx hb d_Lw_law_168 rfl (fun br168 => ?_) (fun br168 => ?_)
  · skip
    refine lv_goto (tgt := 900) hx hb d_Lw_law_183 rfl ?_
    exact kk H locs ls mu2 v1 ⟨hP, hO, J1, hS⟩ (lv_sub hl [2, 3, 4, 5, 6] rfl)
  · skip
    refine lv_aload_n hx hb d_Lw_law_171 rfl (lv_at hl 6 rfl) ?_
    refine lv_iconst (v := 0) hx hb d_Lw_law_172 (by decide) ?_
    refine ob_ld Z.1 hO d_Lw_law_173 ?_
    refine lv_iload hx hb d_Lw_law_174 (lv_at hl 0 rfl) ?_
    refine lv_i2l hx hb d_Lw_law_176 rfl ?_
    refine W.lcmp hx hb d_Lw_law_177 ?_
    rw [hv9 br168, lg_self]
    refine lv_if_eq (tgt := 183) hx hb d_Lw_law_178 rfl (fun br178 => ?_) (fun br178 => absurd (rfl) br178)
    refine lv_goto (tgt := 900) hx hb d_Lw_law_183 rfl ?_
    exact kk H locs ls mu2 v1 ⟨hP, hO, J1, hS⟩ (lv_sub hl [2, 3, 4, 5, 6] rfl)
set_option maxHeartbeats 8000000 in
set_option maxRecDepth 100000 in
theorem lw_c1 (Z : LZ D E l p s m c b L xs) (I : LI D E s t H locs mu v) (ht : 4 * t + 4 ≤ L) (hcs : cells + 1 ≤ room_1.cells ∧ slots + 6 ≤ room_1.slots) (hl : lv_has ls 7 [(4, .int (nI (4 * t))), (0, .ref b), (1, .ref s.heap.size), (2, .ref (s.heap.size + 277)), (3, .ref (s.heap.size + 293))]) (kk : ∀ (H1 : Heap) (locs1 : List Loc) (ls1 : Array Slot) (mu1 : la_M) (v1 : Int64), LI D E s (t + 1) H1 locs1 mu1 v1 → lv_has ls1 7 [(4, .int (nI (4 * t))), (0, .ref b), (1, .ref s.heap.size), (2, .ref (s.heap.size + 277)), (3, .ref (s.heap.size + 293))] → W p l e room_1 s m #[Value.ref b] below meth c H1 locs1 (cells + 1) (slots + 6) Q (F0 m 900 ls1 [])) : W p l e room_1 s m #[Value.ref b] below meth c H locs cells slots Q (F0 m 186 ls []) := by
  obtain ⟨hP, hO, J, hS⟩ := I
  have hx := Z.1.1
  have hb := Z.1.2.1
  have hK : va_K D cls5 (tyE E) s := Z.1.2.2.2.2.2
  have hL := Z.2.2.2.2.1
  have htk := LI.tk ⟨hP, hO, J, hS⟩ Z
  have he := lL_er E s.heap.size
  have hm := lL_mo E s.heap.size
  obtain ⟨k9, r, v1, mu1, mu2, hw, hmo, hk9, hv9, J1⟩ := op_delete l Z.2.1 D E _ he hm (lL_na E _) (Nat.le_refl _) J (by omega) v (xs (4 * t + 1)) (xs (4 * t + 2))
  have hth := c_Mo_thrown l D E _ hm mu2
  rw [hk9] at hth
  refine lv_aload_n hx hb d_Lw_law_186 rfl (lv_at hl 2 rfl) ?_
  refine lv_aload_n hx hb d_Lw_law_187 rfl (lv_at hl 1 rfl) ?_
  refine lv_iload hx hb d_Lw_law_188 (lv_at hl 0 rfl) ?_
  refine lv_iconst (v := 1) hx hb d_Lw_law_190 (by decide) ?_
  refine lv_iadd hx hb d_Lw_law_191 ?_
  rw [show nI (4 * t) + (1 : Int32) = nI (4 * t + 1) from nI_add _ 1]
  refine x_ld Z hS (4 * t + 1) rfl (by omega) d_Lw_law_192 ?_
  refine lv_aload_n hx hb d_Lw_law_193 rfl (lv_at hl 1 rfl) ?_
  refine lv_iload hx hb d_Lw_law_194 (lv_at hl 0 rfl) ?_
  refine lv_iconst (v := 2) hx hb d_Lw_law_196 (by decide) ?_
  refine lv_iadd hx hb d_Lw_law_197 ?_
  rw [show nI (4 * t) + (2 : Int32) = nI (4 * t + 2) from nI_add _ 2]
  refine x_ld Z hS (4 * t + 2) rfl (by omega) d_Lw_law_198 ?_
  refine lv_aload_n hx hb d_Lw_law_199 rfl (lv_at hl 4 rfl) ?_
  refine cl_S Z.1 kb_70 hw hP htk hO hS nA_w [] rfl rfl hl.1 (Nat.le_of_ble_eq_true rfl) ⟨by decide, by decide⟩ hcs d_Lw_law_200 (fun H locs hP hO hkp hS => ?_)
  refine lv_istore hx hb d_Lw_law_203 hl (by decide) rfl (fun ls hl => ?_)
  have hl : lv_has ls 7 [(5, .int k9), (4, .int (nI (4 * t))), (0, .ref b), (1, .ref s.heap.size), (2, .ref (s.heap.size + 277)), (3, .ref (s.heap.size + 293))] := hl
  refine lv_aload_n hx hb d_Lw_law_205 rfl (lv_at hl 4 rfl) ?_
  refine lv_aload_n hx hb d_Lw_law_206 rfl (lv_at hl 2 rfl) ?_
  refine lv_iload hx hb d_Lw_law_207 (lv_at hl 1 rfl) ?_
  refine lv_iconst (v := 1) hx hb d_Lw_law_209 (by decide) ?_
  refine lv_iadd hx hb d_Lw_law_210 ?_
  rw [show nI (4 * t) + (1 : Int32) = nI (4 * t + 1) from nI_add _ 1]
  refine x_ld Z hS (4 * t + 1) rfl (by omega) d_Lw_law_211 ?_
  refine lv_aload_n hx hb d_Lw_law_212 rfl (lv_at hl 2 rfl) ?_
  refine lv_iload hx hb d_Lw_law_213 (lv_at hl 1 rfl) ?_
  refine lv_iconst (v := 2) hx hb d_Lw_law_215 (by decide) ?_
  refine lv_iadd hx hb d_Lw_law_216 ?_
  rw [show nI (4 * t) + (2 : Int32) = nI (4 * t + 2) from nI_add _ 2]
  refine x_ld Z hS (4 * t + 2) rfl (by omega) d_Lw_law_217 ?_
  refine cw_V Z.1 kv_Lw_73 hmo hP hS nA_la (la_recv hK hP kc_Mo hm.1 rfl) [] rfl rfl hl.1 (Nat.le_of_ble_eq_true rfl) ⟨by decide, by decide⟩ hcs d_Lw_law_218 (fun H locs hP hkp hS => ?_)
  have hO : ob E (s.heap.size + 293) v1 H := (hkp (s.heap.size + 293) (Array.getElem?_eq_some_iff.mp hO).1 (lL_na E s.heap.size)).trans hO
  refine lv_istore hx hb d_Lw_law_221 hl (by decide) rfl (fun ls hl => ?_)
  have hl : lv_has ls 7 [(6, .int r), (5, .int k9), (4, .int (nI (4 * t))), (0, .ref b), (1, .ref s.heap.size), (2, .ref (s.heap.size + 277)), (3, .ref (s.heap.size + 293))] := hl
  refine lv_aload_n hx hb d_Lw_law_223 rfl (lv_at hl 5 rfl) ?_
  refine cr_V Z.1 kv_Lw_66 hth hP (la_recv hK hP kc_Mo hm.1 rfl) [] rfl rfl hl.1 (Nat.le_of_ble_eq_true rfl) ⟨by decide, by decide⟩ hcs d_Lw_law_224 ?_
  refine lv_iload hx hb d_Lw_law_227 (lv_at hl 1 rfl) ?_
  refine lv_icmp_eq (tgt := 234) hx hb d_Lw_law_229 rfl (fun br229 => ?_) (fun br229 => absurd (rfl) br229)
  refine lv_iload hx hb d_Lw_law_234 (lv_at hl 1 rfl) ?_
  refine lv_if_ne (tgt := 251) hx hb d_Lw_law_236 rfl (fun br236 => ?_) (fun br236 => ?_)
  · skip
    refine lv_goto (tgt := 900) hx hb d_Lw_law_251 rfl ?_
    exact kk H locs ls mu2 v1 ⟨hP, hO, J1, hS⟩ (lv_sub hl [2, 3, 4, 5, 6] rfl)
  · skip
    refine lv_aload_n hx hb d_Lw_law_239 rfl (lv_at hl 6 rfl) ?_
    refine lv_iconst (v := 0) hx hb d_Lw_law_240 (by decide) ?_
    refine ob_ld Z.1 hO d_Lw_law_241 ?_
    refine lv_iload hx hb d_Lw_law_242 (lv_at hl 0 rfl) ?_
    refine lv_i2l hx hb d_Lw_law_244 rfl ?_
    refine W.lcmp hx hb d_Lw_law_245 ?_
    rw [hv9 br236, lg_self]
    refine lv_if_eq (tgt := 251) hx hb d_Lw_law_246 rfl (fun br246 => ?_) (fun br246 => absurd (rfl) br246)
    refine lv_goto (tgt := 900) hx hb d_Lw_law_251 rfl ?_
    exact kk H locs ls mu2 v1 ⟨hP, hO, J1, hS⟩ (lv_sub hl [2, 3, 4, 5, 6] rfl)
set_option maxHeartbeats 8000000 in
set_option maxRecDepth 100000 in
theorem lw_c2 (Z : LZ D E l p s m c b L xs) (I : LI D E s t H locs mu v) (ht : 4 * t + 4 ≤ L) (hcs : cells + 1 ≤ room_1.cells ∧ slots + 6 ≤ room_1.slots) (hl : lv_has ls 7 [(4, .int (nI (4 * t))), (0, .ref b), (1, .ref s.heap.size), (2, .ref (s.heap.size + 277)), (3, .ref (s.heap.size + 293))]) (kk : ∀ (H1 : Heap) (locs1 : List Loc) (ls1 : Array Slot) (mu1 : la_M) (v1 : Int64), LI D E s (t + 1) H1 locs1 mu1 v1 → lv_has ls1 7 [(4, .int (nI (4 * t))), (0, .ref b), (1, .ref s.heap.size), (2, .ref (s.heap.size + 277)), (3, .ref (s.heap.size + 293))] → W p l e room_1 s m #[Value.ref b] below meth c H1 locs1 (cells + 1) (slots + 6) Q (F0 m 900 ls1 [])) : W p l e room_1 s m #[Value.ref b] below meth c H locs cells slots Q (F0 m 254 ls []) := by
  obtain ⟨hP, hO, J, hS⟩ := I
  have hx := Z.1.1
  have hb := Z.1.2.1
  have hK : va_K D cls5 (tyE E) s := Z.1.2.2.2.2.2
  have hL := Z.2.2.2.2.1
  have htk := LI.tk ⟨hP, hO, J, hS⟩ Z
  have he := lL_er E s.heap.size
  have hm := lL_mo E s.heap.size
  obtain ⟨k9, v1, mu1, mu2, hw, hmo, hk9, J1⟩ := op_nod l Z.2.1 D E _ he hm (lL_na E _) (Nat.le_refl _) J (by omega) v (xs (4 * t + 1))
  have hth := c_Mo_thrown l D E _ hm mu2
  rw [hk9] at hth
  refine lv_aload_n hx hb d_Lw_law_254 rfl (lv_at hl 2 rfl) ?_
  refine lv_aload_n hx hb d_Lw_law_255 rfl (lv_at hl 1 rfl) ?_
  refine lv_iload hx hb d_Lw_law_256 (lv_at hl 0 rfl) ?_
  refine lv_iconst (v := 1) hx hb d_Lw_law_258 (by decide) ?_
  refine lv_iadd hx hb d_Lw_law_259 ?_
  rw [show nI (4 * t) + (1 : Int32) = nI (4 * t + 1) from nI_add _ 1]
  refine x_ld Z hS (4 * t + 1) rfl (by omega) d_Lw_law_260 ?_
  refine cl_S Z.1 kb_74 hw hP htk hO hS nA_w [] rfl rfl hl.1 (Nat.le_of_ble_eq_true rfl) ⟨by decide, by decide⟩ hcs d_Lw_law_261 (fun H locs hP hO hkp hS => ?_)
  refine lv_istore hx hb d_Lw_law_264 hl (by decide) rfl (fun ls hl => ?_)
  have hl : lv_has ls 7 [(5, .int k9), (4, .int (nI (4 * t))), (0, .ref b), (1, .ref s.heap.size), (2, .ref (s.heap.size + 277)), (3, .ref (s.heap.size + 293))] := hl
  refine lv_aload_n hx hb d_Lw_law_266 rfl (lv_at hl 4 rfl) ?_
  refine lv_aload_n hx hb d_Lw_law_267 rfl (lv_at hl 2 rfl) ?_
  refine lv_iload hx hb d_Lw_law_268 (lv_at hl 1 rfl) ?_
  refine lv_iconst (v := 1) hx hb d_Lw_law_270 (by decide) ?_
  refine lv_iadd hx hb d_Lw_law_271 ?_
  rw [show nI (4 * t) + (1 : Int32) = nI (4 * t + 1) from nI_add _ 1]
  refine x_ld Z hS (4 * t + 1) rfl (by omega) d_Lw_law_272 ?_
  refine cw_V Z.1 kv_Lw_77 hmo hP hS nA_la (la_recv hK hP kc_Mo hm.1 rfl) [] rfl rfl hl.1 (Nat.le_of_ble_eq_true rfl) ⟨by decide, by decide⟩ hcs d_Lw_law_273 (fun H locs hP hkp hS => ?_)
  have hO : ob E (s.heap.size + 293) v1 H := (hkp (s.heap.size + 293) (Array.getElem?_eq_some_iff.mp hO).1 (lL_na E s.heap.size)).trans hO
  refine lv_aload_n hx hb d_Lw_law_276 rfl (lv_at hl 4 rfl) ?_
  refine cr_V Z.1 kv_Lw_66 hth hP (la_recv hK hP kc_Mo hm.1 rfl) [] rfl rfl hl.1 (Nat.le_of_ble_eq_true rfl) ⟨by decide, by decide⟩ hcs d_Lw_law_277 ?_
  refine lv_iload hx hb d_Lw_law_280 (lv_at hl 0 rfl) ?_
  refine lv_icmp_eq (tgt := 287) hx hb d_Lw_law_282 rfl (fun br282 => ?_) (fun br282 => absurd (rfl) br282)
  refine lv_goto (tgt := 900) hx hb d_Lw_law_287 rfl ?_
  exact kk H locs ls mu2 v1 ⟨hP, hO, J1, hS⟩ (lv_sub hl [1, 2, 3, 4, 5] rfl)
set_option maxHeartbeats 8000000 in
set_option maxRecDepth 100000 in
theorem lw_c3 (Z : LZ D E l p s m c b L xs) (I : LI D E s t H locs mu v) (ht : 4 * t + 4 ≤ L) (hcs : cells + 1 ≤ room_1.cells ∧ slots + 6 ≤ room_1.slots) (hl : lv_has ls 7 [(4, .int (nI (4 * t))), (0, .ref b), (1, .ref s.heap.size), (2, .ref (s.heap.size + 277)), (3, .ref (s.heap.size + 293))]) (kk : ∀ (H1 : Heap) (locs1 : List Loc) (ls1 : Array Slot) (mu1 : la_M) (v1 : Int64), LI D E s (t + 1) H1 locs1 mu1 v1 → lv_has ls1 7 [(4, .int (nI (4 * t))), (0, .ref b), (1, .ref s.heap.size), (2, .ref (s.heap.size + 277)), (3, .ref (s.heap.size + 293))] → W p l e room_1 s m #[Value.ref b] below meth c H1 locs1 (cells + 1) (slots + 6) Q (F0 m 900 ls1 [])) : W p l e room_1 s m #[Value.ref b] below meth c H locs cells slots Q (F0 m 290 ls []) := by
  obtain ⟨hP, hO, J, hS⟩ := I
  have hx := Z.1.1
  have hb := Z.1.2.1
  have hK : va_K D cls5 (tyE E) s := Z.1.2.2.2.2.2
  have hL := Z.2.2.2.2.1
  have htk := LI.tk ⟨hP, hO, J, hS⟩ Z
  have he := lL_er E s.heap.size
  have hm := lL_mo E s.heap.size
  obtain ⟨k9, r, v1, mu1, mu2, hw, hmo, hk9, hv9, J1⟩ := op_push l Z.2.1 D E _ he hm (lL_na E _) (Nat.le_refl _) J (by omega) v (xs (4 * t + 1))
  have hth := c_Mo_thrown l D E _ hm mu2
  rw [hk9] at hth
  refine lv_aload_n hx hb d_Lw_law_290 rfl (lv_at hl 2 rfl) ?_
  refine lv_aload_n hx hb d_Lw_law_291 rfl (lv_at hl 1 rfl) ?_
  refine lv_iload hx hb d_Lw_law_292 (lv_at hl 0 rfl) ?_
  refine lv_iconst (v := 1) hx hb d_Lw_law_294 (by decide) ?_
  refine lv_iadd hx hb d_Lw_law_295 ?_
  rw [show nI (4 * t) + (1 : Int32) = nI (4 * t + 1) from nI_add _ 1]
  refine x_ld Z hS (4 * t + 1) rfl (by omega) d_Lw_law_296 ?_
  refine lv_aload_n hx hb d_Lw_law_297 rfl (lv_at hl 4 rfl) ?_
  refine cl_S Z.1 kb_78 hw hP htk hO hS nA_w [] rfl rfl hl.1 (Nat.le_of_ble_eq_true rfl) ⟨by decide, by decide⟩ hcs d_Lw_law_298 (fun H locs hP hO hkp hS => ?_)
  refine lv_istore hx hb d_Lw_law_301 hl (by decide) rfl (fun ls hl => ?_)
  have hl : lv_has ls 7 [(5, .int k9), (4, .int (nI (4 * t))), (0, .ref b), (1, .ref s.heap.size), (2, .ref (s.heap.size + 277)), (3, .ref (s.heap.size + 293))] := hl
  refine lv_aload_n hx hb d_Lw_law_303 rfl (lv_at hl 4 rfl) ?_
  refine lv_aload_n hx hb d_Lw_law_304 rfl (lv_at hl 2 rfl) ?_
  refine lv_iload hx hb d_Lw_law_305 (lv_at hl 1 rfl) ?_
  refine lv_iconst (v := 1) hx hb d_Lw_law_307 (by decide) ?_
  refine lv_iadd hx hb d_Lw_law_308 ?_
  rw [show nI (4 * t) + (1 : Int32) = nI (4 * t + 1) from nI_add _ 1]
  refine x_ld Z hS (4 * t + 1) rfl (by omega) d_Lw_law_309 ?_
  refine cw_V Z.1 kv_Lw_81 hmo hP hS nA_la (la_recv hK hP kc_Mo hm.1 rfl) [] rfl rfl hl.1 (Nat.le_of_ble_eq_true rfl) ⟨by decide, by decide⟩ hcs d_Lw_law_310 (fun H locs hP hkp hS => ?_)
  have hO : ob E (s.heap.size + 293) v1 H := (hkp (s.heap.size + 293) (Array.getElem?_eq_some_iff.mp hO).1 (lL_na E s.heap.size)).trans hO
  refine lv_istore hx hb d_Lw_law_313 hl (by decide) rfl (fun ls hl => ?_)
  have hl : lv_has ls 7 [(6, .int r), (5, .int k9), (4, .int (nI (4 * t))), (0, .ref b), (1, .ref s.heap.size), (2, .ref (s.heap.size + 277)), (3, .ref (s.heap.size + 293))] := hl
  refine lv_aload_n hx hb d_Lw_law_315 rfl (lv_at hl 5 rfl) ?_
  refine cr_V Z.1 kv_Lw_66 hth hP (la_recv hK hP kc_Mo hm.1 rfl) [] rfl rfl hl.1 (Nat.le_of_ble_eq_true rfl) ⟨by decide, by decide⟩ hcs d_Lw_law_316 ?_
  refine lv_iload hx hb d_Lw_law_319 (lv_at hl 1 rfl) ?_
  refine lv_icmp_eq (tgt := 326) hx hb d_Lw_law_321 rfl (fun br321 => ?_) (fun br321 => absurd (rfl) br321)
  refine lv_iload hx hb d_Lw_law_326 (lv_at hl 1 rfl) ?_
  refine lv_if_ne (tgt := 343) hx hb d_Lw_law_328 rfl (fun br328 => ?_) (fun br328 => ?_)
  · skip
    refine lv_goto (tgt := 900) hx hb d_Lw_law_343 rfl ?_
    exact kk H locs ls mu2 v1 ⟨hP, hO, J1, hS⟩ (lv_sub hl [2, 3, 4, 5, 6] rfl)
  · skip
    refine lv_aload_n hx hb d_Lw_law_331 rfl (lv_at hl 6 rfl) ?_
    refine lv_iconst (v := 0) hx hb d_Lw_law_332 (by decide) ?_
    refine ob_ld Z.1 hO d_Lw_law_333 ?_
    refine lv_iload hx hb d_Lw_law_334 (lv_at hl 0 rfl) ?_
    refine lv_i2l hx hb d_Lw_law_336 rfl ?_
    refine W.lcmp hx hb d_Lw_law_337 ?_
    rw [hv9 br328, lg_self]
    refine lv_if_eq (tgt := 343) hx hb d_Lw_law_338 rfl (fun br338 => ?_) (fun br338 => absurd (rfl) br338)
    refine lv_goto (tgt := 900) hx hb d_Lw_law_343 rfl ?_
    exact kk H locs ls mu2 v1 ⟨hP, hO, J1, hS⟩ (lv_sub hl [2, 3, 4, 5, 6] rfl)
set_option maxHeartbeats 8000000 in
set_option maxRecDepth 100000 in
theorem lw_c4 (Z : LZ D E l p s m c b L xs) (I : LI D E s t H locs mu v) (ht : 4 * t + 4 ≤ L) (hcs : cells + 1 ≤ room_1.cells ∧ slots + 6 ≤ room_1.slots) (hl : lv_has ls 7 [(4, .int (nI (4 * t))), (0, .ref b), (1, .ref s.heap.size), (2, .ref (s.heap.size + 277)), (3, .ref (s.heap.size + 293))]) (kk : ∀ (H1 : Heap) (locs1 : List Loc) (ls1 : Array Slot) (mu1 : la_M) (v1 : Int64), LI D E s (t + 1) H1 locs1 mu1 v1 → lv_has ls1 7 [(4, .int (nI (4 * t))), (0, .ref b), (1, .ref s.heap.size), (2, .ref (s.heap.size + 277)), (3, .ref (s.heap.size + 293))] → W p l e room_1 s m #[Value.ref b] below meth c H1 locs1 (cells + 1) (slots + 6) Q (F0 m 900 ls1 [])) : W p l e room_1 s m #[Value.ref b] below meth c H locs cells slots Q (F0 m 346 ls []) := by
  obtain ⟨hP, hO, J, hS⟩ := I
  have hx := Z.1.1
  have hb := Z.1.2.1
  have hK : va_K D cls5 (tyE E) s := Z.1.2.2.2.2.2
  have hL := Z.2.2.2.2.1
  have htk := LI.tk ⟨hP, hO, J, hS⟩ Z
  have he := lL_er E s.heap.size
  have hm := lL_mo E s.heap.size
  obtain ⟨k9, r, v1, mu1, mu2, hw, hmo, hk9, hv9, J1⟩ := op_pull l Z.2.1 D E _ he hm (lL_na E _) (Nat.le_refl _) J (by omega) v (xs (4 * t + 1))
  have hth := c_Mo_thrown l D E _ hm mu2
  rw [hk9] at hth
  refine lv_aload_n hx hb d_Lw_law_346 rfl (lv_at hl 2 rfl) ?_
  refine lv_aload_n hx hb d_Lw_law_347 rfl (lv_at hl 1 rfl) ?_
  refine lv_iload hx hb d_Lw_law_348 (lv_at hl 0 rfl) ?_
  refine lv_iconst (v := 1) hx hb d_Lw_law_350 (by decide) ?_
  refine lv_iadd hx hb d_Lw_law_351 ?_
  rw [show nI (4 * t) + (1 : Int32) = nI (4 * t + 1) from nI_add _ 1]
  refine x_ld Z hS (4 * t + 1) rfl (by omega) d_Lw_law_352 ?_
  refine lv_aload_n hx hb d_Lw_law_353 rfl (lv_at hl 4 rfl) ?_
  refine cl_S Z.1 kb_82 hw hP htk hO hS nA_w [] rfl rfl hl.1 (Nat.le_of_ble_eq_true rfl) ⟨by decide, by decide⟩ hcs d_Lw_law_354 (fun H locs hP hO hkp hS => ?_)
  refine lv_istore hx hb d_Lw_law_357 hl (by decide) rfl (fun ls hl => ?_)
  have hl : lv_has ls 7 [(5, .int k9), (4, .int (nI (4 * t))), (0, .ref b), (1, .ref s.heap.size), (2, .ref (s.heap.size + 277)), (3, .ref (s.heap.size + 293))] := hl
  refine lv_aload_n hx hb d_Lw_law_359 rfl (lv_at hl 4 rfl) ?_
  refine lv_aload_n hx hb d_Lw_law_360 rfl (lv_at hl 2 rfl) ?_
  refine lv_iload hx hb d_Lw_law_361 (lv_at hl 1 rfl) ?_
  refine lv_iconst (v := 1) hx hb d_Lw_law_363 (by decide) ?_
  refine lv_iadd hx hb d_Lw_law_364 ?_
  rw [show nI (4 * t) + (1 : Int32) = nI (4 * t + 1) from nI_add _ 1]
  refine x_ld Z hS (4 * t + 1) rfl (by omega) d_Lw_law_365 ?_
  refine cw_V Z.1 kv_Lw_84 hmo hP hS nA_la (la_recv hK hP kc_Mo hm.1 rfl) [] rfl rfl hl.1 (Nat.le_of_ble_eq_true rfl) ⟨by decide, by decide⟩ hcs d_Lw_law_366 (fun H locs hP hkp hS => ?_)
  have hO : ob E (s.heap.size + 293) v1 H := (hkp (s.heap.size + 293) (Array.getElem?_eq_some_iff.mp hO).1 (lL_na E s.heap.size)).trans hO
  refine lv_istore hx hb d_Lw_law_369 hl (by decide) rfl (fun ls hl => ?_)
  have hl : lv_has ls 7 [(6, .int r), (5, .int k9), (4, .int (nI (4 * t))), (0, .ref b), (1, .ref s.heap.size), (2, .ref (s.heap.size + 277)), (3, .ref (s.heap.size + 293))] := hl
  refine lv_aload_n hx hb d_Lw_law_371 rfl (lv_at hl 5 rfl) ?_
  refine cr_V Z.1 kv_Lw_66 hth hP (la_recv hK hP kc_Mo hm.1 rfl) [] rfl rfl hl.1 (Nat.le_of_ble_eq_true rfl) ⟨by decide, by decide⟩ hcs d_Lw_law_372 ?_
  refine lv_iload hx hb d_Lw_law_375 (lv_at hl 1 rfl) ?_
  refine lv_icmp_eq (tgt := 382) hx hb d_Lw_law_377 rfl (fun br377 => ?_) (fun br377 => absurd (rfl) br377)
  refine lv_iload hx hb d_Lw_law_382 (lv_at hl 1 rfl) ?_
  refine lv_if_ne (tgt := 399) hx hb d_Lw_law_384 rfl (fun br384 => ?_) (fun br384 => ?_)
  · skip
    refine lv_goto (tgt := 900) hx hb d_Lw_law_399 rfl ?_
    exact kk H locs ls mu2 v1 ⟨hP, hO, J1, hS⟩ (lv_sub hl [2, 3, 4, 5, 6] rfl)
  · skip
    refine lv_aload_n hx hb d_Lw_law_387 rfl (lv_at hl 6 rfl) ?_
    refine lv_iconst (v := 0) hx hb d_Lw_law_388 (by decide) ?_
    refine ob_ld Z.1 hO d_Lw_law_389 ?_
    refine lv_iload hx hb d_Lw_law_390 (lv_at hl 0 rfl) ?_
    refine lv_i2l hx hb d_Lw_law_392 rfl ?_
    refine W.lcmp hx hb d_Lw_law_393 ?_
    rw [hv9 br384, lg_self]
    refine lv_if_eq (tgt := 399) hx hb d_Lw_law_394 rfl (fun br394 => ?_) (fun br394 => absurd (rfl) br394)
    refine lv_goto (tgt := 900) hx hb d_Lw_law_399 rfl ?_
    exact kk H locs ls mu2 v1 ⟨hP, hO, J1, hS⟩ (lv_sub hl [2, 3, 4, 5, 6] rfl)
set_option maxHeartbeats 8000000 in
set_option maxRecDepth 100000 in
theorem lw_c5 (Z : LZ D E l p s m c b L xs) (I : LI D E s t H locs mu v) (ht : 4 * t + 4 ≤ L) (hcs : cells + 1 ≤ room_1.cells ∧ slots + 6 ≤ room_1.slots) (hl : lv_has ls 7 [(4, .int (nI (4 * t))), (0, .ref b), (1, .ref s.heap.size), (2, .ref (s.heap.size + 277)), (3, .ref (s.heap.size + 293))]) (kk : ∀ (H1 : Heap) (locs1 : List Loc) (ls1 : Array Slot) (mu1 : la_M) (v1 : Int64), LI D E s (t + 1) H1 locs1 mu1 v1 → lv_has ls1 7 [(4, .int (nI (4 * t))), (0, .ref b), (1, .ref s.heap.size), (2, .ref (s.heap.size + 277)), (3, .ref (s.heap.size + 293))] → W p l e room_1 s m #[Value.ref b] below meth c H1 locs1 (cells + 1) (slots + 6) Q (F0 m 900 ls1 [])) : W p l e room_1 s m #[Value.ref b] below meth c H locs cells slots Q (F0 m 402 ls []) := by
  obtain ⟨hP, hO, J, hS⟩ := I
  have hx := Z.1.1
  have hb := Z.1.2.1
  have hK : va_K D cls5 (tyE E) s := Z.1.2.2.2.2.2
  have hL := Z.2.2.2.2.1
  have htk := LI.tk ⟨hP, hO, J, hS⟩ Z
  have he := lL_er E s.heap.size
  have hm := lL_mo E s.heap.size
  by_cases hz : xs (4 * t + 2) = 0
  · skip
    obtain ⟨k9, r, v1, mu1, mu2, hw, hmo, hk9, hv9, J1⟩ := op_waiting l Z.2.1 D E _ he hm (lL_na E _) (Nat.le_refl _) J (by omega) v (xs (4 * t + 1)) 0
    have hth := c_Mo_thrown l D E _ hm mu2
    rw [hk9] at hth
    refine lv_aload_n hx hb d_Lw_law_402 rfl (lv_at hl 2 rfl) ?_
    refine lv_aload_n hx hb d_Lw_law_403 rfl (lv_at hl 1 rfl) ?_
    refine lv_iload hx hb d_Lw_law_404 (lv_at hl 0 rfl) ?_
    refine lv_iconst (v := 1) hx hb d_Lw_law_406 (by decide) ?_
    refine lv_iadd hx hb d_Lw_law_407 ?_
    rw [show nI (4 * t) + (1 : Int32) = nI (4 * t + 1) from nI_add _ 1]
    refine x_ld Z hS (4 * t + 1) rfl (by omega) d_Lw_law_408 ?_
    refine lv_aload_n hx hb d_Lw_law_409 rfl (lv_at hl 1 rfl) ?_
    refine lv_iload hx hb d_Lw_law_410 (lv_at hl 0 rfl) ?_
    refine lv_iconst (v := 2) hx hb d_Lw_law_412 (by decide) ?_
    refine lv_iadd hx hb d_Lw_law_413 ?_
    rw [show nI (4 * t) + (2 : Int32) = nI (4 * t + 2) from nI_add _ 2]
    refine x_ld Z hS (4 * t + 2) rfl (by omega) d_Lw_law_414 ?_
    refine lv_if_eq (tgt := 422) hx hb d_Lw_law_415 rfl (fun br415 => ?_) (fun br415 => absurd (hz) br415)
    refine lv_iconst (v := 0) hx hb d_Lw_law_422 (by decide) ?_
    refine lv_aload_n hx hb d_Lw_law_423 rfl (lv_at hl 4 rfl) ?_
    refine cl_S Z.1 kb_85 hw hP htk hO hS nA_w [] rfl rfl hl.1 (Nat.le_of_ble_eq_true rfl) ⟨by decide, by decide⟩ hcs d_Lw_law_424 (fun H locs hP hO hkp hS => ?_)
    refine lv_istore hx hb d_Lw_law_427 hl (by decide) rfl (fun ls hl => ?_)
    have hl : lv_has ls 7 [(5, .int k9), (4, .int (nI (4 * t))), (0, .ref b), (1, .ref s.heap.size), (2, .ref (s.heap.size + 277)), (3, .ref (s.heap.size + 293))] := hl
    refine lv_aload_n hx hb d_Lw_law_429 rfl (lv_at hl 4 rfl) ?_
    refine lv_aload_n hx hb d_Lw_law_430 rfl (lv_at hl 2 rfl) ?_
    refine lv_iload hx hb d_Lw_law_431 (lv_at hl 1 rfl) ?_
    refine lv_iconst (v := 1) hx hb d_Lw_law_433 (by decide) ?_
    refine lv_iadd hx hb d_Lw_law_434 ?_
    rw [show nI (4 * t) + (1 : Int32) = nI (4 * t + 1) from nI_add _ 1]
    refine x_ld Z hS (4 * t + 1) rfl (by omega) d_Lw_law_435 ?_
    refine lv_aload_n hx hb d_Lw_law_436 rfl (lv_at hl 2 rfl) ?_
    refine lv_iload hx hb d_Lw_law_437 (lv_at hl 1 rfl) ?_
    refine lv_iconst (v := 2) hx hb d_Lw_law_439 (by decide) ?_
    refine lv_iadd hx hb d_Lw_law_440 ?_
    rw [show nI (4 * t) + (2 : Int32) = nI (4 * t + 2) from nI_add _ 2]
    refine x_ld Z hS (4 * t + 2) rfl (by omega) d_Lw_law_441 ?_
    refine lv_if_eq (tgt := 449) hx hb d_Lw_law_442 rfl (fun br442 => ?_) (fun br442 => absurd (hz) br442)
    refine lv_iconst (v := 0) hx hb d_Lw_law_449 (by decide) ?_
    refine cw_V Z.1 kv_Lw_88 hmo hP hS nA_la (la_recv hK hP kc_Mo hm.1 rfl) [] rfl rfl hl.1 (Nat.le_of_ble_eq_true rfl) ⟨by decide, by decide⟩ hcs d_Lw_law_450 (fun H locs hP hkp hS => ?_)
    have hO : ob E (s.heap.size + 293) v1 H := (hkp (s.heap.size + 293) (Array.getElem?_eq_some_iff.mp hO).1 (lL_na E s.heap.size)).trans hO
    refine lv_istore hx hb d_Lw_law_453 hl (by decide) rfl (fun ls hl => ?_)
    have hl : lv_has ls 7 [(6, .int r), (5, .int k9), (4, .int (nI (4 * t))), (0, .ref b), (1, .ref s.heap.size), (2, .ref (s.heap.size + 277)), (3, .ref (s.heap.size + 293))] := hl
    refine lv_aload_n hx hb d_Lw_law_455 rfl (lv_at hl 5 rfl) ?_
    refine cr_V Z.1 kv_Lw_66 hth hP (la_recv hK hP kc_Mo hm.1 rfl) [] rfl rfl hl.1 (Nat.le_of_ble_eq_true rfl) ⟨by decide, by decide⟩ hcs d_Lw_law_456 ?_
    refine lv_iload hx hb d_Lw_law_459 (lv_at hl 1 rfl) ?_
    refine lv_icmp_eq (tgt := 466) hx hb d_Lw_law_461 rfl (fun br461 => ?_) (fun br461 => absurd (rfl) br461)
    refine lv_iload hx hb d_Lw_law_466 (lv_at hl 1 rfl) ?_
    refine lv_if_ne (tgt := 483) hx hb d_Lw_law_468 rfl (fun br468 => ?_) (fun br468 => ?_)
    · skip
      refine lv_goto (tgt := 900) hx hb d_Lw_law_483 rfl ?_
      exact kk H locs ls mu2 v1 ⟨hP, hO, J1, hS⟩ (lv_sub hl [2, 3, 4, 5, 6] rfl)
    · skip
      refine lv_aload_n hx hb d_Lw_law_471 rfl (lv_at hl 6 rfl) ?_
      refine lv_iconst (v := 0) hx hb d_Lw_law_472 (by decide) ?_
      refine ob_ld Z.1 hO d_Lw_law_473 ?_
      refine lv_iload hx hb d_Lw_law_474 (lv_at hl 0 rfl) ?_
      refine lv_i2l hx hb d_Lw_law_476 rfl ?_
      refine W.lcmp hx hb d_Lw_law_477 ?_
      rw [hv9 br468, lg_self]
      refine lv_if_eq (tgt := 483) hx hb d_Lw_law_478 rfl (fun br478 => ?_) (fun br478 => absurd (rfl) br478)
      refine lv_goto (tgt := 900) hx hb d_Lw_law_483 rfl ?_
      exact kk H locs ls mu2 v1 ⟨hP, hO, J1, hS⟩ (lv_sub hl [2, 3, 4, 5, 6] rfl)
  · skip
    obtain ⟨k9, r, v1, mu1, mu2, hw, hmo, hk9, hv9, J1⟩ := op_waiting l Z.2.1 D E _ he hm (lL_na E _) (Nat.le_refl _) J (by omega) v (xs (4 * t + 1)) 1
    have hth := c_Mo_thrown l D E _ hm mu2
    rw [hk9] at hth
    refine lv_aload_n hx hb d_Lw_law_402 rfl (lv_at hl 2 rfl) ?_
    refine lv_aload_n hx hb d_Lw_law_403 rfl (lv_at hl 1 rfl) ?_
    refine lv_iload hx hb d_Lw_law_404 (lv_at hl 0 rfl) ?_
    refine lv_iconst (v := 1) hx hb d_Lw_law_406 (by decide) ?_
    refine lv_iadd hx hb d_Lw_law_407 ?_
    rw [show nI (4 * t) + (1 : Int32) = nI (4 * t + 1) from nI_add _ 1]
    refine x_ld Z hS (4 * t + 1) rfl (by omega) d_Lw_law_408 ?_
    refine lv_aload_n hx hb d_Lw_law_409 rfl (lv_at hl 1 rfl) ?_
    refine lv_iload hx hb d_Lw_law_410 (lv_at hl 0 rfl) ?_
    refine lv_iconst (v := 2) hx hb d_Lw_law_412 (by decide) ?_
    refine lv_iadd hx hb d_Lw_law_413 ?_
    rw [show nI (4 * t) + (2 : Int32) = nI (4 * t + 2) from nI_add _ 2]
    refine x_ld Z hS (4 * t + 2) rfl (by omega) d_Lw_law_414 ?_
    refine lv_if_eq (tgt := 422) hx hb d_Lw_law_415 rfl (fun br415 => absurd br415 (hz)) (fun br415 => ?_)
    refine lv_iconst (v := 1) hx hb d_Lw_law_418 (by decide) ?_
    refine lv_goto (tgt := 423) hx hb d_Lw_law_419 rfl ?_
    refine lv_aload_n hx hb d_Lw_law_423 rfl (lv_at hl 4 rfl) ?_
    refine cl_S Z.1 kb_85 hw hP htk hO hS nA_w [] rfl rfl hl.1 (Nat.le_of_ble_eq_true rfl) ⟨by decide, by decide⟩ hcs d_Lw_law_424 (fun H locs hP hO hkp hS => ?_)
    refine lv_istore hx hb d_Lw_law_427 hl (by decide) rfl (fun ls hl => ?_)
    have hl : lv_has ls 7 [(5, .int k9), (4, .int (nI (4 * t))), (0, .ref b), (1, .ref s.heap.size), (2, .ref (s.heap.size + 277)), (3, .ref (s.heap.size + 293))] := hl
    refine lv_aload_n hx hb d_Lw_law_429 rfl (lv_at hl 4 rfl) ?_
    refine lv_aload_n hx hb d_Lw_law_430 rfl (lv_at hl 2 rfl) ?_
    refine lv_iload hx hb d_Lw_law_431 (lv_at hl 1 rfl) ?_
    refine lv_iconst (v := 1) hx hb d_Lw_law_433 (by decide) ?_
    refine lv_iadd hx hb d_Lw_law_434 ?_
    rw [show nI (4 * t) + (1 : Int32) = nI (4 * t + 1) from nI_add _ 1]
    refine x_ld Z hS (4 * t + 1) rfl (by omega) d_Lw_law_435 ?_
    refine lv_aload_n hx hb d_Lw_law_436 rfl (lv_at hl 2 rfl) ?_
    refine lv_iload hx hb d_Lw_law_437 (lv_at hl 1 rfl) ?_
    refine lv_iconst (v := 2) hx hb d_Lw_law_439 (by decide) ?_
    refine lv_iadd hx hb d_Lw_law_440 ?_
    rw [show nI (4 * t) + (2 : Int32) = nI (4 * t + 2) from nI_add _ 2]
    refine x_ld Z hS (4 * t + 2) rfl (by omega) d_Lw_law_441 ?_
    refine lv_if_eq (tgt := 449) hx hb d_Lw_law_442 rfl (fun br442 => absurd br442 (hz)) (fun br442 => ?_)
    refine lv_iconst (v := 1) hx hb d_Lw_law_445 (by decide) ?_
    refine lv_goto (tgt := 450) hx hb d_Lw_law_446 rfl ?_
    refine cw_V Z.1 kv_Lw_88 hmo hP hS nA_la (la_recv hK hP kc_Mo hm.1 rfl) [] rfl rfl hl.1 (Nat.le_of_ble_eq_true rfl) ⟨by decide, by decide⟩ hcs d_Lw_law_450 (fun H locs hP hkp hS => ?_)
    have hO : ob E (s.heap.size + 293) v1 H := (hkp (s.heap.size + 293) (Array.getElem?_eq_some_iff.mp hO).1 (lL_na E s.heap.size)).trans hO
    refine lv_istore hx hb d_Lw_law_453 hl (by decide) rfl (fun ls hl => ?_)
    have hl : lv_has ls 7 [(6, .int r), (5, .int k9), (4, .int (nI (4 * t))), (0, .ref b), (1, .ref s.heap.size), (2, .ref (s.heap.size + 277)), (3, .ref (s.heap.size + 293))] := hl
    refine lv_aload_n hx hb d_Lw_law_455 rfl (lv_at hl 5 rfl) ?_
    refine cr_V Z.1 kv_Lw_66 hth hP (la_recv hK hP kc_Mo hm.1 rfl) [] rfl rfl hl.1 (Nat.le_of_ble_eq_true rfl) ⟨by decide, by decide⟩ hcs d_Lw_law_456 ?_
    refine lv_iload hx hb d_Lw_law_459 (lv_at hl 1 rfl) ?_
    refine lv_icmp_eq (tgt := 466) hx hb d_Lw_law_461 rfl (fun br461 => ?_) (fun br461 => absurd (rfl) br461)
    refine lv_iload hx hb d_Lw_law_466 (lv_at hl 1 rfl) ?_
    refine lv_if_ne (tgt := 483) hx hb d_Lw_law_468 rfl (fun br468 => ?_) (fun br468 => ?_)
    · skip
      refine lv_goto (tgt := 900) hx hb d_Lw_law_483 rfl ?_
      exact kk H locs ls mu2 v1 ⟨hP, hO, J1, hS⟩ (lv_sub hl [2, 3, 4, 5, 6] rfl)
    · skip
      refine lv_aload_n hx hb d_Lw_law_471 rfl (lv_at hl 6 rfl) ?_
      refine lv_iconst (v := 0) hx hb d_Lw_law_472 (by decide) ?_
      refine ob_ld Z.1 hO d_Lw_law_473 ?_
      refine lv_iload hx hb d_Lw_law_474 (lv_at hl 0 rfl) ?_
      refine lv_i2l hx hb d_Lw_law_476 rfl ?_
      refine W.lcmp hx hb d_Lw_law_477 ?_
      rw [hv9 br468, lg_self]
      refine lv_if_eq (tgt := 483) hx hb d_Lw_law_478 rfl (fun br478 => ?_) (fun br478 => absurd (rfl) br478)
      refine lv_goto (tgt := 900) hx hb d_Lw_law_483 rfl ?_
      exact kk H locs ls mu2 v1 ⟨hP, hO, J1, hS⟩ (lv_sub hl [2, 3, 4, 5, 6] rfl)
set_option maxHeartbeats 8000000 in
set_option maxRecDepth 100000 in
theorem lw_c6 (Z : LZ D E l p s m c b L xs) (I : LI D E s t H locs mu v) (ht : 4 * t + 4 ≤ L) (hcs : cells + 1 ≤ room_1.cells ∧ slots + 6 ≤ room_1.slots) (hl : lv_has ls 7 [(4, .int (nI (4 * t))), (0, .ref b), (1, .ref s.heap.size), (2, .ref (s.heap.size + 277)), (3, .ref (s.heap.size + 293))]) (kk : ∀ (H1 : Heap) (locs1 : List Loc) (ls1 : Array Slot) (mu1 : la_M) (v1 : Int64), LI D E s (t + 1) H1 locs1 mu1 v1 → lv_has ls1 7 [(4, .int (nI (4 * t))), (0, .ref b), (1, .ref s.heap.size), (2, .ref (s.heap.size + 277)), (3, .ref (s.heap.size + 293))] → W p l e room_1 s m #[Value.ref b] below meth c H1 locs1 (cells + 1) (slots + 6) Q (F0 m 900 ls1 [])) : W p l e room_1 s m #[Value.ref b] below meth c H locs cells slots Q (F0 m 486 ls []) := by
  obtain ⟨hP, hO, J, hS⟩ := I
  have hx := Z.1.1
  have hb := Z.1.2.1
  have hK : va_K D cls5 (tyE E) s := Z.1.2.2.2.2.2
  have hL := Z.2.2.2.2.1
  have htk := LI.tk ⟨hP, hO, J, hS⟩ Z
  have he := lL_er E s.heap.size
  have hm := lL_mo E s.heap.size
  by_cases hz : xs (4 * t + 2) = 0
  · skip
    obtain ⟨k9, r, v1, mu1, mu2, hw, hmo, hk9, hv9, J1⟩ := op_got l Z.2.1 D E _ he hm (lL_na E _) (Nat.le_refl _) J (by omega) v (xs (4 * t + 1)) 0
    have hth := c_Mo_thrown l D E _ hm mu2
    rw [hk9] at hth
    refine lv_aload_n hx hb d_Lw_law_486 rfl (lv_at hl 2 rfl) ?_
    refine lv_aload_n hx hb d_Lw_law_487 rfl (lv_at hl 1 rfl) ?_
    refine lv_iload hx hb d_Lw_law_488 (lv_at hl 0 rfl) ?_
    refine lv_iconst (v := 1) hx hb d_Lw_law_490 (by decide) ?_
    refine lv_iadd hx hb d_Lw_law_491 ?_
    rw [show nI (4 * t) + (1 : Int32) = nI (4 * t + 1) from nI_add _ 1]
    refine x_ld Z hS (4 * t + 1) rfl (by omega) d_Lw_law_492 ?_
    refine lv_aload_n hx hb d_Lw_law_493 rfl (lv_at hl 1 rfl) ?_
    refine lv_iload hx hb d_Lw_law_494 (lv_at hl 0 rfl) ?_
    refine lv_iconst (v := 2) hx hb d_Lw_law_496 (by decide) ?_
    refine lv_iadd hx hb d_Lw_law_497 ?_
    rw [show nI (4 * t) + (2 : Int32) = nI (4 * t + 2) from nI_add _ 2]
    refine x_ld Z hS (4 * t + 2) rfl (by omega) d_Lw_law_498 ?_
    refine lv_if_eq (tgt := 506) hx hb d_Lw_law_499 rfl (fun br499 => ?_) (fun br499 => absurd (hz) br499)
    refine lv_iconst (v := 0) hx hb d_Lw_law_506 (by decide) ?_
    refine lv_aload_n hx hb d_Lw_law_507 rfl (lv_at hl 4 rfl) ?_
    refine cl_S Z.1 kb_89 hw hP htk hO hS nA_w [] rfl rfl hl.1 (Nat.le_of_ble_eq_true rfl) ⟨by decide, by decide⟩ hcs d_Lw_law_508 (fun H locs hP hO hkp hS => ?_)
    refine lv_istore hx hb d_Lw_law_511 hl (by decide) rfl (fun ls hl => ?_)
    have hl : lv_has ls 7 [(5, .int k9), (4, .int (nI (4 * t))), (0, .ref b), (1, .ref s.heap.size), (2, .ref (s.heap.size + 277)), (3, .ref (s.heap.size + 293))] := hl
    refine lv_aload_n hx hb d_Lw_law_513 rfl (lv_at hl 4 rfl) ?_
    refine lv_aload_n hx hb d_Lw_law_514 rfl (lv_at hl 2 rfl) ?_
    refine lv_iload hx hb d_Lw_law_515 (lv_at hl 1 rfl) ?_
    refine lv_iconst (v := 1) hx hb d_Lw_law_517 (by decide) ?_
    refine lv_iadd hx hb d_Lw_law_518 ?_
    rw [show nI (4 * t) + (1 : Int32) = nI (4 * t + 1) from nI_add _ 1]
    refine x_ld Z hS (4 * t + 1) rfl (by omega) d_Lw_law_519 ?_
    refine lv_aload_n hx hb d_Lw_law_520 rfl (lv_at hl 2 rfl) ?_
    refine lv_iload hx hb d_Lw_law_521 (lv_at hl 1 rfl) ?_
    refine lv_iconst (v := 2) hx hb d_Lw_law_523 (by decide) ?_
    refine lv_iadd hx hb d_Lw_law_524 ?_
    rw [show nI (4 * t) + (2 : Int32) = nI (4 * t + 2) from nI_add _ 2]
    refine x_ld Z hS (4 * t + 2) rfl (by omega) d_Lw_law_525 ?_
    refine lv_if_eq (tgt := 533) hx hb d_Lw_law_526 rfl (fun br526 => ?_) (fun br526 => absurd (hz) br526)
    refine lv_iconst (v := 0) hx hb d_Lw_law_533 (by decide) ?_
    refine cw_V Z.1 kv_Lw_91 hmo hP hS nA_la (la_recv hK hP kc_Mo hm.1 rfl) [] rfl rfl hl.1 (Nat.le_of_ble_eq_true rfl) ⟨by decide, by decide⟩ hcs d_Lw_law_534 (fun H locs hP hkp hS => ?_)
    have hO : ob E (s.heap.size + 293) v1 H := (hkp (s.heap.size + 293) (Array.getElem?_eq_some_iff.mp hO).1 (lL_na E s.heap.size)).trans hO
    refine lv_istore hx hb d_Lw_law_537 hl (by decide) rfl (fun ls hl => ?_)
    have hl : lv_has ls 7 [(6, .int r), (5, .int k9), (4, .int (nI (4 * t))), (0, .ref b), (1, .ref s.heap.size), (2, .ref (s.heap.size + 277)), (3, .ref (s.heap.size + 293))] := hl
    refine lv_aload_n hx hb d_Lw_law_539 rfl (lv_at hl 5 rfl) ?_
    refine cr_V Z.1 kv_Lw_66 hth hP (la_recv hK hP kc_Mo hm.1 rfl) [] rfl rfl hl.1 (Nat.le_of_ble_eq_true rfl) ⟨by decide, by decide⟩ hcs d_Lw_law_540 ?_
    refine lv_iload hx hb d_Lw_law_543 (lv_at hl 1 rfl) ?_
    refine lv_icmp_eq (tgt := 550) hx hb d_Lw_law_545 rfl (fun br545 => ?_) (fun br545 => absurd (rfl) br545)
    refine lv_iload hx hb d_Lw_law_550 (lv_at hl 1 rfl) ?_
    refine lv_if_ne (tgt := 567) hx hb d_Lw_law_552 rfl (fun br552 => ?_) (fun br552 => ?_)
    · skip
      refine lv_goto (tgt := 900) hx hb d_Lw_law_567 rfl ?_
      exact kk H locs ls mu2 v1 ⟨hP, hO, J1, hS⟩ (lv_sub hl [2, 3, 4, 5, 6] rfl)
    · skip
      refine lv_aload_n hx hb d_Lw_law_555 rfl (lv_at hl 6 rfl) ?_
      refine lv_iconst (v := 0) hx hb d_Lw_law_556 (by decide) ?_
      refine ob_ld Z.1 hO d_Lw_law_557 ?_
      refine lv_iload hx hb d_Lw_law_558 (lv_at hl 0 rfl) ?_
      refine lv_i2l hx hb d_Lw_law_560 rfl ?_
      refine W.lcmp hx hb d_Lw_law_561 ?_
      rw [hv9 br552, lg_self]
      refine lv_if_eq (tgt := 567) hx hb d_Lw_law_562 rfl (fun br562 => ?_) (fun br562 => absurd (rfl) br562)
      refine lv_goto (tgt := 900) hx hb d_Lw_law_567 rfl ?_
      exact kk H locs ls mu2 v1 ⟨hP, hO, J1, hS⟩ (lv_sub hl [2, 3, 4, 5, 6] rfl)
  · skip
    obtain ⟨k9, r, v1, mu1, mu2, hw, hmo, hk9, hv9, J1⟩ := op_got l Z.2.1 D E _ he hm (lL_na E _) (Nat.le_refl _) J (by omega) v (xs (4 * t + 1)) 1
    have hth := c_Mo_thrown l D E _ hm mu2
    rw [hk9] at hth
    refine lv_aload_n hx hb d_Lw_law_486 rfl (lv_at hl 2 rfl) ?_
    refine lv_aload_n hx hb d_Lw_law_487 rfl (lv_at hl 1 rfl) ?_
    refine lv_iload hx hb d_Lw_law_488 (lv_at hl 0 rfl) ?_
    refine lv_iconst (v := 1) hx hb d_Lw_law_490 (by decide) ?_
    refine lv_iadd hx hb d_Lw_law_491 ?_
    rw [show nI (4 * t) + (1 : Int32) = nI (4 * t + 1) from nI_add _ 1]
    refine x_ld Z hS (4 * t + 1) rfl (by omega) d_Lw_law_492 ?_
    refine lv_aload_n hx hb d_Lw_law_493 rfl (lv_at hl 1 rfl) ?_
    refine lv_iload hx hb d_Lw_law_494 (lv_at hl 0 rfl) ?_
    refine lv_iconst (v := 2) hx hb d_Lw_law_496 (by decide) ?_
    refine lv_iadd hx hb d_Lw_law_497 ?_
    rw [show nI (4 * t) + (2 : Int32) = nI (4 * t + 2) from nI_add _ 2]
    refine x_ld Z hS (4 * t + 2) rfl (by omega) d_Lw_law_498 ?_
    refine lv_if_eq (tgt := 506) hx hb d_Lw_law_499 rfl (fun br499 => absurd br499 (hz)) (fun br499 => ?_)
    refine lv_iconst (v := 1) hx hb d_Lw_law_502 (by decide) ?_
    refine lv_goto (tgt := 507) hx hb d_Lw_law_503 rfl ?_
    refine lv_aload_n hx hb d_Lw_law_507 rfl (lv_at hl 4 rfl) ?_
    refine cl_S Z.1 kb_89 hw hP htk hO hS nA_w [] rfl rfl hl.1 (Nat.le_of_ble_eq_true rfl) ⟨by decide, by decide⟩ hcs d_Lw_law_508 (fun H locs hP hO hkp hS => ?_)
    refine lv_istore hx hb d_Lw_law_511 hl (by decide) rfl (fun ls hl => ?_)
    have hl : lv_has ls 7 [(5, .int k9), (4, .int (nI (4 * t))), (0, .ref b), (1, .ref s.heap.size), (2, .ref (s.heap.size + 277)), (3, .ref (s.heap.size + 293))] := hl
    refine lv_aload_n hx hb d_Lw_law_513 rfl (lv_at hl 4 rfl) ?_
    refine lv_aload_n hx hb d_Lw_law_514 rfl (lv_at hl 2 rfl) ?_
    refine lv_iload hx hb d_Lw_law_515 (lv_at hl 1 rfl) ?_
    refine lv_iconst (v := 1) hx hb d_Lw_law_517 (by decide) ?_
    refine lv_iadd hx hb d_Lw_law_518 ?_
    rw [show nI (4 * t) + (1 : Int32) = nI (4 * t + 1) from nI_add _ 1]
    refine x_ld Z hS (4 * t + 1) rfl (by omega) d_Lw_law_519 ?_
    refine lv_aload_n hx hb d_Lw_law_520 rfl (lv_at hl 2 rfl) ?_
    refine lv_iload hx hb d_Lw_law_521 (lv_at hl 1 rfl) ?_
    refine lv_iconst (v := 2) hx hb d_Lw_law_523 (by decide) ?_
    refine lv_iadd hx hb d_Lw_law_524 ?_
    rw [show nI (4 * t) + (2 : Int32) = nI (4 * t + 2) from nI_add _ 2]
    refine x_ld Z hS (4 * t + 2) rfl (by omega) d_Lw_law_525 ?_
    refine lv_if_eq (tgt := 533) hx hb d_Lw_law_526 rfl (fun br526 => absurd br526 (hz)) (fun br526 => ?_)
    refine lv_iconst (v := 1) hx hb d_Lw_law_529 (by decide) ?_
    refine lv_goto (tgt := 534) hx hb d_Lw_law_530 rfl ?_
    refine cw_V Z.1 kv_Lw_91 hmo hP hS nA_la (la_recv hK hP kc_Mo hm.1 rfl) [] rfl rfl hl.1 (Nat.le_of_ble_eq_true rfl) ⟨by decide, by decide⟩ hcs d_Lw_law_534 (fun H locs hP hkp hS => ?_)
    have hO : ob E (s.heap.size + 293) v1 H := (hkp (s.heap.size + 293) (Array.getElem?_eq_some_iff.mp hO).1 (lL_na E s.heap.size)).trans hO
    refine lv_istore hx hb d_Lw_law_537 hl (by decide) rfl (fun ls hl => ?_)
    have hl : lv_has ls 7 [(6, .int r), (5, .int k9), (4, .int (nI (4 * t))), (0, .ref b), (1, .ref s.heap.size), (2, .ref (s.heap.size + 277)), (3, .ref (s.heap.size + 293))] := hl
    refine lv_aload_n hx hb d_Lw_law_539 rfl (lv_at hl 5 rfl) ?_
    refine cr_V Z.1 kv_Lw_66 hth hP (la_recv hK hP kc_Mo hm.1 rfl) [] rfl rfl hl.1 (Nat.le_of_ble_eq_true rfl) ⟨by decide, by decide⟩ hcs d_Lw_law_540 ?_
    refine lv_iload hx hb d_Lw_law_543 (lv_at hl 1 rfl) ?_
    refine lv_icmp_eq (tgt := 550) hx hb d_Lw_law_545 rfl (fun br545 => ?_) (fun br545 => absurd (rfl) br545)
    refine lv_iload hx hb d_Lw_law_550 (lv_at hl 1 rfl) ?_
    refine lv_if_ne (tgt := 567) hx hb d_Lw_law_552 rfl (fun br552 => ?_) (fun br552 => ?_)
    · skip
      refine lv_goto (tgt := 900) hx hb d_Lw_law_567 rfl ?_
      exact kk H locs ls mu2 v1 ⟨hP, hO, J1, hS⟩ (lv_sub hl [2, 3, 4, 5, 6] rfl)
    · skip
      refine lv_aload_n hx hb d_Lw_law_555 rfl (lv_at hl 6 rfl) ?_
      refine lv_iconst (v := 0) hx hb d_Lw_law_556 (by decide) ?_
      refine ob_ld Z.1 hO d_Lw_law_557 ?_
      refine lv_iload hx hb d_Lw_law_558 (lv_at hl 0 rfl) ?_
      refine lv_i2l hx hb d_Lw_law_560 rfl ?_
      refine W.lcmp hx hb d_Lw_law_561 ?_
      rw [hv9 br552, lg_self]
      refine lv_if_eq (tgt := 567) hx hb d_Lw_law_562 rfl (fun br562 => ?_) (fun br562 => absurd (rfl) br562)
      refine lv_goto (tgt := 900) hx hb d_Lw_law_567 rfl ?_
      exact kk H locs ls mu2 v1 ⟨hP, hO, J1, hS⟩ (lv_sub hl [2, 3, 4, 5, 6] rfl)
set_option maxHeartbeats 8000000 in
set_option maxRecDepth 100000 in
theorem lw_c7 (Z : LZ D E l p s m c b L xs) (I : LI D E s t H locs mu v) (ht : 4 * t + 4 ≤ L) (hcs : cells + 1 ≤ room_1.cells ∧ slots + 6 ≤ room_1.slots) (hl : lv_has ls 7 [(4, .int (nI (4 * t))), (0, .ref b), (1, .ref s.heap.size), (2, .ref (s.heap.size + 277)), (3, .ref (s.heap.size + 293))]) (kk : ∀ (H1 : Heap) (locs1 : List Loc) (ls1 : Array Slot) (mu1 : la_M) (v1 : Int64), LI D E s (t + 1) H1 locs1 mu1 v1 → lv_has ls1 7 [(4, .int (nI (4 * t))), (0, .ref b), (1, .ref s.heap.size), (2, .ref (s.heap.size + 277)), (3, .ref (s.heap.size + 293))] → W p l e room_1 s m #[Value.ref b] below meth c H1 locs1 (cells + 1) (slots + 6) Q (F0 m 900 ls1 [])) : W p l e room_1 s m #[Value.ref b] below meth c H locs cells slots Q (F0 m 570 ls []) := by
  obtain ⟨hP, hO, J, hS⟩ := I
  have hx := Z.1.1
  have hb := Z.1.2.1
  have hK : va_K D cls5 (tyE E) s := Z.1.2.2.2.2.2
  have hL := Z.2.2.2.2.1
  have htk := LI.tk ⟨hP, hO, J, hS⟩ Z
  have he := lL_er E s.heap.size
  have hm := lL_mo E s.heap.size
  by_cases hz : xs (4 * t + 2) = 0
  · skip
    obtain ⟨k9, r, v1, mu1, mu2, hw, hmo, hk9, hv9, J1⟩ := op_open l Z.2.1 D E _ he hm (lL_na E _) (Nat.le_refl _) J (by omega) v (xs (4 * t + 1)) 0
    have hth := c_Mo_thrown l D E _ hm mu2
    rw [hk9] at hth
    refine lv_aload_n hx hb d_Lw_law_570 rfl (lv_at hl 2 rfl) ?_
    refine lv_aload_n hx hb d_Lw_law_571 rfl (lv_at hl 1 rfl) ?_
    refine lv_iload hx hb d_Lw_law_572 (lv_at hl 0 rfl) ?_
    refine lv_iconst (v := 1) hx hb d_Lw_law_574 (by decide) ?_
    refine lv_iadd hx hb d_Lw_law_575 ?_
    rw [show nI (4 * t) + (1 : Int32) = nI (4 * t + 1) from nI_add _ 1]
    refine x_ld Z hS (4 * t + 1) rfl (by omega) d_Lw_law_576 ?_
    refine lv_aload_n hx hb d_Lw_law_577 rfl (lv_at hl 1 rfl) ?_
    refine lv_iload hx hb d_Lw_law_578 (lv_at hl 0 rfl) ?_
    refine lv_iconst (v := 2) hx hb d_Lw_law_580 (by decide) ?_
    refine lv_iadd hx hb d_Lw_law_581 ?_
    rw [show nI (4 * t) + (2 : Int32) = nI (4 * t + 2) from nI_add _ 2]
    refine x_ld Z hS (4 * t + 2) rfl (by omega) d_Lw_law_582 ?_
    refine lv_if_eq (tgt := 590) hx hb d_Lw_law_583 rfl (fun br583 => ?_) (fun br583 => absurd (hz) br583)
    refine lv_iconst (v := 0) hx hb d_Lw_law_590 (by decide) ?_
    refine lv_aload_n hx hb d_Lw_law_591 rfl (lv_at hl 4 rfl) ?_
    refine cl_S Z.1 kb_92 hw hP htk hO hS nA_w [] rfl rfl hl.1 (Nat.le_of_ble_eq_true rfl) ⟨by decide, by decide⟩ hcs d_Lw_law_592 (fun H locs hP hO hkp hS => ?_)
    refine lv_istore hx hb d_Lw_law_595 hl (by decide) rfl (fun ls hl => ?_)
    have hl : lv_has ls 7 [(5, .int k9), (4, .int (nI (4 * t))), (0, .ref b), (1, .ref s.heap.size), (2, .ref (s.heap.size + 277)), (3, .ref (s.heap.size + 293))] := hl
    refine lv_aload_n hx hb d_Lw_law_597 rfl (lv_at hl 4 rfl) ?_
    refine lv_aload_n hx hb d_Lw_law_598 rfl (lv_at hl 2 rfl) ?_
    refine lv_iload hx hb d_Lw_law_599 (lv_at hl 1 rfl) ?_
    refine lv_iconst (v := 1) hx hb d_Lw_law_601 (by decide) ?_
    refine lv_iadd hx hb d_Lw_law_602 ?_
    rw [show nI (4 * t) + (1 : Int32) = nI (4 * t + 1) from nI_add _ 1]
    refine x_ld Z hS (4 * t + 1) rfl (by omega) d_Lw_law_603 ?_
    refine lv_aload_n hx hb d_Lw_law_604 rfl (lv_at hl 2 rfl) ?_
    refine lv_iload hx hb d_Lw_law_605 (lv_at hl 1 rfl) ?_
    refine lv_iconst (v := 2) hx hb d_Lw_law_607 (by decide) ?_
    refine lv_iadd hx hb d_Lw_law_608 ?_
    rw [show nI (4 * t) + (2 : Int32) = nI (4 * t + 2) from nI_add _ 2]
    refine x_ld Z hS (4 * t + 2) rfl (by omega) d_Lw_law_609 ?_
    refine lv_if_eq (tgt := 617) hx hb d_Lw_law_610 rfl (fun br610 => ?_) (fun br610 => absurd (hz) br610)
    refine lv_iconst (v := 0) hx hb d_Lw_law_617 (by decide) ?_
    refine cw_V Z.1 kv_Lw_94 hmo hP hS nA_la (la_recv hK hP kc_Mo hm.1 rfl) [] rfl rfl hl.1 (Nat.le_of_ble_eq_true rfl) ⟨by decide, by decide⟩ hcs d_Lw_law_618 (fun H locs hP hkp hS => ?_)
    have hO : ob E (s.heap.size + 293) v1 H := (hkp (s.heap.size + 293) (Array.getElem?_eq_some_iff.mp hO).1 (lL_na E s.heap.size)).trans hO
    refine lv_istore hx hb d_Lw_law_621 hl (by decide) rfl (fun ls hl => ?_)
    have hl : lv_has ls 7 [(6, .int r), (5, .int k9), (4, .int (nI (4 * t))), (0, .ref b), (1, .ref s.heap.size), (2, .ref (s.heap.size + 277)), (3, .ref (s.heap.size + 293))] := hl
    refine lv_aload_n hx hb d_Lw_law_623 rfl (lv_at hl 5 rfl) ?_
    refine cr_V Z.1 kv_Lw_66 hth hP (la_recv hK hP kc_Mo hm.1 rfl) [] rfl rfl hl.1 (Nat.le_of_ble_eq_true rfl) ⟨by decide, by decide⟩ hcs d_Lw_law_624 ?_
    refine lv_iload hx hb d_Lw_law_627 (lv_at hl 1 rfl) ?_
    refine lv_icmp_eq (tgt := 634) hx hb d_Lw_law_629 rfl (fun br629 => ?_) (fun br629 => absurd (rfl) br629)
    refine lv_iload hx hb d_Lw_law_634 (lv_at hl 1 rfl) ?_
    refine lv_if_ne (tgt := 651) hx hb d_Lw_law_636 rfl (fun br636 => ?_) (fun br636 => ?_)
    · skip
      refine lv_goto (tgt := 900) hx hb d_Lw_law_651 rfl ?_
      exact kk H locs ls mu2 v1 ⟨hP, hO, J1, hS⟩ (lv_sub hl [2, 3, 4, 5, 6] rfl)
    · skip
      refine lv_aload_n hx hb d_Lw_law_639 rfl (lv_at hl 6 rfl) ?_
      refine lv_iconst (v := 0) hx hb d_Lw_law_640 (by decide) ?_
      refine ob_ld Z.1 hO d_Lw_law_641 ?_
      refine lv_iload hx hb d_Lw_law_642 (lv_at hl 0 rfl) ?_
      refine lv_i2l hx hb d_Lw_law_644 rfl ?_
      refine W.lcmp hx hb d_Lw_law_645 ?_
      rw [hv9 br636, lg_self]
      refine lv_if_eq (tgt := 651) hx hb d_Lw_law_646 rfl (fun br646 => ?_) (fun br646 => absurd (rfl) br646)
      refine lv_goto (tgt := 900) hx hb d_Lw_law_651 rfl ?_
      exact kk H locs ls mu2 v1 ⟨hP, hO, J1, hS⟩ (lv_sub hl [2, 3, 4, 5, 6] rfl)
  · skip
    obtain ⟨k9, r, v1, mu1, mu2, hw, hmo, hk9, hv9, J1⟩ := op_open l Z.2.1 D E _ he hm (lL_na E _) (Nat.le_refl _) J (by omega) v (xs (4 * t + 1)) 1
    have hth := c_Mo_thrown l D E _ hm mu2
    rw [hk9] at hth
    refine lv_aload_n hx hb d_Lw_law_570 rfl (lv_at hl 2 rfl) ?_
    refine lv_aload_n hx hb d_Lw_law_571 rfl (lv_at hl 1 rfl) ?_
    refine lv_iload hx hb d_Lw_law_572 (lv_at hl 0 rfl) ?_
    refine lv_iconst (v := 1) hx hb d_Lw_law_574 (by decide) ?_
    refine lv_iadd hx hb d_Lw_law_575 ?_
    rw [show nI (4 * t) + (1 : Int32) = nI (4 * t + 1) from nI_add _ 1]
    refine x_ld Z hS (4 * t + 1) rfl (by omega) d_Lw_law_576 ?_
    refine lv_aload_n hx hb d_Lw_law_577 rfl (lv_at hl 1 rfl) ?_
    refine lv_iload hx hb d_Lw_law_578 (lv_at hl 0 rfl) ?_
    refine lv_iconst (v := 2) hx hb d_Lw_law_580 (by decide) ?_
    refine lv_iadd hx hb d_Lw_law_581 ?_
    rw [show nI (4 * t) + (2 : Int32) = nI (4 * t + 2) from nI_add _ 2]
    refine x_ld Z hS (4 * t + 2) rfl (by omega) d_Lw_law_582 ?_
    refine lv_if_eq (tgt := 590) hx hb d_Lw_law_583 rfl (fun br583 => absurd br583 (hz)) (fun br583 => ?_)
    refine lv_iconst (v := 1) hx hb d_Lw_law_586 (by decide) ?_
    refine lv_goto (tgt := 591) hx hb d_Lw_law_587 rfl ?_
    refine lv_aload_n hx hb d_Lw_law_591 rfl (lv_at hl 4 rfl) ?_
    refine cl_S Z.1 kb_92 hw hP htk hO hS nA_w [] rfl rfl hl.1 (Nat.le_of_ble_eq_true rfl) ⟨by decide, by decide⟩ hcs d_Lw_law_592 (fun H locs hP hO hkp hS => ?_)
    refine lv_istore hx hb d_Lw_law_595 hl (by decide) rfl (fun ls hl => ?_)
    have hl : lv_has ls 7 [(5, .int k9), (4, .int (nI (4 * t))), (0, .ref b), (1, .ref s.heap.size), (2, .ref (s.heap.size + 277)), (3, .ref (s.heap.size + 293))] := hl
    refine lv_aload_n hx hb d_Lw_law_597 rfl (lv_at hl 4 rfl) ?_
    refine lv_aload_n hx hb d_Lw_law_598 rfl (lv_at hl 2 rfl) ?_
    refine lv_iload hx hb d_Lw_law_599 (lv_at hl 1 rfl) ?_
    refine lv_iconst (v := 1) hx hb d_Lw_law_601 (by decide) ?_
    refine lv_iadd hx hb d_Lw_law_602 ?_
    rw [show nI (4 * t) + (1 : Int32) = nI (4 * t + 1) from nI_add _ 1]
    refine x_ld Z hS (4 * t + 1) rfl (by omega) d_Lw_law_603 ?_
    refine lv_aload_n hx hb d_Lw_law_604 rfl (lv_at hl 2 rfl) ?_
    refine lv_iload hx hb d_Lw_law_605 (lv_at hl 1 rfl) ?_
    refine lv_iconst (v := 2) hx hb d_Lw_law_607 (by decide) ?_
    refine lv_iadd hx hb d_Lw_law_608 ?_
    rw [show nI (4 * t) + (2 : Int32) = nI (4 * t + 2) from nI_add _ 2]
    refine x_ld Z hS (4 * t + 2) rfl (by omega) d_Lw_law_609 ?_
    refine lv_if_eq (tgt := 617) hx hb d_Lw_law_610 rfl (fun br610 => absurd br610 (hz)) (fun br610 => ?_)
    refine lv_iconst (v := 1) hx hb d_Lw_law_613 (by decide) ?_
    refine lv_goto (tgt := 618) hx hb d_Lw_law_614 rfl ?_
    refine cw_V Z.1 kv_Lw_94 hmo hP hS nA_la (la_recv hK hP kc_Mo hm.1 rfl) [] rfl rfl hl.1 (Nat.le_of_ble_eq_true rfl) ⟨by decide, by decide⟩ hcs d_Lw_law_618 (fun H locs hP hkp hS => ?_)
    have hO : ob E (s.heap.size + 293) v1 H := (hkp (s.heap.size + 293) (Array.getElem?_eq_some_iff.mp hO).1 (lL_na E s.heap.size)).trans hO
    refine lv_istore hx hb d_Lw_law_621 hl (by decide) rfl (fun ls hl => ?_)
    have hl : lv_has ls 7 [(6, .int r), (5, .int k9), (4, .int (nI (4 * t))), (0, .ref b), (1, .ref s.heap.size), (2, .ref (s.heap.size + 277)), (3, .ref (s.heap.size + 293))] := hl
    refine lv_aload_n hx hb d_Lw_law_623 rfl (lv_at hl 5 rfl) ?_
    refine cr_V Z.1 kv_Lw_66 hth hP (la_recv hK hP kc_Mo hm.1 rfl) [] rfl rfl hl.1 (Nat.le_of_ble_eq_true rfl) ⟨by decide, by decide⟩ hcs d_Lw_law_624 ?_
    refine lv_iload hx hb d_Lw_law_627 (lv_at hl 1 rfl) ?_
    refine lv_icmp_eq (tgt := 634) hx hb d_Lw_law_629 rfl (fun br629 => ?_) (fun br629 => absurd (rfl) br629)
    refine lv_iload hx hb d_Lw_law_634 (lv_at hl 1 rfl) ?_
    refine lv_if_ne (tgt := 651) hx hb d_Lw_law_636 rfl (fun br636 => ?_) (fun br636 => ?_)
    · skip
      refine lv_goto (tgt := 900) hx hb d_Lw_law_651 rfl ?_
      exact kk H locs ls mu2 v1 ⟨hP, hO, J1, hS⟩ (lv_sub hl [2, 3, 4, 5, 6] rfl)
    · skip
      refine lv_aload_n hx hb d_Lw_law_639 rfl (lv_at hl 6 rfl) ?_
      refine lv_iconst (v := 0) hx hb d_Lw_law_640 (by decide) ?_
      refine ob_ld Z.1 hO d_Lw_law_641 ?_
      refine lv_iload hx hb d_Lw_law_642 (lv_at hl 0 rfl) ?_
      refine lv_i2l hx hb d_Lw_law_644 rfl ?_
      refine W.lcmp hx hb d_Lw_law_645 ?_
      rw [hv9 br636, lg_self]
      refine lv_if_eq (tgt := 651) hx hb d_Lw_law_646 rfl (fun br646 => ?_) (fun br646 => absurd (rfl) br646)
      refine lv_goto (tgt := 900) hx hb d_Lw_law_651 rfl ?_
      exact kk H locs ls mu2 v1 ⟨hP, hO, J1, hS⟩ (lv_sub hl [2, 3, 4, 5, 6] rfl)
set_option maxHeartbeats 8000000 in
set_option maxRecDepth 100000 in
theorem lw_c8 (Z : LZ D E l p s m c b L xs) (I : LI D E s t H locs mu v) (ht : 4 * t + 4 ≤ L) (hcs : cells + 1 ≤ room_1.cells ∧ slots + 6 ≤ room_1.slots) (hl : lv_has ls 7 [(4, .int (nI (4 * t))), (0, .ref b), (1, .ref s.heap.size), (2, .ref (s.heap.size + 277)), (3, .ref (s.heap.size + 293))]) (kk : ∀ (H1 : Heap) (locs1 : List Loc) (ls1 : Array Slot) (mu1 : la_M) (v1 : Int64), LI D E s (t + 1) H1 locs1 mu1 v1 → lv_has ls1 7 [(4, .int (nI (4 * t))), (0, .ref b), (1, .ref s.heap.size), (2, .ref (s.heap.size + 277)), (3, .ref (s.heap.size + 293))] → W p l e room_1 s m #[Value.ref b] below meth c H1 locs1 (cells + 1) (slots + 6) Q (F0 m 900 ls1 [])) : W p l e room_1 s m #[Value.ref b] below meth c H locs cells slots Q (F0 m 654 ls []) := by
  obtain ⟨hP, hO, J, hS⟩ := I
  have hx := Z.1.1
  have hb := Z.1.2.1
  have hK : va_K D cls5 (tyE E) s := Z.1.2.2.2.2.2
  have hL := Z.2.2.2.2.1
  have htk := LI.tk ⟨hP, hO, J, hS⟩ Z
  have he := lL_er E s.heap.size
  have hm := lL_mo E s.heap.size
  by_cases hz : xs (4 * t + 2) = 0
  · skip
    obtain ⟨k9, r, v1, mu1, mu2, hw, hmo, hk9, hv9, J1⟩ := op_change l Z.2.1 D E _ he hm (lL_na E _) (Nat.le_refl _) J (by omega) v (xs (4 * t + 1)) 0 (xs (4 * t + 3))
    have hth := c_Mo_thrown l D E _ hm mu2
    rw [hk9] at hth
    refine lv_aload_n hx hb d_Lw_law_654 rfl (lv_at hl 2 rfl) ?_
    refine lv_aload_n hx hb d_Lw_law_655 rfl (lv_at hl 1 rfl) ?_
    refine lv_iload hx hb d_Lw_law_656 (lv_at hl 0 rfl) ?_
    refine lv_iconst (v := 1) hx hb d_Lw_law_658 (by decide) ?_
    refine lv_iadd hx hb d_Lw_law_659 ?_
    rw [show nI (4 * t) + (1 : Int32) = nI (4 * t + 1) from nI_add _ 1]
    refine x_ld Z hS (4 * t + 1) rfl (by omega) d_Lw_law_660 ?_
    refine lv_aload_n hx hb d_Lw_law_661 rfl (lv_at hl 1 rfl) ?_
    refine lv_iload hx hb d_Lw_law_662 (lv_at hl 0 rfl) ?_
    refine lv_iconst (v := 2) hx hb d_Lw_law_664 (by decide) ?_
    refine lv_iadd hx hb d_Lw_law_665 ?_
    rw [show nI (4 * t) + (2 : Int32) = nI (4 * t + 2) from nI_add _ 2]
    refine x_ld Z hS (4 * t + 2) rfl (by omega) d_Lw_law_666 ?_
    refine lv_if_eq (tgt := 674) hx hb d_Lw_law_667 rfl (fun br667 => ?_) (fun br667 => absurd (hz) br667)
    refine lv_iconst (v := 0) hx hb d_Lw_law_674 (by decide) ?_
    refine lv_aload_n hx hb d_Lw_law_675 rfl (lv_at hl 1 rfl) ?_
    refine lv_iload hx hb d_Lw_law_676 (lv_at hl 0 rfl) ?_
    refine lv_iconst (v := 3) hx hb d_Lw_law_678 (by decide) ?_
    refine lv_iadd hx hb d_Lw_law_679 ?_
    rw [show nI (4 * t) + (3 : Int32) = nI (4 * t + 3) from nI_add _ 3]
    refine x_ld Z hS (4 * t + 3) rfl (by omega) d_Lw_law_680 ?_
    refine lv_aload_n hx hb d_Lw_law_681 rfl (lv_at hl 4 rfl) ?_
    refine cl_S Z.1 kb_95 hw hP htk hO hS nA_w [] rfl rfl hl.1 (Nat.le_of_ble_eq_true rfl) ⟨by decide, by decide⟩ hcs d_Lw_law_682 (fun H locs hP hO hkp hS => ?_)
    refine lv_istore hx hb d_Lw_law_685 hl (by decide) rfl (fun ls hl => ?_)
    have hl : lv_has ls 7 [(5, .int k9), (4, .int (nI (4 * t))), (0, .ref b), (1, .ref s.heap.size), (2, .ref (s.heap.size + 277)), (3, .ref (s.heap.size + 293))] := hl
    refine lv_aload_n hx hb d_Lw_law_687 rfl (lv_at hl 4 rfl) ?_
    refine lv_aload_n hx hb d_Lw_law_688 rfl (lv_at hl 2 rfl) ?_
    refine lv_iload hx hb d_Lw_law_689 (lv_at hl 1 rfl) ?_
    refine lv_iconst (v := 1) hx hb d_Lw_law_691 (by decide) ?_
    refine lv_iadd hx hb d_Lw_law_692 ?_
    rw [show nI (4 * t) + (1 : Int32) = nI (4 * t + 1) from nI_add _ 1]
    refine x_ld Z hS (4 * t + 1) rfl (by omega) d_Lw_law_693 ?_
    refine lv_aload_n hx hb d_Lw_law_694 rfl (lv_at hl 2 rfl) ?_
    refine lv_iload hx hb d_Lw_law_695 (lv_at hl 1 rfl) ?_
    refine lv_iconst (v := 2) hx hb d_Lw_law_697 (by decide) ?_
    refine lv_iadd hx hb d_Lw_law_698 ?_
    rw [show nI (4 * t) + (2 : Int32) = nI (4 * t + 2) from nI_add _ 2]
    refine x_ld Z hS (4 * t + 2) rfl (by omega) d_Lw_law_699 ?_
    refine lv_if_eq (tgt := 707) hx hb d_Lw_law_700 rfl (fun br700 => ?_) (fun br700 => absurd (hz) br700)
    refine lv_iconst (v := 0) hx hb d_Lw_law_707 (by decide) ?_
    refine lv_aload_n hx hb d_Lw_law_708 rfl (lv_at hl 2 rfl) ?_
    refine lv_iload hx hb d_Lw_law_709 (lv_at hl 1 rfl) ?_
    refine lv_iconst (v := 3) hx hb d_Lw_law_711 (by decide) ?_
    refine lv_iadd hx hb d_Lw_law_712 ?_
    rw [show nI (4 * t) + (3 : Int32) = nI (4 * t + 3) from nI_add _ 3]
    refine x_ld Z hS (4 * t + 3) rfl (by omega) d_Lw_law_713 ?_
    refine cw_V Z.1 kv_Lw_98 hmo hP hS nA_la (la_recv hK hP kc_Mo hm.1 rfl) [] rfl rfl hl.1 (Nat.le_of_ble_eq_true rfl) ⟨by decide, by decide⟩ hcs d_Lw_law_714 (fun H locs hP hkp hS => ?_)
    have hO : ob E (s.heap.size + 293) v1 H := (hkp (s.heap.size + 293) (Array.getElem?_eq_some_iff.mp hO).1 (lL_na E s.heap.size)).trans hO
    refine lv_istore hx hb d_Lw_law_717 hl (by decide) rfl (fun ls hl => ?_)
    have hl : lv_has ls 7 [(6, .int r), (5, .int k9), (4, .int (nI (4 * t))), (0, .ref b), (1, .ref s.heap.size), (2, .ref (s.heap.size + 277)), (3, .ref (s.heap.size + 293))] := hl
    refine lv_aload_n hx hb d_Lw_law_719 rfl (lv_at hl 5 rfl) ?_
    refine cr_V Z.1 kv_Lw_66 hth hP (la_recv hK hP kc_Mo hm.1 rfl) [] rfl rfl hl.1 (Nat.le_of_ble_eq_true rfl) ⟨by decide, by decide⟩ hcs d_Lw_law_720 ?_
    refine lv_iload hx hb d_Lw_law_723 (lv_at hl 1 rfl) ?_
    refine lv_icmp_eq (tgt := 730) hx hb d_Lw_law_725 rfl (fun br725 => ?_) (fun br725 => absurd (rfl) br725)
    refine lv_iload hx hb d_Lw_law_730 (lv_at hl 1 rfl) ?_
    refine lv_if_ne (tgt := 747) hx hb d_Lw_law_732 rfl (fun br732 => ?_) (fun br732 => ?_)
    · skip
      refine lv_goto (tgt := 900) hx hb d_Lw_law_747 rfl ?_
      exact kk H locs ls mu2 v1 ⟨hP, hO, J1, hS⟩ (lv_sub hl [2, 3, 4, 5, 6] rfl)
    · skip
      refine lv_aload_n hx hb d_Lw_law_735 rfl (lv_at hl 6 rfl) ?_
      refine lv_iconst (v := 0) hx hb d_Lw_law_736 (by decide) ?_
      refine ob_ld Z.1 hO d_Lw_law_737 ?_
      refine lv_iload hx hb d_Lw_law_738 (lv_at hl 0 rfl) ?_
      refine lv_i2l hx hb d_Lw_law_740 rfl ?_
      refine W.lcmp hx hb d_Lw_law_741 ?_
      rw [hv9 br732, lg_self]
      refine lv_if_eq (tgt := 747) hx hb d_Lw_law_742 rfl (fun br742 => ?_) (fun br742 => absurd (rfl) br742)
      refine lv_goto (tgt := 900) hx hb d_Lw_law_747 rfl ?_
      exact kk H locs ls mu2 v1 ⟨hP, hO, J1, hS⟩ (lv_sub hl [2, 3, 4, 5, 6] rfl)
  · skip
    obtain ⟨k9, r, v1, mu1, mu2, hw, hmo, hk9, hv9, J1⟩ := op_change l Z.2.1 D E _ he hm (lL_na E _) (Nat.le_refl _) J (by omega) v (xs (4 * t + 1)) 1 (xs (4 * t + 3))
    have hth := c_Mo_thrown l D E _ hm mu2
    rw [hk9] at hth
    refine lv_aload_n hx hb d_Lw_law_654 rfl (lv_at hl 2 rfl) ?_
    refine lv_aload_n hx hb d_Lw_law_655 rfl (lv_at hl 1 rfl) ?_
    refine lv_iload hx hb d_Lw_law_656 (lv_at hl 0 rfl) ?_
    refine lv_iconst (v := 1) hx hb d_Lw_law_658 (by decide) ?_
    refine lv_iadd hx hb d_Lw_law_659 ?_
    rw [show nI (4 * t) + (1 : Int32) = nI (4 * t + 1) from nI_add _ 1]
    refine x_ld Z hS (4 * t + 1) rfl (by omega) d_Lw_law_660 ?_
    refine lv_aload_n hx hb d_Lw_law_661 rfl (lv_at hl 1 rfl) ?_
    refine lv_iload hx hb d_Lw_law_662 (lv_at hl 0 rfl) ?_
    refine lv_iconst (v := 2) hx hb d_Lw_law_664 (by decide) ?_
    refine lv_iadd hx hb d_Lw_law_665 ?_
    rw [show nI (4 * t) + (2 : Int32) = nI (4 * t + 2) from nI_add _ 2]
    refine x_ld Z hS (4 * t + 2) rfl (by omega) d_Lw_law_666 ?_
    refine lv_if_eq (tgt := 674) hx hb d_Lw_law_667 rfl (fun br667 => absurd br667 (hz)) (fun br667 => ?_)
    refine lv_iconst (v := 1) hx hb d_Lw_law_670 (by decide) ?_
    refine lv_goto (tgt := 675) hx hb d_Lw_law_671 rfl ?_
    refine lv_aload_n hx hb d_Lw_law_675 rfl (lv_at hl 1 rfl) ?_
    refine lv_iload hx hb d_Lw_law_676 (lv_at hl 0 rfl) ?_
    refine lv_iconst (v := 3) hx hb d_Lw_law_678 (by decide) ?_
    refine lv_iadd hx hb d_Lw_law_679 ?_
    rw [show nI (4 * t) + (3 : Int32) = nI (4 * t + 3) from nI_add _ 3]
    refine x_ld Z hS (4 * t + 3) rfl (by omega) d_Lw_law_680 ?_
    refine lv_aload_n hx hb d_Lw_law_681 rfl (lv_at hl 4 rfl) ?_
    refine cl_S Z.1 kb_95 hw hP htk hO hS nA_w [] rfl rfl hl.1 (Nat.le_of_ble_eq_true rfl) ⟨by decide, by decide⟩ hcs d_Lw_law_682 (fun H locs hP hO hkp hS => ?_)
    refine lv_istore hx hb d_Lw_law_685 hl (by decide) rfl (fun ls hl => ?_)
    have hl : lv_has ls 7 [(5, .int k9), (4, .int (nI (4 * t))), (0, .ref b), (1, .ref s.heap.size), (2, .ref (s.heap.size + 277)), (3, .ref (s.heap.size + 293))] := hl
    refine lv_aload_n hx hb d_Lw_law_687 rfl (lv_at hl 4 rfl) ?_
    refine lv_aload_n hx hb d_Lw_law_688 rfl (lv_at hl 2 rfl) ?_
    refine lv_iload hx hb d_Lw_law_689 (lv_at hl 1 rfl) ?_
    refine lv_iconst (v := 1) hx hb d_Lw_law_691 (by decide) ?_
    refine lv_iadd hx hb d_Lw_law_692 ?_
    rw [show nI (4 * t) + (1 : Int32) = nI (4 * t + 1) from nI_add _ 1]
    refine x_ld Z hS (4 * t + 1) rfl (by omega) d_Lw_law_693 ?_
    refine lv_aload_n hx hb d_Lw_law_694 rfl (lv_at hl 2 rfl) ?_
    refine lv_iload hx hb d_Lw_law_695 (lv_at hl 1 rfl) ?_
    refine lv_iconst (v := 2) hx hb d_Lw_law_697 (by decide) ?_
    refine lv_iadd hx hb d_Lw_law_698 ?_
    rw [show nI (4 * t) + (2 : Int32) = nI (4 * t + 2) from nI_add _ 2]
    refine x_ld Z hS (4 * t + 2) rfl (by omega) d_Lw_law_699 ?_
    refine lv_if_eq (tgt := 707) hx hb d_Lw_law_700 rfl (fun br700 => absurd br700 (hz)) (fun br700 => ?_)
    refine lv_iconst (v := 1) hx hb d_Lw_law_703 (by decide) ?_
    refine lv_goto (tgt := 708) hx hb d_Lw_law_704 rfl ?_
    refine lv_aload_n hx hb d_Lw_law_708 rfl (lv_at hl 2 rfl) ?_
    refine lv_iload hx hb d_Lw_law_709 (lv_at hl 1 rfl) ?_
    refine lv_iconst (v := 3) hx hb d_Lw_law_711 (by decide) ?_
    refine lv_iadd hx hb d_Lw_law_712 ?_
    rw [show nI (4 * t) + (3 : Int32) = nI (4 * t + 3) from nI_add _ 3]
    refine x_ld Z hS (4 * t + 3) rfl (by omega) d_Lw_law_713 ?_
    refine cw_V Z.1 kv_Lw_98 hmo hP hS nA_la (la_recv hK hP kc_Mo hm.1 rfl) [] rfl rfl hl.1 (Nat.le_of_ble_eq_true rfl) ⟨by decide, by decide⟩ hcs d_Lw_law_714 (fun H locs hP hkp hS => ?_)
    have hO : ob E (s.heap.size + 293) v1 H := (hkp (s.heap.size + 293) (Array.getElem?_eq_some_iff.mp hO).1 (lL_na E s.heap.size)).trans hO
    refine lv_istore hx hb d_Lw_law_717 hl (by decide) rfl (fun ls hl => ?_)
    have hl : lv_has ls 7 [(6, .int r), (5, .int k9), (4, .int (nI (4 * t))), (0, .ref b), (1, .ref s.heap.size), (2, .ref (s.heap.size + 277)), (3, .ref (s.heap.size + 293))] := hl
    refine lv_aload_n hx hb d_Lw_law_719 rfl (lv_at hl 5 rfl) ?_
    refine cr_V Z.1 kv_Lw_66 hth hP (la_recv hK hP kc_Mo hm.1 rfl) [] rfl rfl hl.1 (Nat.le_of_ble_eq_true rfl) ⟨by decide, by decide⟩ hcs d_Lw_law_720 ?_
    refine lv_iload hx hb d_Lw_law_723 (lv_at hl 1 rfl) ?_
    refine lv_icmp_eq (tgt := 730) hx hb d_Lw_law_725 rfl (fun br725 => ?_) (fun br725 => absurd (rfl) br725)
    refine lv_iload hx hb d_Lw_law_730 (lv_at hl 1 rfl) ?_
    refine lv_if_ne (tgt := 747) hx hb d_Lw_law_732 rfl (fun br732 => ?_) (fun br732 => ?_)
    · skip
      refine lv_goto (tgt := 900) hx hb d_Lw_law_747 rfl ?_
      exact kk H locs ls mu2 v1 ⟨hP, hO, J1, hS⟩ (lv_sub hl [2, 3, 4, 5, 6] rfl)
    · skip
      refine lv_aload_n hx hb d_Lw_law_735 rfl (lv_at hl 6 rfl) ?_
      refine lv_iconst (v := 0) hx hb d_Lw_law_736 (by decide) ?_
      refine ob_ld Z.1 hO d_Lw_law_737 ?_
      refine lv_iload hx hb d_Lw_law_738 (lv_at hl 0 rfl) ?_
      refine lv_i2l hx hb d_Lw_law_740 rfl ?_
      refine W.lcmp hx hb d_Lw_law_741 ?_
      rw [hv9 br732, lg_self]
      refine lv_if_eq (tgt := 747) hx hb d_Lw_law_742 rfl (fun br742 => ?_) (fun br742 => absurd (rfl) br742)
      refine lv_goto (tgt := 900) hx hb d_Lw_law_747 rfl ?_
      exact kk H locs ls mu2 v1 ⟨hP, hO, J1, hS⟩ (lv_sub hl [2, 3, 4, 5, 6] rfl)
set_option maxHeartbeats 8000000 in
set_option maxRecDepth 100000 in
theorem lw_c9 (Z : LZ D E l p s m c b L xs) (I : LI D E s t H locs mu v) (ht : 4 * t + 4 ≤ L) (hcs : cells + 1 ≤ room_1.cells ∧ slots + 6 ≤ room_1.slots) (hl : lv_has ls 7 [(4, .int (nI (4 * t))), (0, .ref b), (1, .ref s.heap.size), (2, .ref (s.heap.size + 277)), (3, .ref (s.heap.size + 293))]) (kk : ∀ (H1 : Heap) (locs1 : List Loc) (ls1 : Array Slot) (mu1 : la_M) (v1 : Int64), LI D E s (t + 1) H1 locs1 mu1 v1 → lv_has ls1 7 [(4, .int (nI (4 * t))), (0, .ref b), (1, .ref s.heap.size), (2, .ref (s.heap.size + 277)), (3, .ref (s.heap.size + 293))] → W p l e room_1 s m #[Value.ref b] below meth c H1 locs1 (cells + 1) (slots + 6) Q (F0 m 900 ls1 [])) : W p l e room_1 s m #[Value.ref b] below meth c H locs cells slots Q (F0 m 750 ls []) := by
  obtain ⟨hP, hO, J, hS⟩ := I
  have hx := Z.1.1
  have hb := Z.1.2.1
  have hK : va_K D cls5 (tyE E) s := Z.1.2.2.2.2.2
  have hL := Z.2.2.2.2.1
  have htk := LI.tk ⟨hP, hO, J, hS⟩ Z
  have he := lL_er E s.heap.size
  have hm := lL_mo E s.heap.size
  obtain ⟨k9, r, v1, mu1, mu2, hw, hmo, hk9, hv9, J1⟩ := op_size l Z.2.1 D E _ he hm (lL_na E _) (Nat.le_refl _) J (by omega) v (xs (4 * t + 1))
  have hth := c_Mo_thrown l D E _ hm mu2
  rw [hk9] at hth
  refine lv_aload_n hx hb d_Lw_law_750 rfl (lv_at hl 2 rfl) ?_
  refine lv_aload_n hx hb d_Lw_law_751 rfl (lv_at hl 1 rfl) ?_
  refine lv_iload hx hb d_Lw_law_752 (lv_at hl 0 rfl) ?_
  refine lv_iconst (v := 1) hx hb d_Lw_law_754 (by decide) ?_
  refine lv_iadd hx hb d_Lw_law_755 ?_
  rw [show nI (4 * t) + (1 : Int32) = nI (4 * t + 1) from nI_add _ 1]
  refine x_ld Z hS (4 * t + 1) rfl (by omega) d_Lw_law_756 ?_
  refine lv_aload_n hx hb d_Lw_law_757 rfl (lv_at hl 4 rfl) ?_
  refine cl_S Z.1 kb_99 hw hP htk hO hS nA_w [] rfl rfl hl.1 (Nat.le_of_ble_eq_true rfl) ⟨by decide, by decide⟩ hcs d_Lw_law_758 (fun H locs hP hO hkp hS => ?_)
  refine lv_istore hx hb d_Lw_law_761 hl (by decide) rfl (fun ls hl => ?_)
  have hl : lv_has ls 7 [(5, .int k9), (4, .int (nI (4 * t))), (0, .ref b), (1, .ref s.heap.size), (2, .ref (s.heap.size + 277)), (3, .ref (s.heap.size + 293))] := hl
  refine lv_aload_n hx hb d_Lw_law_763 rfl (lv_at hl 4 rfl) ?_
  refine lv_aload_n hx hb d_Lw_law_764 rfl (lv_at hl 2 rfl) ?_
  refine lv_iload hx hb d_Lw_law_765 (lv_at hl 1 rfl) ?_
  refine lv_iconst (v := 1) hx hb d_Lw_law_767 (by decide) ?_
  refine lv_iadd hx hb d_Lw_law_768 ?_
  rw [show nI (4 * t) + (1 : Int32) = nI (4 * t + 1) from nI_add _ 1]
  refine x_ld Z hS (4 * t + 1) rfl (by omega) d_Lw_law_769 ?_
  refine cw_V Z.1 kv_Lw_101 hmo hP hS nA_la (la_recv hK hP kc_Mo hm.1 rfl) [] rfl rfl hl.1 (Nat.le_of_ble_eq_true rfl) ⟨by decide, by decide⟩ hcs d_Lw_law_770 (fun H locs hP hkp hS => ?_)
  have hO : ob E (s.heap.size + 293) v1 H := (hkp (s.heap.size + 293) (Array.getElem?_eq_some_iff.mp hO).1 (lL_na E s.heap.size)).trans hO
  refine lv_istore hx hb d_Lw_law_773 hl (by decide) rfl (fun ls hl => ?_)
  have hl : lv_has ls 7 [(6, .int r), (5, .int k9), (4, .int (nI (4 * t))), (0, .ref b), (1, .ref s.heap.size), (2, .ref (s.heap.size + 277)), (3, .ref (s.heap.size + 293))] := hl
  refine lv_aload_n hx hb d_Lw_law_775 rfl (lv_at hl 5 rfl) ?_
  refine cr_V Z.1 kv_Lw_66 hth hP (la_recv hK hP kc_Mo hm.1 rfl) [] rfl rfl hl.1 (Nat.le_of_ble_eq_true rfl) ⟨by decide, by decide⟩ hcs d_Lw_law_776 ?_
  refine lv_iload hx hb d_Lw_law_779 (lv_at hl 1 rfl) ?_
  refine lv_icmp_eq (tgt := 786) hx hb d_Lw_law_781 rfl (fun br781 => ?_) (fun br781 => absurd (rfl) br781)
  refine lv_iload hx hb d_Lw_law_786 (lv_at hl 1 rfl) ?_
  refine lv_if_ne (tgt := 803) hx hb d_Lw_law_788 rfl (fun br788 => ?_) (fun br788 => ?_)
  · skip
    refine lv_goto (tgt := 900) hx hb d_Lw_law_803 rfl ?_
    exact kk H locs ls mu2 v1 ⟨hP, hO, J1, hS⟩ (lv_sub hl [2, 3, 4, 5, 6] rfl)
  · skip
    refine lv_aload_n hx hb d_Lw_law_791 rfl (lv_at hl 6 rfl) ?_
    refine lv_iconst (v := 0) hx hb d_Lw_law_792 (by decide) ?_
    refine ob_ld Z.1 hO d_Lw_law_793 ?_
    refine lv_iload hx hb d_Lw_law_794 (lv_at hl 0 rfl) ?_
    refine lv_i2l hx hb d_Lw_law_796 rfl ?_
    refine W.lcmp hx hb d_Lw_law_797 ?_
    rw [hv9 br788, lg_self]
    refine lv_if_eq (tgt := 803) hx hb d_Lw_law_798 rfl (fun br798 => ?_) (fun br798 => absurd (rfl) br798)
    refine lv_goto (tgt := 900) hx hb d_Lw_law_803 rfl ?_
    exact kk H locs ls mu2 v1 ⟨hP, hO, J1, hS⟩ (lv_sub hl [2, 3, 4, 5, 6] rfl)
set_option maxHeartbeats 8000000 in
set_option maxRecDepth 100000 in
theorem lw_c10 (Z : LZ D E l p s m c b L xs) (I : LI D E s t H locs mu v) (ht : 4 * t + 4 ≤ L) (hcs : cells + 1 ≤ room_1.cells ∧ slots + 6 ≤ room_1.slots) (hl : lv_has ls 7 [(4, .int (nI (4 * t))), (0, .ref b), (1, .ref s.heap.size), (2, .ref (s.heap.size + 277)), (3, .ref (s.heap.size + 293))]) (kk : ∀ (H1 : Heap) (locs1 : List Loc) (ls1 : Array Slot) (mu1 : la_M) (v1 : Int64), LI D E s (t + 1) H1 locs1 mu1 v1 → lv_has ls1 7 [(4, .int (nI (4 * t))), (0, .ref b), (1, .ref s.heap.size), (2, .ref (s.heap.size + 277)), (3, .ref (s.heap.size + 293))] → W p l e room_1 s m #[Value.ref b] below meth c H1 locs1 (cells + 1) (slots + 6) Q (F0 m 900 ls1 [])) : W p l e room_1 s m #[Value.ref b] below meth c H locs cells slots Q (F0 m 806 ls []) := by
  obtain ⟨hP, hO, J, hS⟩ := I
  have hx := Z.1.1
  have hb := Z.1.2.1
  have hK : va_K D cls5 (tyE E) s := Z.1.2.2.2.2.2
  have hL := Z.2.2.2.2.1
  have htk := LI.tk ⟨hP, hO, J, hS⟩ Z
  have he := lL_er E s.heap.size
  have hm := lL_mo E s.heap.size
  obtain ⟨k9, r, v1, mu1, mu2, hw, hmo, hk9, hv9, J1⟩ := op_letter l Z.2.1 D E _ he hm (lL_na E _) (Nat.le_refl _) J (by omega) v (xs (4 * t + 1)) (xs (4 * t + 2))
  have hth := c_Mo_thrown l D E _ hm mu2
  rw [hk9] at hth
  refine lv_aload_n hx hb d_Lw_law_806 rfl (lv_at hl 2 rfl) ?_
  refine lv_aload_n hx hb d_Lw_law_807 rfl (lv_at hl 1 rfl) ?_
  refine lv_iload hx hb d_Lw_law_808 (lv_at hl 0 rfl) ?_
  refine lv_iconst (v := 1) hx hb d_Lw_law_810 (by decide) ?_
  refine lv_iadd hx hb d_Lw_law_811 ?_
  rw [show nI (4 * t) + (1 : Int32) = nI (4 * t + 1) from nI_add _ 1]
  refine x_ld Z hS (4 * t + 1) rfl (by omega) d_Lw_law_812 ?_
  refine lv_aload_n hx hb d_Lw_law_813 rfl (lv_at hl 1 rfl) ?_
  refine lv_iload hx hb d_Lw_law_814 (lv_at hl 0 rfl) ?_
  refine lv_iconst (v := 2) hx hb d_Lw_law_816 (by decide) ?_
  refine lv_iadd hx hb d_Lw_law_817 ?_
  rw [show nI (4 * t) + (2 : Int32) = nI (4 * t + 2) from nI_add _ 2]
  refine x_ld Z hS (4 * t + 2) rfl (by omega) d_Lw_law_818 ?_
  refine lv_aload_n hx hb d_Lw_law_819 rfl (lv_at hl 4 rfl) ?_
  refine cl_S Z.1 kb_102 hw hP htk hO hS nA_w [] rfl rfl hl.1 (Nat.le_of_ble_eq_true rfl) ⟨by decide, by decide⟩ hcs d_Lw_law_820 (fun H locs hP hO hkp hS => ?_)
  refine lv_istore hx hb d_Lw_law_823 hl (by decide) rfl (fun ls hl => ?_)
  have hl : lv_has ls 7 [(5, .int k9), (4, .int (nI (4 * t))), (0, .ref b), (1, .ref s.heap.size), (2, .ref (s.heap.size + 277)), (3, .ref (s.heap.size + 293))] := hl
  refine lv_aload_n hx hb d_Lw_law_825 rfl (lv_at hl 4 rfl) ?_
  refine lv_aload_n hx hb d_Lw_law_826 rfl (lv_at hl 2 rfl) ?_
  refine lv_iload hx hb d_Lw_law_827 (lv_at hl 1 rfl) ?_
  refine lv_iconst (v := 1) hx hb d_Lw_law_829 (by decide) ?_
  refine lv_iadd hx hb d_Lw_law_830 ?_
  rw [show nI (4 * t) + (1 : Int32) = nI (4 * t + 1) from nI_add _ 1]
  refine x_ld Z hS (4 * t + 1) rfl (by omega) d_Lw_law_831 ?_
  refine lv_aload_n hx hb d_Lw_law_832 rfl (lv_at hl 2 rfl) ?_
  refine lv_iload hx hb d_Lw_law_833 (lv_at hl 1 rfl) ?_
  refine lv_iconst (v := 2) hx hb d_Lw_law_835 (by decide) ?_
  refine lv_iadd hx hb d_Lw_law_836 ?_
  rw [show nI (4 * t) + (2 : Int32) = nI (4 * t + 2) from nI_add _ 2]
  refine x_ld Z hS (4 * t + 2) rfl (by omega) d_Lw_law_837 ?_
  refine cw_V Z.1 kv_Lw_104 hmo hP hS nA_la (la_recv hK hP kc_Mo hm.1 rfl) [] rfl rfl hl.1 (Nat.le_of_ble_eq_true rfl) ⟨by decide, by decide⟩ hcs d_Lw_law_838 (fun H locs hP hkp hS => ?_)
  have hO : ob E (s.heap.size + 293) v1 H := (hkp (s.heap.size + 293) (Array.getElem?_eq_some_iff.mp hO).1 (lL_na E s.heap.size)).trans hO
  refine lv_istore hx hb d_Lw_law_841 hl (by decide) rfl (fun ls hl => ?_)
  have hl : lv_has ls 7 [(6, .int r), (5, .int k9), (4, .int (nI (4 * t))), (0, .ref b), (1, .ref s.heap.size), (2, .ref (s.heap.size + 277)), (3, .ref (s.heap.size + 293))] := hl
  refine lv_aload_n hx hb d_Lw_law_843 rfl (lv_at hl 5 rfl) ?_
  refine cr_V Z.1 kv_Lw_66 hth hP (la_recv hK hP kc_Mo hm.1 rfl) [] rfl rfl hl.1 (Nat.le_of_ble_eq_true rfl) ⟨by decide, by decide⟩ hcs d_Lw_law_844 ?_
  refine lv_iload hx hb d_Lw_law_847 (lv_at hl 1 rfl) ?_
  refine lv_icmp_eq (tgt := 854) hx hb d_Lw_law_849 rfl (fun br849 => ?_) (fun br849 => absurd (rfl) br849)
  refine lv_iload hx hb d_Lw_law_854 (lv_at hl 1 rfl) ?_
  refine lv_if_ne (tgt := 871) hx hb d_Lw_law_856 rfl (fun br856 => ?_) (fun br856 => ?_)
  · skip
    refine lv_goto (tgt := 900) hx hb d_Lw_law_871 rfl ?_
    exact kk H locs ls mu2 v1 ⟨hP, hO, J1, hS⟩ (lv_sub hl [2, 3, 4, 5, 6] rfl)
  · skip
    refine lv_aload_n hx hb d_Lw_law_859 rfl (lv_at hl 6 rfl) ?_
    refine lv_iconst (v := 0) hx hb d_Lw_law_860 (by decide) ?_
    refine ob_ld Z.1 hO d_Lw_law_861 ?_
    refine lv_iload hx hb d_Lw_law_862 (lv_at hl 0 rfl) ?_
    refine lv_i2l hx hb d_Lw_law_864 rfl ?_
    refine W.lcmp hx hb d_Lw_law_865 ?_
    rw [hv9 br856, lg_self]
    refine lv_if_eq (tgt := 871) hx hb d_Lw_law_866 rfl (fun br866 => ?_) (fun br866 => absurd (rfl) br866)
    refine lv_goto (tgt := 900) hx hb d_Lw_law_871 rfl ?_
    exact kk H locs ls mu2 v1 ⟨hP, hO, J1, hS⟩ (lv_sub hl [2, 3, 4, 5, 6] rfl)
set_option maxHeartbeats 8000000 in
set_option maxRecDepth 100000 in
theorem lw_c11 (Z : LZ D E l p s m c b L xs) (I : LI D E s t H locs mu v) (ht : 4 * t + 4 ≤ L) (hcs : cells + 1 ≤ room_1.cells ∧ slots + 6 ≤ room_1.slots) (hl : lv_has ls 7 [(4, .int (nI (4 * t))), (0, .ref b), (1, .ref s.heap.size), (2, .ref (s.heap.size + 277)), (3, .ref (s.heap.size + 293))]) (kk : ∀ (H1 : Heap) (locs1 : List Loc) (ls1 : Array Slot) (mu1 : la_M) (v1 : Int64), LI D E s (t + 1) H1 locs1 mu1 v1 → lv_has ls1 7 [(4, .int (nI (4 * t))), (0, .ref b), (1, .ref s.heap.size), (2, .ref (s.heap.size + 277)), (3, .ref (s.heap.size + 293))] → W p l e room_1 s m #[Value.ref b] below meth c H1 locs1 (cells + 1) (slots + 6) Q (F0 m 900 ls1 [])) : W p l e room_1 s m #[Value.ref b] below meth c H locs cells slots Q (F0 m 874 ls []) := by
  obtain ⟨hP, hO, J, hS⟩ := I
  have hx := Z.1.1
  have hb := Z.1.2.1
  have hK : va_K D cls5 (tyE E) s := Z.1.2.2.2.2.2
  have hL := Z.2.2.2.2.1
  have htk := LI.tk ⟨hP, hO, J, hS⟩ Z
  have he := lL_er E s.heap.size
  have hm := lL_mo E s.heap.size
  obtain ⟨r, mu2, hw, hmo, J1⟩ := op_alike l D E _ he hm (Nat.le_refl _) J (by omega)
  refine lv_aload_n hx hb d_Lw_law_874 rfl (lv_at hl 2 rfl) ?_
  refine cr_V Z.1 kv_Lw_105 hw hP (la_recv hK hP kc_Er he.1 rfl) [] rfl rfl hl.1 (Nat.le_of_ble_eq_true rfl) ⟨by decide, by decide⟩ ⟨Nat.le_of_succ_le hcs.1, Nat.le_trans (Nat.le_add_right _ 6) hcs.2⟩ d_Lw_law_875 ?_
  refine lv_aload_n hx hb d_Lw_law_878 rfl (lv_at hl 3 rfl) ?_
  refine cw_V Z.1 kv_Lw_109 hmo hP hS nA_la (la_recv hK hP kc_Mo hm.1 rfl) [.int r] rfl rfl hl.1 (Nat.le_of_ble_eq_true rfl) ⟨by decide, by decide⟩ ⟨Nat.le_of_succ_le hcs.1, Nat.le_trans (Nat.le_add_right _ 6) hcs.2⟩ d_Lw_law_879 (fun H locs hP hkp hS => ?_)
  have hO : ob E (s.heap.size + 293) v H := (hkp (s.heap.size + 293) (Array.getElem?_eq_some_iff.mp hO).1 (lL_na E s.heap.size)).trans hO
  refine lv_icmp_eq (tgt := 900) hx hb d_Lw_law_882 rfl (fun br882 => ?_) (fun br882 => absurd (rfl) br882)
  exact W.wide (Nat.le_succ _) (Nat.le_add_right _ 6) (kk H locs ls mu2 v ⟨hP, hO, J1, hS⟩ (lv_sub hl [0, 1, 2, 3, 4] rfl))
set_option maxHeartbeats 8000000 in
set_option maxRecDepth 100000 in
theorem lw_c12 (Z : LZ D E l p s m c b L xs) (I : LI D E s t H locs mu v) (ht : 4 * t + 4 ≤ L) (hcs : cells + 1 ≤ room_1.cells ∧ slots + 6 ≤ room_1.slots) (hl : lv_has ls 7 [(4, .int (nI (4 * t))), (0, .ref b), (1, .ref s.heap.size), (2, .ref (s.heap.size + 277)), (3, .ref (s.heap.size + 293))]) (kk : ∀ (H1 : Heap) (locs1 : List Loc) (ls1 : Array Slot) (mu1 : la_M) (v1 : Int64), LI D E s (t + 1) H1 locs1 mu1 v1 → lv_has ls1 7 [(4, .int (nI (4 * t))), (0, .ref b), (1, .ref s.heap.size), (2, .ref (s.heap.size + 277)), (3, .ref (s.heap.size + 293))] → W p l e room_1 s m #[Value.ref b] below meth c H1 locs1 (cells + 1) (slots + 6) Q (F0 m 900 ls1 [])) : W p l e room_1 s m #[Value.ref b] below meth c H locs cells slots Q (F0 m 887 ls []) := by
  obtain ⟨hP, hO, J, hS⟩ := I
  have hx := Z.1.1
  have hb := Z.1.2.1
  have hK : va_K D cls5 (tyE E) s := Z.1.2.2.2.2.2
  have hL := Z.2.2.2.2.1
  have htk := LI.tk ⟨hP, hO, J, hS⟩ Z
  have he := lL_er E s.heap.size
  have hm := lL_mo E s.heap.size
  obtain ⟨r, mu2, hw, hmo, J1⟩ := op_quiet l D E _ he hm (Nat.le_refl _) J (by omega)
  refine lv_aload_n hx hb d_Lw_law_887 rfl (lv_at hl 2 rfl) ?_
  refine cr_V Z.1 kv_Lw_110 hw hP (la_recv hK hP kc_Er he.1 rfl) [] rfl rfl hl.1 (Nat.le_of_ble_eq_true rfl) ⟨by decide, by decide⟩ ⟨Nat.le_of_succ_le hcs.1, Nat.le_trans (Nat.le_add_right _ 6) hcs.2⟩ d_Lw_law_888 ?_
  refine lv_aload_n hx hb d_Lw_law_891 rfl (lv_at hl 3 rfl) ?_
  refine cw_V Z.1 kv_Lw_113 hmo hP hS nA_la (la_recv hK hP kc_Mo hm.1 rfl) [.int r] rfl rfl hl.1 (Nat.le_of_ble_eq_true rfl) ⟨by decide, by decide⟩ ⟨Nat.le_of_succ_le hcs.1, Nat.le_trans (Nat.le_add_right _ 6) hcs.2⟩ d_Lw_law_892 (fun H locs hP hkp hS => ?_)
  have hO : ob E (s.heap.size + 293) v H := (hkp (s.heap.size + 293) (Array.getElem?_eq_some_iff.mp hO).1 (lL_na E s.heap.size)).trans hO
  refine lv_icmp_eq (tgt := 900) hx hb d_Lw_law_895 rfl (fun br895 => ?_) (fun br895 => absurd (rfl) br895)
  exact W.wide (Nat.le_succ _) (Nat.le_add_right _ 6) (kk H locs ls mu2 v ⟨hP, hO, J1, hS⟩ (lv_sub hl [0, 1, 2, 3, 4] rfl))
end LWC
