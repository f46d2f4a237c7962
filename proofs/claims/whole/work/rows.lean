section
-- ===== PART A: goes FIRST, ahead of the names: the tables' words, and 'selects' of the private methods out of them =====
/-- a private method of a class that the tables say can be made, by its rows of tables_1 -/
def lw_okq (q : MethodName × Nat) : Prop := (q.1.cls ≠ "java/lang/invoke/MethodHandle" ∧ q.1.cls ≠ "java/lang/invoke/VarHandle") ∧ Cond.instantiable q.1.cls q.2 ∈ tables_1 ∧ Cond.privateMethod q.1 ∈ tables_1 ∧ Cond.instanceMethod q.1 ∈ tables_1
theorem lw_p0 : lw_okq (⟨"EditRelay", "way", "(IZ)LEditRelay$Way;"⟩, 4) := ⟨⟨by decide +kernel, by decide +kernel⟩, List.mem_of_getElem? (i := 16) (by decide +kernel), List.mem_of_getElem? (i := 126) (by decide +kernel), List.mem_of_getElem? (i := 127) (by decide +kernel)⟩
theorem lw_p1 : lw_okq (⟨"java/lang/Throwable", "fillInStackTrace", "(I)Ljava/lang/Throwable;"⟩, 6) := ⟨⟨by decide +kernel, by decide +kernel⟩, List.mem_of_getElem? (i := 186) (by decide +kernel), List.mem_of_getElem? (i := 184) (by decide +kernel), List.mem_of_getElem? (i := 185) (by decide +kernel)⟩
theorem lw_p2 : lw_okq (⟨"EditRelay", "checkMayMakeChange", "(I)V"⟩, 4) := ⟨⟨by decide +kernel, by decide +kernel⟩, List.mem_of_getElem? (i := 16) (by decide +kernel), List.mem_of_getElem? (i := 249) (by decide +kernel), List.mem_of_getElem? (i := 250) (by decide +kernel)⟩
theorem lw_p3 : lw_okq (⟨"EditRelay", "makeChange", "(IIIC)V"⟩, 4) := ⟨⟨by decide +kernel, by decide +kernel⟩, List.mem_of_getElem? (i := 16) (by decide +kernel), List.mem_of_getElem? (i := 262) (by decide +kernel), List.mem_of_getElem? (i := 263) (by decide +kernel)⟩
theorem lw_p4 : lw_okq (⟨"EditRelay$Text", "put", "(IC)V"⟩, 2) := ⟨⟨by decide +kernel, by decide +kernel⟩, List.mem_of_getElem? (i := 25) (by decide +kernel), List.mem_of_getElem? (i := 270) (by decide +kernel), List.mem_of_getElem? (i := 271) (by decide +kernel)⟩
theorem lw_p5 : lw_okq (⟨"EditRelay$Text", "remove", "(I)V"⟩, 2) := ⟨⟨by decide +kernel, by decide +kernel⟩, List.mem_of_getElem? (i := 25) (by decide +kernel), List.mem_of_getElem? (i := 277) (by decide +kernel), List.mem_of_getElem? (i := 278) (by decide +kernel)⟩
theorem lw_p6 : lw_okq (⟨"EditRelay$Way", "slotOf", "(I)I"⟩, 7) := ⟨⟨by decide +kernel, by decide +kernel⟩, List.mem_of_getElem? (i := 42) (by decide +kernel), List.mem_of_getElem? (i := 285) (by decide +kernel), List.mem_of_getElem? (i := 286) (by decide +kernel)⟩
theorem lw_p7 : lw_okq (⟨"EditRelay", "receive", "(ILEditRelay$Way;LEditRelay$Way;)LEditRelay$Change;"⟩, 4) := ⟨⟨by decide +kernel, by decide +kernel⟩, List.mem_of_getElem? (i := 16) (by decide +kernel), List.mem_of_getElem? (i := 342) (by decide +kernel), List.mem_of_getElem? (i := 343) (by decide +kernel)⟩
theorem lw_p8 : lw_okq (⟨"EditRelay$Change", "fitTo", "(III)V"⟩, 4) := ⟨⟨by decide +kernel, by decide +kernel⟩, List.mem_of_getElem? (i := 49) (by decide +kernel), List.mem_of_getElem? (i := 372) (by decide +kernel), List.mem_of_getElem? (i := 373) (by decide +kernel)⟩
theorem lw_p9 : lw_okq (⟨"EditRelay$Change", "fitToInsert", "(II)V"⟩, 4) := ⟨⟨by decide +kernel, by decide +kernel⟩, List.mem_of_getElem? (i := 49) (by decide +kernel), List.mem_of_getElem? (i := 376) (by decide +kernel), List.mem_of_getElem? (i := 377) (by decide +kernel)⟩
theorem lw_p10 : lw_okq (⟨"EditRelay$Change", "fitToDelete", "(I)V"⟩, 4) := ⟨⟨by decide +kernel, by decide +kernel⟩, List.mem_of_getElem? (i := 49) (by decide +kernel), List.mem_of_getElem? (i := 380) (by decide +kernel), List.mem_of_getElem? (i := 381) (by decide +kernel)⟩
theorem lw_p11 : lw_okq (⟨"EditRelayModel", "loaded", "(I)Z"⟩, 20) := ⟨⟨by decide +kernel, by decide +kernel⟩, List.mem_of_getElem? (i := 440) (by decide +kernel), List.mem_of_getElem? (i := 518) (by decide +kernel), List.mem_of_getElem? (i := 519) (by decide +kernel)⟩
theorem lw_p12 : lw_okq (⟨"EditRelayModel", "begin", "(IIII)V"⟩, 20) := ⟨⟨by decide +kernel, by decide +kernel⟩, List.mem_of_getElem? (i := 440) (by decide +kernel), List.mem_of_getElem? (i := 525) (by decide +kernel), List.mem_of_getElem? (i := 526) (by decide +kernel)⟩
theorem lw_p13 : lw_okq (⟨"EditRelayModel", "apply", "(I)V"⟩, 20) := ⟨⟨by decide +kernel, by decide +kernel⟩, List.mem_of_getElem? (i := 440) (by decide +kernel), List.mem_of_getElem? (i := 529) (by decide +kernel), List.mem_of_getElem? (i := 530) (by decide +kernel)⟩
theorem lw_p14 : lw_okq (⟨"EditRelayModel", "send", "(I)V"⟩, 20) := ⟨⟨by decide +kernel, by decide +kernel⟩, List.mem_of_getElem? (i := 440) (by decide +kernel), List.mem_of_getElem? (i := 533) (by decide +kernel), List.mem_of_getElem? (i := 534) (by decide +kernel)⟩
theorem lw_p15 : lw_okq (⟨"EditRelayModel", "get", "(II)V"⟩, 20) := ⟨⟨by decide +kernel, by decide +kernel⟩, List.mem_of_getElem? (i := 440) (by decide +kernel), List.mem_of_getElem? (i := 552) (by decide +kernel), List.mem_of_getElem? (i := 553) (by decide +kernel)⟩
def lw_privs_1 : List (MethodName × Nat) := [(⟨"EditRelay", "way", "(IZ)LEditRelay$Way;"⟩, 4), (⟨"java/lang/Throwable", "fillInStackTrace", "(I)Ljava/lang/Throwable;"⟩, 6), (⟨"EditRelay", "checkMayMakeChange", "(I)V"⟩, 4), (⟨"EditRelay", "makeChange", "(IIIC)V"⟩, 4), (⟨"EditRelay$Text", "put", "(IC)V"⟩, 2), (⟨"EditRelay$Text", "remove", "(I)V"⟩, 2), (⟨"EditRelay$Way", "slotOf", "(I)I"⟩, 7), (⟨"EditRelay", "receive", "(ILEditRelay$Way;LEditRelay$Way;)LEditRelay$Change;"⟩, 4), (⟨"EditRelay$Change", "fitTo", "(III)V"⟩, 4), (⟨"EditRelay$Change", "fitToInsert", "(II)V"⟩, 4), (⟨"EditRelay$Change", "fitToDelete", "(I)V"⟩, 4), (⟨"EditRelayModel", "loaded", "(I)Z"⟩, 20), (⟨"EditRelayModel", "begin", "(IIII)V"⟩, 20), (⟨"EditRelayModel", "apply", "(I)V"⟩, 20), (⟨"EditRelayModel", "send", "(I)V"⟩, 20), (⟨"EditRelayModel", "get", "(II)V"⟩, 20)]
theorem lw_r1 : ∀ q ∈ lw_privs_1, lw_okq q := List.forall_mem_cons.mpr ⟨lw_p0, List.forall_mem_cons.mpr ⟨lw_p1, List.forall_mem_cons.mpr ⟨lw_p2, List.forall_mem_cons.mpr ⟨lw_p3, List.forall_mem_cons.mpr ⟨lw_p4, List.forall_mem_cons.mpr ⟨lw_p5, List.forall_mem_cons.mpr ⟨lw_p6, List.forall_mem_cons.mpr ⟨lw_p7, List.forall_mem_cons.mpr ⟨lw_p8, List.forall_mem_cons.mpr ⟨lw_p9, List.forall_mem_cons.mpr ⟨lw_p10, List.forall_mem_cons.mpr ⟨lw_p11, List.forall_mem_cons.mpr ⟨lw_p12, List.forall_mem_cons.mpr ⟨lw_p13, List.forall_mem_cons.mpr ⟨lw_p14, List.forall_mem_cons.mpr ⟨lw_p15, fun _ h => absurd h List.not_mem_nil⟩⟩⟩⟩⟩⟩⟩⟩⟩⟩⟩⟩⟩⟩⟩⟩
theorem lw_p16 : lw_okq (⟨"EditRelayModel", "forget", "(I)V"⟩, 20) := ⟨⟨by decide +kernel, by decide +kernel⟩, List.mem_of_getElem? (i := 440) (by decide +kernel), List.mem_of_getElem? (i := 556) (by decide +kernel), List.mem_of_getElem? (i := 557) (by decide +kernel)⟩
def lw_privs_2 : List (MethodName × Nat) := [(⟨"EditRelayModel", "forget", "(I)V"⟩, 20)]
theorem lw_r2 : ∀ q ∈ lw_privs_2, lw_okq q := List.forall_mem_cons.mpr ⟨lw_p16, fun _ h => absurd h List.not_mem_nil⟩
def lw_privs : List (MethodName × Nat) := lw_privs_1 ++ (lw_privs_2)
def lw_tbl : List Cond := k2_sels lw_privs ++ tables_1
theorem lw_privs_ok : ∀ q ∈ lw_privs, lw_okq q := by
  show ∀ q ∈ lw_privs_1 ++ (lw_privs_2), lw_okq q
  exact List.forall_mem_append.mpr ⟨lw_r1, lw_r2⟩

/-! the words of the tables that stay true under warmer tables -/
def gw : List Cond := lw_tbl.filter goodWord
theorem gw_t {w : Cond} (i : Nat) (h : tables_1[i]? = some w) (hg : goodWord w = true) : w ∈ gw := List.mem_filter.mpr ⟨List.mem_append_right _ (List.mem_of_getElem? h), hg⟩
theorem gw_s {q : MethodName × Nat} (i : Nat) (h : lw_privs[i]? = some q) : Cond.selects q.1.cls q.1 q.1 ∈ gw := List.mem_filter.mpr ⟨List.mem_append_left _ (List.mem_map.mpr ⟨q, List.mem_of_getElem? h, rfl⟩), rfl⟩
theorem gw_good : ∀ w ∈ gw, goodWord w = true := fun w h => (List.mem_filter.mp h).2
end
section
/-! names: classes, fields, methods; the words of the tables by name (written by wip/whole/names.py) -/
def R_Ch : String := "EditRelay$Change"
def F_Ch : u_T := fun k => match k with
  | 0 => ("EditRelay$Change", "kind", "I", false)
  | 1 => ("EditRelay$Change", "place", "I", false)
  | 2 => ("EditRelay$Change", "letter", "C", false)
  | _ => ("EditRelay$Change", "origin", "I", false)
def t_Ch : Nat → FieldType := fun k => match k with
  | 0 => .int
  | 1 => .int
  | 2 => .char
  | _ => .int
theorem n_Ch : ∀ a, a < 4 → ∀ b, b < 4 → a ≠ b → (F_Ch a).2.1 ≠ (F_Ch b).2.1 := by decide +kernel
theorem t_Ch_ok : ∀ k, k < 4 → parseFieldDescriptor (F_Ch k).2.2.1 = some (t_Ch k) := by decide +kernel
def R_Tx : String := "EditRelay$Text"
def F_Tx : u_T := fun k => match k with
  | 0 => ("EditRelay$Text", "letters", "[C", true)
  | _ => ("EditRelay$Text", "count", "I", false)
def t_Tx : Nat → FieldType := fun k => match k with
  | 0 => .array .char
  | _ => .int
theorem n_Tx : ∀ a, a < 2 → ∀ b, b < 2 → a ≠ b → (F_Tx a).2.1 ≠ (F_Tx b).2.1 := by decide +kernel
theorem t_Tx_ok : ∀ k, k < 2 → parseFieldDescriptor (F_Tx k).2.2.1 = some (t_Tx k) := by decide +kernel
def R_Wy : String := "EditRelay$Way"
def F_Wy : u_T := fun k => match k with
  | 0 => ("EditRelay$Way", "room", "I", true)
  | 1 => ("EditRelay$Way", "messages", "[LEditRelay$Change;", true)
  | 2 => ("EditRelay$Way", "opens", "[LEditRelay$Change;", true)
  | 3 => ("EditRelay$Way", "heards", "[I", true)
  | 4 => ("EditRelay$Way", "sent", "I", false)
  | 5 => ("EditRelay$Way", "known", "I", false)
  | _ => ("EditRelay$Way", "got", "I", false)
def t_Wy : Nat → FieldType := fun k => match k with
  | 0 => .int
  | 1 => .array (.object "EditRelay$Change")
  | 2 => .array (.object "EditRelay$Change")
  | 3 => .array .int
  | 4 => .int
  | 5 => .int
  | _ => .int
theorem n_Wy : ∀ a, a < 7 → ∀ b, b < 7 → a ≠ b → (F_Wy a).2.1 ≠ (F_Wy b).2.1 := by decide +kernel
theorem t_Wy_ok : ∀ k, k < 7 → parseFieldDescriptor (F_Wy k).2.2.1 = some (t_Wy k) := by decide +kernel
def R_Er : String := "EditRelay"
def F_Er : u_T := fun k => match k with
  | 0 => ("EditRelay", "texts", "[LEditRelay$Text;", true)
  | 1 => ("EditRelay", "ups", "[LEditRelay$Way;", true)
  | 2 => ("EditRelay", "downs", "[LEditRelay$Way;", true)
  | _ => ("EditRelay", "made", "LEditRelay$Change;", true)
def t_Er : Nat → FieldType := fun k => match k with
  | 0 => .array (.object "EditRelay$Text")
  | 1 => .array (.object "EditRelay$Way")
  | 2 => .array (.object "EditRelay$Way")
  | _ => .object "EditRelay$Change"
theorem n_Er : ∀ a, a < 4 → ∀ b, b < 4 → a ≠ b → (F_Er a).2.1 ≠ (F_Er b).2.1 := by decide +kernel
theorem t_Er_ok : ∀ k, k < 4 → parseFieldDescriptor (F_Er k).2.2.1 = some (t_Er k) := by decide +kernel
def R_Mo : String := "EditRelayModel"
def F_Mo : u_T := fun k => match k with
  | 0 => ("EditRelayModel", "thrown", "I", false)
  | 1 => ("EditRelayModel", "sizes", "[I", true)
  | 2 => ("EditRelayModel", "texts", "[C", true)
  | 3 => ("EditRelayModel", "sent", "[I", true)
  | 4 => ("EditRelayModel", "got", "[I", true)
  | 5 => ("EditRelayModel", "waits", "[I", true)
  | 6 => ("EditRelayModel", "kinds", "[I", true)
  | 7 => ("EditRelayModel", "places", "[I", true)
  | 8 => ("EditRelayModel", "letters", "[I", true)
  | 9 => ("EditRelayModel", "origins", "[I", true)
  | 10 => ("EditRelayModel", "counts", "[I", true)
  | 11 => ("EditRelayModel", "opens", "[I", true)
  | 12 => ("EditRelayModel", "openKinds", "[I", true)
  | 13 => ("EditRelayModel", "openPlaces", "[I", true)
  | 14 => ("EditRelayModel", "openLetters", "[I", true)
  | 15 => ("EditRelayModel", "openOrigins", "[I", true)
  | 16 => ("EditRelayModel", "kind", "I", false)
  | 17 => ("EditRelayModel", "place", "I", false)
  | 18 => ("EditRelayModel", "letter0", "I", false)
  | _ => ("EditRelayModel", "origin", "I", false)
def t_Mo : Nat → FieldType := fun k => match k with
  | 0 => .int
  | 1 => .array .int
  | 2 => .array .char
  | 3 => .array .int
  | 4 => .array .int
  | 5 => .array .int
  | 6 => .array .int
  | 7 => .array .int
  | 8 => .array .int
  | 9 => .array .int
  | 10 => .array .int
  | 11 => .array .int
  | 12 => .array .int
  | 13 => .array .int
  | 14 => .array .int
  | 15 => .array .int
  | 16 => .int
  | 17 => .int
  | 18 => .int
  | _ => .int
theorem n_Mo : ∀ a, a < 20 → ∀ b, b < 20 → a ≠ b → (F_Mo a).2.1 ≠ (F_Mo b).2.1 := by decide +kernel
theorem t_Mo_ok : ∀ k, k < 20 → parseFieldDescriptor (F_Mo k).2.2.1 = some (t_Mo k) := by decide +kernel
def R_Lw : String := "EditRelayLaw"
def R_Ma : String := "java/lang/Math"
abbrev cls5 : List vw_C := [(R_Ch, F_Ch, 4), (R_Tx, F_Tx, 2), (R_Wy, F_Wy, 7), (R_Er, F_Er, 4), (R_Mo, F_Mo, 20)]
abbrev b_Ch_copyFrom : ByteArray := prog_2_method_2_code
def y_Ch_copyFrom : MethodName := ⟨R_Ch, "copyFrom", "(LEditRelay$Change;)V"⟩
abbrev b_Ch_fitTo : ByteArray := prog_2_method_4_code
def y_Ch_fitTo : MethodName := ⟨R_Ch, "fitTo", "(III)V"⟩
abbrev b_Ch_fitToDelete : ByteArray := prog_2_method_6_code
def y_Ch_fitToDelete : MethodName := ⟨R_Ch, "fitToDelete", "(I)V"⟩
abbrev b_Ch_fitToEachOther : ByteArray := prog_2_method_3_code
def y_Ch_fitToEachOther : MethodName := ⟨R_Ch, "fitToEachOther", "(LEditRelay$Change;LEditRelay$Change;)V"⟩
abbrev b_Ch_fitToInsert : ByteArray := prog_2_method_5_code
def y_Ch_fitToInsert : MethodName := ⟨R_Ch, "fitToInsert", "(II)V"⟩
abbrev b_Ch_init : ByteArray := prog_2_method_1_code
def y_Ch_init : MethodName := ⟨R_Ch, "<init>", "()V"⟩
abbrev b_Er_alike : ByteArray := prog_1_method_13_code
def y_Er_alike : MethodName := ⟨R_Er, "alike", "()Z"⟩
abbrev b_Er_change : ByteArray := prog_1_method_10_code
def y_Er_change : MethodName := ⟨R_Er, "change", "(IZI)I"⟩
abbrev b_Er_checkClient : ByteArray := prog_1_method_15_code
def y_Er_checkClient : MethodName := ⟨R_Er, "checkClient", "(I)V"⟩
abbrev b_Er_checkHasLetter : ByteArray := prog_1_method_17_code
def y_Er_checkHasLetter : MethodName := ⟨R_Er, "checkHasLetter", "(LEditRelay$Text;I)V"⟩
abbrev b_Er_checkMayMakeChange : ByteArray := prog_1_method_19_code
def y_Er_checkMayMakeChange : MethodName := ⟨R_Er, "checkMayMakeChange", "(I)V"⟩
abbrev b_Er_checkSite : ByteArray := prog_1_method_16_code
def y_Er_checkSite : MethodName := ⟨R_Er, "checkSite", "(I)V"⟩
abbrev b_Er_checkSomeWaits : ByteArray := prog_1_method_18_code
def y_Er_checkSomeWaits : MethodName := ⟨R_Er, "checkSomeWaits", "(LEditRelay$Way;)V"⟩
abbrev b_Er_delete : ByteArray := prog_1_method_3_code
def y_Er_delete : MethodName := ⟨R_Er, "delete", "(II)I"⟩
abbrev b_Er_got : ByteArray := prog_1_method_8_code
def y_Er_got : MethodName := ⟨R_Er, "got", "(IZ)I"⟩
abbrev b_Er_init : ByteArray := prog_1_method_1_code
def y_Er_init : MethodName := ⟨R_Er, "<init>", "()V"⟩
abbrev b_Er_insert : ByteArray := prog_1_method_2_code
def y_Er_insert : MethodName := ⟨R_Er, "insert", "(IIC)I"⟩
abbrev b_Er_letter : ByteArray := prog_1_method_12_code
def y_Er_letter : MethodName := ⟨R_Er, "letter", "(II)I"⟩
abbrev b_Er_makeChange : ByteArray := prog_1_method_21_code
def y_Er_makeChange : MethodName := ⟨R_Er, "makeChange", "(IIIC)V"⟩
abbrev b_Er_nod : ByteArray := prog_1_method_4_code
def y_Er_nod : MethodName := ⟨R_Er, "nod", "(I)V"⟩
abbrev b_Er_open : ByteArray := prog_1_method_9_code
def y_Er_open : MethodName := ⟨R_Er, "open", "(IZ)I"⟩
abbrev b_Er_pull : ByteArray := prog_1_method_6_code
def y_Er_pull : MethodName := ⟨R_Er, "pull", "(I)I"⟩
abbrev b_Er_push : ByteArray := prog_1_method_5_code
def y_Er_push : MethodName := ⟨R_Er, "push", "(I)I"⟩
abbrev b_Er_quiet : ByteArray := prog_1_method_14_code
def y_Er_quiet : MethodName := ⟨R_Er, "quiet", "()Z"⟩
abbrev b_Er_receive : ByteArray := prog_1_method_22_code
def y_Er_receive : MethodName := ⟨R_Er, "receive", "(ILEditRelay$Way;LEditRelay$Way;)LEditRelay$Change;"⟩
abbrev b_Er_size : ByteArray := prog_1_method_11_code
def y_Er_size : MethodName := ⟨R_Er, "size", "(I)I"⟩
abbrev b_Er_waiting : ByteArray := prog_1_method_7_code
def y_Er_waiting : MethodName := ⟨R_Er, "waiting", "(IZ)I"⟩
abbrev b_Er_way : ByteArray := prog_1_method_20_code
def y_Er_way : MethodName := ⟨R_Er, "way", "(IZ)LEditRelay$Way;"⟩
abbrev b_Lw_change : ByteArray := method_11_code
def y_Lw_change : MethodName := ⟨R_Lw, "change", "(LEditRelay;IZI[J)I"⟩
abbrev b_Lw_delete : ByteArray := method_4_code
def y_Lw_delete : MethodName := ⟨R_Lw, "delete", "(LEditRelay;II[J)I"⟩
abbrev b_Lw_got : ByteArray := method_9_code
def y_Lw_got : MethodName := ⟨R_Lw, "got", "(LEditRelay;IZ[J)I"⟩
abbrev b_Lw_insert : ByteArray := method_3_code
def y_Lw_insert : MethodName := ⟨R_Lw, "insert", "(LEditRelay;IIC[J)I"⟩
abbrev b_Lw_letter : ByteArray := method_13_code
def y_Lw_letter : MethodName := ⟨R_Lw, "letter", "(LEditRelay;II[J)I"⟩
abbrev b_Lw_nod : ByteArray := method_5_code
def y_Lw_nod : MethodName := ⟨R_Lw, "nod", "(LEditRelay;I)I"⟩
abbrev b_Lw_open : ByteArray := method_10_code
def y_Lw_open : MethodName := ⟨R_Lw, "open", "(LEditRelay;IZ[J)I"⟩
abbrev b_Lw_pull : ByteArray := method_7_code
def y_Lw_pull : MethodName := ⟨R_Lw, "pull", "(LEditRelay;I[J)I"⟩
abbrev b_Lw_push : ByteArray := method_6_code
def y_Lw_push : MethodName := ⟨R_Lw, "push", "(LEditRelay;I[J)I"⟩
abbrev b_Lw_size : ByteArray := method_12_code
def y_Lw_size : MethodName := ⟨R_Lw, "size", "(LEditRelay;I[J)I"⟩
abbrev b_Lw_waiting : ByteArray := method_8_code
def y_Lw_waiting : MethodName := ⟨R_Lw, "waiting", "(LEditRelay;IZ[J)I"⟩
abbrev b_Ma_floorMod : ByteArray := prog_11_method_50_code
def y_Ma_floorMod : MethodName := ⟨R_Ma, "floorMod", "(II)I"⟩
abbrev b_Ma_max : ByteArray := prog_11_method_65_code
def y_Ma_max : MethodName := ⟨R_Ma, "max", "(II)I"⟩
abbrev b_Mo_alike : ByteArray := prog_6_method_25_code
def y_Mo_alike : MethodName := ⟨R_Mo, "alike", "()Z"⟩
abbrev b_Mo_apply : ByteArray := prog_6_method_6_code
def y_Mo_apply : MethodName := ⟨R_Mo, "apply", "(I)V"⟩
abbrev b_Mo_back : ByteArray := prog_6_method_5_code
def y_Mo_back : MethodName := ⟨R_Mo, "back", "(I)I"⟩
abbrev b_Mo_begin : ByteArray := prog_6_method_11_code
def y_Mo_begin : MethodName := ⟨R_Mo, "begin", "(IIII)V"⟩
abbrev b_Mo_change : ByteArray := prog_6_method_21_code
def y_Mo_change : MethodName := ⟨R_Mo, "change", "(IZI)I"⟩
abbrev b_Mo_delete : ByteArray := prog_6_method_14_code
def y_Mo_delete : MethodName := ⟨R_Mo, "delete", "(II)I"⟩
abbrev b_Mo_fitted : ByteArray := prog_6_method_8_code
def y_Mo_fitted : MethodName := ⟨R_Mo, "fitted", "(IIIIII)I"⟩
abbrev b_Mo_forget : ByteArray := prog_6_method_9_code
def y_Mo_forget : MethodName := ⟨R_Mo, "forget", "(I)V"⟩
abbrev b_Mo_get : ByteArray := prog_6_method_10_code
def y_Mo_get : MethodName := ⟨R_Mo, "get", "(II)V"⟩
abbrev b_Mo_got : ByteArray := prog_6_method_19_code
def y_Mo_got : MethodName := ⟨R_Mo, "got", "(IZ)I"⟩
abbrev b_Mo_init : ByteArray := prog_6_method_1_code
def y_Mo_init : MethodName := ⟨R_Mo, "<init>", "()V"⟩
abbrev b_Mo_insert : ByteArray := prog_6_method_13_code
def y_Mo_insert : MethodName := ⟨R_Mo, "insert", "(IIC)I"⟩
abbrev b_Mo_isClient : ByteArray := prog_6_method_3_code
def y_Mo_isClient : MethodName := ⟨R_Mo, "isClient", "(I)Z"⟩
abbrev b_Mo_isSite : ByteArray := prog_6_method_22_code
def y_Mo_isSite : MethodName := ⟨R_Mo, "isSite", "(I)Z"⟩
abbrev b_Mo_letter : ByteArray := prog_6_method_24_code
def y_Mo_letter : MethodName := ⟨R_Mo, "letter", "(II)I"⟩
abbrev b_Mo_line : ByteArray := prog_6_method_4_code
def y_Mo_line : MethodName := ⟨R_Mo, "line", "(IZ)I"⟩
abbrev b_Mo_loaded : ByteArray := prog_6_method_12_code
def y_Mo_loaded : MethodName := ⟨R_Mo, "loaded", "(I)Z"⟩
abbrev b_Mo_nod : ByteArray := prog_6_method_15_code
def y_Mo_nod : MethodName := ⟨R_Mo, "nod", "(I)V"⟩
abbrev b_Mo_open : ByteArray := prog_6_method_20_code
def y_Mo_open : MethodName := ⟨R_Mo, "open", "(IZ)I"⟩
abbrev b_Mo_pull : ByteArray := prog_6_method_17_code
def y_Mo_pull : MethodName := ⟨R_Mo, "pull", "(I)I"⟩
abbrev b_Mo_push : ByteArray := prog_6_method_16_code
def y_Mo_push : MethodName := ⟨R_Mo, "push", "(I)I"⟩
abbrev b_Mo_quiet : ByteArray := prog_6_method_26_code
def y_Mo_quiet : MethodName := ⟨R_Mo, "quiet", "()Z"⟩
abbrev b_Mo_send : ByteArray := prog_6_method_7_code
def y_Mo_send : MethodName := ⟨R_Mo, "send", "(I)V"⟩
abbrev b_Mo_size : ByteArray := prog_6_method_23_code
def y_Mo_size : MethodName := ⟨R_Mo, "size", "(I)I"⟩
abbrev b_Mo_thrown : ByteArray := prog_6_method_2_code
def y_Mo_thrown : MethodName := ⟨R_Mo, "thrown", "()I"⟩
abbrev b_Mo_waiting : ByteArray := prog_6_method_18_code
def y_Mo_waiting : MethodName := ⟨R_Mo, "waiting", "(IZ)I"⟩
abbrev b_Tx_init : ByteArray := prog_3_method_1_code
def y_Tx_init : MethodName := ⟨R_Tx, "<init>", "()V"⟩
abbrev b_Tx_isSameAs : ByteArray := prog_3_method_3_code
def y_Tx_isSameAs : MethodName := ⟨R_Tx, "isSameAs", "(LEditRelay$Text;)Z"⟩
abbrev b_Tx_perform : ByteArray := prog_3_method_2_code
def y_Tx_perform : MethodName := ⟨R_Tx, "perform", "(LEditRelay$Change;)V"⟩
abbrev b_Tx_put : ByteArray := prog_3_method_4_code
def y_Tx_put : MethodName := ⟨R_Tx, "put", "(IC)V"⟩
abbrev b_Tx_remove : ByteArray := prog_3_method_5_code
def y_Tx_remove : MethodName := ⟨R_Tx, "remove", "(I)V"⟩
abbrev b_Wy_fitOpenChanges : ByteArray := prog_4_method_10_code
def y_Wy_fitOpenChanges : MethodName := ⟨R_Wy, "fitOpenChanges", "(LEditRelay$Change;)V"⟩
abbrev b_Wy_forget : ByteArray := prog_4_method_9_code
def y_Wy_forget : MethodName := ⟨R_Wy, "forget", "(I)V"⟩
abbrev b_Wy_init : ByteArray := prog_4_method_1_code
def y_Wy_init : MethodName := ⟨R_Wy, "<init>", "(I)V"⟩
abbrev b_Wy_isFull : ByteArray := prog_4_method_4_code
def y_Wy_isFull : MethodName := ⟨R_Wy, "isFull", "()Z"⟩
abbrev b_Wy_oldestChange : ByteArray := prog_4_method_7_code
def y_Wy_oldestChange : MethodName := ⟨R_Wy, "oldestChange", "()LEditRelay$Change;"⟩
abbrev b_Wy_oldestHeard : ByteArray := prog_4_method_8_code
def y_Wy_oldestHeard : MethodName := ⟨R_Wy, "oldestHeard", "()I"⟩
abbrev b_Wy_openChange : ByteArray := prog_4_method_5_code
def y_Wy_openChange : MethodName := ⟨R_Wy, "openChange", "(I)LEditRelay$Change;"⟩
abbrev b_Wy_openCount : ByteArray := prog_4_method_3_code
def y_Wy_openCount : MethodName := ⟨R_Wy, "openCount", "()I"⟩
abbrev b_Wy_send : ByteArray := prog_4_method_6_code
def y_Wy_send : MethodName := ⟨R_Wy, "send", "(LEditRelay$Change;I)V"⟩
abbrev b_Wy_slotOf : ByteArray := prog_4_method_11_code
def y_Wy_slotOf : MethodName := ⟨R_Wy, "slotOf", "(I)I"⟩
abbrev b_Wy_waitingCount : ByteArray := prog_4_method_2_code
def y_Wy_waitingCount : MethodName := ⟨R_Wy, "waitingCount", "()I"⟩
abbrev b_Lw_law : ByteArray := code
theorem wi_Lw : Cond.initialized R_Lw ∈ gw := gw_t 0 (by decide +kernel) (by decide +kernel)
theorem wi_Er : Cond.initialized R_Er ∈ gw := gw_t 1 (by decide +kernel) (by decide +kernel)
theorem wi_Tx : Cond.initialized R_Tx ∈ gw := gw_t 2 (by decide +kernel) (by decide +kernel)
theorem wi_Wy : Cond.initialized R_Wy ∈ gw := gw_t 3 (by decide +kernel) (by decide +kernel)
theorem wi_Ch : Cond.initialized R_Ch ∈ gw := gw_t 4 (by decide +kernel) (by decide +kernel)
theorem wi_Mo : Cond.initialized R_Mo ∈ gw := gw_t 5 (by decide +kernel) (by decide +kernel)
theorem wi_Throwable : Cond.initialized "java/lang/Throwable" ∈ gw := gw_t 6 (by decide +kernel) (by decide +kernel)
theorem wi_Exception : Cond.initialized "java/lang/Exception" ∈ gw := gw_t 7 (by decide +kernel) (by decide +kernel)
theorem wi_RuntimeException : Cond.initialized "java/lang/RuntimeException" ∈ gw := gw_t 8 (by decide +kernel) (by decide +kernel)
theorem wi_IllegalArgumentException : Cond.initialized "java/lang/IllegalArgumentException" ∈ gw := gw_t 9 (by decide +kernel) (by decide +kernel)
theorem wi_IndexOutOfBoundsException : Cond.initialized "java/lang/IndexOutOfBoundsException" ∈ gw := gw_t 10 (by decide +kernel) (by decide +kernel)
theorem wi_UnsupportedOperationException : Cond.initialized "java/lang/UnsupportedOperationException" ∈ gw := gw_t 11 (by decide +kernel) (by decide +kernel)
theorem wi_System : Cond.initialized "java/lang/System" ∈ gw := gw_t 12 (by decide +kernel) (by decide +kernel)
theorem wi_Ma : Cond.initialized R_Ma ∈ gw := gw_t 13 (by decide +kernel) (by decide +kernel)
theorem wi_IllegalStateException : Cond.initialized "java/lang/IllegalStateException" ∈ gw := gw_t 14 (by decide +kernel) (by decide +kernel)
theorem wl_Lw_8 : Cond.classLink R_Lw 8 R_Er ∈ gw := gw_t 15 (by decide +kernel) (by decide +kernel)
theorem wn_Er : Cond.instantiable R_Er 4 ∈ gw := gw_t 16 (by decide +kernel) (by decide +kernel)
theorem wl_Lw_56 : Cond.methodLink R_Lw 56 y_Er_init ∈ gw := gw_t 17 (by decide +kernel) (by decide +kernel)
theorem wim_Er_init : Cond.instanceMethod y_Er_init ∈ gw := gw_t 18 (by decide +kernel) (by decide +kernel)
theorem wc_Er_init : Cond.code y_Er_init b_Er_init 2 none ∈ gw := gw_t 19 (by decide +kernel) (by decide +kernel)
theorem wl_Er_3 : Cond.methodLink R_Er 3 objectInit ∈ gw := gw_t 20 (by decide +kernel) (by decide +kernel)
theorem wim_Object : Cond.instanceMethod objectInit ∈ gw := gw_t 21 (by decide +kernel) (by decide +kernel)
theorem wc_Object : Cond.code objectInit ⟨#[0xb1]⟩ 1 none ∈ gw := gw_t 22 (by decide +kernel) (by decide +kernel)
theorem wl_Er_9 : Cond.classLink R_Er 9 R_Tx ∈ gw := gw_t 23 (by decide +kernel) (by decide +kernel)
theorem wn_Tx : Cond.instantiable R_Tx 2 ∈ gw := gw_t 25 (by decide +kernel) (by decide +kernel)
theorem wim_Tx_init : Cond.instanceMethod y_Tx_init ∈ gw := gw_t 27 (by decide +kernel) (by decide +kernel)
theorem wc_Tx_init : Cond.code y_Tx_init b_Tx_init 1 none ∈ gw := gw_t 28 (by decide +kernel) (by decide +kernel)
theorem wl_Tx_3 : Cond.methodLink R_Tx 3 objectInit ∈ gw := gw_t 29 (by decide +kernel) (by decide +kernel)
theorem wl_Tx_9 : Cond.fieldLink R_Tx 9 R_Tx "letters" "[C" ∈ gw := gw_t 30 (by decide +kernel) (by decide +kernel)
theorem wl_Er_70 : Cond.fieldLink R_Er 70 R_Tx "letters" "[C" ∈ gw := gw_t 31 (by decide +kernel) (by decide +kernel)
theorem wl_Er_45 : Cond.fieldLink R_Er 45 R_Tx "count" "I" ∈ gw := gw_t 32 (by decide +kernel) (by decide +kernel)
theorem wl_Tx_36 : Cond.fieldLink R_Tx 36 R_Tx "count" "I" ∈ gw := gw_t 33 (by decide +kernel) (by decide +kernel)
theorem wa_char : Cond.arrayClass .char ∈ gw := gw_t 39 (by decide +kernel) (by decide +kernel)
theorem wl_Er_16 : Cond.classLink R_Er 16 R_Wy ∈ gw := gw_t 40 (by decide +kernel) (by decide +kernel)
theorem wn_Wy : Cond.instantiable R_Wy 7 ∈ gw := gw_t 42 (by decide +kernel) (by decide +kernel)
theorem wl_Er_25 : Cond.methodLink R_Er 25 y_Wy_init ∈ gw := gw_t 43 (by decide +kernel) (by decide +kernel)
theorem wim_Wy_init : Cond.instanceMethod y_Wy_init ∈ gw := gw_t 44 (by decide +kernel) (by decide +kernel)
theorem wc_Wy_init : Cond.code y_Wy_init b_Wy_init 3 none ∈ gw := gw_t 45 (by decide +kernel) (by decide +kernel)
theorem wl_Wy_1 : Cond.methodLink R_Wy 1 objectInit ∈ gw := gw_t 46 (by decide +kernel) (by decide +kernel)
theorem wl_Wy_13 : Cond.classLink R_Wy 13 R_Ch ∈ gw := gw_t 47 (by decide +kernel) (by decide +kernel)
theorem wn_Ch : Cond.instantiable R_Ch 4 ∈ gw := gw_t 49 (by decide +kernel) (by decide +kernel)
theorem wim_Ch_init : Cond.instanceMethod y_Ch_init ∈ gw := gw_t 51 (by decide +kernel) (by decide +kernel)
theorem wc_Ch_init : Cond.code y_Ch_init b_Ch_init 1 none ∈ gw := gw_t 52 (by decide +kernel) (by decide +kernel)
theorem wl_Ch_3 : Cond.methodLink R_Ch 3 objectInit ∈ gw := gw_t 53 (by decide +kernel) (by decide +kernel)
theorem wl_Tx_15 : Cond.fieldLink R_Tx 15 R_Ch "kind" "I" ∈ gw := gw_t 54 (by decide +kernel) (by decide +kernel)
theorem wl_Ch_9 : Cond.fieldLink R_Ch 9 R_Ch "kind" "I" ∈ gw := gw_t 55 (by decide +kernel) (by decide +kernel)
theorem wl_Er_99 : Cond.fieldLink R_Er 99 R_Ch "kind" "I" ∈ gw := gw_t 56 (by decide +kernel) (by decide +kernel)
theorem wl_Tx_21 : Cond.fieldLink R_Tx 21 R_Ch "place" "I" ∈ gw := gw_t 57 (by decide +kernel) (by decide +kernel)
theorem wl_Ch_15 : Cond.fieldLink R_Ch 15 R_Ch "place" "I" ∈ gw := gw_t 58 (by decide +kernel) (by decide +kernel)
theorem wl_Er_115 : Cond.fieldLink R_Er 115 R_Ch "place" "I" ∈ gw := gw_t 59 (by decide +kernel) (by decide +kernel)
theorem wl_Tx_24 : Cond.fieldLink R_Tx 24 R_Ch "letter" "C" ∈ gw := gw_t 60 (by decide +kernel) (by decide +kernel)
theorem wl_Ch_18 : Cond.fieldLink R_Ch 18 R_Ch "letter" "C" ∈ gw := gw_t 61 (by decide +kernel) (by decide +kernel)
theorem wl_Er_141 : Cond.fieldLink R_Er 141 R_Ch "letter" "C" ∈ gw := gw_t 62 (by decide +kernel) (by decide +kernel)
theorem wl_Ch_22 : Cond.fieldLink R_Ch 22 R_Ch "origin" "I" ∈ gw := gw_t 63 (by decide +kernel) (by decide +kernel)
theorem wl_Er_118 : Cond.fieldLink R_Er 118 R_Ch "origin" "I" ∈ gw := gw_t 64 (by decide +kernel) (by decide +kernel)
theorem wa_int : Cond.arrayClass .int ∈ gw := gw_t 74 (by decide +kernel) (by decide +kernel)
theorem wl_Wy_7 : Cond.fieldLink R_Wy 7 R_Wy "room" "I" ∈ gw := gw_t 75 (by decide +kernel) (by decide +kernel)
theorem wl_Wy_15 : Cond.fieldLink R_Wy 15 R_Wy "messages" "[LEditRelay$Change;" ∈ gw := gw_t 76 (by decide +kernel) (by decide +kernel)
theorem wl_Wy_19 : Cond.fieldLink R_Wy 19 R_Wy "opens" "[LEditRelay$Change;" ∈ gw := gw_t 77 (by decide +kernel) (by decide +kernel)
theorem wl_Wy_22 : Cond.fieldLink R_Wy 22 R_Wy "heards" "[I" ∈ gw := gw_t 78 (by decide +kernel) (by decide +kernel)
theorem wl_Wy_27 : Cond.fieldLink R_Wy 27 R_Wy "sent" "I" ∈ gw := gw_t 79 (by decide +kernel) (by decide +kernel)
theorem wl_Wy_33 : Cond.fieldLink R_Wy 33 R_Wy "known" "I" ∈ gw := gw_t 80 (by decide +kernel) (by decide +kernel)
theorem wl_Wy_30 : Cond.fieldLink R_Wy 30 R_Wy "got" "I" ∈ gw := gw_t 81 (by decide +kernel) (by decide +kernel)
theorem wl_Er_92 : Cond.fieldLink R_Er 92 R_Wy "got" "I" ∈ gw := gw_t 82 (by decide +kernel) (by decide +kernel)
theorem wl_Er_28 : Cond.classLink R_Er 28 R_Ch ∈ gw := gw_t 98 (by decide +kernel) (by decide +kernel)
theorem wl_Er_11 : Cond.fieldLink R_Er 11 R_Er "texts" "[LEditRelay$Text;" ∈ gw := gw_t 100 (by decide +kernel) (by decide +kernel)
theorem wl_Er_18 : Cond.fieldLink R_Er 18 R_Er "ups" "[LEditRelay$Way;" ∈ gw := gw_t 101 (by decide +kernel) (by decide +kernel)
theorem wl_Er_22 : Cond.fieldLink R_Er 22 R_Er "downs" "[LEditRelay$Way;" ∈ gw := gw_t 102 (by decide +kernel) (by decide +kernel)
theorem wl_Er_31 : Cond.fieldLink R_Er 31 R_Er "made" "LEditRelay$Change;" ∈ gw := gw_t 103 (by decide +kernel) (by decide +kernel)
theorem wl_Lw_105 : Cond.methodLink R_Lw 105 y_Er_alike ∈ gw := gw_t 113 (by decide +kernel) (by decide +kernel)
theorem wim_Er_alike : Cond.instanceMethod y_Er_alike ∈ gw := gw_t 114 (by decide +kernel) (by decide +kernel)
theorem ws_Er_alike : Cond.selects R_Er y_Er_alike y_Er_alike ∈ gw := gw_t 115 (by decide +kernel) (by decide +kernel)
theorem wc_Er_alike : Cond.code y_Er_alike b_Er_alike 2 (some .boolean) ∈ gw := gw_t 116 (by decide +kernel) (by decide +kernel)
theorem wl_Er_124 : Cond.methodLink R_Er 124 y_Tx_isSameAs ∈ gw := gw_t 117 (by decide +kernel) (by decide +kernel)
theorem wim_Tx_isSameAs : Cond.instanceMethod y_Tx_isSameAs ∈ gw := gw_t 118 (by decide +kernel) (by decide +kernel)
theorem ws_Tx_isSameAs : Cond.selects R_Tx y_Tx_isSameAs y_Tx_isSameAs ∈ gw := gw_t 119 (by decide +kernel) (by decide +kernel)
theorem wc_Tx_isSameAs : Cond.code y_Tx_isSameAs b_Tx_isSameAs 3 (some .boolean) ∈ gw := gw_t 120 (by decide +kernel) (by decide +kernel)
theorem wl_Lw_110 : Cond.methodLink R_Lw 110 y_Er_quiet ∈ gw := gw_t 121 (by decide +kernel) (by decide +kernel)
theorem wim_Er_quiet : Cond.instanceMethod y_Er_quiet ∈ gw := gw_t 122 (by decide +kernel) (by decide +kernel)
theorem ws_Er_quiet : Cond.selects R_Er y_Er_quiet y_Er_quiet ∈ gw := gw_t 123 (by decide +kernel) (by decide +kernel)
theorem wc_Er_quiet : Cond.code y_Er_quiet b_Er_quiet 2 (some .boolean) ∈ gw := gw_t 124 (by decide +kernel) (by decide +kernel)
theorem wl_Er_74 : Cond.methodLink R_Er 74 y_Er_way ∈ gw := gw_t 125 (by decide +kernel) (by decide +kernel)
theorem wim_Er_way : Cond.instanceMethod y_Er_way ∈ gw := gw_t 127 (by decide +kernel) (by decide +kernel)
theorem wc_Er_way : Cond.code y_Er_way b_Er_way 3 (some (.object "EditRelay$Way")) ∈ gw := gw_t 128 (by decide +kernel) (by decide +kernel)
theorem wl_Er_102 : Cond.methodLink R_Er 102 y_Wy_waitingCount ∈ gw := gw_t 129 (by decide +kernel) (by decide +kernel)
theorem wim_Wy_waitingCount : Cond.instanceMethod y_Wy_waitingCount ∈ gw := gw_t 130 (by decide +kernel) (by decide +kernel)
theorem ws_Wy_waitingCount : Cond.selects R_Wy y_Wy_waitingCount y_Wy_waitingCount ∈ gw := gw_t 131 (by decide +kernel) (by decide +kernel)
theorem wc_Wy_waitingCount : Cond.code y_Wy_waitingCount b_Wy_waitingCount 1 (some .int) ∈ gw := gw_t 132 (by decide +kernel) (by decide +kernel)
theorem wl_Lw_60 : Cond.methodLink R_Lw 60 y_Lw_insert ∈ gw := gw_t 133 (by decide +kernel) (by decide +kernel)
theorem wsm_Lw_insert : Cond.static y_Lw_insert ∈ gw := gw_t 134 (by decide +kernel) (by decide +kernel)
theorem wc_Lw_insert : Cond.codeWith y_Lw_insert b_Lw_insert 6 (some .int) [(0, 12, 15, 13), (0, 12, 19, 15), (0, 12, 23, 17)] ∈ gw := gw_t 135 (by decide +kernel) (by decide +kernel)
theorem wl_Lw_13 : Cond.classLink R_Lw 13 "java/lang/IllegalArgumentException" ∈ gw := gw_t 136 (by decide +kernel) (by decide +kernel)
theorem wl_Lw_15 : Cond.classLink R_Lw 15 "java/lang/IndexOutOfBoundsException" ∈ gw := gw_t 137 (by decide +kernel) (by decide +kernel)
theorem wl_Lw_17 : Cond.classLink R_Lw 17 "java/lang/UnsupportedOperationException" ∈ gw := gw_t 138 (by decide +kernel) (by decide +kernel)
theorem wl_Lw_7 : Cond.methodLink R_Lw 7 y_Er_insert ∈ gw := gw_t 139 (by decide +kernel) (by decide +kernel)
theorem wim_Er_insert : Cond.instanceMethod y_Er_insert ∈ gw := gw_t 140 (by decide +kernel) (by decide +kernel)
theorem ws_Er_insert : Cond.selects R_Er y_Er_insert y_Er_insert ∈ gw := gw_t 141 (by decide +kernel) (by decide +kernel)
theorem wc_Er_insert : Cond.code y_Er_insert b_Er_insert 5 (some .int) ∈ gw := gw_t 142 (by decide +kernel) (by decide +kernel)
theorem wl_Er_35 : Cond.methodLink R_Er 35 y_Er_checkClient ∈ gw := gw_t 143 (by decide +kernel) (by decide +kernel)
theorem wsm_Er_checkClient : Cond.static y_Er_checkClient ∈ gw := gw_t 144 (by decide +kernel) (by decide +kernel)
theorem wc_Er_checkClient : Cond.code y_Er_checkClient b_Er_checkClient 1 none ∈ gw := gw_t 145 (by decide +kernel) (by decide +kernel)
theorem wl_Er_38 : Cond.classLink R_Er 38 "java/lang/IllegalArgumentException" ∈ gw := gw_t 146 (by decide +kernel) (by decide +kernel)
theorem wa_byte : Cond.arrayClass .byte ∈ gw := gw_t 214 (by decide +kernel) (by decide +kernel)
theorem wl_Er_49 : Cond.classLink R_Er 49 "java/lang/IndexOutOfBoundsException" ∈ gw := gw_t 216 (by decide +kernel) (by decide +kernel)
theorem wl_Er_54 : Cond.classLink R_Er 54 "java/lang/UnsupportedOperationException" ∈ gw := gw_t 232 (by decide +kernel) (by decide +kernel)
theorem wl_Er_59 : Cond.methodLink R_Er 59 y_Er_checkMayMakeChange ∈ gw := gw_t 248 (by decide +kernel) (by decide +kernel)
theorem wim_Er_checkMayMakeChange : Cond.instanceMethod y_Er_checkMayMakeChange ∈ gw := gw_t 250 (by decide +kernel) (by decide +kernel)
theorem wc_Er_checkMayMakeChange : Cond.code y_Er_checkMayMakeChange b_Er_checkMayMakeChange 2 none ∈ gw := gw_t 251 (by decide +kernel) (by decide +kernel)
theorem wl_Er_82 : Cond.methodLink R_Er 82 y_Wy_isFull ∈ gw := gw_t 252 (by decide +kernel) (by decide +kernel)
theorem wim_Wy_isFull : Cond.instanceMethod y_Wy_isFull ∈ gw := gw_t 253 (by decide +kernel) (by decide +kernel)
theorem ws_Wy_isFull : Cond.selects R_Wy y_Wy_isFull y_Wy_isFull ∈ gw := gw_t 254 (by decide +kernel) (by decide +kernel)
theorem wc_Wy_isFull : Cond.code y_Wy_isFull b_Wy_isFull 1 (some .boolean) ∈ gw := gw_t 255 (by decide +kernel) (by decide +kernel)
theorem wl_Wy_36 : Cond.methodLink R_Wy 36 y_Wy_openCount ∈ gw := gw_t 256 (by decide +kernel) (by decide +kernel)
theorem wim_Wy_openCount : Cond.instanceMethod y_Wy_openCount ∈ gw := gw_t 257 (by decide +kernel) (by decide +kernel)
theorem ws_Wy_openCount : Cond.selects R_Wy y_Wy_openCount y_Wy_openCount ∈ gw := gw_t 258 (by decide +kernel) (by decide +kernel)
theorem wc_Wy_openCount : Cond.code y_Wy_openCount b_Wy_openCount 1 (some .int) ∈ gw := gw_t 259 (by decide +kernel) (by decide +kernel)
theorem wl_Er_62 : Cond.methodLink R_Er 62 y_Er_makeChange ∈ gw := gw_t 261 (by decide +kernel) (by decide +kernel)
theorem wim_Er_makeChange : Cond.instanceMethod y_Er_makeChange ∈ gw := gw_t 263 (by decide +kernel) (by decide +kernel)
theorem wc_Er_makeChange : Cond.code y_Er_makeChange b_Er_makeChange 5 none ∈ gw := gw_t 264 (by decide +kernel) (by decide +kernel)
theorem wl_Er_145 : Cond.methodLink R_Er 145 y_Tx_perform ∈ gw := gw_t 265 (by decide +kernel) (by decide +kernel)
theorem wim_Tx_perform : Cond.instanceMethod y_Tx_perform ∈ gw := gw_t 266 (by decide +kernel) (by decide +kernel)
theorem ws_Tx_perform : Cond.selects R_Tx y_Tx_perform y_Tx_perform ∈ gw := gw_t 267 (by decide +kernel) (by decide +kernel)
theorem wc_Tx_perform : Cond.code y_Tx_perform b_Tx_perform 2 none ∈ gw := gw_t 268 (by decide +kernel) (by decide +kernel)
theorem wl_Tx_28 : Cond.methodLink R_Tx 28 y_Tx_put ∈ gw := gw_t 269 (by decide +kernel) (by decide +kernel)
theorem wim_Tx_put : Cond.instanceMethod y_Tx_put ∈ gw := gw_t 271 (by decide +kernel) (by decide +kernel)
theorem wc_Tx_put : Cond.code y_Tx_put b_Tx_put 3 none ∈ gw := gw_t 272 (by decide +kernel) (by decide +kernel)
theorem wl_Tx_39 : Cond.methodLink R_Tx 39 arraycopyName ∈ gw := gw_t 273 (by decide +kernel) (by decide +kernel)
theorem wsm_arraycopy : Cond.static arraycopyName ∈ gw := gw_t 274 (by decide +kernel) (by decide +kernel)
theorem wna_arraycopy : Cond.native arraycopyName ∈ gw := gw_t 275 (by decide +kernel) (by decide +kernel)
theorem wl_Tx_32 : Cond.methodLink R_Tx 32 y_Tx_remove ∈ gw := gw_t 276 (by decide +kernel) (by decide +kernel)
theorem wim_Tx_remove : Cond.instanceMethod y_Tx_remove ∈ gw := gw_t 278 (by decide +kernel) (by decide +kernel)
theorem wc_Tx_remove : Cond.code y_Tx_remove b_Tx_remove 2 none ∈ gw := gw_t 279 (by decide +kernel) (by decide +kernel)
theorem wl_Er_95 : Cond.methodLink R_Er 95 y_Wy_send ∈ gw := gw_t 280 (by decide +kernel) (by decide +kernel)
theorem wim_Wy_send : Cond.instanceMethod y_Wy_send ∈ gw := gw_t 281 (by decide +kernel) (by decide +kernel)
theorem ws_Wy_send : Cond.selects R_Wy y_Wy_send y_Wy_send ∈ gw := gw_t 282 (by decide +kernel) (by decide +kernel)
theorem wc_Wy_send : Cond.code y_Wy_send b_Wy_send 4 none ∈ gw := gw_t 283 (by decide +kernel) (by decide +kernel)
theorem wl_Wy_40 : Cond.methodLink R_Wy 40 y_Wy_slotOf ∈ gw := gw_t 284 (by decide +kernel) (by decide +kernel)
theorem wim_Wy_slotOf : Cond.instanceMethod y_Wy_slotOf ∈ gw := gw_t 286 (by decide +kernel) (by decide +kernel)
theorem wc_Wy_slotOf : Cond.code y_Wy_slotOf b_Wy_slotOf 2 (some .int) ∈ gw := gw_t 287 (by decide +kernel) (by decide +kernel)
theorem wl_Wy_62 : Cond.methodLink R_Wy 62 y_Ma_floorMod ∈ gw := gw_t 288 (by decide +kernel) (by decide +kernel)
theorem wsm_Ma_floorMod : Cond.static y_Ma_floorMod ∈ gw := gw_t 289 (by decide +kernel) (by decide +kernel)
theorem wc_Ma_floorMod : Cond.code y_Ma_floorMod b_Ma_floorMod 3 (some .int) ∈ gw := gw_t 290 (by decide +kernel) (by decide +kernel)
theorem wl_Wy_44 : Cond.methodLink R_Wy 44 y_Ch_copyFrom ∈ gw := gw_t 291 (by decide +kernel) (by decide +kernel)
theorem wim_Ch_copyFrom : Cond.instanceMethod y_Ch_copyFrom ∈ gw := gw_t 292 (by decide +kernel) (by decide +kernel)
theorem ws_Ch_copyFrom : Cond.selects R_Ch y_Ch_copyFrom y_Ch_copyFrom ∈ gw := gw_t 293 (by decide +kernel) (by decide +kernel)
theorem wc_Ch_copyFrom : Cond.code y_Ch_copyFrom b_Ch_copyFrom 2 none ∈ gw := gw_t 294 (by decide +kernel) (by decide +kernel)
theorem wl_Lw_70 : Cond.methodLink R_Lw 70 y_Lw_delete ∈ gw := gw_t 295 (by decide +kernel) (by decide +kernel)
theorem wsm_Lw_delete : Cond.static y_Lw_delete ∈ gw := gw_t 296 (by decide +kernel) (by decide +kernel)
theorem wc_Lw_delete : Cond.codeWith y_Lw_delete b_Lw_delete 5 (some .int) [(0, 10, 13, 13), (0, 10, 17, 15), (0, 10, 21, 17)] ∈ gw := gw_t 297 (by decide +kernel) (by decide +kernel)
theorem wl_Lw_19 : Cond.methodLink R_Lw 19 y_Er_delete ∈ gw := gw_t 298 (by decide +kernel) (by decide +kernel)
theorem wim_Er_delete : Cond.instanceMethod y_Er_delete ∈ gw := gw_t 299 (by decide +kernel) (by decide +kernel)
theorem ws_Er_delete : Cond.selects R_Er y_Er_delete y_Er_delete ∈ gw := gw_t 300 (by decide +kernel) (by decide +kernel)
theorem wc_Er_delete : Cond.code y_Er_delete b_Er_delete 5 (some .int) ∈ gw := gw_t 301 (by decide +kernel) (by decide +kernel)
theorem wl_Er_66 : Cond.methodLink R_Er 66 y_Er_checkHasLetter ∈ gw := gw_t 302 (by decide +kernel) (by decide +kernel)
theorem wsm_Er_checkHasLetter : Cond.static y_Er_checkHasLetter ∈ gw := gw_t 303 (by decide +kernel) (by decide +kernel)
theorem wc_Er_checkHasLetter : Cond.code y_Er_checkHasLetter b_Er_checkHasLetter 2 none ∈ gw := gw_t 304 (by decide +kernel) (by decide +kernel)
theorem wl_Lw_74 : Cond.methodLink R_Lw 74 y_Lw_nod ∈ gw := gw_t 306 (by decide +kernel) (by decide +kernel)
theorem wsm_Lw_nod : Cond.static y_Lw_nod ∈ gw := gw_t 307 (by decide +kernel) (by decide +kernel)
theorem wc_Lw_nod : Cond.codeWith y_Lw_nod b_Lw_nod 3 (some .int) [(0, 5, 8, 13), (0, 5, 11, 17)] ∈ gw := gw_t 308 (by decide +kernel) (by decide +kernel)
theorem wl_Lw_23 : Cond.methodLink R_Lw 23 y_Er_nod ∈ gw := gw_t 309 (by decide +kernel) (by decide +kernel)
theorem wim_Er_nod : Cond.instanceMethod y_Er_nod ∈ gw := gw_t 310 (by decide +kernel) (by decide +kernel)
theorem ws_Er_nod : Cond.selects R_Er y_Er_nod y_Er_nod ∈ gw := gw_t 311 (by decide +kernel) (by decide +kernel)
theorem wc_Er_nod : Cond.code y_Er_nod b_Er_nod 2 none ∈ gw := gw_t 312 (by decide +kernel) (by decide +kernel)
theorem wl_Lw_78 : Cond.methodLink R_Lw 78 y_Lw_push ∈ gw := gw_t 313 (by decide +kernel) (by decide +kernel)
theorem wsm_Lw_push : Cond.static y_Lw_push ∈ gw := gw_t 314 (by decide +kernel) (by decide +kernel)
theorem wc_Lw_push : Cond.codeWith y_Lw_push b_Lw_push 4 (some .int) [(0, 9, 12, 13), (0, 9, 15, 31), (0, 9, 18, 17)] ∈ gw := gw_t 315 (by decide +kernel) (by decide +kernel)
theorem wl_Lw_31 : Cond.classLink R_Lw 31 "java/lang/IllegalStateException" ∈ gw := gw_t 316 (by decide +kernel) (by decide +kernel)
theorem wl_Lw_27 : Cond.methodLink R_Lw 27 y_Er_push ∈ gw := gw_t 317 (by decide +kernel) (by decide +kernel)
theorem wim_Er_push : Cond.instanceMethod y_Er_push ∈ gw := gw_t 318 (by decide +kernel) (by decide +kernel)
theorem ws_Er_push : Cond.selects R_Er y_Er_push y_Er_push ∈ gw := gw_t 319 (by decide +kernel) (by decide +kernel)
theorem wc_Er_push : Cond.code y_Er_push b_Er_push 4 (some .int) ∈ gw := gw_t 320 (by decide +kernel) (by decide +kernel)
theorem wl_Er_78 : Cond.methodLink R_Er 78 y_Er_checkSomeWaits ∈ gw := gw_t 321 (by decide +kernel) (by decide +kernel)
theorem wsm_Er_checkSomeWaits : Cond.static y_Er_checkSomeWaits ∈ gw := gw_t 322 (by decide +kernel) (by decide +kernel)
theorem wc_Er_checkSomeWaits : Cond.code y_Er_checkSomeWaits b_Er_checkSomeWaits 1 none ∈ gw := gw_t 323 (by decide +kernel) (by decide +kernel)
theorem wl_Er_134 : Cond.classLink R_Er 134 "java/lang/IllegalStateException" ∈ gw := gw_t 324 (by decide +kernel) (by decide +kernel)
theorem wl_Er_88 : Cond.methodLink R_Er 88 y_Er_receive ∈ gw := gw_t 341 (by decide +kernel) (by decide +kernel)
theorem wim_Er_receive : Cond.instanceMethod y_Er_receive ∈ gw := gw_t 343 (by decide +kernel) (by decide +kernel)
theorem wc_Er_receive : Cond.code y_Er_receive b_Er_receive 5 (some (.object "EditRelay$Change")) ∈ gw := gw_t 344 (by decide +kernel) (by decide +kernel)
theorem wl_Er_149 : Cond.methodLink R_Er 149 y_Wy_oldestChange ∈ gw := gw_t 345 (by decide +kernel) (by decide +kernel)
theorem wim_Wy_oldestChange : Cond.instanceMethod y_Wy_oldestChange ∈ gw := gw_t 346 (by decide +kernel) (by decide +kernel)
theorem ws_Wy_oldestChange : Cond.selects R_Wy y_Wy_oldestChange y_Wy_oldestChange ∈ gw := gw_t 347 (by decide +kernel) (by decide +kernel)
theorem wc_Wy_oldestChange : Cond.code y_Wy_oldestChange b_Wy_oldestChange 1 (some (.object "EditRelay$Change")) ∈ gw := gw_t 348 (by decide +kernel) (by decide +kernel)
theorem wl_Er_153 : Cond.methodLink R_Er 153 y_Wy_oldestHeard ∈ gw := gw_t 349 (by decide +kernel) (by decide +kernel)
theorem wim_Wy_oldestHeard : Cond.instanceMethod y_Wy_oldestHeard ∈ gw := gw_t 350 (by decide +kernel) (by decide +kernel)
theorem ws_Wy_oldestHeard : Cond.selects R_Wy y_Wy_oldestHeard y_Wy_oldestHeard ∈ gw := gw_t 351 (by decide +kernel) (by decide +kernel)
theorem wc_Wy_oldestHeard : Cond.code y_Wy_oldestHeard b_Wy_oldestHeard 1 (some .int) ∈ gw := gw_t 352 (by decide +kernel) (by decide +kernel)
theorem wl_Er_156 : Cond.methodLink R_Er 156 y_Wy_forget ∈ gw := gw_t 353 (by decide +kernel) (by decide +kernel)
theorem wim_Wy_forget : Cond.instanceMethod y_Wy_forget ∈ gw := gw_t 354 (by decide +kernel) (by decide +kernel)
theorem ws_Wy_forget : Cond.selects R_Wy y_Wy_forget y_Wy_forget ∈ gw := gw_t 355 (by decide +kernel) (by decide +kernel)
theorem wc_Wy_forget : Cond.code y_Wy_forget b_Wy_forget 2 none ∈ gw := gw_t 356 (by decide +kernel) (by decide +kernel)
theorem wl_Wy_48 : Cond.methodLink R_Wy 48 y_Ma_max ∈ gw := gw_t 357 (by decide +kernel) (by decide +kernel)
theorem wsm_Ma_max : Cond.static y_Ma_max ∈ gw := gw_t 358 (by decide +kernel) (by decide +kernel)
theorem wc_Ma_max : Cond.code y_Ma_max b_Ma_max 2 (some .int) ∈ gw := gw_t 359 (by decide +kernel) (by decide +kernel)
theorem wl_Er_159 : Cond.methodLink R_Er 159 y_Wy_fitOpenChanges ∈ gw := gw_t 360 (by decide +kernel) (by decide +kernel)
theorem wim_Wy_fitOpenChanges : Cond.instanceMethod y_Wy_fitOpenChanges ∈ gw := gw_t 361 (by decide +kernel) (by decide +kernel)
theorem ws_Wy_fitOpenChanges : Cond.selects R_Wy y_Wy_fitOpenChanges y_Wy_fitOpenChanges ∈ gw := gw_t 362 (by decide +kernel) (by decide +kernel)
theorem wc_Wy_fitOpenChanges : Cond.code y_Wy_fitOpenChanges b_Wy_fitOpenChanges 4 none ∈ gw := gw_t 363 (by decide +kernel) (by decide +kernel)
theorem wl_Wy_54 : Cond.methodLink R_Wy 54 y_Wy_openChange ∈ gw := gw_t 364 (by decide +kernel) (by decide +kernel)
theorem wim_Wy_openChange : Cond.instanceMethod y_Wy_openChange ∈ gw := gw_t 365 (by decide +kernel) (by decide +kernel)
theorem ws_Wy_openChange : Cond.selects R_Wy y_Wy_openChange y_Wy_openChange ∈ gw := gw_t 366 (by decide +kernel) (by decide +kernel)
theorem wc_Wy_openChange : Cond.code y_Wy_openChange b_Wy_openChange 2 (some (.object "EditRelay$Change")) ∈ gw := gw_t 367 (by decide +kernel) (by decide +kernel)
theorem wl_Wy_58 : Cond.methodLink R_Wy 58 y_Ch_fitToEachOther ∈ gw := gw_t 368 (by decide +kernel) (by decide +kernel)
theorem wsm_Ch_fitToEachOther : Cond.static y_Ch_fitToEachOther ∈ gw := gw_t 369 (by decide +kernel) (by decide +kernel)
theorem wc_Ch_fitToEachOther : Cond.code y_Ch_fitToEachOther b_Ch_fitToEachOther 4 none ∈ gw := gw_t 370 (by decide +kernel) (by decide +kernel)
theorem wl_Ch_25 : Cond.methodLink R_Ch 25 y_Ch_fitTo ∈ gw := gw_t 371 (by decide +kernel) (by decide +kernel)
theorem wim_Ch_fitTo : Cond.instanceMethod y_Ch_fitTo ∈ gw := gw_t 373 (by decide +kernel) (by decide +kernel)
theorem wc_Ch_fitTo : Cond.code y_Ch_fitTo b_Ch_fitTo 4 none ∈ gw := gw_t 374 (by decide +kernel) (by decide +kernel)
theorem wl_Ch_29 : Cond.methodLink R_Ch 29 y_Ch_fitToInsert ∈ gw := gw_t 375 (by decide +kernel) (by decide +kernel)
theorem wim_Ch_fitToInsert : Cond.instanceMethod y_Ch_fitToInsert ∈ gw := gw_t 377 (by decide +kernel) (by decide +kernel)
theorem wc_Ch_fitToInsert : Cond.code y_Ch_fitToInsert b_Ch_fitToInsert 4 none ∈ gw := gw_t 378 (by decide +kernel) (by decide +kernel)
theorem wl_Ch_33 : Cond.methodLink R_Ch 33 y_Ch_fitToDelete ∈ gw := gw_t 379 (by decide +kernel) (by decide +kernel)
theorem wim_Ch_fitToDelete : Cond.instanceMethod y_Ch_fitToDelete ∈ gw := gw_t 381 (by decide +kernel) (by decide +kernel)
theorem wc_Ch_fitToDelete : Cond.code y_Ch_fitToDelete b_Ch_fitToDelete 2 none ∈ gw := gw_t 382 (by decide +kernel) (by decide +kernel)
theorem wl_Lw_82 : Cond.methodLink R_Lw 82 y_Lw_pull ∈ gw := gw_t 383 (by decide +kernel) (by decide +kernel)
theorem wsm_Lw_pull : Cond.static y_Lw_pull ∈ gw := gw_t 384 (by decide +kernel) (by decide +kernel)
theorem wc_Lw_pull : Cond.codeWith y_Lw_pull b_Lw_pull 4 (some .int) [(0, 9, 12, 13), (0, 9, 15, 31)] ∈ gw := gw_t 385 (by decide +kernel) (by decide +kernel)
theorem wl_Lw_33 : Cond.methodLink R_Lw 33 y_Er_pull ∈ gw := gw_t 386 (by decide +kernel) (by decide +kernel)
theorem wim_Er_pull : Cond.instanceMethod y_Er_pull ∈ gw := gw_t 387 (by decide +kernel) (by decide +kernel)
theorem ws_Er_pull : Cond.selects R_Er y_Er_pull y_Er_pull ∈ gw := gw_t 388 (by decide +kernel) (by decide +kernel)
theorem wc_Er_pull : Cond.code y_Er_pull b_Er_pull 2 (some .int) ∈ gw := gw_t 389 (by decide +kernel) (by decide +kernel)
theorem wl_Lw_85 : Cond.methodLink R_Lw 85 y_Lw_waiting ∈ gw := gw_t 390 (by decide +kernel) (by decide +kernel)
theorem wsm_Lw_waiting : Cond.static y_Lw_waiting ∈ gw := gw_t 391 (by decide +kernel) (by decide +kernel)
theorem wc_Lw_waiting : Cond.codeWith y_Lw_waiting b_Lw_waiting 5 (some .int) [(0, 10, 13, 13)] ∈ gw := gw_t 392 (by decide +kernel) (by decide +kernel)
theorem wl_Lw_36 : Cond.methodLink R_Lw 36 y_Er_waiting ∈ gw := gw_t 393 (by decide +kernel) (by decide +kernel)
theorem wim_Er_waiting : Cond.instanceMethod y_Er_waiting ∈ gw := gw_t 394 (by decide +kernel) (by decide +kernel)
theorem ws_Er_waiting : Cond.selects R_Er y_Er_waiting y_Er_waiting ∈ gw := gw_t 395 (by decide +kernel) (by decide +kernel)
theorem wc_Er_waiting : Cond.code y_Er_waiting b_Er_waiting 3 (some .int) ∈ gw := gw_t 396 (by decide +kernel) (by decide +kernel)
theorem wl_Lw_89 : Cond.methodLink R_Lw 89 y_Lw_got ∈ gw := gw_t 397 (by decide +kernel) (by decide +kernel)
theorem wsm_Lw_got : Cond.static y_Lw_got ∈ gw := gw_t 398 (by decide +kernel) (by decide +kernel)
theorem wc_Lw_got : Cond.codeWith y_Lw_got b_Lw_got 5 (some .int) [(0, 10, 13, 13)] ∈ gw := gw_t 399 (by decide +kernel) (by decide +kernel)
theorem wl_Lw_40 : Cond.methodLink R_Lw 40 y_Er_got ∈ gw := gw_t 400 (by decide +kernel) (by decide +kernel)
theorem wim_Er_got : Cond.instanceMethod y_Er_got ∈ gw := gw_t 401 (by decide +kernel) (by decide +kernel)
theorem ws_Er_got : Cond.selects R_Er y_Er_got y_Er_got ∈ gw := gw_t 402 (by decide +kernel) (by decide +kernel)
theorem wc_Er_got : Cond.code y_Er_got b_Er_got 3 (some .int) ∈ gw := gw_t 403 (by decide +kernel) (by decide +kernel)
theorem wl_Lw_92 : Cond.methodLink R_Lw 92 y_Lw_open ∈ gw := gw_t 404 (by decide +kernel) (by decide +kernel)
theorem wsm_Lw_open : Cond.static y_Lw_open ∈ gw := gw_t 405 (by decide +kernel) (by decide +kernel)
theorem wc_Lw_open : Cond.codeWith y_Lw_open b_Lw_open 5 (some .int) [(0, 10, 13, 13)] ∈ gw := gw_t 406 (by decide +kernel) (by decide +kernel)
theorem wl_Lw_43 : Cond.methodLink R_Lw 43 y_Er_open ∈ gw := gw_t 407 (by decide +kernel) (by decide +kernel)
theorem wim_Er_open : Cond.instanceMethod y_Er_open ∈ gw := gw_t 408 (by decide +kernel) (by decide +kernel)
theorem ws_Er_open : Cond.selects R_Er y_Er_open y_Er_open ∈ gw := gw_t 409 (by decide +kernel) (by decide +kernel)
theorem wc_Er_open : Cond.code y_Er_open b_Er_open 3 (some .int) ∈ gw := gw_t 410 (by decide +kernel) (by decide +kernel)
theorem wl_Er_106 : Cond.methodLink R_Er 106 y_Wy_openCount ∈ gw := gw_t 411 (by decide +kernel) (by decide +kernel)
theorem wl_Lw_95 : Cond.methodLink R_Lw 95 y_Lw_change ∈ gw := gw_t 412 (by decide +kernel) (by decide +kernel)
theorem wsm_Lw_change : Cond.static y_Lw_change ∈ gw := gw_t 413 (by decide +kernel) (by decide +kernel)
theorem wc_Lw_change : Cond.codeWith y_Lw_change b_Lw_change 6 (some .int) [(0, 12, 15, 13), (0, 12, 19, 15)] ∈ gw := gw_t 414 (by decide +kernel) (by decide +kernel)
theorem wl_Lw_46 : Cond.methodLink R_Lw 46 y_Er_change ∈ gw := gw_t 415 (by decide +kernel) (by decide +kernel)
theorem wim_Er_change : Cond.instanceMethod y_Er_change ∈ gw := gw_t 416 (by decide +kernel) (by decide +kernel)
theorem ws_Er_change : Cond.selects R_Er y_Er_change y_Er_change ∈ gw := gw_t 417 (by decide +kernel) (by decide +kernel)
theorem wc_Er_change : Cond.code y_Er_change b_Er_change 6 (some .int) ∈ gw := gw_t 418 (by decide +kernel) (by decide +kernel)
theorem wl_Er_111 : Cond.methodLink R_Er 111 y_Wy_openChange ∈ gw := gw_t 420 (by decide +kernel) (by decide +kernel)
theorem wl_Lw_99 : Cond.methodLink R_Lw 99 y_Lw_size ∈ gw := gw_t 421 (by decide +kernel) (by decide +kernel)
theorem wsm_Lw_size : Cond.static y_Lw_size ∈ gw := gw_t 422 (by decide +kernel) (by decide +kernel)
theorem wc_Lw_size : Cond.codeWith y_Lw_size b_Lw_size 4 (some .int) [(0, 9, 12, 13)] ∈ gw := gw_t 423 (by decide +kernel) (by decide +kernel)
theorem wl_Lw_50 : Cond.methodLink R_Lw 50 y_Er_size ∈ gw := gw_t 424 (by decide +kernel) (by decide +kernel)
theorem wim_Er_size : Cond.instanceMethod y_Er_size ∈ gw := gw_t 425 (by decide +kernel) (by decide +kernel)
theorem ws_Er_size : Cond.selects R_Er y_Er_size y_Er_size ∈ gw := gw_t 426 (by decide +kernel) (by decide +kernel)
theorem wc_Er_size : Cond.code y_Er_size b_Er_size 2 (some .int) ∈ gw := gw_t 427 (by decide +kernel) (by decide +kernel)
theorem wl_Er_121 : Cond.methodLink R_Er 121 y_Er_checkSite ∈ gw := gw_t 428 (by decide +kernel) (by decide +kernel)
theorem wsm_Er_checkSite : Cond.static y_Er_checkSite ∈ gw := gw_t 429 (by decide +kernel) (by decide +kernel)
theorem wc_Er_checkSite : Cond.code y_Er_checkSite b_Er_checkSite 1 none ∈ gw := gw_t 430 (by decide +kernel) (by decide +kernel)
theorem wl_Lw_102 : Cond.methodLink R_Lw 102 y_Lw_letter ∈ gw := gw_t 432 (by decide +kernel) (by decide +kernel)
theorem wsm_Lw_letter : Cond.static y_Lw_letter ∈ gw := gw_t 433 (by decide +kernel) (by decide +kernel)
theorem wc_Lw_letter : Cond.codeWith y_Lw_letter b_Lw_letter 5 (some .int) [(0, 10, 13, 13), (0, 10, 17, 15)] ∈ gw := gw_t 434 (by decide +kernel) (by decide +kernel)
theorem wl_Lw_53 : Cond.methodLink R_Lw 53 y_Er_letter ∈ gw := gw_t 435 (by decide +kernel) (by decide +kernel)
theorem wim_Er_letter : Cond.instanceMethod y_Er_letter ∈ gw := gw_t 436 (by decide +kernel) (by decide +kernel)
theorem ws_Er_letter : Cond.selects R_Er y_Er_letter y_Er_letter ∈ gw := gw_t 437 (by decide +kernel) (by decide +kernel)
theorem wc_Er_letter : Cond.code y_Er_letter b_Er_letter 4 (some .int) ∈ gw := gw_t 438 (by decide +kernel) (by decide +kernel)
theorem wl_Lw_57 : Cond.classLink R_Lw 57 R_Mo ∈ gw := gw_t 439 (by decide +kernel) (by decide +kernel)
theorem wn_Mo : Cond.instantiable R_Mo 20 ∈ gw := gw_t 440 (by decide +kernel) (by decide +kernel)
theorem wl_Lw_59 : Cond.methodLink R_Lw 59 y_Mo_init ∈ gw := gw_t 441 (by decide +kernel) (by decide +kernel)
theorem wim_Mo_init : Cond.instanceMethod y_Mo_init ∈ gw := gw_t 442 (by decide +kernel) (by decide +kernel)
theorem wc_Mo_init : Cond.code y_Mo_init b_Mo_init 1 none ∈ gw := gw_t 443 (by decide +kernel) (by decide +kernel)
theorem wl_Mo_1 : Cond.methodLink R_Mo 1 objectInit ∈ gw := gw_t 444 (by decide +kernel) (by decide +kernel)
theorem wl_Mo_56 : Cond.fieldLink R_Mo 56 R_Mo "thrown" "I" ∈ gw := gw_t 445 (by decide +kernel) (by decide +kernel)
theorem wl_Mo_7 : Cond.fieldLink R_Mo 7 R_Mo "sizes" "[I" ∈ gw := gw_t 446 (by decide +kernel) (by decide +kernel)
theorem wl_Mo_13 : Cond.fieldLink R_Mo 13 R_Mo "texts" "[C" ∈ gw := gw_t 447 (by decide +kernel) (by decide +kernel)
theorem wl_Mo_17 : Cond.fieldLink R_Mo 17 R_Mo "sent" "[I" ∈ gw := gw_t 448 (by decide +kernel) (by decide +kernel)
theorem wl_Mo_20 : Cond.fieldLink R_Mo 20 R_Mo "got" "[I" ∈ gw := gw_t 449 (by decide +kernel) (by decide +kernel)
theorem wl_Mo_23 : Cond.fieldLink R_Mo 23 R_Mo "waits" "[I" ∈ gw := gw_t 450 (by decide +kernel) (by decide +kernel)
theorem wl_Mo_26 : Cond.fieldLink R_Mo 26 R_Mo "kinds" "[I" ∈ gw := gw_t 451 (by decide +kernel) (by decide +kernel)
theorem wl_Mo_29 : Cond.fieldLink R_Mo 29 R_Mo "places" "[I" ∈ gw := gw_t 452 (by decide +kernel) (by decide +kernel)
theorem wl_Mo_32 : Cond.fieldLink R_Mo 32 R_Mo "letters" "[I" ∈ gw := gw_t 453 (by decide +kernel) (by decide +kernel)
theorem wl_Mo_35 : Cond.fieldLink R_Mo 35 R_Mo "origins" "[I" ∈ gw := gw_t 454 (by decide +kernel) (by decide +kernel)
theorem wl_Mo_38 : Cond.fieldLink R_Mo 38 R_Mo "counts" "[I" ∈ gw := gw_t 455 (by decide +kernel) (by decide +kernel)
theorem wl_Mo_41 : Cond.fieldLink R_Mo 41 R_Mo "opens" "[I" ∈ gw := gw_t 456 (by decide +kernel) (by decide +kernel)
theorem wl_Mo_44 : Cond.fieldLink R_Mo 44 R_Mo "openKinds" "[I" ∈ gw := gw_t 457 (by decide +kernel) (by decide +kernel)
theorem wl_Mo_47 : Cond.fieldLink R_Mo 47 R_Mo "openPlaces" "[I" ∈ gw := gw_t 458 (by decide +kernel) (by decide +kernel)
theorem wl_Mo_50 : Cond.fieldLink R_Mo 50 R_Mo "openLetters" "[I" ∈ gw := gw_t 459 (by decide +kernel) (by decide +kernel)
theorem wl_Mo_53 : Cond.fieldLink R_Mo 53 R_Mo "openOrigins" "[I" ∈ gw := gw_t 460 (by decide +kernel) (by decide +kernel)
theorem wl_Mo_60 : Cond.fieldLink R_Mo 60 R_Mo "kind" "I" ∈ gw := gw_t 461 (by decide +kernel) (by decide +kernel)
theorem wl_Mo_63 : Cond.fieldLink R_Mo 63 R_Mo "place" "I" ∈ gw := gw_t 462 (by decide +kernel) (by decide +kernel)
theorem wl_Mo_66 : Cond.fieldLink R_Mo 66 R_Mo "letter0" "I" ∈ gw := gw_t 463 (by decide +kernel) (by decide +kernel)
theorem wl_Mo_69 : Cond.fieldLink R_Mo 69 R_Mo "origin" "I" ∈ gw := gw_t 464 (by decide +kernel) (by decide +kernel)
theorem wl_Lw_66 : Cond.methodLink R_Lw 66 y_Mo_thrown ∈ gw := gw_t 506 (by decide +kernel) (by decide +kernel)
theorem wim_Mo_thrown : Cond.instanceMethod y_Mo_thrown ∈ gw := gw_t 507 (by decide +kernel) (by decide +kernel)
theorem ws_Mo_thrown : Cond.selects R_Mo y_Mo_thrown y_Mo_thrown ∈ gw := gw_t 508 (by decide +kernel) (by decide +kernel)
theorem wc_Mo_thrown : Cond.code y_Mo_thrown b_Mo_thrown 1 (some .int) ∈ gw := gw_t 509 (by decide +kernel) (by decide +kernel)
theorem wl_Lw_65 : Cond.methodLink R_Lw 65 y_Mo_insert ∈ gw := gw_t 510 (by decide +kernel) (by decide +kernel)
theorem wim_Mo_insert : Cond.instanceMethod y_Mo_insert ∈ gw := gw_t 511 (by decide +kernel) (by decide +kernel)
theorem ws_Mo_insert : Cond.selects R_Mo y_Mo_insert y_Mo_insert ∈ gw := gw_t 512 (by decide +kernel) (by decide +kernel)
theorem wc_Mo_insert : Cond.code y_Mo_insert b_Mo_insert 5 (some .int) ∈ gw := gw_t 513 (by decide +kernel) (by decide +kernel)
theorem wl_Mo_94 : Cond.methodLink R_Mo 94 y_Mo_isClient ∈ gw := gw_t 514 (by decide +kernel) (by decide +kernel)
theorem wsm_Mo_isClient : Cond.static y_Mo_isClient ∈ gw := gw_t 515 (by decide +kernel) (by decide +kernel)
theorem wc_Mo_isClient : Cond.code y_Mo_isClient b_Mo_isClient 1 (some .boolean) ∈ gw := gw_t 516 (by decide +kernel) (by decide +kernel)
theorem wl_Mo_98 : Cond.methodLink R_Mo 98 y_Mo_loaded ∈ gw := gw_t 517 (by decide +kernel) (by decide +kernel)
theorem wim_Mo_loaded : Cond.instanceMethod y_Mo_loaded ∈ gw := gw_t 519 (by decide +kernel) (by decide +kernel)
theorem wc_Mo_loaded : Cond.code y_Mo_loaded b_Mo_loaded 2 (some .boolean) ∈ gw := gw_t 520 (by decide +kernel) (by decide +kernel)
theorem wl_Mo_87 : Cond.methodLink R_Mo 87 y_Mo_line ∈ gw := gw_t 521 (by decide +kernel) (by decide +kernel)
theorem wsm_Mo_line : Cond.static y_Mo_line ∈ gw := gw_t 522 (by decide +kernel) (by decide +kernel)
theorem wc_Mo_line : Cond.code y_Mo_line b_Mo_line 2 (some .int) ∈ gw := gw_t 523 (by decide +kernel) (by decide +kernel)
theorem wl_Mo_101 : Cond.methodLink R_Mo 101 y_Mo_begin ∈ gw := gw_t 524 (by decide +kernel) (by decide +kernel)
theorem wim_Mo_begin : Cond.instanceMethod y_Mo_begin ∈ gw := gw_t 526 (by decide +kernel) (by decide +kernel)
theorem wc_Mo_begin : Cond.code y_Mo_begin b_Mo_begin 5 none ∈ gw := gw_t 527 (by decide +kernel) (by decide +kernel)
theorem wl_Mo_84 : Cond.methodLink R_Mo 84 y_Mo_apply ∈ gw := gw_t 528 (by decide +kernel) (by decide +kernel)
theorem wim_Mo_apply : Cond.instanceMethod y_Mo_apply ∈ gw := gw_t 530 (by decide +kernel) (by decide +kernel)
theorem wc_Mo_apply : Cond.code y_Mo_apply b_Mo_apply 4 none ∈ gw := gw_t 531 (by decide +kernel) (by decide +kernel)
theorem wl_Mo_91 : Cond.methodLink R_Mo 91 y_Mo_send ∈ gw := gw_t 532 (by decide +kernel) (by decide +kernel)
theorem wim_Mo_send : Cond.instanceMethod y_Mo_send ∈ gw := gw_t 534 (by decide +kernel) (by decide +kernel)
theorem wc_Mo_send : Cond.code y_Mo_send b_Mo_send 4 none ∈ gw := gw_t 535 (by decide +kernel) (by decide +kernel)
theorem wl_Mo_72 : Cond.methodLink R_Mo 72 y_Mo_back ∈ gw := gw_t 536 (by decide +kernel) (by decide +kernel)
theorem wsm_Mo_back : Cond.static y_Mo_back ∈ gw := gw_t 537 (by decide +kernel) (by decide +kernel)
theorem wc_Mo_back : Cond.code y_Mo_back b_Mo_back 1 (some .int) ∈ gw := gw_t 538 (by decide +kernel) (by decide +kernel)
theorem wl_Lw_73 : Cond.methodLink R_Lw 73 y_Mo_delete ∈ gw := gw_t 539 (by decide +kernel) (by decide +kernel)
theorem wim_Mo_delete : Cond.instanceMethod y_Mo_delete ∈ gw := gw_t 540 (by decide +kernel) (by decide +kernel)
theorem ws_Mo_delete : Cond.selects R_Mo y_Mo_delete y_Mo_delete ∈ gw := gw_t 541 (by decide +kernel) (by decide +kernel)
theorem wc_Mo_delete : Cond.code y_Mo_delete b_Mo_delete 4 (some .int) ∈ gw := gw_t 542 (by decide +kernel) (by decide +kernel)
theorem wl_Lw_77 : Cond.methodLink R_Lw 77 y_Mo_nod ∈ gw := gw_t 543 (by decide +kernel) (by decide +kernel)
theorem wim_Mo_nod : Cond.instanceMethod y_Mo_nod ∈ gw := gw_t 544 (by decide +kernel) (by decide +kernel)
theorem ws_Mo_nod : Cond.selects R_Mo y_Mo_nod y_Mo_nod ∈ gw := gw_t 545 (by decide +kernel) (by decide +kernel)
theorem wc_Mo_nod : Cond.code y_Mo_nod b_Mo_nod 2 none ∈ gw := gw_t 546 (by decide +kernel) (by decide +kernel)
theorem wl_Lw_81 : Cond.methodLink R_Lw 81 y_Mo_push ∈ gw := gw_t 547 (by decide +kernel) (by decide +kernel)
theorem wim_Mo_push : Cond.instanceMethod y_Mo_push ∈ gw := gw_t 548 (by decide +kernel) (by decide +kernel)
theorem ws_Mo_push : Cond.selects R_Mo y_Mo_push y_Mo_push ∈ gw := gw_t 549 (by decide +kernel) (by decide +kernel)
theorem wc_Mo_push : Cond.code y_Mo_push b_Mo_push 4 (some .int) ∈ gw := gw_t 550 (by decide +kernel) (by decide +kernel)
theorem wl_Mo_105 : Cond.methodLink R_Mo 105 y_Mo_get ∈ gw := gw_t 551 (by decide +kernel) (by decide +kernel)
theorem wim_Mo_get : Cond.instanceMethod y_Mo_get ∈ gw := gw_t 553 (by decide +kernel) (by decide +kernel)
theorem wc_Mo_get : Cond.code y_Mo_get b_Mo_get 9 none ∈ gw := gw_t 554 (by decide +kernel) (by decide +kernel)
theorem wl_Mo_76 : Cond.methodLink R_Mo 76 y_Mo_forget ∈ gw := gw_t 555 (by decide +kernel) (by decide +kernel)
theorem wim_Mo_forget : Cond.instanceMethod y_Mo_forget ∈ gw := gw_t 557 (by decide +kernel) (by decide +kernel)
theorem wc_Mo_forget : Cond.code y_Mo_forget b_Mo_forget 3 none ∈ gw := gw_t 558 (by decide +kernel) (by decide +kernel)
theorem wl_Mo_80 : Cond.methodLink R_Mo 80 y_Mo_fitted ∈ gw := gw_t 559 (by decide +kernel) (by decide +kernel)
theorem wsm_Mo_fitted : Cond.static y_Mo_fitted ∈ gw := gw_t 560 (by decide +kernel) (by decide +kernel)
theorem wc_Mo_fitted : Cond.code y_Mo_fitted b_Mo_fitted 6 (some .int) ∈ gw := gw_t 561 (by decide +kernel) (by decide +kernel)
theorem wl_Lw_84 : Cond.methodLink R_Lw 84 y_Mo_pull ∈ gw := gw_t 562 (by decide +kernel) (by decide +kernel)
theorem wim_Mo_pull : Cond.instanceMethod y_Mo_pull ∈ gw := gw_t 563 (by decide +kernel) (by decide +kernel)
theorem ws_Mo_pull : Cond.selects R_Mo y_Mo_pull y_Mo_pull ∈ gw := gw_t 564 (by decide +kernel) (by decide +kernel)
theorem wc_Mo_pull : Cond.code y_Mo_pull b_Mo_pull 2 (some .int) ∈ gw := gw_t 565 (by decide +kernel) (by decide +kernel)
theorem wl_Lw_88 : Cond.methodLink R_Lw 88 y_Mo_waiting ∈ gw := gw_t 566 (by decide +kernel) (by decide +kernel)
theorem wim_Mo_waiting : Cond.instanceMethod y_Mo_waiting ∈ gw := gw_t 567 (by decide +kernel) (by decide +kernel)
theorem ws_Mo_waiting : Cond.selects R_Mo y_Mo_waiting y_Mo_waiting ∈ gw := gw_t 568 (by decide +kernel) (by decide +kernel)
theorem wc_Mo_waiting : Cond.code y_Mo_waiting b_Mo_waiting 3 (some .int) ∈ gw := gw_t 569 (by decide +kernel) (by decide +kernel)
theorem wl_Lw_91 : Cond.methodLink R_Lw 91 y_Mo_got ∈ gw := gw_t 570 (by decide +kernel) (by decide +kernel)
theorem wim_Mo_got : Cond.instanceMethod y_Mo_got ∈ gw := gw_t 571 (by decide +kernel) (by decide +kernel)
theorem ws_Mo_got : Cond.selects R_Mo y_Mo_got y_Mo_got ∈ gw := gw_t 572 (by decide +kernel) (by decide +kernel)
theorem wc_Mo_got : Cond.code y_Mo_got b_Mo_got 3 (some .int) ∈ gw := gw_t 573 (by decide +kernel) (by decide +kernel)
theorem wl_Lw_94 : Cond.methodLink R_Lw 94 y_Mo_open ∈ gw := gw_t 574 (by decide +kernel) (by decide +kernel)
theorem wim_Mo_open : Cond.instanceMethod y_Mo_open ∈ gw := gw_t 575 (by decide +kernel) (by decide +kernel)
theorem ws_Mo_open : Cond.selects R_Mo y_Mo_open y_Mo_open ∈ gw := gw_t 576 (by decide +kernel) (by decide +kernel)
theorem wc_Mo_open : Cond.code y_Mo_open b_Mo_open 3 (some .int) ∈ gw := gw_t 577 (by decide +kernel) (by decide +kernel)
theorem wl_Lw_98 : Cond.methodLink R_Lw 98 y_Mo_change ∈ gw := gw_t 578 (by decide +kernel) (by decide +kernel)
theorem wim_Mo_change : Cond.instanceMethod y_Mo_change ∈ gw := gw_t 579 (by decide +kernel) (by decide +kernel)
theorem ws_Mo_change : Cond.selects R_Mo y_Mo_change y_Mo_change ∈ gw := gw_t 580 (by decide +kernel) (by decide +kernel)
theorem wc_Mo_change : Cond.code y_Mo_change b_Mo_change 5 (some .int) ∈ gw := gw_t 581 (by decide +kernel) (by decide +kernel)
theorem wl_Lw_101 : Cond.methodLink R_Lw 101 y_Mo_size ∈ gw := gw_t 582 (by decide +kernel) (by decide +kernel)
theorem wim_Mo_size : Cond.instanceMethod y_Mo_size ∈ gw := gw_t 583 (by decide +kernel) (by decide +kernel)
theorem ws_Mo_size : Cond.selects R_Mo y_Mo_size y_Mo_size ∈ gw := gw_t 584 (by decide +kernel) (by decide +kernel)
theorem wc_Mo_size : Cond.code y_Mo_size b_Mo_size 2 (some .int) ∈ gw := gw_t 585 (by decide +kernel) (by decide +kernel)
theorem wl_Mo_109 : Cond.methodLink R_Mo 109 y_Mo_isSite ∈ gw := gw_t 586 (by decide +kernel) (by decide +kernel)
theorem wsm_Mo_isSite : Cond.static y_Mo_isSite ∈ gw := gw_t 587 (by decide +kernel) (by decide +kernel)
theorem wc_Mo_isSite : Cond.code y_Mo_isSite b_Mo_isSite 1 (some .boolean) ∈ gw := gw_t 588 (by decide +kernel) (by decide +kernel)
theorem wl_Lw_104 : Cond.methodLink R_Lw 104 y_Mo_letter ∈ gw := gw_t 589 (by decide +kernel) (by decide +kernel)
theorem wim_Mo_letter : Cond.instanceMethod y_Mo_letter ∈ gw := gw_t 590 (by decide +kernel) (by decide +kernel)
theorem ws_Mo_letter : Cond.selects R_Mo y_Mo_letter y_Mo_letter ∈ gw := gw_t 591 (by decide +kernel) (by decide +kernel)
theorem wc_Mo_letter : Cond.code y_Mo_letter b_Mo_letter 3 (some .int) ∈ gw := gw_t 592 (by decide +kernel) (by decide +kernel)
theorem wl_Lw_109 : Cond.methodLink R_Lw 109 y_Mo_alike ∈ gw := gw_t 593 (by decide +kernel) (by decide +kernel)
theorem wim_Mo_alike : Cond.instanceMethod y_Mo_alike ∈ gw := gw_t 594 (by decide +kernel) (by decide +kernel)
theorem ws_Mo_alike : Cond.selects R_Mo y_Mo_alike y_Mo_alike ∈ gw := gw_t 595 (by decide +kernel) (by decide +kernel)
theorem wc_Mo_alike : Cond.code y_Mo_alike b_Mo_alike 4 (some .boolean) ∈ gw := gw_t 596 (by decide +kernel) (by decide +kernel)
theorem wl_Lw_113 : Cond.methodLink R_Lw 113 y_Mo_quiet ∈ gw := gw_t 597 (by decide +kernel) (by decide +kernel)
theorem wim_Mo_quiet : Cond.instanceMethod y_Mo_quiet ∈ gw := gw_t 598 (by decide +kernel) (by decide +kernel)
theorem ws_Mo_quiet : Cond.selects R_Mo y_Mo_quiet y_Mo_quiet ∈ gw := gw_t 599 (by decide +kernel) (by decide +kernel)
theorem wc_Mo_quiet : Cond.code y_Mo_quiet b_Mo_quiet 3 (some .boolean) ∈ gw := gw_t 600 (by decide +kernel) (by decide +kernel)
theorem wa_long : Cond.arrayClass .long ∈ gw := gw_t 601 (by decide +kernel) (by decide +kernel)
theorem ws_Er_way : Cond.selects R_Er y_Er_way y_Er_way ∈ gw := gw_s (q := (y_Er_way, 4)) 0 rfl
theorem ws_Er_checkMayMakeChange : Cond.selects R_Er y_Er_checkMayMakeChange y_Er_checkMayMakeChange ∈ gw := gw_s (q := (y_Er_checkMayMakeChange, 4)) 2 rfl
theorem ws_Er_makeChange : Cond.selects R_Er y_Er_makeChange y_Er_makeChange ∈ gw := gw_s (q := (y_Er_makeChange, 4)) 3 rfl
theorem ws_Tx_put : Cond.selects R_Tx y_Tx_put y_Tx_put ∈ gw := gw_s (q := (y_Tx_put, 2)) 4 rfl
theorem ws_Tx_remove : Cond.selects R_Tx y_Tx_remove y_Tx_remove ∈ gw := gw_s (q := (y_Tx_remove, 2)) 5 rfl
theorem ws_Wy_slotOf : Cond.selects R_Wy y_Wy_slotOf y_Wy_slotOf ∈ gw := gw_s (q := (y_Wy_slotOf, 7)) 6 rfl
theorem ws_Er_receive : Cond.selects R_Er y_Er_receive y_Er_receive ∈ gw := gw_s (q := (y_Er_receive, 4)) 7 rfl
theorem ws_Ch_fitTo : Cond.selects R_Ch y_Ch_fitTo y_Ch_fitTo ∈ gw := gw_s (q := (y_Ch_fitTo, 4)) 8 rfl
theorem ws_Ch_fitToInsert : Cond.selects R_Ch y_Ch_fitToInsert y_Ch_fitToInsert ∈ gw := gw_s (q := (y_Ch_fitToInsert, 4)) 9 rfl
theorem ws_Ch_fitToDelete : Cond.selects R_Ch y_Ch_fitToDelete y_Ch_fitToDelete ∈ gw := gw_s (q := (y_Ch_fitToDelete, 4)) 10 rfl
theorem ws_Mo_loaded : Cond.selects R_Mo y_Mo_loaded y_Mo_loaded ∈ gw := gw_s (q := (y_Mo_loaded, 20)) 11 rfl
theorem ws_Mo_begin : Cond.selects R_Mo y_Mo_begin y_Mo_begin ∈ gw := gw_s (q := (y_Mo_begin, 20)) 12 rfl
theorem ws_Mo_apply : Cond.selects R_Mo y_Mo_apply y_Mo_apply ∈ gw := gw_s (q := (y_Mo_apply, 20)) 13 rfl
theorem ws_Mo_send : Cond.selects R_Mo y_Mo_send y_Mo_send ∈ gw := gw_s (q := (y_Mo_send, 20)) 14 rfl
theorem ws_Mo_get : Cond.selects R_Mo y_Mo_get y_Mo_get ∈ gw := gw_s (q := (y_Mo_get, 20)) 15 rfl
theorem ws_Mo_forget : Cond.selects R_Mo y_Mo_forget y_Mo_forget ∈ gw := gw_s (q := (y_Mo_forget, 20)) 16 rfl
theorem wy_Ch_0 : u_lay R_Ch F_Ch 0 ∈ gw := gw_t 65 (by decide +kernel) (by decide +kernel)
theorem wy_Ch_1 : u_lay R_Ch F_Ch 1 ∈ gw := gw_t 67 (by decide +kernel) (by decide +kernel)
theorem wy_Ch_2 : u_lay R_Ch F_Ch 2 ∈ gw := gw_t 69 (by decide +kernel) (by decide +kernel)
theorem wy_Ch_3 : u_lay R_Ch F_Ch 3 ∈ gw := gw_t 71 (by decide +kernel) (by decide +kernel)
theorem wy_Ch : ∀ w ∈ u_ws R_Ch F_Ch 4, w ∈ gw := by
  intro w hw
  obtain ⟨k, hk, rfl⟩ := List.mem_map.mp hw
  have hk := List.mem_range.mp hk
  rcases (show k = 0 ∨ k = 1 ∨ k = 2 ∨ k = 3 by omega) with rfl | rfl | rfl | rfl
  · exact wy_Ch_0
  · exact wy_Ch_1
  · exact wy_Ch_2
  · exact wy_Ch_3
theorem wy_Tx_0 : u_lay R_Tx F_Tx 0 ∈ gw := gw_t 34 (by decide +kernel) (by decide +kernel)
theorem wy_Tx_1 : u_lay R_Tx F_Tx 1 ∈ gw := gw_t 36 (by decide +kernel) (by decide +kernel)
theorem wy_Tx : ∀ w ∈ u_ws R_Tx F_Tx 2, w ∈ gw := by
  intro w hw
  obtain ⟨k, hk, rfl⟩ := List.mem_map.mp hw
  have hk := List.mem_range.mp hk
  rcases (show k = 0 ∨ k = 1 by omega) with rfl | rfl
  · exact wy_Tx_0
  · exact wy_Tx_1
theorem wy_Wy_0 : u_lay R_Wy F_Wy 0 ∈ gw := gw_t 83 (by decide +kernel) (by decide +kernel)
theorem wy_Wy_1 : u_lay R_Wy F_Wy 1 ∈ gw := gw_t 85 (by decide +kernel) (by decide +kernel)
theorem wy_Wy_2 : u_lay R_Wy F_Wy 2 ∈ gw := gw_t 87 (by decide +kernel) (by decide +kernel)
theorem wy_Wy_3 : u_lay R_Wy F_Wy 3 ∈ gw := gw_t 89 (by decide +kernel) (by decide +kernel)
theorem wy_Wy_4 : u_lay R_Wy F_Wy 4 ∈ gw := gw_t 91 (by decide +kernel) (by decide +kernel)
theorem wy_Wy_5 : u_lay R_Wy F_Wy 5 ∈ gw := gw_t 93 (by decide +kernel) (by decide +kernel)
theorem wy_Wy_6 : u_lay R_Wy F_Wy 6 ∈ gw := gw_t 95 (by decide +kernel) (by decide +kernel)
theorem wy_Wy : ∀ w ∈ u_ws R_Wy F_Wy 7, w ∈ gw := by
  intro w hw
  obtain ⟨k, hk, rfl⟩ := List.mem_map.mp hw
  have hk := List.mem_range.mp hk
  rcases (show k = 0 ∨ k = 1 ∨ k = 2 ∨ k = 3 ∨ k = 4 ∨ k = 5 ∨ k = 6 by omega) with rfl | rfl | rfl | rfl | rfl | rfl | rfl
  · exact wy_Wy_0
  · exact wy_Wy_1
  · exact wy_Wy_2
  · exact wy_Wy_3
  · exact wy_Wy_4
  · exact wy_Wy_5
  · exact wy_Wy_6
theorem wy_Er_0 : u_lay R_Er F_Er 0 ∈ gw := gw_t 104 (by decide +kernel) (by decide +kernel)
theorem wy_Er_1 : u_lay R_Er F_Er 1 ∈ gw := gw_t 106 (by decide +kernel) (by decide +kernel)
theorem wy_Er_2 : u_lay R_Er F_Er 2 ∈ gw := gw_t 108 (by decide +kernel) (by decide +kernel)
theorem wy_Er_3 : u_lay R_Er F_Er 3 ∈ gw := gw_t 110 (by decide +kernel) (by decide +kernel)
theorem wy_Er : ∀ w ∈ u_ws R_Er F_Er 4, w ∈ gw := by
  intro w hw
  obtain ⟨k, hk, rfl⟩ := List.mem_map.mp hw
  have hk := List.mem_range.mp hk
  rcases (show k = 0 ∨ k = 1 ∨ k = 2 ∨ k = 3 by omega) with rfl | rfl | rfl | rfl
  · exact wy_Er_0
  · exact wy_Er_1
  · exact wy_Er_2
  · exact wy_Er_3
theorem wy_Mo_0 : u_lay R_Mo F_Mo 0 ∈ gw := gw_t 465 (by decide +kernel) (by decide +kernel)
theorem wy_Mo_1 : u_lay R_Mo F_Mo 1 ∈ gw := gw_t 467 (by decide +kernel) (by decide +kernel)
theorem wy_Mo_2 : u_lay R_Mo F_Mo 2 ∈ gw := gw_t 469 (by decide +kernel) (by decide +kernel)
theorem wy_Mo_3 : u_lay R_Mo F_Mo 3 ∈ gw := gw_t 471 (by decide +kernel) (by decide +kernel)
theorem wy_Mo_4 : u_lay R_Mo F_Mo 4 ∈ gw := gw_t 473 (by decide +kernel) (by decide +kernel)
theorem wy_Mo_5 : u_lay R_Mo F_Mo 5 ∈ gw := gw_t 475 (by decide +kernel) (by decide +kernel)
theorem wy_Mo_6 : u_lay R_Mo F_Mo 6 ∈ gw := gw_t 477 (by decide +kernel) (by decide +kernel)
theorem wy_Mo_7 : u_lay R_Mo F_Mo 7 ∈ gw := gw_t 479 (by decide +kernel) (by decide +kernel)
theorem wy_Mo_8 : u_lay R_Mo F_Mo 8 ∈ gw := gw_t 481 (by decide +kernel) (by decide +kernel)
theorem wy_Mo_9 : u_lay R_Mo F_Mo 9 ∈ gw := gw_t 483 (by decide +kernel) (by decide +kernel)
theorem wy_Mo_10 : u_lay R_Mo F_Mo 10 ∈ gw := gw_t 485 (by decide +kernel) (by decide +kernel)
theorem wy_Mo_11 : u_lay R_Mo F_Mo 11 ∈ gw := gw_t 487 (by decide +kernel) (by decide +kernel)
theorem wy_Mo_12 : u_lay R_Mo F_Mo 12 ∈ gw := gw_t 489 (by decide +kernel) (by decide +kernel)
theorem wy_Mo_13 : u_lay R_Mo F_Mo 13 ∈ gw := gw_t 491 (by decide +kernel) (by decide +kernel)
theorem wy_Mo_14 : u_lay R_Mo F_Mo 14 ∈ gw := gw_t 493 (by decide +kernel) (by decide +kernel)
theorem wy_Mo_15 : u_lay R_Mo F_Mo 15 ∈ gw := gw_t 495 (by decide +kernel) (by decide +kernel)
theorem wy_Mo_16 : u_lay R_Mo F_Mo 16 ∈ gw := gw_t 497 (by decide +kernel) (by decide +kernel)
theorem wy_Mo_17 : u_lay R_Mo F_Mo 17 ∈ gw := gw_t 499 (by decide +kernel) (by decide +kernel)
theorem wy_Mo_18 : u_lay R_Mo F_Mo 18 ∈ gw := gw_t 501 (by decide +kernel) (by decide +kernel)
theorem wy_Mo_19 : u_lay R_Mo F_Mo 19 ∈ gw := gw_t 503 (by decide +kernel) (by decide +kernel)
theorem wy_Mo : ∀ w ∈ u_ws R_Mo F_Mo 20, w ∈ gw := by
  intro w hw
  obtain ⟨k, hk, rfl⟩ := List.mem_map.mp hw
  have hk := List.mem_range.mp hk
  rcases (show k = 0 ∨ k = 1 ∨ k = 2 ∨ k = 3 ∨ k = 4 ∨ k = 5 ∨ k = 6 ∨ k = 7 ∨ k = 8 ∨ k = 9 ∨ k = 10 ∨ k = 11 ∨ k = 12 ∨ k = 13 ∨ k = 14 ∨ k = 15 ∨ k = 16 ∨ k = 17 ∨ k = 18 ∨ k = 19 by omega) with rfl | rfl | rfl | rfl | rfl | rfl | rfl | rfl | rfl | rfl | rfl | rfl | rfl | rfl | rfl | rfl | rfl | rfl | rfl | rfl
  · exact wy_Mo_0
  · exact wy_Mo_1
  · exact wy_Mo_2
  · exact wy_Mo_3
  · exact wy_Mo_4
  · exact wy_Mo_5
  · exact wy_Mo_6
  · exact wy_Mo_7
  · exact wy_Mo_8
  · exact wy_Mo_9
  · exact wy_Mo_10
  · exact wy_Mo_11
  · exact wy_Mo_12
  · exact wy_Mo_13
  · exact wy_Mo_14
  · exact wy_Mo_15
  · exact wy_Mo_16
  · exact wy_Mo_17
  · exact wy_Mo_18
  · exact wy_Mo_19
end
section
/-! each instruction, decoded (written by wip/whole/names.py) -/
theorem d_Ch_copyFrom_0 : decode b_Ch_copyFrom 0 = .ok (.aload_n 0, 1) := by decide +kernel
theorem d_Ch_copyFrom_1 : decode b_Ch_copyFrom 1 = .ok (.aload_n 1, 1) := by decide +kernel
theorem d_Ch_copyFrom_2 : decode b_Ch_copyFrom 2 = .ok (.getfield 9, 3) := by decide +kernel
theorem d_Ch_copyFrom_5 : decode b_Ch_copyFrom 5 = .ok (.putfield 9, 3) := by decide +kernel
theorem d_Ch_copyFrom_8 : decode b_Ch_copyFrom 8 = .ok (.aload_n 0, 1) := by decide +kernel
theorem d_Ch_copyFrom_9 : decode b_Ch_copyFrom 9 = .ok (.aload_n 1, 1) := by decide +kernel
theorem d_Ch_copyFrom_10 : decode b_Ch_copyFrom 10 = .ok (.getfield 15, 3) := by decide +kernel
theorem d_Ch_copyFrom_13 : decode b_Ch_copyFrom 13 = .ok (.putfield 15, 3) := by decide +kernel
theorem d_Ch_copyFrom_16 : decode b_Ch_copyFrom 16 = .ok (.aload_n 0, 1) := by decide +kernel
theorem d_Ch_copyFrom_17 : decode b_Ch_copyFrom 17 = .ok (.aload_n 1, 1) := by decide +kernel
theorem d_Ch_copyFrom_18 : decode b_Ch_copyFrom 18 = .ok (.getfield 18, 3) := by decide +kernel
theorem d_Ch_copyFrom_21 : decode b_Ch_copyFrom 21 = .ok (.putfield 18, 3) := by decide +kernel
theorem d_Ch_copyFrom_24 : decode b_Ch_copyFrom 24 = .ok (.aload_n 0, 1) := by decide +kernel
theorem d_Ch_copyFrom_25 : decode b_Ch_copyFrom 25 = .ok (.aload_n 1, 1) := by decide +kernel
theorem d_Ch_copyFrom_26 : decode b_Ch_copyFrom 26 = .ok (.getfield 22, 3) := by decide +kernel
theorem d_Ch_copyFrom_29 : decode b_Ch_copyFrom 29 = .ok (.putfield 22, 3) := by decide +kernel
theorem d_Ch_copyFrom_32 : decode b_Ch_copyFrom 32 = .ok (.return_, 1) := by decide +kernel
theorem d_Ch_fitTo_0 : decode b_Ch_fitTo 0 = .ok (.aload_n 0, 1) := by decide +kernel
theorem d_Ch_fitTo_1 : decode b_Ch_fitTo 1 = .ok (.getfield 9, 3) := by decide +kernel
theorem d_Ch_fitTo_4 : decode b_Ch_fitTo 4 = .ok (.iconst 2, 1) := by decide +kernel
theorem d_Ch_fitTo_5 : decode b_Ch_fitTo 5 = .ok (.if_icmp .ne 4, 3) := by decide +kernel
theorem d_Ch_fitTo_8 : decode b_Ch_fitTo 8 = .ok (.return_, 1) := by decide +kernel
theorem d_Ch_fitTo_9 : decode b_Ch_fitTo 9 = .ok (.iload_n 1, 1) := by decide +kernel
theorem d_Ch_fitTo_10 : decode b_Ch_fitTo 10 = .ok (.ifCond .ne 12, 3) := by decide +kernel
theorem d_Ch_fitTo_13 : decode b_Ch_fitTo 13 = .ok (.aload_n 0, 1) := by decide +kernel
theorem d_Ch_fitTo_14 : decode b_Ch_fitTo 14 = .ok (.iload_n 2, 1) := by decide +kernel
theorem d_Ch_fitTo_15 : decode b_Ch_fitTo 15 = .ok (.iload_n 3, 1) := by decide +kernel
theorem d_Ch_fitTo_16 : decode b_Ch_fitTo 16 = .ok (.invokevirtual 29, 3) := by decide +kernel
theorem d_Ch_fitTo_19 : decode b_Ch_fitTo 19 = .ok (.goto 13, 3) := by decide +kernel
theorem d_Ch_fitTo_22 : decode b_Ch_fitTo 22 = .ok (.iload_n 1, 1) := by decide +kernel
theorem d_Ch_fitTo_23 : decode b_Ch_fitTo 23 = .ok (.iconst 1, 1) := by decide +kernel
theorem d_Ch_fitTo_24 : decode b_Ch_fitTo 24 = .ok (.if_icmp .ne 8, 3) := by decide +kernel
theorem d_Ch_fitTo_27 : decode b_Ch_fitTo 27 = .ok (.aload_n 0, 1) := by decide +kernel
theorem d_Ch_fitTo_28 : decode b_Ch_fitTo 28 = .ok (.iload_n 2, 1) := by decide +kernel
theorem d_Ch_fitTo_29 : decode b_Ch_fitTo 29 = .ok (.invokevirtual 33, 3) := by decide +kernel
theorem d_Ch_fitTo_32 : decode b_Ch_fitTo 32 = .ok (.return_, 1) := by decide +kernel
theorem d_Ch_fitToDelete_0 : decode b_Ch_fitToDelete 0 = .ok (.iload_n 1, 1) := by decide +kernel
theorem d_Ch_fitToDelete_1 : decode b_Ch_fitToDelete 1 = .ok (.aload_n 0, 1) := by decide +kernel
theorem d_Ch_fitToDelete_2 : decode b_Ch_fitToDelete 2 = .ok (.getfield 15, 3) := by decide +kernel
theorem d_Ch_fitToDelete_5 : decode b_Ch_fitToDelete 5 = .ok (.if_icmp .ge 16, 3) := by decide +kernel
theorem d_Ch_fitToDelete_8 : decode b_Ch_fitToDelete 8 = .ok (.aload_n 0, 1) := by decide +kernel
theorem d_Ch_fitToDelete_9 : decode b_Ch_fitToDelete 9 = .ok (.dup, 1) := by decide +kernel
theorem d_Ch_fitToDelete_10 : decode b_Ch_fitToDelete 10 = .ok (.getfield 15, 3) := by decide +kernel
theorem d_Ch_fitToDelete_13 : decode b_Ch_fitToDelete 13 = .ok (.iconst 1, 1) := by decide +kernel
theorem d_Ch_fitToDelete_14 : decode b_Ch_fitToDelete 14 = .ok (.isub, 1) := by decide +kernel
theorem d_Ch_fitToDelete_15 : decode b_Ch_fitToDelete 15 = .ok (.putfield 15, 3) := by decide +kernel
theorem d_Ch_fitToDelete_18 : decode b_Ch_fitToDelete 18 = .ok (.goto 29, 3) := by decide +kernel
theorem d_Ch_fitToDelete_21 : decode b_Ch_fitToDelete 21 = .ok (.iload_n 1, 1) := by decide +kernel
theorem d_Ch_fitToDelete_22 : decode b_Ch_fitToDelete 22 = .ok (.aload_n 0, 1) := by decide +kernel
theorem d_Ch_fitToDelete_23 : decode b_Ch_fitToDelete 23 = .ok (.getfield 15, 3) := by decide +kernel
theorem d_Ch_fitToDelete_26 : decode b_Ch_fitToDelete 26 = .ok (.if_icmp .ne 21, 3) := by decide +kernel
theorem d_Ch_fitToDelete_29 : decode b_Ch_fitToDelete 29 = .ok (.aload_n 0, 1) := by decide +kernel
theorem d_Ch_fitToDelete_30 : decode b_Ch_fitToDelete 30 = .ok (.getfield 9, 3) := by decide +kernel
theorem d_Ch_fitToDelete_33 : decode b_Ch_fitToDelete 33 = .ok (.iconst 1, 1) := by decide +kernel
theorem d_Ch_fitToDelete_34 : decode b_Ch_fitToDelete 34 = .ok (.if_icmp .ne 13, 3) := by decide +kernel
theorem d_Ch_fitToDelete_37 : decode b_Ch_fitToDelete 37 = .ok (.aload_n 0, 1) := by decide +kernel
theorem d_Ch_fitToDelete_38 : decode b_Ch_fitToDelete 38 = .ok (.iconst 2, 1) := by decide +kernel
theorem d_Ch_fitToDelete_39 : decode b_Ch_fitToDelete 39 = .ok (.putfield 9, 3) := by decide +kernel
theorem d_Ch_fitToDelete_42 : decode b_Ch_fitToDelete 42 = .ok (.aload_n 0, 1) := by decide +kernel
theorem d_Ch_fitToDelete_43 : decode b_Ch_fitToDelete 43 = .ok (.iconst 0, 1) := by decide +kernel
theorem d_Ch_fitToDelete_44 : decode b_Ch_fitToDelete 44 = .ok (.putfield 15, 3) := by decide +kernel
theorem d_Ch_fitToDelete_47 : decode b_Ch_fitToDelete 47 = .ok (.return_, 1) := by decide +kernel
theorem d_Ch_fitToEachOther_0 : decode b_Ch_fitToEachOther 0 = .ok (.aload_n 0, 1) := by decide +kernel
theorem d_Ch_fitToEachOther_1 : decode b_Ch_fitToEachOther 1 = .ok (.getfield 9, 3) := by decide +kernel
theorem d_Ch_fitToEachOther_4 : decode b_Ch_fitToEachOther 4 = .ok (.istore_n 2, 1) := by decide +kernel
theorem d_Ch_fitToEachOther_5 : decode b_Ch_fitToEachOther 5 = .ok (.aload_n 0, 1) := by decide +kernel
theorem d_Ch_fitToEachOther_6 : decode b_Ch_fitToEachOther 6 = .ok (.getfield 15, 3) := by decide +kernel
theorem d_Ch_fitToEachOther_9 : decode b_Ch_fitToEachOther 9 = .ok (.istore_n 3, 1) := by decide +kernel
theorem d_Ch_fitToEachOther_10 : decode b_Ch_fitToEachOther 10 = .ok (.aload_n 0, 1) := by decide +kernel
theorem d_Ch_fitToEachOther_11 : decode b_Ch_fitToEachOther 11 = .ok (.aload_n 1, 1) := by decide +kernel
theorem d_Ch_fitToEachOther_12 : decode b_Ch_fitToEachOther 12 = .ok (.getfield 9, 3) := by decide +kernel
theorem d_Ch_fitToEachOther_15 : decode b_Ch_fitToEachOther 15 = .ok (.aload_n 1, 1) := by decide +kernel
theorem d_Ch_fitToEachOther_16 : decode b_Ch_fitToEachOther 16 = .ok (.getfield 15, 3) := by decide +kernel
theorem d_Ch_fitToEachOther_19 : decode b_Ch_fitToEachOther 19 = .ok (.aload_n 1, 1) := by decide +kernel
theorem d_Ch_fitToEachOther_20 : decode b_Ch_fitToEachOther 20 = .ok (.getfield 22, 3) := by decide +kernel
theorem d_Ch_fitToEachOther_23 : decode b_Ch_fitToEachOther 23 = .ok (.invokevirtual 25, 3) := by decide +kernel
theorem d_Ch_fitToEachOther_26 : decode b_Ch_fitToEachOther 26 = .ok (.aload_n 1, 1) := by decide +kernel
theorem d_Ch_fitToEachOther_27 : decode b_Ch_fitToEachOther 27 = .ok (.iload_n 2, 1) := by decide +kernel
theorem d_Ch_fitToEachOther_28 : decode b_Ch_fitToEachOther 28 = .ok (.iload_n 3, 1) := by decide +kernel
theorem d_Ch_fitToEachOther_29 : decode b_Ch_fitToEachOther 29 = .ok (.aload_n 0, 1) := by decide +kernel
theorem d_Ch_fitToEachOther_30 : decode b_Ch_fitToEachOther 30 = .ok (.getfield 22, 3) := by decide +kernel
theorem d_Ch_fitToEachOther_33 : decode b_Ch_fitToEachOther 33 = .ok (.invokevirtual 25, 3) := by decide +kernel
theorem d_Ch_fitToEachOther_36 : decode b_Ch_fitToEachOther 36 = .ok (.return_, 1) := by decide +kernel
theorem d_Ch_fitToInsert_0 : decode b_Ch_fitToInsert 0 = .ok (.aload_n 0, 1) := by decide +kernel
theorem d_Ch_fitToInsert_1 : decode b_Ch_fitToInsert 1 = .ok (.getfield 9, 3) := by decide +kernel
theorem d_Ch_fitToInsert_4 : decode b_Ch_fitToInsert 4 = .ok (.iconst 1, 1) := by decide +kernel
theorem d_Ch_fitToInsert_5 : decode b_Ch_fitToInsert 5 = .ok (.if_icmp .eq 11, 3) := by decide +kernel
theorem d_Ch_fitToInsert_8 : decode b_Ch_fitToInsert 8 = .ok (.iload_n 2, 1) := by decide +kernel
theorem d_Ch_fitToInsert_9 : decode b_Ch_fitToInsert 9 = .ok (.aload_n 0, 1) := by decide +kernel
theorem d_Ch_fitToInsert_10 : decode b_Ch_fitToInsert 10 = .ok (.getfield 22, 3) := by decide +kernel
theorem d_Ch_fitToInsert_13 : decode b_Ch_fitToInsert 13 = .ok (.if_icmp .ge 7, 3) := by decide +kernel
theorem d_Ch_fitToInsert_16 : decode b_Ch_fitToInsert 16 = .ok (.iconst 1, 1) := by decide +kernel
theorem d_Ch_fitToInsert_17 : decode b_Ch_fitToInsert 17 = .ok (.goto 4, 3) := by decide +kernel
theorem d_Ch_fitToInsert_20 : decode b_Ch_fitToInsert 20 = .ok (.iconst 0, 1) := by decide +kernel
theorem d_Ch_fitToInsert_21 : decode b_Ch_fitToInsert 21 = .ok (.istore_n 3, 1) := by decide +kernel
theorem d_Ch_fitToInsert_22 : decode b_Ch_fitToInsert 22 = .ok (.iload_n 1, 1) := by decide +kernel
theorem d_Ch_fitToInsert_23 : decode b_Ch_fitToInsert 23 = .ok (.aload_n 0, 1) := by decide +kernel
theorem d_Ch_fitToInsert_24 : decode b_Ch_fitToInsert 24 = .ok (.getfield 15, 3) := by decide +kernel
theorem d_Ch_fitToInsert_27 : decode b_Ch_fitToInsert 27 = .ok (.if_icmp .lt 15, 3) := by decide +kernel
theorem d_Ch_fitToInsert_30 : decode b_Ch_fitToInsert 30 = .ok (.iload_n 1, 1) := by decide +kernel
theorem d_Ch_fitToInsert_31 : decode b_Ch_fitToInsert 31 = .ok (.aload_n 0, 1) := by decide +kernel
theorem d_Ch_fitToInsert_32 : decode b_Ch_fitToInsert 32 = .ok (.getfield 15, 3) := by decide +kernel
theorem d_Ch_fitToInsert_35 : decode b_Ch_fitToInsert 35 = .ok (.if_icmp .ne 17, 3) := by decide +kernel
theorem d_Ch_fitToInsert_38 : decode b_Ch_fitToInsert 38 = .ok (.iload_n 3, 1) := by decide +kernel
theorem d_Ch_fitToInsert_39 : decode b_Ch_fitToInsert 39 = .ok (.ifCond .eq 13, 3) := by decide +kernel
theorem d_Ch_fitToInsert_42 : decode b_Ch_fitToInsert 42 = .ok (.aload_n 0, 1) := by decide +kernel
theorem d_Ch_fitToInsert_43 : decode b_Ch_fitToInsert 43 = .ok (.dup, 1) := by decide +kernel
theorem d_Ch_fitToInsert_44 : decode b_Ch_fitToInsert 44 = .ok (.getfield 15, 3) := by decide +kernel
theorem d_Ch_fitToInsert_47 : decode b_Ch_fitToInsert 47 = .ok (.iconst 1, 1) := by decide +kernel
theorem d_Ch_fitToInsert_48 : decode b_Ch_fitToInsert 48 = .ok (.iadd, 1) := by decide +kernel
theorem d_Ch_fitToInsert_49 : decode b_Ch_fitToInsert 49 = .ok (.putfield 15, 3) := by decide +kernel
theorem d_Ch_fitToInsert_52 : decode b_Ch_fitToInsert 52 = .ok (.return_, 1) := by decide +kernel
theorem d_Ch_init_0 : decode b_Ch_init 0 = .ok (.aload_n 0, 1) := by decide +kernel
theorem d_Ch_init_1 : decode b_Ch_init 1 = .ok (.invokespecial 3, 3) := by decide +kernel
theorem d_Ch_init_4 : decode b_Ch_init 4 = .ok (.return_, 1) := by decide +kernel
theorem d_Er_alike_0 : decode b_Er_alike 0 = .ok (.iconst 1, 1) := by decide +kernel
theorem d_Er_alike_1 : decode b_Er_alike 1 = .ok (.istore_n 1, 1) := by decide +kernel
theorem d_Er_alike_2 : decode b_Er_alike 2 = .ok (.iload_n 1, 1) := by decide +kernel
theorem d_Er_alike_3 : decode b_Er_alike 3 = .ok (.iconst 3, 1) := by decide +kernel
theorem d_Er_alike_4 : decode b_Er_alike 4 = .ok (.if_icmp .gt 29, 3) := by decide +kernel
theorem d_Er_alike_7 : decode b_Er_alike 7 = .ok (.aload_n 0, 1) := by decide +kernel
theorem d_Er_alike_8 : decode b_Er_alike 8 = .ok (.getfield 11, 3) := by decide +kernel
theorem d_Er_alike_11 : decode b_Er_alike 11 = .ok (.iload_n 1, 1) := by decide +kernel
theorem d_Er_alike_12 : decode b_Er_alike 12 = .ok (.aaload, 1) := by decide +kernel
theorem d_Er_alike_13 : decode b_Er_alike 13 = .ok (.aload_n 0, 1) := by decide +kernel
theorem d_Er_alike_14 : decode b_Er_alike 14 = .ok (.getfield 11, 3) := by decide +kernel
theorem d_Er_alike_17 : decode b_Er_alike 17 = .ok (.iconst 0, 1) := by decide +kernel
theorem d_Er_alike_18 : decode b_Er_alike 18 = .ok (.aaload, 1) := by decide +kernel
theorem d_Er_alike_19 : decode b_Er_alike 19 = .ok (.invokevirtual 124, 3) := by decide +kernel
theorem d_Er_alike_22 : decode b_Er_alike 22 = .ok (.ifCond .ne 5, 3) := by decide +kernel
theorem d_Er_alike_25 : decode b_Er_alike 25 = .ok (.iconst 0, 1) := by decide +kernel
theorem d_Er_alike_26 : decode b_Er_alike 26 = .ok (.ireturn, 1) := by decide +kernel
theorem d_Er_alike_27 : decode b_Er_alike 27 = .ok (.iinc 1 1, 3) := by decide +kernel
theorem d_Er_alike_30 : decode b_Er_alike 30 = .ok (.goto (-28), 3) := by decide +kernel
theorem d_Er_alike_33 : decode b_Er_alike 33 = .ok (.iconst 1, 1) := by decide +kernel
theorem d_Er_alike_34 : decode b_Er_alike 34 = .ok (.ireturn, 1) := by decide +kernel
theorem d_Er_change_0 : decode b_Er_change 0 = .ok (.iload_n 1, 1) := by decide +kernel
theorem d_Er_change_1 : decode b_Er_change 1 = .ok (.invokestatic 35, 3) := by decide +kernel
theorem d_Er_change_4 : decode b_Er_change 4 = .ok (.aload_n 0, 1) := by decide +kernel
theorem d_Er_change_5 : decode b_Er_change 5 = .ok (.iload_n 1, 1) := by decide +kernel
theorem d_Er_change_6 : decode b_Er_change 6 = .ok (.iload_n 2, 1) := by decide +kernel
theorem d_Er_change_7 : decode b_Er_change 7 = .ok (.invokevirtual 74, 3) := by decide +kernel
theorem d_Er_change_10 : decode b_Er_change 10 = .ok (.astore 4, 2) := by decide +kernel
theorem d_Er_change_12 : decode b_Er_change 12 = .ok (.iload_n 3, 1) := by decide +kernel
theorem d_Er_change_13 : decode b_Er_change 13 = .ok (.ifCond .lt 12, 3) := by decide +kernel
theorem d_Er_change_16 : decode b_Er_change 16 = .ok (.iload_n 3, 1) := by decide +kernel
theorem d_Er_change_17 : decode b_Er_change 17 = .ok (.aload 4, 2) := by decide +kernel
theorem d_Er_change_19 : decode b_Er_change 19 = .ok (.invokevirtual 106, 3) := by decide +kernel
theorem d_Er_change_22 : decode b_Er_change 22 = .ok (.if_icmp .lt 13, 3) := by decide +kernel
theorem d_Er_change_25 : decode b_Er_change 25 = .ok (.new 49, 3) := by decide +kernel
theorem d_Er_change_28 : decode b_Er_change 28 = .ok (.dup, 1) := by decide +kernel
theorem d_Er_change_29 : decode b_Er_change 29 = .ok (.ldc 109, 2) := by decide +kernel
theorem d_Er_change_31 : decode b_Er_change 31 = .ok (.invokespecial 53, 3) := by decide +kernel
theorem d_Er_change_34 : decode b_Er_change 34 = .ok (.athrow, 1) := by decide +kernel
theorem d_Er_change_35 : decode b_Er_change 35 = .ok (.aload 4, 2) := by decide +kernel
theorem d_Er_change_37 : decode b_Er_change 37 = .ok (.iload_n 3, 1) := by decide +kernel
theorem d_Er_change_38 : decode b_Er_change 38 = .ok (.invokevirtual 111, 3) := by decide +kernel
theorem d_Er_change_41 : decode b_Er_change 41 = .ok (.astore 5, 2) := by decide +kernel
theorem d_Er_change_43 : decode b_Er_change 43 = .ok (.sipush 1000, 3) := by decide +kernel
theorem d_Er_change_46 : decode b_Er_change 46 = .ok (.aload 5, 2) := by decide +kernel
theorem d_Er_change_48 : decode b_Er_change 48 = .ok (.getfield 99, 3) := by decide +kernel
theorem d_Er_change_51 : decode b_Er_change 51 = .ok (.imul, 1) := by decide +kernel
theorem d_Er_change_52 : decode b_Er_change 52 = .ok (.bipush 10, 2) := by decide +kernel
theorem d_Er_change_54 : decode b_Er_change 54 = .ok (.aload 5, 2) := by decide +kernel
theorem d_Er_change_56 : decode b_Er_change 56 = .ok (.getfield 115, 3) := by decide +kernel
theorem d_Er_change_59 : decode b_Er_change 59 = .ok (.imul, 1) := by decide +kernel
theorem d_Er_change_60 : decode b_Er_change 60 = .ok (.iadd, 1) := by decide +kernel
theorem d_Er_change_61 : decode b_Er_change 61 = .ok (.aload 5, 2) := by decide +kernel
theorem d_Er_change_63 : decode b_Er_change 63 = .ok (.getfield 118, 3) := by decide +kernel
theorem d_Er_change_66 : decode b_Er_change 66 = .ok (.iadd, 1) := by decide +kernel
theorem d_Er_change_67 : decode b_Er_change 67 = .ok (.ireturn, 1) := by decide +kernel
theorem d_Er_checkClient_0 : decode b_Er_checkClient 0 = .ok (.iload_n 0, 1) := by decide +kernel
theorem d_Er_checkClient_1 : decode b_Er_checkClient 1 = .ok (.iconst 1, 1) := by decide +kernel
theorem d_Er_checkClient_2 : decode b_Er_checkClient 2 = .ok (.if_icmp .lt 8, 3) := by decide +kernel
theorem d_Er_checkClient_5 : decode b_Er_checkClient 5 = .ok (.iload_n 0, 1) := by decide +kernel
theorem d_Er_checkClient_6 : decode b_Er_checkClient 6 = .ok (.iconst 3, 1) := by decide +kernel
theorem d_Er_checkClient_7 : decode b_Er_checkClient 7 = .ok (.if_icmp .le 13, 3) := by decide +kernel
theorem d_Er_checkClient_10 : decode b_Er_checkClient 10 = .ok (.new 38, 3) := by decide +kernel
theorem d_Er_checkClient_13 : decode b_Er_checkClient 13 = .ok (.dup, 1) := by decide +kernel
theorem d_Er_checkClient_14 : decode b_Er_checkClient 14 = .ok (.ldc 128, 2) := by decide +kernel
theorem d_Er_checkClient_16 : decode b_Er_checkClient 16 = .ok (.invokespecial 42, 3) := by decide +kernel
theorem d_Er_checkClient_19 : decode b_Er_checkClient 19 = .ok (.athrow, 1) := by decide +kernel
theorem d_Er_checkClient_20 : decode b_Er_checkClient 20 = .ok (.return_, 1) := by decide +kernel
theorem d_Er_checkHasLetter_0 : decode b_Er_checkHasLetter 0 = .ok (.iload_n 1, 1) := by decide +kernel
theorem d_Er_checkHasLetter_1 : decode b_Er_checkHasLetter 1 = .ok (.ifCond .lt 11, 3) := by decide +kernel
theorem d_Er_checkHasLetter_4 : decode b_Er_checkHasLetter 4 = .ok (.iload_n 1, 1) := by decide +kernel
theorem d_Er_checkHasLetter_5 : decode b_Er_checkHasLetter 5 = .ok (.aload_n 0, 1) := by decide +kernel
theorem d_Er_checkHasLetter_6 : decode b_Er_checkHasLetter 6 = .ok (.getfield 45, 3) := by decide +kernel
theorem d_Er_checkHasLetter_9 : decode b_Er_checkHasLetter 9 = .ok (.if_icmp .lt 13, 3) := by decide +kernel
theorem d_Er_checkHasLetter_12 : decode b_Er_checkHasLetter 12 = .ok (.new 49, 3) := by decide +kernel
theorem d_Er_checkHasLetter_15 : decode b_Er_checkHasLetter 15 = .ok (.dup, 1) := by decide +kernel
theorem d_Er_checkHasLetter_16 : decode b_Er_checkHasLetter 16 = .ok (.ldc 132, 2) := by decide +kernel
theorem d_Er_checkHasLetter_18 : decode b_Er_checkHasLetter 18 = .ok (.invokespecial 53, 3) := by decide +kernel
theorem d_Er_checkHasLetter_21 : decode b_Er_checkHasLetter 21 = .ok (.athrow, 1) := by decide +kernel
theorem d_Er_checkHasLetter_22 : decode b_Er_checkHasLetter 22 = .ok (.return_, 1) := by decide +kernel
theorem d_Er_checkMayMakeChange_0 : decode b_Er_checkMayMakeChange 0 = .ok (.aload_n 0, 1) := by decide +kernel
theorem d_Er_checkMayMakeChange_1 : decode b_Er_checkMayMakeChange 1 = .ok (.iload_n 1, 1) := by decide +kernel
theorem d_Er_checkMayMakeChange_2 : decode b_Er_checkMayMakeChange 2 = .ok (.iconst 1, 1) := by decide +kernel
theorem d_Er_checkMayMakeChange_3 : decode b_Er_checkMayMakeChange 3 = .ok (.invokevirtual 74, 3) := by decide +kernel
theorem d_Er_checkMayMakeChange_6 : decode b_Er_checkMayMakeChange 6 = .ok (.invokevirtual 82, 3) := by decide +kernel
theorem d_Er_checkMayMakeChange_9 : decode b_Er_checkMayMakeChange 9 = .ok (.ifCond .eq 13, 3) := by decide +kernel
theorem d_Er_checkMayMakeChange_12 : decode b_Er_checkMayMakeChange 12 = .ok (.new 54, 3) := by decide +kernel
theorem d_Er_checkMayMakeChange_15 : decode b_Er_checkMayMakeChange 15 = .ok (.dup, 1) := by decide +kernel
theorem d_Er_checkMayMakeChange_16 : decode b_Er_checkMayMakeChange 16 = .ok (.ldc 139, 2) := by decide +kernel
theorem d_Er_checkMayMakeChange_18 : decode b_Er_checkMayMakeChange 18 = .ok (.invokespecial 58, 3) := by decide +kernel
theorem d_Er_checkMayMakeChange_21 : decode b_Er_checkMayMakeChange 21 = .ok (.athrow, 1) := by decide +kernel
theorem d_Er_checkMayMakeChange_22 : decode b_Er_checkMayMakeChange 22 = .ok (.return_, 1) := by decide +kernel
theorem d_Er_checkSite_0 : decode b_Er_checkSite 0 = .ok (.iload_n 0, 1) := by decide +kernel
theorem d_Er_checkSite_1 : decode b_Er_checkSite 1 = .ok (.ifCond .lt 8, 3) := by decide +kernel
theorem d_Er_checkSite_4 : decode b_Er_checkSite 4 = .ok (.iload_n 0, 1) := by decide +kernel
theorem d_Er_checkSite_5 : decode b_Er_checkSite 5 = .ok (.iconst 3, 1) := by decide +kernel
theorem d_Er_checkSite_6 : decode b_Er_checkSite 6 = .ok (.if_icmp .le 13, 3) := by decide +kernel
theorem d_Er_checkSite_9 : decode b_Er_checkSite 9 = .ok (.new 38, 3) := by decide +kernel
theorem d_Er_checkSite_12 : decode b_Er_checkSite 12 = .ok (.dup, 1) := by decide +kernel
theorem d_Er_checkSite_13 : decode b_Er_checkSite 13 = .ok (.ldc 130, 2) := by decide +kernel
theorem d_Er_checkSite_15 : decode b_Er_checkSite 15 = .ok (.invokespecial 42, 3) := by decide +kernel
theorem d_Er_checkSite_18 : decode b_Er_checkSite 18 = .ok (.athrow, 1) := by decide +kernel
theorem d_Er_checkSite_19 : decode b_Er_checkSite 19 = .ok (.return_, 1) := by decide +kernel
theorem d_Er_checkSomeWaits_0 : decode b_Er_checkSomeWaits 0 = .ok (.aload_n 0, 1) := by decide +kernel
theorem d_Er_checkSomeWaits_1 : decode b_Er_checkSomeWaits 1 = .ok (.invokevirtual 102, 3) := by decide +kernel
theorem d_Er_checkSomeWaits_4 : decode b_Er_checkSomeWaits 4 = .ok (.ifCond .ne 13, 3) := by decide +kernel
theorem d_Er_checkSomeWaits_7 : decode b_Er_checkSomeWaits 7 = .ok (.new 134, 3) := by decide +kernel
theorem d_Er_checkSomeWaits_10 : decode b_Er_checkSomeWaits 10 = .ok (.dup, 1) := by decide +kernel
theorem d_Er_checkSomeWaits_11 : decode b_Er_checkSomeWaits 11 = .ok (.ldc 136, 2) := by decide +kernel
theorem d_Er_checkSomeWaits_13 : decode b_Er_checkSomeWaits 13 = .ok (.invokespecial 138, 3) := by decide +kernel
theorem d_Er_checkSomeWaits_16 : decode b_Er_checkSomeWaits 16 = .ok (.athrow, 1) := by decide +kernel
theorem d_Er_checkSomeWaits_17 : decode b_Er_checkSomeWaits 17 = .ok (.return_, 1) := by decide +kernel
theorem d_Er_delete_0 : decode b_Er_delete 0 = .ok (.iload_n 1, 1) := by decide +kernel
theorem d_Er_delete_1 : decode b_Er_delete 1 = .ok (.invokestatic 35, 3) := by decide +kernel
theorem d_Er_delete_4 : decode b_Er_delete 4 = .ok (.aload_n 0, 1) := by decide +kernel
theorem d_Er_delete_5 : decode b_Er_delete 5 = .ok (.getfield 11, 3) := by decide +kernel
theorem d_Er_delete_8 : decode b_Er_delete 8 = .ok (.iload_n 1, 1) := by decide +kernel
theorem d_Er_delete_9 : decode b_Er_delete 9 = .ok (.aaload, 1) := by decide +kernel
theorem d_Er_delete_10 : decode b_Er_delete 10 = .ok (.astore_n 3, 1) := by decide +kernel
theorem d_Er_delete_11 : decode b_Er_delete 11 = .ok (.aload_n 3, 1) := by decide +kernel
theorem d_Er_delete_12 : decode b_Er_delete 12 = .ok (.iload_n 2, 1) := by decide +kernel
theorem d_Er_delete_13 : decode b_Er_delete 13 = .ok (.invokestatic 66, 3) := by decide +kernel
theorem d_Er_delete_16 : decode b_Er_delete 16 = .ok (.aload_n 0, 1) := by decide +kernel
theorem d_Er_delete_17 : decode b_Er_delete 17 = .ok (.iload_n 1, 1) := by decide +kernel
theorem d_Er_delete_18 : decode b_Er_delete 18 = .ok (.invokevirtual 59, 3) := by decide +kernel
theorem d_Er_delete_21 : decode b_Er_delete 21 = .ok (.aload_n 3, 1) := by decide +kernel
theorem d_Er_delete_22 : decode b_Er_delete 22 = .ok (.getfield 70, 3) := by decide +kernel
theorem d_Er_delete_25 : decode b_Er_delete 25 = .ok (.iload_n 2, 1) := by decide +kernel
theorem d_Er_delete_26 : decode b_Er_delete 26 = .ok (.caload, 1) := by decide +kernel
theorem d_Er_delete_27 : decode b_Er_delete 27 = .ok (.istore 4, 2) := by decide +kernel
theorem d_Er_delete_29 : decode b_Er_delete 29 = .ok (.aload_n 0, 1) := by decide +kernel
theorem d_Er_delete_30 : decode b_Er_delete 30 = .ok (.iload_n 1, 1) := by decide +kernel
theorem d_Er_delete_31 : decode b_Er_delete 31 = .ok (.iconst 1, 1) := by decide +kernel
theorem d_Er_delete_32 : decode b_Er_delete 32 = .ok (.iload_n 2, 1) := by decide +kernel
theorem d_Er_delete_33 : decode b_Er_delete 33 = .ok (.iload 4, 2) := by decide +kernel
theorem d_Er_delete_35 : decode b_Er_delete 35 = .ok (.invokevirtual 62, 3) := by decide +kernel
theorem d_Er_delete_38 : decode b_Er_delete 38 = .ok (.iload 4, 2) := by decide +kernel
theorem d_Er_delete_40 : decode b_Er_delete 40 = .ok (.ireturn, 1) := by decide +kernel
theorem d_Er_got_0 : decode b_Er_got 0 = .ok (.iload_n 1, 1) := by decide +kernel
theorem d_Er_got_1 : decode b_Er_got 1 = .ok (.invokestatic 35, 3) := by decide +kernel
theorem d_Er_got_4 : decode b_Er_got 4 = .ok (.aload_n 0, 1) := by decide +kernel
theorem d_Er_got_5 : decode b_Er_got 5 = .ok (.iload_n 1, 1) := by decide +kernel
theorem d_Er_got_6 : decode b_Er_got 6 = .ok (.iload_n 2, 1) := by decide +kernel
theorem d_Er_got_7 : decode b_Er_got 7 = .ok (.invokevirtual 74, 3) := by decide +kernel
theorem d_Er_got_10 : decode b_Er_got 10 = .ok (.getfield 92, 3) := by decide +kernel
theorem d_Er_got_13 : decode b_Er_got 13 = .ok (.ireturn, 1) := by decide +kernel
theorem d_Er_init_0 : decode b_Er_init 0 = .ok (.aload_n 0, 1) := by decide +kernel
theorem d_Er_init_1 : decode b_Er_init 1 = .ok (.invokespecial 3, 3) := by decide +kernel
theorem d_Er_init_4 : decode b_Er_init 4 = .ok (.aload_n 0, 1) := by decide +kernel
theorem d_Er_init_5 : decode b_Er_init 5 = .ok (.iconst 4, 1) := by decide +kernel
theorem d_Er_init_6 : decode b_Er_init 6 = .ok (.anewarray 9, 3) := by decide +kernel
theorem d_Er_init_9 : decode b_Er_init 9 = .ok (.putfield 11, 3) := by decide +kernel
theorem d_Er_init_12 : decode b_Er_init 12 = .ok (.iconst 0, 1) := by decide +kernel
theorem d_Er_init_13 : decode b_Er_init 13 = .ok (.istore_n 1, 1) := by decide +kernel
theorem d_Er_init_14 : decode b_Er_init 14 = .ok (.iload_n 1, 1) := by decide +kernel
theorem d_Er_init_15 : decode b_Er_init 15 = .ok (.iconst 3, 1) := by decide +kernel
theorem d_Er_init_16 : decode b_Er_init 16 = .ok (.if_icmp .gt 22, 3) := by decide +kernel
theorem d_Er_init_19 : decode b_Er_init 19 = .ok (.aload_n 0, 1) := by decide +kernel
theorem d_Er_init_20 : decode b_Er_init 20 = .ok (.getfield 11, 3) := by decide +kernel
theorem d_Er_init_23 : decode b_Er_init 23 = .ok (.iload_n 1, 1) := by decide +kernel
theorem d_Er_init_24 : decode b_Er_init 24 = .ok (.new 9, 3) := by decide +kernel
theorem d_Er_init_27 : decode b_Er_init 27 = .ok (.dup, 1) := by decide +kernel
theorem d_Er_init_28 : decode b_Er_init 28 = .ok (.invokespecial 15, 3) := by decide +kernel
theorem d_Er_init_31 : decode b_Er_init 31 = .ok (.aastore, 1) := by decide +kernel
theorem d_Er_init_32 : decode b_Er_init 32 = .ok (.iinc 1 1, 3) := by decide +kernel
theorem d_Er_init_35 : decode b_Er_init 35 = .ok (.goto (-21), 3) := by decide +kernel
theorem d_Er_init_38 : decode b_Er_init 38 = .ok (.aload_n 0, 1) := by decide +kernel
theorem d_Er_init_39 : decode b_Er_init 39 = .ok (.iconst 3, 1) := by decide +kernel
theorem d_Er_init_40 : decode b_Er_init 40 = .ok (.anewarray 16, 3) := by decide +kernel
theorem d_Er_init_43 : decode b_Er_init 43 = .ok (.putfield 18, 3) := by decide +kernel
theorem d_Er_init_46 : decode b_Er_init 46 = .ok (.aload_n 0, 1) := by decide +kernel
theorem d_Er_init_47 : decode b_Er_init 47 = .ok (.iconst 3, 1) := by decide +kernel
theorem d_Er_init_48 : decode b_Er_init 48 = .ok (.anewarray 16, 3) := by decide +kernel
theorem d_Er_init_51 : decode b_Er_init 51 = .ok (.putfield 22, 3) := by decide +kernel
theorem d_Er_init_54 : decode b_Er_init 54 = .ok (.iconst 0, 1) := by decide +kernel
theorem d_Er_init_55 : decode b_Er_init 55 = .ok (.istore_n 1, 1) := by decide +kernel
theorem d_Er_init_56 : decode b_Er_init 56 = .ok (.iload_n 1, 1) := by decide +kernel
theorem d_Er_init_57 : decode b_Er_init 57 = .ok (.iconst 3, 1) := by decide +kernel
theorem d_Er_init_58 : decode b_Er_init 58 = .ok (.if_icmp .ge 39, 3) := by decide +kernel
theorem d_Er_init_61 : decode b_Er_init 61 = .ok (.aload_n 0, 1) := by decide +kernel
theorem d_Er_init_62 : decode b_Er_init 62 = .ok (.getfield 18, 3) := by decide +kernel
theorem d_Er_init_65 : decode b_Er_init 65 = .ok (.iload_n 1, 1) := by decide +kernel
theorem d_Er_init_66 : decode b_Er_init 66 = .ok (.new 16, 3) := by decide +kernel
theorem d_Er_init_69 : decode b_Er_init 69 = .ok (.dup, 1) := by decide +kernel
theorem d_Er_init_70 : decode b_Er_init 70 = .ok (.bipush 16, 2) := by decide +kernel
theorem d_Er_init_72 : decode b_Er_init 72 = .ok (.invokespecial 25, 3) := by decide +kernel
theorem d_Er_init_75 : decode b_Er_init 75 = .ok (.aastore, 1) := by decide +kernel
theorem d_Er_init_76 : decode b_Er_init 76 = .ok (.aload_n 0, 1) := by decide +kernel
theorem d_Er_init_77 : decode b_Er_init 77 = .ok (.getfield 22, 3) := by decide +kernel
theorem d_Er_init_80 : decode b_Er_init 80 = .ok (.iload_n 1, 1) := by decide +kernel
theorem d_Er_init_81 : decode b_Er_init 81 = .ok (.new 16, 3) := by decide +kernel
theorem d_Er_init_84 : decode b_Er_init 84 = .ok (.dup, 1) := by decide +kernel
theorem d_Er_init_85 : decode b_Er_init 85 = .ok (.bipush 24, 2) := by decide +kernel
theorem d_Er_init_87 : decode b_Er_init 87 = .ok (.invokespecial 25, 3) := by decide +kernel
theorem d_Er_init_90 : decode b_Er_init 90 = .ok (.aastore, 1) := by decide +kernel
theorem d_Er_init_91 : decode b_Er_init 91 = .ok (.iinc 1 1, 3) := by decide +kernel
theorem d_Er_init_94 : decode b_Er_init 94 = .ok (.goto (-38), 3) := by decide +kernel
theorem d_Er_init_97 : decode b_Er_init 97 = .ok (.aload_n 0, 1) := by decide +kernel
theorem d_Er_init_98 : decode b_Er_init 98 = .ok (.new 28, 3) := by decide +kernel
theorem d_Er_init_101 : decode b_Er_init 101 = .ok (.dup, 1) := by decide +kernel
theorem d_Er_init_102 : decode b_Er_init 102 = .ok (.invokespecial 30, 3) := by decide +kernel
theorem d_Er_init_105 : decode b_Er_init 105 = .ok (.putfield 31, 3) := by decide +kernel
theorem d_Er_init_108 : decode b_Er_init 108 = .ok (.return_, 1) := by decide +kernel
theorem d_Er_insert_0 : decode b_Er_insert 0 = .ok (.iload_n 1, 1) := by decide +kernel
theorem d_Er_insert_1 : decode b_Er_insert 1 = .ok (.invokestatic 35, 3) := by decide +kernel
theorem d_Er_insert_4 : decode b_Er_insert 4 = .ok (.iload_n 3, 1) := by decide +kernel
theorem d_Er_insert_5 : decode b_Er_insert 5 = .ok (.bipush 32, 2) := by decide +kernel
theorem d_Er_insert_7 : decode b_Er_insert 7 = .ok (.if_icmp .lt 9, 3) := by decide +kernel
theorem d_Er_insert_10 : decode b_Er_insert 10 = .ok (.iload_n 3, 1) := by decide +kernel
theorem d_Er_insert_11 : decode b_Er_insert 11 = .ok (.bipush 126, 2) := by decide +kernel
theorem d_Er_insert_13 : decode b_Er_insert 13 = .ok (.if_icmp .le 13, 3) := by decide +kernel
theorem d_Er_insert_16 : decode b_Er_insert 16 = .ok (.new 38, 3) := by decide +kernel
theorem d_Er_insert_19 : decode b_Er_insert 19 = .ok (.dup, 1) := by decide +kernel
theorem d_Er_insert_20 : decode b_Er_insert 20 = .ok (.ldc 40, 2) := by decide +kernel
theorem d_Er_insert_22 : decode b_Er_insert 22 = .ok (.invokespecial 42, 3) := by decide +kernel
theorem d_Er_insert_25 : decode b_Er_insert 25 = .ok (.athrow, 1) := by decide +kernel
theorem d_Er_insert_26 : decode b_Er_insert 26 = .ok (.aload_n 0, 1) := by decide +kernel
theorem d_Er_insert_27 : decode b_Er_insert 27 = .ok (.getfield 11, 3) := by decide +kernel
theorem d_Er_insert_30 : decode b_Er_insert 30 = .ok (.iload_n 1, 1) := by decide +kernel
theorem d_Er_insert_31 : decode b_Er_insert 31 = .ok (.aaload, 1) := by decide +kernel
theorem d_Er_insert_32 : decode b_Er_insert 32 = .ok (.astore 4, 2) := by decide +kernel
theorem d_Er_insert_34 : decode b_Er_insert 34 = .ok (.iload_n 2, 1) := by decide +kernel
theorem d_Er_insert_35 : decode b_Er_insert 35 = .ok (.ifCond .lt 12, 3) := by decide +kernel
theorem d_Er_insert_38 : decode b_Er_insert 38 = .ok (.iload_n 2, 1) := by decide +kernel
theorem d_Er_insert_39 : decode b_Er_insert 39 = .ok (.aload 4, 2) := by decide +kernel
theorem d_Er_insert_41 : decode b_Er_insert 41 = .ok (.getfield 45, 3) := by decide +kernel
theorem d_Er_insert_44 : decode b_Er_insert 44 = .ok (.if_icmp .le 13, 3) := by decide +kernel
theorem d_Er_insert_47 : decode b_Er_insert 47 = .ok (.new 49, 3) := by decide +kernel
theorem d_Er_insert_50 : decode b_Er_insert 50 = .ok (.dup, 1) := by decide +kernel
theorem d_Er_insert_51 : decode b_Er_insert 51 = .ok (.ldc 51, 2) := by decide +kernel
theorem d_Er_insert_53 : decode b_Er_insert 53 = .ok (.invokespecial 53, 3) := by decide +kernel
theorem d_Er_insert_56 : decode b_Er_insert 56 = .ok (.athrow, 1) := by decide +kernel
theorem d_Er_insert_57 : decode b_Er_insert 57 = .ok (.aload 4, 2) := by decide +kernel
theorem d_Er_insert_59 : decode b_Er_insert 59 = .ok (.getfield 45, 3) := by decide +kernel
theorem d_Er_insert_62 : decode b_Er_insert 62 = .ok (.bipush 40, 2) := by decide +kernel
theorem d_Er_insert_64 : decode b_Er_insert 64 = .ok (.if_icmp .lt 13, 3) := by decide +kernel
theorem d_Er_insert_67 : decode b_Er_insert 67 = .ok (.new 54, 3) := by decide +kernel
theorem d_Er_insert_70 : decode b_Er_insert 70 = .ok (.dup, 1) := by decide +kernel
theorem d_Er_insert_71 : decode b_Er_insert 71 = .ok (.ldc 56, 2) := by decide +kernel
theorem d_Er_insert_73 : decode b_Er_insert 73 = .ok (.invokespecial 58, 3) := by decide +kernel
theorem d_Er_insert_76 : decode b_Er_insert 76 = .ok (.athrow, 1) := by decide +kernel
theorem d_Er_insert_77 : decode b_Er_insert 77 = .ok (.aload_n 0, 1) := by decide +kernel
theorem d_Er_insert_78 : decode b_Er_insert 78 = .ok (.iload_n 1, 1) := by decide +kernel
theorem d_Er_insert_79 : decode b_Er_insert 79 = .ok (.invokevirtual 59, 3) := by decide +kernel
theorem d_Er_insert_82 : decode b_Er_insert 82 = .ok (.aload_n 0, 1) := by decide +kernel
theorem d_Er_insert_83 : decode b_Er_insert 83 = .ok (.iload_n 1, 1) := by decide +kernel
theorem d_Er_insert_84 : decode b_Er_insert 84 = .ok (.iconst 0, 1) := by decide +kernel
theorem d_Er_insert_85 : decode b_Er_insert 85 = .ok (.iload_n 2, 1) := by decide +kernel
theorem d_Er_insert_86 : decode b_Er_insert 86 = .ok (.iload_n 3, 1) := by decide +kernel
theorem d_Er_insert_87 : decode b_Er_insert 87 = .ok (.invokevirtual 62, 3) := by decide +kernel
theorem d_Er_insert_90 : decode b_Er_insert 90 = .ok (.aload 4, 2) := by decide +kernel
theorem d_Er_insert_92 : decode b_Er_insert 92 = .ok (.getfield 45, 3) := by decide +kernel
theorem d_Er_insert_95 : decode b_Er_insert 95 = .ok (.ireturn, 1) := by decide +kernel
theorem d_Er_letter_0 : decode b_Er_letter 0 = .ok (.iload_n 1, 1) := by decide +kernel
theorem d_Er_letter_1 : decode b_Er_letter 1 = .ok (.invokestatic 121, 3) := by decide +kernel
theorem d_Er_letter_4 : decode b_Er_letter 4 = .ok (.aload_n 0, 1) := by decide +kernel
theorem d_Er_letter_5 : decode b_Er_letter 5 = .ok (.getfield 11, 3) := by decide +kernel
theorem d_Er_letter_8 : decode b_Er_letter 8 = .ok (.iload_n 1, 1) := by decide +kernel
theorem d_Er_letter_9 : decode b_Er_letter 9 = .ok (.aaload, 1) := by decide +kernel
theorem d_Er_letter_10 : decode b_Er_letter 10 = .ok (.astore_n 3, 1) := by decide +kernel
theorem d_Er_letter_11 : decode b_Er_letter 11 = .ok (.aload_n 3, 1) := by decide +kernel
theorem d_Er_letter_12 : decode b_Er_letter 12 = .ok (.iload_n 2, 1) := by decide +kernel
theorem d_Er_letter_13 : decode b_Er_letter 13 = .ok (.invokestatic 66, 3) := by decide +kernel
theorem d_Er_letter_16 : decode b_Er_letter 16 = .ok (.aload_n 3, 1) := by decide +kernel
theorem d_Er_letter_17 : decode b_Er_letter 17 = .ok (.getfield 70, 3) := by decide +kernel
theorem d_Er_letter_20 : decode b_Er_letter 20 = .ok (.iload_n 2, 1) := by decide +kernel
theorem d_Er_letter_21 : decode b_Er_letter 21 = .ok (.caload, 1) := by decide +kernel
theorem d_Er_letter_22 : decode b_Er_letter 22 = .ok (.ireturn, 1) := by decide +kernel
theorem d_Er_makeChange_0 : decode b_Er_makeChange 0 = .ok (.aload_n 0, 1) := by decide +kernel
theorem d_Er_makeChange_1 : decode b_Er_makeChange 1 = .ok (.getfield 31, 3) := by decide +kernel
theorem d_Er_makeChange_4 : decode b_Er_makeChange 4 = .ok (.iload_n 2, 1) := by decide +kernel
theorem d_Er_makeChange_5 : decode b_Er_makeChange 5 = .ok (.putfield 99, 3) := by decide +kernel
theorem d_Er_makeChange_8 : decode b_Er_makeChange 8 = .ok (.aload_n 0, 1) := by decide +kernel
theorem d_Er_makeChange_9 : decode b_Er_makeChange 9 = .ok (.getfield 31, 3) := by decide +kernel
theorem d_Er_makeChange_12 : decode b_Er_makeChange 12 = .ok (.iload_n 3, 1) := by decide +kernel
theorem d_Er_makeChange_13 : decode b_Er_makeChange 13 = .ok (.putfield 115, 3) := by decide +kernel
theorem d_Er_makeChange_16 : decode b_Er_makeChange 16 = .ok (.aload_n 0, 1) := by decide +kernel
theorem d_Er_makeChange_17 : decode b_Er_makeChange 17 = .ok (.getfield 31, 3) := by decide +kernel
theorem d_Er_makeChange_20 : decode b_Er_makeChange 20 = .ok (.iload 4, 2) := by decide +kernel
theorem d_Er_makeChange_22 : decode b_Er_makeChange 22 = .ok (.putfield 141, 3) := by decide +kernel
theorem d_Er_makeChange_25 : decode b_Er_makeChange 25 = .ok (.aload_n 0, 1) := by decide +kernel
theorem d_Er_makeChange_26 : decode b_Er_makeChange 26 = .ok (.getfield 31, 3) := by decide +kernel
theorem d_Er_makeChange_29 : decode b_Er_makeChange 29 = .ok (.iload_n 1, 1) := by decide +kernel
theorem d_Er_makeChange_30 : decode b_Er_makeChange 30 = .ok (.putfield 118, 3) := by decide +kernel
theorem d_Er_makeChange_33 : decode b_Er_makeChange 33 = .ok (.aload_n 0, 1) := by decide +kernel
theorem d_Er_makeChange_34 : decode b_Er_makeChange 34 = .ok (.getfield 11, 3) := by decide +kernel
theorem d_Er_makeChange_37 : decode b_Er_makeChange 37 = .ok (.iload_n 1, 1) := by decide +kernel
theorem d_Er_makeChange_38 : decode b_Er_makeChange 38 = .ok (.aaload, 1) := by decide +kernel
theorem d_Er_makeChange_39 : decode b_Er_makeChange 39 = .ok (.aload_n 0, 1) := by decide +kernel
theorem d_Er_makeChange_40 : decode b_Er_makeChange 40 = .ok (.getfield 31, 3) := by decide +kernel
theorem d_Er_makeChange_43 : decode b_Er_makeChange 43 = .ok (.invokevirtual 145, 3) := by decide +kernel
theorem d_Er_makeChange_46 : decode b_Er_makeChange 46 = .ok (.aload_n 0, 1) := by decide +kernel
theorem d_Er_makeChange_47 : decode b_Er_makeChange 47 = .ok (.iload_n 1, 1) := by decide +kernel
theorem d_Er_makeChange_48 : decode b_Er_makeChange 48 = .ok (.iconst 1, 1) := by decide +kernel
theorem d_Er_makeChange_49 : decode b_Er_makeChange 49 = .ok (.invokevirtual 74, 3) := by decide +kernel
theorem d_Er_makeChange_52 : decode b_Er_makeChange 52 = .ok (.aload_n 0, 1) := by decide +kernel
theorem d_Er_makeChange_53 : decode b_Er_makeChange 53 = .ok (.getfield 31, 3) := by decide +kernel
theorem d_Er_makeChange_56 : decode b_Er_makeChange 56 = .ok (.aload_n 0, 1) := by decide +kernel
theorem d_Er_makeChange_57 : decode b_Er_makeChange 57 = .ok (.iload_n 1, 1) := by decide +kernel
theorem d_Er_makeChange_58 : decode b_Er_makeChange 58 = .ok (.iconst 0, 1) := by decide +kernel
theorem d_Er_makeChange_59 : decode b_Er_makeChange 59 = .ok (.invokevirtual 74, 3) := by decide +kernel
theorem d_Er_makeChange_62 : decode b_Er_makeChange 62 = .ok (.getfield 92, 3) := by decide +kernel
theorem d_Er_makeChange_65 : decode b_Er_makeChange 65 = .ok (.invokevirtual 95, 3) := by decide +kernel
theorem d_Er_makeChange_68 : decode b_Er_makeChange 68 = .ok (.return_, 1) := by decide +kernel
theorem d_Er_nod_0 : decode b_Er_nod 0 = .ok (.iload_n 1, 1) := by decide +kernel
theorem d_Er_nod_1 : decode b_Er_nod 1 = .ok (.invokestatic 35, 3) := by decide +kernel
theorem d_Er_nod_4 : decode b_Er_nod 4 = .ok (.aload_n 0, 1) := by decide +kernel
theorem d_Er_nod_5 : decode b_Er_nod 5 = .ok (.iload_n 1, 1) := by decide +kernel
theorem d_Er_nod_6 : decode b_Er_nod 6 = .ok (.invokevirtual 59, 3) := by decide +kernel
theorem d_Er_nod_9 : decode b_Er_nod 9 = .ok (.aload_n 0, 1) := by decide +kernel
theorem d_Er_nod_10 : decode b_Er_nod 10 = .ok (.iload_n 1, 1) := by decide +kernel
theorem d_Er_nod_11 : decode b_Er_nod 11 = .ok (.iconst 2, 1) := by decide +kernel
theorem d_Er_nod_12 : decode b_Er_nod 12 = .ok (.iconst 0, 1) := by decide +kernel
theorem d_Er_nod_13 : decode b_Er_nod 13 = .ok (.bipush 32, 2) := by decide +kernel
theorem d_Er_nod_15 : decode b_Er_nod 15 = .ok (.invokevirtual 62, 3) := by decide +kernel
theorem d_Er_nod_18 : decode b_Er_nod 18 = .ok (.return_, 1) := by decide +kernel
theorem d_Er_open_0 : decode b_Er_open 0 = .ok (.iload_n 1, 1) := by decide +kernel
theorem d_Er_open_1 : decode b_Er_open 1 = .ok (.invokestatic 35, 3) := by decide +kernel
theorem d_Er_open_4 : decode b_Er_open 4 = .ok (.aload_n 0, 1) := by decide +kernel
theorem d_Er_open_5 : decode b_Er_open 5 = .ok (.iload_n 1, 1) := by decide +kernel
theorem d_Er_open_6 : decode b_Er_open 6 = .ok (.iload_n 2, 1) := by decide +kernel
theorem d_Er_open_7 : decode b_Er_open 7 = .ok (.invokevirtual 74, 3) := by decide +kernel
theorem d_Er_open_10 : decode b_Er_open 10 = .ok (.invokevirtual 106, 3) := by decide +kernel
theorem d_Er_open_13 : decode b_Er_open 13 = .ok (.ireturn, 1) := by decide +kernel
theorem d_Er_pull_0 : decode b_Er_pull 0 = .ok (.iload_n 1, 1) := by decide +kernel
theorem d_Er_pull_1 : decode b_Er_pull 1 = .ok (.invokestatic 35, 3) := by decide +kernel
theorem d_Er_pull_4 : decode b_Er_pull 4 = .ok (.aload_n 0, 1) := by decide +kernel
theorem d_Er_pull_5 : decode b_Er_pull 5 = .ok (.iload_n 1, 1) := by decide +kernel
theorem d_Er_pull_6 : decode b_Er_pull 6 = .ok (.iconst 0, 1) := by decide +kernel
theorem d_Er_pull_7 : decode b_Er_pull 7 = .ok (.invokevirtual 74, 3) := by decide +kernel
theorem d_Er_pull_10 : decode b_Er_pull 10 = .ok (.invokestatic 78, 3) := by decide +kernel
theorem d_Er_pull_13 : decode b_Er_pull 13 = .ok (.aload_n 0, 1) := by decide +kernel
theorem d_Er_pull_14 : decode b_Er_pull 14 = .ok (.iload_n 1, 1) := by decide +kernel
theorem d_Er_pull_15 : decode b_Er_pull 15 = .ok (.aload_n 0, 1) := by decide +kernel
theorem d_Er_pull_16 : decode b_Er_pull 16 = .ok (.iload_n 1, 1) := by decide +kernel
theorem d_Er_pull_17 : decode b_Er_pull 17 = .ok (.iconst 0, 1) := by decide +kernel
theorem d_Er_pull_18 : decode b_Er_pull 18 = .ok (.invokevirtual 74, 3) := by decide +kernel
theorem d_Er_pull_21 : decode b_Er_pull 21 = .ok (.aload_n 0, 1) := by decide +kernel
theorem d_Er_pull_22 : decode b_Er_pull 22 = .ok (.iload_n 1, 1) := by decide +kernel
theorem d_Er_pull_23 : decode b_Er_pull 23 = .ok (.iconst 1, 1) := by decide +kernel
theorem d_Er_pull_24 : decode b_Er_pull 24 = .ok (.invokevirtual 74, 3) := by decide +kernel
theorem d_Er_pull_27 : decode b_Er_pull 27 = .ok (.invokevirtual 88, 3) := by decide +kernel
theorem d_Er_pull_30 : decode b_Er_pull 30 = .ok (.getfield 99, 3) := by decide +kernel
theorem d_Er_pull_33 : decode b_Er_pull 33 = .ok (.ireturn, 1) := by decide +kernel
theorem d_Er_push_0 : decode b_Er_push 0 = .ok (.iload_n 1, 1) := by decide +kernel
theorem d_Er_push_1 : decode b_Er_push 1 = .ok (.invokestatic 35, 3) := by decide +kernel
theorem d_Er_push_4 : decode b_Er_push 4 = .ok (.aload_n 0, 1) := by decide +kernel
theorem d_Er_push_5 : decode b_Er_push 5 = .ok (.iload_n 1, 1) := by decide +kernel
theorem d_Er_push_6 : decode b_Er_push 6 = .ok (.iconst 1, 1) := by decide +kernel
theorem d_Er_push_7 : decode b_Er_push 7 = .ok (.invokevirtual 74, 3) := by decide +kernel
theorem d_Er_push_10 : decode b_Er_push 10 = .ok (.invokestatic 78, 3) := by decide +kernel
theorem d_Er_push_13 : decode b_Er_push 13 = .ok (.iconst 1, 1) := by decide +kernel
theorem d_Er_push_14 : decode b_Er_push 14 = .ok (.istore_n 2, 1) := by decide +kernel
theorem d_Er_push_15 : decode b_Er_push 15 = .ok (.iload_n 2, 1) := by decide +kernel
theorem d_Er_push_16 : decode b_Er_push 16 = .ok (.iconst 3, 1) := by decide +kernel
theorem d_Er_push_17 : decode b_Er_push 17 = .ok (.if_icmp .gt 36, 3) := by decide +kernel
theorem d_Er_push_20 : decode b_Er_push 20 = .ok (.iload_n 2, 1) := by decide +kernel
theorem d_Er_push_21 : decode b_Er_push 21 = .ok (.iload_n 1, 1) := by decide +kernel
theorem d_Er_push_22 : decode b_Er_push 22 = .ok (.if_icmp .eq 25, 3) := by decide +kernel
theorem d_Er_push_25 : decode b_Er_push 25 = .ok (.aload_n 0, 1) := by decide +kernel
theorem d_Er_push_26 : decode b_Er_push 26 = .ok (.iload_n 2, 1) := by decide +kernel
theorem d_Er_push_27 : decode b_Er_push 27 = .ok (.iconst 0, 1) := by decide +kernel
theorem d_Er_push_28 : decode b_Er_push 28 = .ok (.invokevirtual 74, 3) := by decide +kernel
theorem d_Er_push_31 : decode b_Er_push 31 = .ok (.invokevirtual 82, 3) := by decide +kernel
theorem d_Er_push_34 : decode b_Er_push 34 = .ok (.ifCond .eq 13, 3) := by decide +kernel
theorem d_Er_push_37 : decode b_Er_push 37 = .ok (.new 54, 3) := by decide +kernel
theorem d_Er_push_40 : decode b_Er_push 40 = .ok (.dup, 1) := by decide +kernel
theorem d_Er_push_41 : decode b_Er_push 41 = .ok (.ldc 86, 2) := by decide +kernel
theorem d_Er_push_43 : decode b_Er_push 43 = .ok (.invokespecial 58, 3) := by decide +kernel
theorem d_Er_push_46 : decode b_Er_push 46 = .ok (.athrow, 1) := by decide +kernel
theorem d_Er_push_47 : decode b_Er_push 47 = .ok (.iinc 2 1, 3) := by decide +kernel
theorem d_Er_push_50 : decode b_Er_push 50 = .ok (.goto (-35), 3) := by decide +kernel
theorem d_Er_push_53 : decode b_Er_push 53 = .ok (.aload_n 0, 1) := by decide +kernel
theorem d_Er_push_54 : decode b_Er_push 54 = .ok (.iconst 0, 1) := by decide +kernel
theorem d_Er_push_55 : decode b_Er_push 55 = .ok (.aload_n 0, 1) := by decide +kernel
theorem d_Er_push_56 : decode b_Er_push 56 = .ok (.iload_n 1, 1) := by decide +kernel
theorem d_Er_push_57 : decode b_Er_push 57 = .ok (.iconst 1, 1) := by decide +kernel
theorem d_Er_push_58 : decode b_Er_push 58 = .ok (.invokevirtual 74, 3) := by decide +kernel
theorem d_Er_push_61 : decode b_Er_push 61 = .ok (.aload_n 0, 1) := by decide +kernel
theorem d_Er_push_62 : decode b_Er_push 62 = .ok (.iload_n 1, 1) := by decide +kernel
theorem d_Er_push_63 : decode b_Er_push 63 = .ok (.iconst 0, 1) := by decide +kernel
theorem d_Er_push_64 : decode b_Er_push 64 = .ok (.invokevirtual 74, 3) := by decide +kernel
theorem d_Er_push_67 : decode b_Er_push 67 = .ok (.invokevirtual 88, 3) := by decide +kernel
theorem d_Er_push_70 : decode b_Er_push 70 = .ok (.astore_n 2, 1) := by decide +kernel
theorem d_Er_push_71 : decode b_Er_push 71 = .ok (.iconst 1, 1) := by decide +kernel
theorem d_Er_push_72 : decode b_Er_push 72 = .ok (.istore_n 3, 1) := by decide +kernel
theorem d_Er_push_73 : decode b_Er_push 73 = .ok (.iload_n 3, 1) := by decide +kernel
theorem d_Er_push_74 : decode b_Er_push 74 = .ok (.iconst 3, 1) := by decide +kernel
theorem d_Er_push_75 : decode b_Er_push 75 = .ok (.if_icmp .gt 33, 3) := by decide +kernel
theorem d_Er_push_78 : decode b_Er_push 78 = .ok (.iload_n 3, 1) := by decide +kernel
theorem d_Er_push_79 : decode b_Er_push 79 = .ok (.iload_n 1, 1) := by decide +kernel
theorem d_Er_push_80 : decode b_Er_push 80 = .ok (.if_icmp .eq 22, 3) := by decide +kernel
theorem d_Er_push_83 : decode b_Er_push 83 = .ok (.aload_n 0, 1) := by decide +kernel
theorem d_Er_push_84 : decode b_Er_push 84 = .ok (.iload_n 3, 1) := by decide +kernel
theorem d_Er_push_85 : decode b_Er_push 85 = .ok (.iconst 0, 1) := by decide +kernel
theorem d_Er_push_86 : decode b_Er_push 86 = .ok (.invokevirtual 74, 3) := by decide +kernel
theorem d_Er_push_89 : decode b_Er_push 89 = .ok (.aload_n 2, 1) := by decide +kernel
theorem d_Er_push_90 : decode b_Er_push 90 = .ok (.aload_n 0, 1) := by decide +kernel
theorem d_Er_push_91 : decode b_Er_push 91 = .ok (.iload_n 3, 1) := by decide +kernel
theorem d_Er_push_92 : decode b_Er_push 92 = .ok (.iconst 1, 1) := by decide +kernel
theorem d_Er_push_93 : decode b_Er_push 93 = .ok (.invokevirtual 74, 3) := by decide +kernel
theorem d_Er_push_96 : decode b_Er_push 96 = .ok (.getfield 92, 3) := by decide +kernel
theorem d_Er_push_99 : decode b_Er_push 99 = .ok (.invokevirtual 95, 3) := by decide +kernel
theorem d_Er_push_102 : decode b_Er_push 102 = .ok (.iinc 3 1, 3) := by decide +kernel
theorem d_Er_push_105 : decode b_Er_push 105 = .ok (.goto (-32), 3) := by decide +kernel
theorem d_Er_push_108 : decode b_Er_push 108 = .ok (.aload_n 2, 1) := by decide +kernel
theorem d_Er_push_109 : decode b_Er_push 109 = .ok (.getfield 99, 3) := by decide +kernel
theorem d_Er_push_112 : decode b_Er_push 112 = .ok (.ireturn, 1) := by decide +kernel
theorem d_Er_quiet_0 : decode b_Er_quiet 0 = .ok (.iconst 1, 1) := by decide +kernel
theorem d_Er_quiet_1 : decode b_Er_quiet 1 = .ok (.istore_n 1, 1) := by decide +kernel
theorem d_Er_quiet_2 : decode b_Er_quiet 2 = .ok (.iload_n 1, 1) := by decide +kernel
theorem d_Er_quiet_3 : decode b_Er_quiet 3 = .ok (.iconst 3, 1) := by decide +kernel
theorem d_Er_quiet_4 : decode b_Er_quiet 4 = .ok (.if_icmp .gt 35, 3) := by decide +kernel
theorem d_Er_quiet_7 : decode b_Er_quiet 7 = .ok (.aload_n 0, 1) := by decide +kernel
theorem d_Er_quiet_8 : decode b_Er_quiet 8 = .ok (.iload_n 1, 1) := by decide +kernel
theorem d_Er_quiet_9 : decode b_Er_quiet 9 = .ok (.iconst 1, 1) := by decide +kernel
theorem d_Er_quiet_10 : decode b_Er_quiet 10 = .ok (.invokevirtual 74, 3) := by decide +kernel
theorem d_Er_quiet_13 : decode b_Er_quiet 13 = .ok (.invokevirtual 102, 3) := by decide +kernel
theorem d_Er_quiet_16 : decode b_Er_quiet 16 = .ok (.ifCond .gt 15, 3) := by decide +kernel
theorem d_Er_quiet_19 : decode b_Er_quiet 19 = .ok (.aload_n 0, 1) := by decide +kernel
theorem d_Er_quiet_20 : decode b_Er_quiet 20 = .ok (.iload_n 1, 1) := by decide +kernel
theorem d_Er_quiet_21 : decode b_Er_quiet 21 = .ok (.iconst 0, 1) := by decide +kernel
theorem d_Er_quiet_22 : decode b_Er_quiet 22 = .ok (.invokevirtual 74, 3) := by decide +kernel
theorem d_Er_quiet_25 : decode b_Er_quiet 25 = .ok (.invokevirtual 102, 3) := by decide +kernel
theorem d_Er_quiet_28 : decode b_Er_quiet 28 = .ok (.ifCond .le 5, 3) := by decide +kernel
theorem d_Er_quiet_31 : decode b_Er_quiet 31 = .ok (.iconst 0, 1) := by decide +kernel
theorem d_Er_quiet_32 : decode b_Er_quiet 32 = .ok (.ireturn, 1) := by decide +kernel
theorem d_Er_quiet_33 : decode b_Er_quiet 33 = .ok (.iinc 1 1, 3) := by decide +kernel
theorem d_Er_quiet_36 : decode b_Er_quiet 36 = .ok (.goto (-34), 3) := by decide +kernel
theorem d_Er_quiet_39 : decode b_Er_quiet 39 = .ok (.iconst 1, 1) := by decide +kernel
theorem d_Er_quiet_40 : decode b_Er_quiet 40 = .ok (.ireturn, 1) := by decide +kernel
theorem d_Er_receive_0 : decode b_Er_receive 0 = .ok (.aload_n 2, 1) := by decide +kernel
theorem d_Er_receive_1 : decode b_Er_receive 1 = .ok (.invokevirtual 149, 3) := by decide +kernel
theorem d_Er_receive_4 : decode b_Er_receive 4 = .ok (.astore 4, 2) := by decide +kernel
theorem d_Er_receive_6 : decode b_Er_receive 6 = .ok (.aload_n 3, 1) := by decide +kernel
theorem d_Er_receive_7 : decode b_Er_receive 7 = .ok (.aload_n 2, 1) := by decide +kernel
theorem d_Er_receive_8 : decode b_Er_receive 8 = .ok (.invokevirtual 153, 3) := by decide +kernel
theorem d_Er_receive_11 : decode b_Er_receive 11 = .ok (.invokevirtual 156, 3) := by decide +kernel
theorem d_Er_receive_14 : decode b_Er_receive 14 = .ok (.aload_n 3, 1) := by decide +kernel
theorem d_Er_receive_15 : decode b_Er_receive 15 = .ok (.aload 4, 2) := by decide +kernel
theorem d_Er_receive_17 : decode b_Er_receive 17 = .ok (.invokevirtual 159, 3) := by decide +kernel
theorem d_Er_receive_20 : decode b_Er_receive 20 = .ok (.aload_n 0, 1) := by decide +kernel
theorem d_Er_receive_21 : decode b_Er_receive 21 = .ok (.getfield 11, 3) := by decide +kernel
theorem d_Er_receive_24 : decode b_Er_receive 24 = .ok (.iload_n 1, 1) := by decide +kernel
theorem d_Er_receive_25 : decode b_Er_receive 25 = .ok (.aaload, 1) := by decide +kernel
theorem d_Er_receive_26 : decode b_Er_receive 26 = .ok (.aload 4, 2) := by decide +kernel
theorem d_Er_receive_28 : decode b_Er_receive 28 = .ok (.invokevirtual 145, 3) := by decide +kernel
theorem d_Er_receive_31 : decode b_Er_receive 31 = .ok (.aload_n 2, 1) := by decide +kernel
theorem d_Er_receive_32 : decode b_Er_receive 32 = .ok (.dup, 1) := by decide +kernel
theorem d_Er_receive_33 : decode b_Er_receive 33 = .ok (.getfield 92, 3) := by decide +kernel
theorem d_Er_receive_36 : decode b_Er_receive 36 = .ok (.iconst 1, 1) := by decide +kernel
theorem d_Er_receive_37 : decode b_Er_receive 37 = .ok (.iadd, 1) := by decide +kernel
theorem d_Er_receive_38 : decode b_Er_receive 38 = .ok (.putfield 92, 3) := by decide +kernel
theorem d_Er_receive_41 : decode b_Er_receive 41 = .ok (.aload 4, 2) := by decide +kernel
theorem d_Er_receive_43 : decode b_Er_receive 43 = .ok (.areturn, 1) := by decide +kernel
theorem d_Er_size_0 : decode b_Er_size 0 = .ok (.iload_n 1, 1) := by decide +kernel
theorem d_Er_size_1 : decode b_Er_size 1 = .ok (.invokestatic 121, 3) := by decide +kernel
theorem d_Er_size_4 : decode b_Er_size 4 = .ok (.aload_n 0, 1) := by decide +kernel
theorem d_Er_size_5 : decode b_Er_size 5 = .ok (.getfield 11, 3) := by decide +kernel
theorem d_Er_size_8 : decode b_Er_size 8 = .ok (.iload_n 1, 1) := by decide +kernel
theorem d_Er_size_9 : decode b_Er_size 9 = .ok (.aaload, 1) := by decide +kernel
theorem d_Er_size_10 : decode b_Er_size 10 = .ok (.getfield 45, 3) := by decide +kernel
theorem d_Er_size_13 : decode b_Er_size 13 = .ok (.ireturn, 1) := by decide +kernel
theorem d_Er_waiting_0 : decode b_Er_waiting 0 = .ok (.iload_n 1, 1) := by decide +kernel
theorem d_Er_waiting_1 : decode b_Er_waiting 1 = .ok (.invokestatic 35, 3) := by decide +kernel
theorem d_Er_waiting_4 : decode b_Er_waiting 4 = .ok (.aload_n 0, 1) := by decide +kernel
theorem d_Er_waiting_5 : decode b_Er_waiting 5 = .ok (.iload_n 1, 1) := by decide +kernel
theorem d_Er_waiting_6 : decode b_Er_waiting 6 = .ok (.iload_n 2, 1) := by decide +kernel
theorem d_Er_waiting_7 : decode b_Er_waiting 7 = .ok (.invokevirtual 74, 3) := by decide +kernel
theorem d_Er_waiting_10 : decode b_Er_waiting 10 = .ok (.invokevirtual 102, 3) := by decide +kernel
theorem d_Er_waiting_13 : decode b_Er_waiting 13 = .ok (.ireturn, 1) := by decide +kernel
theorem d_Er_way_0 : decode b_Er_way 0 = .ok (.iload_n 2, 1) := by decide +kernel
theorem d_Er_way_1 : decode b_Er_way 1 = .ok (.ifCond .eq 14, 3) := by decide +kernel
theorem d_Er_way_4 : decode b_Er_way 4 = .ok (.aload_n 0, 1) := by decide +kernel
theorem d_Er_way_5 : decode b_Er_way 5 = .ok (.getfield 18, 3) := by decide +kernel
theorem d_Er_way_8 : decode b_Er_way 8 = .ok (.iload_n 1, 1) := by decide +kernel
theorem d_Er_way_9 : decode b_Er_way 9 = .ok (.iconst 1, 1) := by decide +kernel
theorem d_Er_way_10 : decode b_Er_way 10 = .ok (.isub, 1) := by decide +kernel
theorem d_Er_way_11 : decode b_Er_way 11 = .ok (.aaload, 1) := by decide +kernel
theorem d_Er_way_12 : decode b_Er_way 12 = .ok (.goto 11, 3) := by decide +kernel
theorem d_Er_way_15 : decode b_Er_way 15 = .ok (.aload_n 0, 1) := by decide +kernel
theorem d_Er_way_16 : decode b_Er_way 16 = .ok (.getfield 22, 3) := by decide +kernel
theorem d_Er_way_19 : decode b_Er_way 19 = .ok (.iload_n 1, 1) := by decide +kernel
theorem d_Er_way_20 : decode b_Er_way 20 = .ok (.iconst 1, 1) := by decide +kernel
theorem d_Er_way_21 : decode b_Er_way 21 = .ok (.isub, 1) := by decide +kernel
theorem d_Er_way_22 : decode b_Er_way 22 = .ok (.aaload, 1) := by decide +kernel
theorem d_Er_way_23 : decode b_Er_way 23 = .ok (.areturn, 1) := by decide +kernel
theorem d_Ma_floorMod_0 : decode b_Ma_floorMod 0 = .ok (.iload_n 0, 1) := by decide +kernel
theorem d_Ma_floorMod_1 : decode b_Ma_floorMod 1 = .ok (.iload_n 1, 1) := by decide +kernel
theorem d_Ma_floorMod_2 : decode b_Ma_floorMod 2 = .ok (.irem, 1) := by decide +kernel
theorem d_Ma_floorMod_3 : decode b_Ma_floorMod 3 = .ok (.istore_n 2, 1) := by decide +kernel
theorem d_Ma_floorMod_4 : decode b_Ma_floorMod 4 = .ok (.iload_n 0, 1) := by decide +kernel
theorem d_Ma_floorMod_5 : decode b_Ma_floorMod 5 = .ok (.iload_n 1, 1) := by decide +kernel
theorem d_Ma_floorMod_6 : decode b_Ma_floorMod 6 = .ok (.ixor, 1) := by decide +kernel
theorem d_Ma_floorMod_7 : decode b_Ma_floorMod 7 = .ok (.ifCond .ge 11, 3) := by decide +kernel
theorem d_Ma_floorMod_10 : decode b_Ma_floorMod 10 = .ok (.iload_n 2, 1) := by decide +kernel
theorem d_Ma_floorMod_11 : decode b_Ma_floorMod 11 = .ok (.ifCond .eq 7, 3) := by decide +kernel
theorem d_Ma_floorMod_14 : decode b_Ma_floorMod 14 = .ok (.iload_n 2, 1) := by decide +kernel
theorem d_Ma_floorMod_15 : decode b_Ma_floorMod 15 = .ok (.iload_n 1, 1) := by decide +kernel
theorem d_Ma_floorMod_16 : decode b_Ma_floorMod 16 = .ok (.iadd, 1) := by decide +kernel
theorem d_Ma_floorMod_17 : decode b_Ma_floorMod 17 = .ok (.ireturn, 1) := by decide +kernel
theorem d_Ma_floorMod_18 : decode b_Ma_floorMod 18 = .ok (.iload_n 2, 1) := by decide +kernel
theorem d_Ma_floorMod_19 : decode b_Ma_floorMod 19 = .ok (.ireturn, 1) := by decide +kernel
theorem d_Ma_max_0 : decode b_Ma_max 0 = .ok (.iload_n 0, 1) := by decide +kernel
theorem d_Ma_max_1 : decode b_Ma_max 1 = .ok (.iload_n 1, 1) := by decide +kernel
theorem d_Ma_max_2 : decode b_Ma_max 2 = .ok (.if_icmp .lt 7, 3) := by decide +kernel
theorem d_Ma_max_5 : decode b_Ma_max 5 = .ok (.iload_n 0, 1) := by decide +kernel
theorem d_Ma_max_6 : decode b_Ma_max 6 = .ok (.goto 4, 3) := by decide +kernel
theorem d_Ma_max_9 : decode b_Ma_max 9 = .ok (.iload_n 1, 1) := by decide +kernel
theorem d_Ma_max_10 : decode b_Ma_max 10 = .ok (.ireturn, 1) := by decide +kernel
theorem d_Tx_init_0 : decode b_Tx_init 0 = .ok (.aload_n 0, 1) := by decide +kernel
theorem d_Tx_init_1 : decode b_Tx_init 1 = .ok (.invokespecial 3, 3) := by decide +kernel
theorem d_Tx_init_4 : decode b_Tx_init 4 = .ok (.aload_n 0, 1) := by decide +kernel
theorem d_Tx_init_5 : decode b_Tx_init 5 = .ok (.bipush 64, 2) := by decide +kernel
theorem d_Tx_init_7 : decode b_Tx_init 7 = .ok (.newarray .char, 2) := by decide +kernel
theorem d_Tx_init_9 : decode b_Tx_init 9 = .ok (.putfield 9, 3) := by decide +kernel
theorem d_Tx_init_12 : decode b_Tx_init 12 = .ok (.return_, 1) := by decide +kernel
theorem d_Tx_isSameAs_0 : decode b_Tx_isSameAs 0 = .ok (.aload_n 0, 1) := by decide +kernel
theorem d_Tx_isSameAs_1 : decode b_Tx_isSameAs 1 = .ok (.getfield 36, 3) := by decide +kernel
theorem d_Tx_isSameAs_4 : decode b_Tx_isSameAs 4 = .ok (.aload_n 1, 1) := by decide +kernel
theorem d_Tx_isSameAs_5 : decode b_Tx_isSameAs 5 = .ok (.getfield 36, 3) := by decide +kernel
theorem d_Tx_isSameAs_8 : decode b_Tx_isSameAs 8 = .ok (.if_icmp .eq 5, 3) := by decide +kernel
theorem d_Tx_isSameAs_11 : decode b_Tx_isSameAs 11 = .ok (.iconst 0, 1) := by decide +kernel
theorem d_Tx_isSameAs_12 : decode b_Tx_isSameAs 12 = .ok (.ireturn, 1) := by decide +kernel
theorem d_Tx_isSameAs_13 : decode b_Tx_isSameAs 13 = .ok (.iconst 0, 1) := by decide +kernel
theorem d_Tx_isSameAs_14 : decode b_Tx_isSameAs 14 = .ok (.istore_n 2, 1) := by decide +kernel
theorem d_Tx_isSameAs_15 : decode b_Tx_isSameAs 15 = .ok (.iload_n 2, 1) := by decide +kernel
theorem d_Tx_isSameAs_16 : decode b_Tx_isSameAs 16 = .ok (.aload_n 0, 1) := by decide +kernel
theorem d_Tx_isSameAs_17 : decode b_Tx_isSameAs 17 = .ok (.getfield 36, 3) := by decide +kernel
theorem d_Tx_isSameAs_20 : decode b_Tx_isSameAs 20 = .ok (.if_icmp .ge 26, 3) := by decide +kernel
theorem d_Tx_isSameAs_23 : decode b_Tx_isSameAs 23 = .ok (.aload_n 0, 1) := by decide +kernel
theorem d_Tx_isSameAs_24 : decode b_Tx_isSameAs 24 = .ok (.getfield 9, 3) := by decide +kernel
theorem d_Tx_isSameAs_27 : decode b_Tx_isSameAs 27 = .ok (.iload_n 2, 1) := by decide +kernel
theorem d_Tx_isSameAs_28 : decode b_Tx_isSameAs 28 = .ok (.caload, 1) := by decide +kernel
theorem d_Tx_isSameAs_29 : decode b_Tx_isSameAs 29 = .ok (.aload_n 1, 1) := by decide +kernel
theorem d_Tx_isSameAs_30 : decode b_Tx_isSameAs 30 = .ok (.getfield 9, 3) := by decide +kernel
theorem d_Tx_isSameAs_33 : decode b_Tx_isSameAs 33 = .ok (.iload_n 2, 1) := by decide +kernel
theorem d_Tx_isSameAs_34 : decode b_Tx_isSameAs 34 = .ok (.caload, 1) := by decide +kernel
theorem d_Tx_isSameAs_35 : decode b_Tx_isSameAs 35 = .ok (.if_icmp .eq 5, 3) := by decide +kernel
theorem d_Tx_isSameAs_38 : decode b_Tx_isSameAs 38 = .ok (.iconst 0, 1) := by decide +kernel
theorem d_Tx_isSameAs_39 : decode b_Tx_isSameAs 39 = .ok (.ireturn, 1) := by decide +kernel
theorem d_Tx_isSameAs_40 : decode b_Tx_isSameAs 40 = .ok (.iinc 2 1, 3) := by decide +kernel
theorem d_Tx_isSameAs_43 : decode b_Tx_isSameAs 43 = .ok (.goto (-28), 3) := by decide +kernel
theorem d_Tx_isSameAs_46 : decode b_Tx_isSameAs 46 = .ok (.iconst 1, 1) := by decide +kernel
theorem d_Tx_isSameAs_47 : decode b_Tx_isSameAs 47 = .ok (.ireturn, 1) := by decide +kernel
theorem d_Tx_perform_0 : decode b_Tx_perform 0 = .ok (.aload_n 1, 1) := by decide +kernel
theorem d_Tx_perform_1 : decode b_Tx_perform 1 = .ok (.getfield 15, 3) := by decide +kernel
theorem d_Tx_perform_4 : decode b_Tx_perform 4 = .ok (.ifCond .ne 18, 3) := by decide +kernel
theorem d_Tx_perform_7 : decode b_Tx_perform 7 = .ok (.aload_n 0, 1) := by decide +kernel
theorem d_Tx_perform_8 : decode b_Tx_perform 8 = .ok (.aload_n 1, 1) := by decide +kernel
theorem d_Tx_perform_9 : decode b_Tx_perform 9 = .ok (.getfield 21, 3) := by decide +kernel
theorem d_Tx_perform_12 : decode b_Tx_perform 12 = .ok (.aload_n 1, 1) := by decide +kernel
theorem d_Tx_perform_13 : decode b_Tx_perform 13 = .ok (.getfield 24, 3) := by decide +kernel
theorem d_Tx_perform_16 : decode b_Tx_perform 16 = .ok (.invokevirtual 28, 3) := by decide +kernel
theorem d_Tx_perform_19 : decode b_Tx_perform 19 = .ok (.goto 19, 3) := by decide +kernel
theorem d_Tx_perform_22 : decode b_Tx_perform 22 = .ok (.aload_n 1, 1) := by decide +kernel
theorem d_Tx_perform_23 : decode b_Tx_perform 23 = .ok (.getfield 15, 3) := by decide +kernel
theorem d_Tx_perform_26 : decode b_Tx_perform 26 = .ok (.iconst 1, 1) := by decide +kernel
theorem d_Tx_perform_27 : decode b_Tx_perform 27 = .ok (.if_icmp .ne 11, 3) := by decide +kernel
theorem d_Tx_perform_30 : decode b_Tx_perform 30 = .ok (.aload_n 0, 1) := by decide +kernel
theorem d_Tx_perform_31 : decode b_Tx_perform 31 = .ok (.aload_n 1, 1) := by decide +kernel
theorem d_Tx_perform_32 : decode b_Tx_perform 32 = .ok (.getfield 21, 3) := by decide +kernel
theorem d_Tx_perform_35 : decode b_Tx_perform 35 = .ok (.invokevirtual 32, 3) := by decide +kernel
theorem d_Tx_perform_38 : decode b_Tx_perform 38 = .ok (.return_, 1) := by decide +kernel
theorem d_Tx_put_0 : decode b_Tx_put 0 = .ok (.iload_n 1, 1) := by decide +kernel
theorem d_Tx_put_1 : decode b_Tx_put 1 = .ok (.ifCond .lt 20, 3) := by decide +kernel
theorem d_Tx_put_4 : decode b_Tx_put 4 = .ok (.iload_n 1, 1) := by decide +kernel
theorem d_Tx_put_5 : decode b_Tx_put 5 = .ok (.aload_n 0, 1) := by decide +kernel
theorem d_Tx_put_6 : decode b_Tx_put 6 = .ok (.getfield 36, 3) := by decide +kernel
theorem d_Tx_put_9 : decode b_Tx_put 9 = .ok (.if_icmp .gt 12, 3) := by decide +kernel
theorem d_Tx_put_12 : decode b_Tx_put 12 = .ok (.aload_n 0, 1) := by decide +kernel
theorem d_Tx_put_13 : decode b_Tx_put 13 = .ok (.getfield 36, 3) := by decide +kernel
theorem d_Tx_put_16 : decode b_Tx_put 16 = .ok (.bipush 64, 2) := by decide +kernel
theorem d_Tx_put_18 : decode b_Tx_put 18 = .ok (.if_icmp .lt 4, 3) := by decide +kernel
theorem d_Tx_put_21 : decode b_Tx_put 21 = .ok (.return_, 1) := by decide +kernel
theorem d_Tx_put_22 : decode b_Tx_put 22 = .ok (.aload_n 0, 1) := by decide +kernel
theorem d_Tx_put_23 : decode b_Tx_put 23 = .ok (.getfield 9, 3) := by decide +kernel
theorem d_Tx_put_26 : decode b_Tx_put 26 = .ok (.iload_n 1, 1) := by decide +kernel
theorem d_Tx_put_27 : decode b_Tx_put 27 = .ok (.aload_n 0, 1) := by decide +kernel
theorem d_Tx_put_28 : decode b_Tx_put 28 = .ok (.getfield 9, 3) := by decide +kernel
theorem d_Tx_put_31 : decode b_Tx_put 31 = .ok (.iload_n 1, 1) := by decide +kernel
theorem d_Tx_put_32 : decode b_Tx_put 32 = .ok (.iconst 1, 1) := by decide +kernel
theorem d_Tx_put_33 : decode b_Tx_put 33 = .ok (.iadd, 1) := by decide +kernel
theorem d_Tx_put_34 : decode b_Tx_put 34 = .ok (.aload_n 0, 1) := by decide +kernel
theorem d_Tx_put_35 : decode b_Tx_put 35 = .ok (.getfield 36, 3) := by decide +kernel
theorem d_Tx_put_38 : decode b_Tx_put 38 = .ok (.iload_n 1, 1) := by decide +kernel
theorem d_Tx_put_39 : decode b_Tx_put 39 = .ok (.isub, 1) := by decide +kernel
theorem d_Tx_put_40 : decode b_Tx_put 40 = .ok (.invokestatic 39, 3) := by decide +kernel
theorem d_Tx_put_43 : decode b_Tx_put 43 = .ok (.aload_n 0, 1) := by decide +kernel
theorem d_Tx_put_44 : decode b_Tx_put 44 = .ok (.getfield 9, 3) := by decide +kernel
theorem d_Tx_put_47 : decode b_Tx_put 47 = .ok (.iload_n 1, 1) := by decide +kernel
theorem d_Tx_put_48 : decode b_Tx_put 48 = .ok (.iload_n 2, 1) := by decide +kernel
theorem d_Tx_put_49 : decode b_Tx_put 49 = .ok (.castore, 1) := by decide +kernel
theorem d_Tx_put_50 : decode b_Tx_put 50 = .ok (.aload_n 0, 1) := by decide +kernel
theorem d_Tx_put_51 : decode b_Tx_put 51 = .ok (.dup, 1) := by decide +kernel
theorem d_Tx_put_52 : decode b_Tx_put 52 = .ok (.getfield 36, 3) := by decide +kernel
theorem d_Tx_put_55 : decode b_Tx_put 55 = .ok (.iconst 1, 1) := by decide +kernel
theorem d_Tx_put_56 : decode b_Tx_put 56 = .ok (.iadd, 1) := by decide +kernel
theorem d_Tx_put_57 : decode b_Tx_put 57 = .ok (.putfield 36, 3) := by decide +kernel
theorem d_Tx_put_60 : decode b_Tx_put 60 = .ok (.return_, 1) := by decide +kernel
theorem d_Tx_remove_0 : decode b_Tx_remove 0 = .ok (.iload_n 1, 1) := by decide +kernel
theorem d_Tx_remove_1 : decode b_Tx_remove 1 = .ok (.ifCond .lt 11, 3) := by decide +kernel
theorem d_Tx_remove_4 : decode b_Tx_remove 4 = .ok (.iload_n 1, 1) := by decide +kernel
theorem d_Tx_remove_5 : decode b_Tx_remove 5 = .ok (.aload_n 0, 1) := by decide +kernel
theorem d_Tx_remove_6 : decode b_Tx_remove 6 = .ok (.getfield 36, 3) := by decide +kernel
theorem d_Tx_remove_9 : decode b_Tx_remove 9 = .ok (.if_icmp .lt 4, 3) := by decide +kernel
theorem d_Tx_remove_12 : decode b_Tx_remove 12 = .ok (.return_, 1) := by decide +kernel
theorem d_Tx_remove_13 : decode b_Tx_remove 13 = .ok (.aload_n 0, 1) := by decide +kernel
theorem d_Tx_remove_14 : decode b_Tx_remove 14 = .ok (.getfield 9, 3) := by decide +kernel
theorem d_Tx_remove_17 : decode b_Tx_remove 17 = .ok (.iload_n 1, 1) := by decide +kernel
theorem d_Tx_remove_18 : decode b_Tx_remove 18 = .ok (.iconst 1, 1) := by decide +kernel
theorem d_Tx_remove_19 : decode b_Tx_remove 19 = .ok (.iadd, 1) := by decide +kernel
theorem d_Tx_remove_20 : decode b_Tx_remove 20 = .ok (.aload_n 0, 1) := by decide +kernel
theorem d_Tx_remove_21 : decode b_Tx_remove 21 = .ok (.getfield 9, 3) := by decide +kernel
theorem d_Tx_remove_24 : decode b_Tx_remove 24 = .ok (.iload_n 1, 1) := by decide +kernel
theorem d_Tx_remove_25 : decode b_Tx_remove 25 = .ok (.aload_n 0, 1) := by decide +kernel
theorem d_Tx_remove_26 : decode b_Tx_remove 26 = .ok (.getfield 36, 3) := by decide +kernel
theorem d_Tx_remove_29 : decode b_Tx_remove 29 = .ok (.iload_n 1, 1) := by decide +kernel
theorem d_Tx_remove_30 : decode b_Tx_remove 30 = .ok (.isub, 1) := by decide +kernel
theorem d_Tx_remove_31 : decode b_Tx_remove 31 = .ok (.iconst 1, 1) := by decide +kernel
theorem d_Tx_remove_32 : decode b_Tx_remove 32 = .ok (.isub, 1) := by decide +kernel
theorem d_Tx_remove_33 : decode b_Tx_remove 33 = .ok (.invokestatic 39, 3) := by decide +kernel
theorem d_Tx_remove_36 : decode b_Tx_remove 36 = .ok (.aload_n 0, 1) := by decide +kernel
theorem d_Tx_remove_37 : decode b_Tx_remove 37 = .ok (.dup, 1) := by decide +kernel
theorem d_Tx_remove_38 : decode b_Tx_remove 38 = .ok (.getfield 36, 3) := by decide +kernel
theorem d_Tx_remove_41 : decode b_Tx_remove 41 = .ok (.iconst 1, 1) := by decide +kernel
theorem d_Tx_remove_42 : decode b_Tx_remove 42 = .ok (.isub, 1) := by decide +kernel
theorem d_Tx_remove_43 : decode b_Tx_remove 43 = .ok (.putfield 36, 3) := by decide +kernel
theorem d_Tx_remove_46 : decode b_Tx_remove 46 = .ok (.return_, 1) := by decide +kernel
theorem d_Wy_fitOpenChanges_0 : decode b_Wy_fitOpenChanges 0 = .ok (.aload_n 0, 1) := by decide +kernel
theorem d_Wy_fitOpenChanges_1 : decode b_Wy_fitOpenChanges 1 = .ok (.invokevirtual 36, 3) := by decide +kernel
theorem d_Wy_fitOpenChanges_4 : decode b_Wy_fitOpenChanges 4 = .ok (.istore_n 2, 1) := by decide +kernel
theorem d_Wy_fitOpenChanges_5 : decode b_Wy_fitOpenChanges 5 = .ok (.iconst 0, 1) := by decide +kernel
theorem d_Wy_fitOpenChanges_6 : decode b_Wy_fitOpenChanges 6 = .ok (.istore_n 3, 1) := by decide +kernel
theorem d_Wy_fitOpenChanges_7 : decode b_Wy_fitOpenChanges 7 = .ok (.iload_n 3, 1) := by decide +kernel
theorem d_Wy_fitOpenChanges_8 : decode b_Wy_fitOpenChanges 8 = .ok (.iload_n 2, 1) := by decide +kernel
theorem d_Wy_fitOpenChanges_9 : decode b_Wy_fitOpenChanges 9 = .ok (.if_icmp .ge 18, 3) := by decide +kernel
theorem d_Wy_fitOpenChanges_12 : decode b_Wy_fitOpenChanges 12 = .ok (.aload_n 1, 1) := by decide +kernel
theorem d_Wy_fitOpenChanges_13 : decode b_Wy_fitOpenChanges 13 = .ok (.aload_n 0, 1) := by decide +kernel
theorem d_Wy_fitOpenChanges_14 : decode b_Wy_fitOpenChanges 14 = .ok (.iload_n 3, 1) := by decide +kernel
theorem d_Wy_fitOpenChanges_15 : decode b_Wy_fitOpenChanges 15 = .ok (.invokevirtual 54, 3) := by decide +kernel
theorem d_Wy_fitOpenChanges_18 : decode b_Wy_fitOpenChanges 18 = .ok (.invokestatic 58, 3) := by decide +kernel
theorem d_Wy_fitOpenChanges_21 : decode b_Wy_fitOpenChanges 21 = .ok (.iinc 3 1, 3) := by decide +kernel
theorem d_Wy_fitOpenChanges_24 : decode b_Wy_fitOpenChanges 24 = .ok (.goto (-17), 3) := by decide +kernel
theorem d_Wy_fitOpenChanges_27 : decode b_Wy_fitOpenChanges 27 = .ok (.return_, 1) := by decide +kernel
theorem d_Wy_forget_0 : decode b_Wy_forget 0 = .ok (.aload_n 0, 1) := by decide +kernel
theorem d_Wy_forget_1 : decode b_Wy_forget 1 = .ok (.aload_n 0, 1) := by decide +kernel
theorem d_Wy_forget_2 : decode b_Wy_forget 2 = .ok (.getfield 33, 3) := by decide +kernel
theorem d_Wy_forget_5 : decode b_Wy_forget 5 = .ok (.iload_n 1, 1) := by decide +kernel
theorem d_Wy_forget_6 : decode b_Wy_forget 6 = .ok (.invokestatic 48, 3) := by decide +kernel
theorem d_Wy_forget_9 : decode b_Wy_forget 9 = .ok (.putfield 33, 3) := by decide +kernel
theorem d_Wy_forget_12 : decode b_Wy_forget 12 = .ok (.return_, 1) := by decide +kernel
theorem d_Wy_init_0 : decode b_Wy_init 0 = .ok (.aload_n 0, 1) := by decide +kernel
theorem d_Wy_init_1 : decode b_Wy_init 1 = .ok (.invokespecial 1, 3) := by decide +kernel
theorem d_Wy_init_4 : decode b_Wy_init 4 = .ok (.aload_n 0, 1) := by decide +kernel
theorem d_Wy_init_5 : decode b_Wy_init 5 = .ok (.iload_n 1, 1) := by decide +kernel
theorem d_Wy_init_6 : decode b_Wy_init 6 = .ok (.putfield 7, 3) := by decide +kernel
theorem d_Wy_init_9 : decode b_Wy_init 9 = .ok (.aload_n 0, 1) := by decide +kernel
theorem d_Wy_init_10 : decode b_Wy_init 10 = .ok (.iload_n 1, 1) := by decide +kernel
theorem d_Wy_init_11 : decode b_Wy_init 11 = .ok (.anewarray 13, 3) := by decide +kernel
theorem d_Wy_init_14 : decode b_Wy_init 14 = .ok (.putfield 15, 3) := by decide +kernel
theorem d_Wy_init_17 : decode b_Wy_init 17 = .ok (.aload_n 0, 1) := by decide +kernel
theorem d_Wy_init_18 : decode b_Wy_init 18 = .ok (.iload_n 1, 1) := by decide +kernel
theorem d_Wy_init_19 : decode b_Wy_init 19 = .ok (.anewarray 13, 3) := by decide +kernel
theorem d_Wy_init_22 : decode b_Wy_init 22 = .ok (.putfield 19, 3) := by decide +kernel
theorem d_Wy_init_25 : decode b_Wy_init 25 = .ok (.aload_n 0, 1) := by decide +kernel
theorem d_Wy_init_26 : decode b_Wy_init 26 = .ok (.iload_n 1, 1) := by decide +kernel
theorem d_Wy_init_27 : decode b_Wy_init 27 = .ok (.newarray .int, 2) := by decide +kernel
theorem d_Wy_init_29 : decode b_Wy_init 29 = .ok (.putfield 22, 3) := by decide +kernel
theorem d_Wy_init_32 : decode b_Wy_init 32 = .ok (.iconst 0, 1) := by decide +kernel
theorem d_Wy_init_33 : decode b_Wy_init 33 = .ok (.istore_n 2, 1) := by decide +kernel
theorem d_Wy_init_34 : decode b_Wy_init 34 = .ok (.iload_n 2, 1) := by decide +kernel
theorem d_Wy_init_35 : decode b_Wy_init 35 = .ok (.iload_n 1, 1) := by decide +kernel
theorem d_Wy_init_36 : decode b_Wy_init 36 = .ok (.if_icmp .ge 35, 3) := by decide +kernel
theorem d_Wy_init_39 : decode b_Wy_init 39 = .ok (.aload_n 0, 1) := by decide +kernel
theorem d_Wy_init_40 : decode b_Wy_init 40 = .ok (.getfield 15, 3) := by decide +kernel
theorem d_Wy_init_43 : decode b_Wy_init 43 = .ok (.iload_n 2, 1) := by decide +kernel
theorem d_Wy_init_44 : decode b_Wy_init 44 = .ok (.new 13, 3) := by decide +kernel
theorem d_Wy_init_47 : decode b_Wy_init 47 = .ok (.dup, 1) := by decide +kernel
theorem d_Wy_init_48 : decode b_Wy_init 48 = .ok (.invokespecial 26, 3) := by decide +kernel
theorem d_Wy_init_51 : decode b_Wy_init 51 = .ok (.aastore, 1) := by decide +kernel
theorem d_Wy_init_52 : decode b_Wy_init 52 = .ok (.aload_n 0, 1) := by decide +kernel
theorem d_Wy_init_53 : decode b_Wy_init 53 = .ok (.getfield 19, 3) := by decide +kernel
theorem d_Wy_init_56 : decode b_Wy_init 56 = .ok (.iload_n 2, 1) := by decide +kernel
theorem d_Wy_init_57 : decode b_Wy_init 57 = .ok (.new 13, 3) := by decide +kernel
theorem d_Wy_init_60 : decode b_Wy_init 60 = .ok (.dup, 1) := by decide +kernel
theorem d_Wy_init_61 : decode b_Wy_init 61 = .ok (.invokespecial 26, 3) := by decide +kernel
theorem d_Wy_init_64 : decode b_Wy_init 64 = .ok (.aastore, 1) := by decide +kernel
theorem d_Wy_init_65 : decode b_Wy_init 65 = .ok (.iinc 2 1, 3) := by decide +kernel
theorem d_Wy_init_68 : decode b_Wy_init 68 = .ok (.goto (-34), 3) := by decide +kernel
theorem d_Wy_init_71 : decode b_Wy_init 71 = .ok (.return_, 1) := by decide +kernel
theorem d_Wy_isFull_0 : decode b_Wy_isFull 0 = .ok (.aload_n 0, 1) := by decide +kernel
theorem d_Wy_isFull_1 : decode b_Wy_isFull 1 = .ok (.invokevirtual 36, 3) := by decide +kernel
theorem d_Wy_isFull_4 : decode b_Wy_isFull 4 = .ok (.aload_n 0, 1) := by decide +kernel
theorem d_Wy_isFull_5 : decode b_Wy_isFull 5 = .ok (.getfield 7, 3) := by decide +kernel
theorem d_Wy_isFull_8 : decode b_Wy_isFull 8 = .ok (.if_icmp .lt 7, 3) := by decide +kernel
theorem d_Wy_isFull_11 : decode b_Wy_isFull 11 = .ok (.iconst 1, 1) := by decide +kernel
theorem d_Wy_isFull_12 : decode b_Wy_isFull 12 = .ok (.goto 4, 3) := by decide +kernel
theorem d_Wy_isFull_15 : decode b_Wy_isFull 15 = .ok (.iconst 0, 1) := by decide +kernel
theorem d_Wy_isFull_16 : decode b_Wy_isFull 16 = .ok (.ireturn, 1) := by decide +kernel
theorem d_Wy_oldestChange_0 : decode b_Wy_oldestChange 0 = .ok (.aload_n 0, 1) := by decide +kernel
theorem d_Wy_oldestChange_1 : decode b_Wy_oldestChange 1 = .ok (.getfield 15, 3) := by decide +kernel
theorem d_Wy_oldestChange_4 : decode b_Wy_oldestChange 4 = .ok (.aload_n 0, 1) := by decide +kernel
theorem d_Wy_oldestChange_5 : decode b_Wy_oldestChange 5 = .ok (.aload_n 0, 1) := by decide +kernel
theorem d_Wy_oldestChange_6 : decode b_Wy_oldestChange 6 = .ok (.getfield 30, 3) := by decide +kernel
theorem d_Wy_oldestChange_9 : decode b_Wy_oldestChange 9 = .ok (.invokevirtual 40, 3) := by decide +kernel
theorem d_Wy_oldestChange_12 : decode b_Wy_oldestChange 12 = .ok (.aaload, 1) := by decide +kernel
theorem d_Wy_oldestChange_13 : decode b_Wy_oldestChange 13 = .ok (.areturn, 1) := by decide +kernel
theorem d_Wy_oldestHeard_0 : decode b_Wy_oldestHeard 0 = .ok (.aload_n 0, 1) := by decide +kernel
theorem d_Wy_oldestHeard_1 : decode b_Wy_oldestHeard 1 = .ok (.getfield 22, 3) := by decide +kernel
theorem d_Wy_oldestHeard_4 : decode b_Wy_oldestHeard 4 = .ok (.aload_n 0, 1) := by decide +kernel
theorem d_Wy_oldestHeard_5 : decode b_Wy_oldestHeard 5 = .ok (.aload_n 0, 1) := by decide +kernel
theorem d_Wy_oldestHeard_6 : decode b_Wy_oldestHeard 6 = .ok (.getfield 30, 3) := by decide +kernel
theorem d_Wy_oldestHeard_9 : decode b_Wy_oldestHeard 9 = .ok (.invokevirtual 40, 3) := by decide +kernel
theorem d_Wy_oldestHeard_12 : decode b_Wy_oldestHeard 12 = .ok (.iaload, 1) := by decide +kernel
theorem d_Wy_oldestHeard_13 : decode b_Wy_oldestHeard 13 = .ok (.ireturn, 1) := by decide +kernel
theorem d_Wy_openChange_0 : decode b_Wy_openChange 0 = .ok (.aload_n 0, 1) := by decide +kernel
theorem d_Wy_openChange_1 : decode b_Wy_openChange 1 = .ok (.getfield 19, 3) := by decide +kernel
theorem d_Wy_openChange_4 : decode b_Wy_openChange 4 = .ok (.aload_n 0, 1) := by decide +kernel
theorem d_Wy_openChange_5 : decode b_Wy_openChange 5 = .ok (.aload_n 0, 1) := by decide +kernel
theorem d_Wy_openChange_6 : decode b_Wy_openChange 6 = .ok (.getfield 33, 3) := by decide +kernel
theorem d_Wy_openChange_9 : decode b_Wy_openChange 9 = .ok (.iload_n 1, 1) := by decide +kernel
theorem d_Wy_openChange_10 : decode b_Wy_openChange 10 = .ok (.iadd, 1) := by decide +kernel
theorem d_Wy_openChange_11 : decode b_Wy_openChange 11 = .ok (.invokevirtual 40, 3) := by decide +kernel
theorem d_Wy_openChange_14 : decode b_Wy_openChange 14 = .ok (.aaload, 1) := by decide +kernel
theorem d_Wy_openChange_15 : decode b_Wy_openChange 15 = .ok (.areturn, 1) := by decide +kernel
theorem d_Wy_openCount_0 : decode b_Wy_openCount 0 = .ok (.aload_n 0, 1) := by decide +kernel
theorem d_Wy_openCount_1 : decode b_Wy_openCount 1 = .ok (.getfield 27, 3) := by decide +kernel
theorem d_Wy_openCount_4 : decode b_Wy_openCount 4 = .ok (.aload_n 0, 1) := by decide +kernel
theorem d_Wy_openCount_5 : decode b_Wy_openCount 5 = .ok (.getfield 33, 3) := by decide +kernel
theorem d_Wy_openCount_8 : decode b_Wy_openCount 8 = .ok (.isub, 1) := by decide +kernel
theorem d_Wy_openCount_9 : decode b_Wy_openCount 9 = .ok (.ireturn, 1) := by decide +kernel
theorem d_Wy_send_0 : decode b_Wy_send 0 = .ok (.aload_n 0, 1) := by decide +kernel
theorem d_Wy_send_1 : decode b_Wy_send 1 = .ok (.aload_n 0, 1) := by decide +kernel
theorem d_Wy_send_2 : decode b_Wy_send 2 = .ok (.getfield 27, 3) := by decide +kernel
theorem d_Wy_send_5 : decode b_Wy_send 5 = .ok (.invokevirtual 40, 3) := by decide +kernel
theorem d_Wy_send_8 : decode b_Wy_send 8 = .ok (.istore_n 3, 1) := by decide +kernel
theorem d_Wy_send_9 : decode b_Wy_send 9 = .ok (.aload_n 0, 1) := by decide +kernel
theorem d_Wy_send_10 : decode b_Wy_send 10 = .ok (.getfield 15, 3) := by decide +kernel
theorem d_Wy_send_13 : decode b_Wy_send 13 = .ok (.iload_n 3, 1) := by decide +kernel
theorem d_Wy_send_14 : decode b_Wy_send 14 = .ok (.aaload, 1) := by decide +kernel
theorem d_Wy_send_15 : decode b_Wy_send 15 = .ok (.aload_n 1, 1) := by decide +kernel
theorem d_Wy_send_16 : decode b_Wy_send 16 = .ok (.invokevirtual 44, 3) := by decide +kernel
theorem d_Wy_send_19 : decode b_Wy_send 19 = .ok (.aload_n 0, 1) := by decide +kernel
theorem d_Wy_send_20 : decode b_Wy_send 20 = .ok (.getfield 19, 3) := by decide +kernel
theorem d_Wy_send_23 : decode b_Wy_send 23 = .ok (.iload_n 3, 1) := by decide +kernel
theorem d_Wy_send_24 : decode b_Wy_send 24 = .ok (.aaload, 1) := by decide +kernel
theorem d_Wy_send_25 : decode b_Wy_send 25 = .ok (.aload_n 1, 1) := by decide +kernel
theorem d_Wy_send_26 : decode b_Wy_send 26 = .ok (.invokevirtual 44, 3) := by decide +kernel
theorem d_Wy_send_29 : decode b_Wy_send 29 = .ok (.aload_n 0, 1) := by decide +kernel
theorem d_Wy_send_30 : decode b_Wy_send 30 = .ok (.getfield 22, 3) := by decide +kernel
theorem d_Wy_send_33 : decode b_Wy_send 33 = .ok (.iload_n 3, 1) := by decide +kernel
theorem d_Wy_send_34 : decode b_Wy_send 34 = .ok (.iload_n 2, 1) := by decide +kernel
theorem d_Wy_send_35 : decode b_Wy_send 35 = .ok (.iastore, 1) := by decide +kernel
theorem d_Wy_send_36 : decode b_Wy_send 36 = .ok (.aload_n 0, 1) := by decide +kernel
theorem d_Wy_send_37 : decode b_Wy_send 37 = .ok (.dup, 1) := by decide +kernel
theorem d_Wy_send_38 : decode b_Wy_send 38 = .ok (.getfield 27, 3) := by decide +kernel
theorem d_Wy_send_41 : decode b_Wy_send 41 = .ok (.iconst 1, 1) := by decide +kernel
theorem d_Wy_send_42 : decode b_Wy_send 42 = .ok (.iadd, 1) := by decide +kernel
theorem d_Wy_send_43 : decode b_Wy_send 43 = .ok (.putfield 27, 3) := by decide +kernel
theorem d_Wy_send_46 : decode b_Wy_send 46 = .ok (.return_, 1) := by decide +kernel
theorem d_Wy_slotOf_0 : decode b_Wy_slotOf 0 = .ok (.iload_n 1, 1) := by decide +kernel
theorem d_Wy_slotOf_1 : decode b_Wy_slotOf 1 = .ok (.aload_n 0, 1) := by decide +kernel
theorem d_Wy_slotOf_2 : decode b_Wy_slotOf 2 = .ok (.getfield 7, 3) := by decide +kernel
theorem d_Wy_slotOf_5 : decode b_Wy_slotOf 5 = .ok (.invokestatic 62, 3) := by decide +kernel
theorem d_Wy_slotOf_8 : decode b_Wy_slotOf 8 = .ok (.ireturn, 1) := by decide +kernel
theorem d_Wy_waitingCount_0 : decode b_Wy_waitingCount 0 = .ok (.aload_n 0, 1) := by decide +kernel
theorem d_Wy_waitingCount_1 : decode b_Wy_waitingCount 1 = .ok (.getfield 27, 3) := by decide +kernel
theorem d_Wy_waitingCount_4 : decode b_Wy_waitingCount 4 = .ok (.aload_n 0, 1) := by decide +kernel
theorem d_Wy_waitingCount_5 : decode b_Wy_waitingCount 5 = .ok (.getfield 30, 3) := by decide +kernel
theorem d_Wy_waitingCount_8 : decode b_Wy_waitingCount 8 = .ok (.isub, 1) := by decide +kernel
theorem d_Wy_waitingCount_9 : decode b_Wy_waitingCount 9 = .ok (.ireturn, 1) := by decide +kernel
end
section
/-! each instruction, decoded (written by wip/whole/names.py) -/
theorem d_Mo_alike_0 : decode b_Mo_alike 0 = .ok (.aload_n 0, 1) := by decide +kernel
theorem d_Mo_alike_1 : decode b_Mo_alike 1 = .ok (.iconst 0, 1) := by decide +kernel
theorem d_Mo_alike_2 : decode b_Mo_alike 2 = .ok (.putfield 56, 3) := by decide +kernel
theorem d_Mo_alike_5 : decode b_Mo_alike 5 = .ok (.iconst 1, 1) := by decide +kernel
theorem d_Mo_alike_6 : decode b_Mo_alike 6 = .ok (.istore_n 1, 1) := by decide +kernel
theorem d_Mo_alike_7 : decode b_Mo_alike 7 = .ok (.iconst 1, 1) := by decide +kernel
theorem d_Mo_alike_8 : decode b_Mo_alike 8 = .ok (.istore_n 2, 1) := by decide +kernel
theorem d_Mo_alike_9 : decode b_Mo_alike 9 = .ok (.iload_n 2, 1) := by decide +kernel
theorem d_Mo_alike_10 : decode b_Mo_alike 10 = .ok (.iconst 3, 1) := by decide +kernel
theorem d_Mo_alike_11 : decode b_Mo_alike 11 = .ok (.if_icmp .gt 83, 3) := by decide +kernel
theorem d_Mo_alike_14 : decode b_Mo_alike 14 = .ok (.iload_n 1, 1) := by decide +kernel
theorem d_Mo_alike_15 : decode b_Mo_alike 15 = .ok (.ifCond .eq 22, 3) := by decide +kernel
theorem d_Mo_alike_18 : decode b_Mo_alike 18 = .ok (.aload_n 0, 1) := by decide +kernel
theorem d_Mo_alike_19 : decode b_Mo_alike 19 = .ok (.getfield 7, 3) := by decide +kernel
theorem d_Mo_alike_22 : decode b_Mo_alike 22 = .ok (.iload_n 2, 1) := by decide +kernel
theorem d_Mo_alike_23 : decode b_Mo_alike 23 = .ok (.iaload, 1) := by decide +kernel
theorem d_Mo_alike_24 : decode b_Mo_alike 24 = .ok (.aload_n 0, 1) := by decide +kernel
theorem d_Mo_alike_25 : decode b_Mo_alike 25 = .ok (.getfield 7, 3) := by decide +kernel
theorem d_Mo_alike_28 : decode b_Mo_alike 28 = .ok (.iconst 0, 1) := by decide +kernel
theorem d_Mo_alike_29 : decode b_Mo_alike 29 = .ok (.iaload, 1) := by decide +kernel
theorem d_Mo_alike_30 : decode b_Mo_alike 30 = .ok (.if_icmp .ne 7, 3) := by decide +kernel
theorem d_Mo_alike_33 : decode b_Mo_alike 33 = .ok (.iconst 1, 1) := by decide +kernel
theorem d_Mo_alike_34 : decode b_Mo_alike 34 = .ok (.goto 4, 3) := by decide +kernel
theorem d_Mo_alike_37 : decode b_Mo_alike 37 = .ok (.iconst 0, 1) := by decide +kernel
theorem d_Mo_alike_38 : decode b_Mo_alike 38 = .ok (.istore_n 1, 1) := by decide +kernel
theorem d_Mo_alike_39 : decode b_Mo_alike 39 = .ok (.iconst 0, 1) := by decide +kernel
theorem d_Mo_alike_40 : decode b_Mo_alike 40 = .ok (.istore_n 3, 1) := by decide +kernel
theorem d_Mo_alike_41 : decode b_Mo_alike 41 = .ok (.iload_n 3, 1) := by decide +kernel
theorem d_Mo_alike_42 : decode b_Mo_alike 42 = .ok (.aload_n 0, 1) := by decide +kernel
theorem d_Mo_alike_43 : decode b_Mo_alike 43 = .ok (.getfield 7, 3) := by decide +kernel
theorem d_Mo_alike_46 : decode b_Mo_alike 46 = .ok (.iconst 0, 1) := by decide +kernel
theorem d_Mo_alike_47 : decode b_Mo_alike 47 = .ok (.iaload, 1) := by decide +kernel
theorem d_Mo_alike_48 : decode b_Mo_alike 48 = .ok (.if_icmp .ge 40, 3) := by decide +kernel
theorem d_Mo_alike_51 : decode b_Mo_alike 51 = .ok (.iload_n 1, 1) := by decide +kernel
theorem d_Mo_alike_52 : decode b_Mo_alike 52 = .ok (.ifCond .eq 36, 3) := by decide +kernel
theorem d_Mo_alike_55 : decode b_Mo_alike 55 = .ok (.aload_n 0, 1) := by decide +kernel
theorem d_Mo_alike_56 : decode b_Mo_alike 56 = .ok (.getfield 13, 3) := by decide +kernel
theorem d_Mo_alike_59 : decode b_Mo_alike 59 = .ok (.iload_n 3, 1) := by decide +kernel
theorem d_Mo_alike_60 : decode b_Mo_alike 60 = .ok (.caload, 1) := by decide +kernel
theorem d_Mo_alike_61 : decode b_Mo_alike 61 = .ok (.aload_n 0, 1) := by decide +kernel
theorem d_Mo_alike_62 : decode b_Mo_alike 62 = .ok (.getfield 13, 3) := by decide +kernel
theorem d_Mo_alike_65 : decode b_Mo_alike 65 = .ok (.sipush 200, 3) := by decide +kernel
theorem d_Mo_alike_68 : decode b_Mo_alike 68 = .ok (.iload_n 2, 1) := by decide +kernel
theorem d_Mo_alike_69 : decode b_Mo_alike 69 = .ok (.imul, 1) := by decide +kernel
theorem d_Mo_alike_70 : decode b_Mo_alike 70 = .ok (.iload_n 3, 1) := by decide +kernel
theorem d_Mo_alike_71 : decode b_Mo_alike 71 = .ok (.iadd, 1) := by decide +kernel
theorem d_Mo_alike_72 : decode b_Mo_alike 72 = .ok (.caload, 1) := by decide +kernel
theorem d_Mo_alike_73 : decode b_Mo_alike 73 = .ok (.if_icmp .ne 7, 3) := by decide +kernel
theorem d_Mo_alike_76 : decode b_Mo_alike 76 = .ok (.iconst 1, 1) := by decide +kernel
theorem d_Mo_alike_77 : decode b_Mo_alike 77 = .ok (.goto 4, 3) := by decide +kernel
theorem d_Mo_alike_80 : decode b_Mo_alike 80 = .ok (.iconst 0, 1) := by decide +kernel
theorem d_Mo_alike_81 : decode b_Mo_alike 81 = .ok (.istore_n 1, 1) := by decide +kernel
theorem d_Mo_alike_82 : decode b_Mo_alike 82 = .ok (.iinc 3 1, 3) := by decide +kernel
theorem d_Mo_alike_85 : decode b_Mo_alike 85 = .ok (.goto (-44), 3) := by decide +kernel
theorem d_Mo_alike_88 : decode b_Mo_alike 88 = .ok (.iinc 2 1, 3) := by decide +kernel
theorem d_Mo_alike_91 : decode b_Mo_alike 91 = .ok (.goto (-82), 3) := by decide +kernel
theorem d_Mo_alike_94 : decode b_Mo_alike 94 = .ok (.iload_n 1, 1) := by decide +kernel
theorem d_Mo_alike_95 : decode b_Mo_alike 95 = .ok (.ireturn, 1) := by decide +kernel
theorem d_Mo_apply_0 : decode b_Mo_apply 0 = .ok (.sipush 200, 3) := by decide +kernel
theorem d_Mo_apply_3 : decode b_Mo_apply 3 = .ok (.iload_n 1, 1) := by decide +kernel
theorem d_Mo_apply_4 : decode b_Mo_apply 4 = .ok (.imul, 1) := by decide +kernel
theorem d_Mo_apply_5 : decode b_Mo_apply 5 = .ok (.istore_n 2, 1) := by decide +kernel
theorem d_Mo_apply_6 : decode b_Mo_apply 6 = .ok (.aload_n 0, 1) := by decide +kernel
theorem d_Mo_apply_7 : decode b_Mo_apply 7 = .ok (.getfield 60, 3) := by decide +kernel
theorem d_Mo_apply_10 : decode b_Mo_apply 10 = .ok (.ifCond .ne 71, 3) := by decide +kernel
theorem d_Mo_apply_13 : decode b_Mo_apply 13 = .ok (.iload_n 2, 1) := by decide +kernel
theorem d_Mo_apply_14 : decode b_Mo_apply 14 = .ok (.aload_n 0, 1) := by decide +kernel
theorem d_Mo_apply_15 : decode b_Mo_apply 15 = .ok (.getfield 7, 3) := by decide +kernel
theorem d_Mo_apply_18 : decode b_Mo_apply 18 = .ok (.iload_n 1, 1) := by decide +kernel
theorem d_Mo_apply_19 : decode b_Mo_apply 19 = .ok (.iaload, 1) := by decide +kernel
theorem d_Mo_apply_20 : decode b_Mo_apply 20 = .ok (.iadd, 1) := by decide +kernel
theorem d_Mo_apply_21 : decode b_Mo_apply 21 = .ok (.istore_n 3, 1) := by decide +kernel
theorem d_Mo_apply_22 : decode b_Mo_apply 22 = .ok (.iload_n 3, 1) := by decide +kernel
theorem d_Mo_apply_23 : decode b_Mo_apply 23 = .ok (.iload_n 2, 1) := by decide +kernel
theorem d_Mo_apply_24 : decode b_Mo_apply 24 = .ok (.aload_n 0, 1) := by decide +kernel
theorem d_Mo_apply_25 : decode b_Mo_apply 25 = .ok (.getfield 63, 3) := by decide +kernel
theorem d_Mo_apply_28 : decode b_Mo_apply 28 = .ok (.iadd, 1) := by decide +kernel
theorem d_Mo_apply_29 : decode b_Mo_apply 29 = .ok (.if_icmp .le 23, 3) := by decide +kernel
theorem d_Mo_apply_32 : decode b_Mo_apply 32 = .ok (.aload_n 0, 1) := by decide +kernel
theorem d_Mo_apply_33 : decode b_Mo_apply 33 = .ok (.getfield 13, 3) := by decide +kernel
theorem d_Mo_apply_36 : decode b_Mo_apply 36 = .ok (.iload_n 3, 1) := by decide +kernel
theorem d_Mo_apply_37 : decode b_Mo_apply 37 = .ok (.aload_n 0, 1) := by decide +kernel
theorem d_Mo_apply_38 : decode b_Mo_apply 38 = .ok (.getfield 13, 3) := by decide +kernel
theorem d_Mo_apply_41 : decode b_Mo_apply 41 = .ok (.iload_n 3, 1) := by decide +kernel
theorem d_Mo_apply_42 : decode b_Mo_apply 42 = .ok (.iconst 1, 1) := by decide +kernel
theorem d_Mo_apply_43 : decode b_Mo_apply 43 = .ok (.isub, 1) := by decide +kernel
theorem d_Mo_apply_44 : decode b_Mo_apply 44 = .ok (.caload, 1) := by decide +kernel
theorem d_Mo_apply_45 : decode b_Mo_apply 45 = .ok (.castore, 1) := by decide +kernel
theorem d_Mo_apply_46 : decode b_Mo_apply 46 = .ok (.iinc 3 (-1), 3) := by decide +kernel
theorem d_Mo_apply_49 : decode b_Mo_apply 49 = .ok (.goto (-27), 3) := by decide +kernel
theorem d_Mo_apply_52 : decode b_Mo_apply 52 = .ok (.aload_n 0, 1) := by decide +kernel
theorem d_Mo_apply_53 : decode b_Mo_apply 53 = .ok (.getfield 13, 3) := by decide +kernel
theorem d_Mo_apply_56 : decode b_Mo_apply 56 = .ok (.iload_n 2, 1) := by decide +kernel
theorem d_Mo_apply_57 : decode b_Mo_apply 57 = .ok (.aload_n 0, 1) := by decide +kernel
theorem d_Mo_apply_58 : decode b_Mo_apply 58 = .ok (.getfield 63, 3) := by decide +kernel
theorem d_Mo_apply_61 : decode b_Mo_apply 61 = .ok (.iadd, 1) := by decide +kernel
theorem d_Mo_apply_62 : decode b_Mo_apply 62 = .ok (.aload_n 0, 1) := by decide +kernel
theorem d_Mo_apply_63 : decode b_Mo_apply 63 = .ok (.getfield 66, 3) := by decide +kernel
theorem d_Mo_apply_66 : decode b_Mo_apply 66 = .ok (.i2c, 1) := by decide +kernel
theorem d_Mo_apply_67 : decode b_Mo_apply 67 = .ok (.castore, 1) := by decide +kernel
theorem d_Mo_apply_68 : decode b_Mo_apply 68 = .ok (.aload_n 0, 1) := by decide +kernel
theorem d_Mo_apply_69 : decode b_Mo_apply 69 = .ok (.getfield 7, 3) := by decide +kernel
theorem d_Mo_apply_72 : decode b_Mo_apply 72 = .ok (.iload_n 1, 1) := by decide +kernel
theorem d_Mo_apply_73 : decode b_Mo_apply 73 = .ok (.dup2, 1) := by decide +kernel
theorem d_Mo_apply_74 : decode b_Mo_apply 74 = .ok (.iaload, 1) := by decide +kernel
theorem d_Mo_apply_75 : decode b_Mo_apply 75 = .ok (.iconst 1, 1) := by decide +kernel
theorem d_Mo_apply_76 : decode b_Mo_apply 76 = .ok (.iadd, 1) := by decide +kernel
theorem d_Mo_apply_77 : decode b_Mo_apply 77 = .ok (.iastore, 1) := by decide +kernel
theorem d_Mo_apply_78 : decode b_Mo_apply 78 = .ok (.goto 60, 3) := by decide +kernel
theorem d_Mo_apply_81 : decode b_Mo_apply 81 = .ok (.aload_n 0, 1) := by decide +kernel
theorem d_Mo_apply_82 : decode b_Mo_apply 82 = .ok (.getfield 60, 3) := by decide +kernel
theorem d_Mo_apply_85 : decode b_Mo_apply 85 = .ok (.iconst 1, 1) := by decide +kernel
theorem d_Mo_apply_86 : decode b_Mo_apply 86 = .ok (.if_icmp .ne 52, 3) := by decide +kernel
theorem d_Mo_apply_89 : decode b_Mo_apply 89 = .ok (.aload_n 0, 1) := by decide +kernel
theorem d_Mo_apply_90 : decode b_Mo_apply 90 = .ok (.getfield 7, 3) := by decide +kernel
theorem d_Mo_apply_93 : decode b_Mo_apply 93 = .ok (.iload_n 1, 1) := by decide +kernel
theorem d_Mo_apply_94 : decode b_Mo_apply 94 = .ok (.dup2, 1) := by decide +kernel
theorem d_Mo_apply_95 : decode b_Mo_apply 95 = .ok (.iaload, 1) := by decide +kernel
theorem d_Mo_apply_96 : decode b_Mo_apply 96 = .ok (.iconst 1, 1) := by decide +kernel
theorem d_Mo_apply_97 : decode b_Mo_apply 97 = .ok (.isub, 1) := by decide +kernel
theorem d_Mo_apply_98 : decode b_Mo_apply 98 = .ok (.iastore, 1) := by decide +kernel
theorem d_Mo_apply_99 : decode b_Mo_apply 99 = .ok (.iload_n 2, 1) := by decide +kernel
theorem d_Mo_apply_100 : decode b_Mo_apply 100 = .ok (.aload_n 0, 1) := by decide +kernel
theorem d_Mo_apply_101 : decode b_Mo_apply 101 = .ok (.getfield 63, 3) := by decide +kernel
theorem d_Mo_apply_104 : decode b_Mo_apply 104 = .ok (.iadd, 1) := by decide +kernel
theorem d_Mo_apply_105 : decode b_Mo_apply 105 = .ok (.istore_n 3, 1) := by decide +kernel
theorem d_Mo_apply_106 : decode b_Mo_apply 106 = .ok (.iload_n 3, 1) := by decide +kernel
theorem d_Mo_apply_107 : decode b_Mo_apply 107 = .ok (.iload_n 2, 1) := by decide +kernel
theorem d_Mo_apply_108 : decode b_Mo_apply 108 = .ok (.aload_n 0, 1) := by decide +kernel
theorem d_Mo_apply_109 : decode b_Mo_apply 109 = .ok (.getfield 7, 3) := by decide +kernel
theorem d_Mo_apply_112 : decode b_Mo_apply 112 = .ok (.iload_n 1, 1) := by decide +kernel
theorem d_Mo_apply_113 : decode b_Mo_apply 113 = .ok (.iaload, 1) := by decide +kernel
theorem d_Mo_apply_114 : decode b_Mo_apply 114 = .ok (.iadd, 1) := by decide +kernel
theorem d_Mo_apply_115 : decode b_Mo_apply 115 = .ok (.if_icmp .ge 23, 3) := by decide +kernel
theorem d_Mo_apply_118 : decode b_Mo_apply 118 = .ok (.aload_n 0, 1) := by decide +kernel
theorem d_Mo_apply_119 : decode b_Mo_apply 119 = .ok (.getfield 13, 3) := by decide +kernel
theorem d_Mo_apply_122 : decode b_Mo_apply 122 = .ok (.iload_n 3, 1) := by decide +kernel
theorem d_Mo_apply_123 : decode b_Mo_apply 123 = .ok (.aload_n 0, 1) := by decide +kernel
theorem d_Mo_apply_124 : decode b_Mo_apply 124 = .ok (.getfield 13, 3) := by decide +kernel
theorem d_Mo_apply_127 : decode b_Mo_apply 127 = .ok (.iload_n 3, 1) := by decide +kernel
theorem d_Mo_apply_128 : decode b_Mo_apply 128 = .ok (.iconst 1, 1) := by decide +kernel
theorem d_Mo_apply_129 : decode b_Mo_apply 129 = .ok (.iadd, 1) := by decide +kernel
theorem d_Mo_apply_130 : decode b_Mo_apply 130 = .ok (.caload, 1) := by decide +kernel
theorem d_Mo_apply_131 : decode b_Mo_apply 131 = .ok (.castore, 1) := by decide +kernel
theorem d_Mo_apply_132 : decode b_Mo_apply 132 = .ok (.iinc 3 1, 3) := by decide +kernel
theorem d_Mo_apply_135 : decode b_Mo_apply 135 = .ok (.goto (-29), 3) := by decide +kernel
theorem d_Mo_apply_138 : decode b_Mo_apply 138 = .ok (.return_, 1) := by decide +kernel
theorem d_Mo_back_0 : decode b_Mo_back 0 = .ok (.iload_n 0, 1) := by decide +kernel
theorem d_Mo_back_1 : decode b_Mo_back 1 = .ok (.iconst 2, 1) := by decide +kernel
theorem d_Mo_back_2 : decode b_Mo_back 2 = .ok (.irem, 1) := by decide +kernel
theorem d_Mo_back_3 : decode b_Mo_back 3 = .ok (.ifCond .ne 9, 3) := by decide +kernel
theorem d_Mo_back_6 : decode b_Mo_back 6 = .ok (.iload_n 0, 1) := by decide +kernel
theorem d_Mo_back_7 : decode b_Mo_back 7 = .ok (.iconst 1, 1) := by decide +kernel
theorem d_Mo_back_8 : decode b_Mo_back 8 = .ok (.iadd, 1) := by decide +kernel
theorem d_Mo_back_9 : decode b_Mo_back 9 = .ok (.goto 6, 3) := by decide +kernel
theorem d_Mo_back_12 : decode b_Mo_back 12 = .ok (.iload_n 0, 1) := by decide +kernel
theorem d_Mo_back_13 : decode b_Mo_back 13 = .ok (.iconst 1, 1) := by decide +kernel
theorem d_Mo_back_14 : decode b_Mo_back 14 = .ok (.isub, 1) := by decide +kernel
theorem d_Mo_back_15 : decode b_Mo_back 15 = .ok (.ireturn, 1) := by decide +kernel
theorem d_Mo_begin_0 : decode b_Mo_begin 0 = .ok (.aload_n 0, 1) := by decide +kernel
theorem d_Mo_begin_1 : decode b_Mo_begin 1 = .ok (.iload_n 2, 1) := by decide +kernel
theorem d_Mo_begin_2 : decode b_Mo_begin 2 = .ok (.putfield 60, 3) := by decide +kernel
theorem d_Mo_begin_5 : decode b_Mo_begin 5 = .ok (.aload_n 0, 1) := by decide +kernel
theorem d_Mo_begin_6 : decode b_Mo_begin 6 = .ok (.iload_n 3, 1) := by decide +kernel
theorem d_Mo_begin_7 : decode b_Mo_begin 7 = .ok (.putfield 63, 3) := by decide +kernel
theorem d_Mo_begin_10 : decode b_Mo_begin 10 = .ok (.aload_n 0, 1) := by decide +kernel
theorem d_Mo_begin_11 : decode b_Mo_begin 11 = .ok (.iload 4, 2) := by decide +kernel
theorem d_Mo_begin_13 : decode b_Mo_begin 13 = .ok (.putfield 66, 3) := by decide +kernel
theorem d_Mo_begin_16 : decode b_Mo_begin 16 = .ok (.aload_n 0, 1) := by decide +kernel
theorem d_Mo_begin_17 : decode b_Mo_begin 17 = .ok (.iload_n 1, 1) := by decide +kernel
theorem d_Mo_begin_18 : decode b_Mo_begin 18 = .ok (.putfield 69, 3) := by decide +kernel
theorem d_Mo_begin_21 : decode b_Mo_begin 21 = .ok (.aload_n 0, 1) := by decide +kernel
theorem d_Mo_begin_22 : decode b_Mo_begin 22 = .ok (.iload_n 1, 1) := by decide +kernel
theorem d_Mo_begin_23 : decode b_Mo_begin 23 = .ok (.invokevirtual 84, 3) := by decide +kernel
theorem d_Mo_begin_26 : decode b_Mo_begin 26 = .ok (.aload_n 0, 1) := by decide +kernel
theorem d_Mo_begin_27 : decode b_Mo_begin 27 = .ok (.iload_n 1, 1) := by decide +kernel
theorem d_Mo_begin_28 : decode b_Mo_begin 28 = .ok (.iconst 1, 1) := by decide +kernel
theorem d_Mo_begin_29 : decode b_Mo_begin 29 = .ok (.invokestatic 87, 3) := by decide +kernel
theorem d_Mo_begin_32 : decode b_Mo_begin 32 = .ok (.invokevirtual 91, 3) := by decide +kernel
theorem d_Mo_begin_35 : decode b_Mo_begin 35 = .ok (.return_, 1) := by decide +kernel
theorem d_Mo_change_0 : decode b_Mo_change 0 = .ok (.aload_n 0, 1) := by decide +kernel
theorem d_Mo_change_1 : decode b_Mo_change 1 = .ok (.iload_n 1, 1) := by decide +kernel
theorem d_Mo_change_2 : decode b_Mo_change 2 = .ok (.invokestatic 94, 3) := by decide +kernel
theorem d_Mo_change_5 : decode b_Mo_change 5 = .ok (.ifCond .ne 7, 3) := by decide +kernel
theorem d_Mo_change_8 : decode b_Mo_change 8 = .ok (.iconst 1, 1) := by decide +kernel
theorem d_Mo_change_9 : decode b_Mo_change 9 = .ok (.goto 26, 3) := by decide +kernel
theorem d_Mo_change_12 : decode b_Mo_change 12 = .ok (.iload_n 3, 1) := by decide +kernel
theorem d_Mo_change_13 : decode b_Mo_change 13 = .ok (.ifCond .lt 17, 3) := by decide +kernel
theorem d_Mo_change_16 : decode b_Mo_change 16 = .ok (.iload_n 3, 1) := by decide +kernel
theorem d_Mo_change_17 : decode b_Mo_change 17 = .ok (.aload_n 0, 1) := by decide +kernel
theorem d_Mo_change_18 : decode b_Mo_change 18 = .ok (.getfield 41, 3) := by decide +kernel
theorem d_Mo_change_21 : decode b_Mo_change 21 = .ok (.iload_n 1, 1) := by decide +kernel
theorem d_Mo_change_22 : decode b_Mo_change 22 = .ok (.iload_n 2, 1) := by decide +kernel
theorem d_Mo_change_23 : decode b_Mo_change 23 = .ok (.invokestatic 87, 3) := by decide +kernel
theorem d_Mo_change_26 : decode b_Mo_change 26 = .ok (.iaload, 1) := by decide +kernel
theorem d_Mo_change_27 : decode b_Mo_change 27 = .ok (.if_icmp .lt 7, 3) := by decide +kernel
theorem d_Mo_change_30 : decode b_Mo_change 30 = .ok (.iconst 2, 1) := by decide +kernel
theorem d_Mo_change_31 : decode b_Mo_change 31 = .ok (.goto 4, 3) := by decide +kernel
theorem d_Mo_change_34 : decode b_Mo_change 34 = .ok (.iconst 0, 1) := by decide +kernel
theorem d_Mo_change_35 : decode b_Mo_change 35 = .ok (.putfield 56, 3) := by decide +kernel
theorem d_Mo_change_38 : decode b_Mo_change 38 = .ok (.aload_n 0, 1) := by decide +kernel
theorem d_Mo_change_39 : decode b_Mo_change 39 = .ok (.getfield 56, 3) := by decide +kernel
theorem d_Mo_change_42 : decode b_Mo_change 42 = .ok (.ifCond .eq 5, 3) := by decide +kernel
theorem d_Mo_change_45 : decode b_Mo_change 45 = .ok (.iconst 0, 1) := by decide +kernel
theorem d_Mo_change_46 : decode b_Mo_change 46 = .ok (.ireturn, 1) := by decide +kernel
theorem d_Mo_change_47 : decode b_Mo_change 47 = .ok (.bipush 40, 2) := by decide +kernel
theorem d_Mo_change_49 : decode b_Mo_change 49 = .ok (.iload_n 1, 1) := by decide +kernel
theorem d_Mo_change_50 : decode b_Mo_change 50 = .ok (.iload_n 2, 1) := by decide +kernel
theorem d_Mo_change_51 : decode b_Mo_change 51 = .ok (.invokestatic 87, 3) := by decide +kernel
theorem d_Mo_change_54 : decode b_Mo_change 54 = .ok (.imul, 1) := by decide +kernel
theorem d_Mo_change_55 : decode b_Mo_change 55 = .ok (.iload_n 3, 1) := by decide +kernel
theorem d_Mo_change_56 : decode b_Mo_change 56 = .ok (.iadd, 1) := by decide +kernel
theorem d_Mo_change_57 : decode b_Mo_change 57 = .ok (.istore 4, 2) := by decide +kernel
theorem d_Mo_change_59 : decode b_Mo_change 59 = .ok (.sipush 1000, 3) := by decide +kernel
theorem d_Mo_change_62 : decode b_Mo_change 62 = .ok (.aload_n 0, 1) := by decide +kernel
theorem d_Mo_change_63 : decode b_Mo_change 63 = .ok (.getfield 44, 3) := by decide +kernel
theorem d_Mo_change_66 : decode b_Mo_change 66 = .ok (.iload 4, 2) := by decide +kernel
theorem d_Mo_change_68 : decode b_Mo_change 68 = .ok (.iaload, 1) := by decide +kernel
theorem d_Mo_change_69 : decode b_Mo_change 69 = .ok (.imul, 1) := by decide +kernel
theorem d_Mo_change_70 : decode b_Mo_change 70 = .ok (.aload_n 0, 1) := by decide +kernel
theorem d_Mo_change_71 : decode b_Mo_change 71 = .ok (.getfield 44, 3) := by decide +kernel
theorem d_Mo_change_74 : decode b_Mo_change 74 = .ok (.iload 4, 2) := by decide +kernel
theorem d_Mo_change_76 : decode b_Mo_change 76 = .ok (.iaload, 1) := by decide +kernel
theorem d_Mo_change_77 : decode b_Mo_change 77 = .ok (.iconst 2, 1) := by decide +kernel
theorem d_Mo_change_78 : decode b_Mo_change 78 = .ok (.if_icmp .ne 7, 3) := by decide +kernel
theorem d_Mo_change_81 : decode b_Mo_change 81 = .ok (.iconst 0, 1) := by decide +kernel
theorem d_Mo_change_82 : decode b_Mo_change 82 = .ok (.goto 13, 3) := by decide +kernel
theorem d_Mo_change_85 : decode b_Mo_change 85 = .ok (.bipush 10, 2) := by decide +kernel
theorem d_Mo_change_87 : decode b_Mo_change 87 = .ok (.aload_n 0, 1) := by decide +kernel
theorem d_Mo_change_88 : decode b_Mo_change 88 = .ok (.getfield 47, 3) := by decide +kernel
theorem d_Mo_change_91 : decode b_Mo_change 91 = .ok (.iload 4, 2) := by decide +kernel
theorem d_Mo_change_93 : decode b_Mo_change 93 = .ok (.iaload, 1) := by decide +kernel
theorem d_Mo_change_94 : decode b_Mo_change 94 = .ok (.imul, 1) := by decide +kernel
theorem d_Mo_change_95 : decode b_Mo_change 95 = .ok (.iadd, 1) := by decide +kernel
theorem d_Mo_change_96 : decode b_Mo_change 96 = .ok (.aload_n 0, 1) := by decide +kernel
theorem d_Mo_change_97 : decode b_Mo_change 97 = .ok (.getfield 53, 3) := by decide +kernel
theorem d_Mo_change_100 : decode b_Mo_change 100 = .ok (.iload 4, 2) := by decide +kernel
theorem d_Mo_change_102 : decode b_Mo_change 102 = .ok (.iaload, 1) := by decide +kernel
theorem d_Mo_change_103 : decode b_Mo_change 103 = .ok (.iadd, 1) := by decide +kernel
theorem d_Mo_change_104 : decode b_Mo_change 104 = .ok (.ireturn, 1) := by decide +kernel
theorem d_Mo_delete_0 : decode b_Mo_delete 0 = .ok (.aload_n 0, 1) := by decide +kernel
theorem d_Mo_delete_1 : decode b_Mo_delete 1 = .ok (.iload_n 1, 1) := by decide +kernel
theorem d_Mo_delete_2 : decode b_Mo_delete 2 = .ok (.invokestatic 94, 3) := by decide +kernel
theorem d_Mo_delete_5 : decode b_Mo_delete 5 = .ok (.ifCond .ne 7, 3) := by decide +kernel
theorem d_Mo_delete_8 : decode b_Mo_delete 8 = .ok (.iconst 1, 1) := by decide +kernel
theorem d_Mo_delete_9 : decode b_Mo_delete 9 = .ok (.goto 34, 3) := by decide +kernel
theorem d_Mo_delete_12 : decode b_Mo_delete 12 = .ok (.iload_n 2, 1) := by decide +kernel
theorem d_Mo_delete_13 : decode b_Mo_delete 13 = .ok (.ifCond .lt 13, 3) := by decide +kernel
theorem d_Mo_delete_16 : decode b_Mo_delete 16 = .ok (.iload_n 2, 1) := by decide +kernel
theorem d_Mo_delete_17 : decode b_Mo_delete 17 = .ok (.aload_n 0, 1) := by decide +kernel
theorem d_Mo_delete_18 : decode b_Mo_delete 18 = .ok (.getfield 7, 3) := by decide +kernel
theorem d_Mo_delete_21 : decode b_Mo_delete 21 = .ok (.iload_n 1, 1) := by decide +kernel
theorem d_Mo_delete_22 : decode b_Mo_delete 22 = .ok (.iaload, 1) := by decide +kernel
theorem d_Mo_delete_23 : decode b_Mo_delete 23 = .ok (.if_icmp .lt 7, 3) := by decide +kernel
theorem d_Mo_delete_26 : decode b_Mo_delete 26 = .ok (.iconst 2, 1) := by decide +kernel
theorem d_Mo_delete_27 : decode b_Mo_delete 27 = .ok (.goto 16, 3) := by decide +kernel
theorem d_Mo_delete_30 : decode b_Mo_delete 30 = .ok (.aload_n 0, 1) := by decide +kernel
theorem d_Mo_delete_31 : decode b_Mo_delete 31 = .ok (.iload_n 1, 1) := by decide +kernel
theorem d_Mo_delete_32 : decode b_Mo_delete 32 = .ok (.invokevirtual 98, 3) := by decide +kernel
theorem d_Mo_delete_35 : decode b_Mo_delete 35 = .ok (.ifCond .eq 7, 3) := by decide +kernel
theorem d_Mo_delete_38 : decode b_Mo_delete 38 = .ok (.iconst 3, 1) := by decide +kernel
theorem d_Mo_delete_39 : decode b_Mo_delete 39 = .ok (.goto 4, 3) := by decide +kernel
theorem d_Mo_delete_42 : decode b_Mo_delete 42 = .ok (.iconst 0, 1) := by decide +kernel
theorem d_Mo_delete_43 : decode b_Mo_delete 43 = .ok (.putfield 56, 3) := by decide +kernel
theorem d_Mo_delete_46 : decode b_Mo_delete 46 = .ok (.aload_n 0, 1) := by decide +kernel
theorem d_Mo_delete_47 : decode b_Mo_delete 47 = .ok (.getfield 56, 3) := by decide +kernel
theorem d_Mo_delete_50 : decode b_Mo_delete 50 = .ok (.ifCond .eq 5, 3) := by decide +kernel
theorem d_Mo_delete_53 : decode b_Mo_delete 53 = .ok (.iconst 0, 1) := by decide +kernel
theorem d_Mo_delete_54 : decode b_Mo_delete 54 = .ok (.ireturn, 1) := by decide +kernel
theorem d_Mo_delete_55 : decode b_Mo_delete 55 = .ok (.aload_n 0, 1) := by decide +kernel
theorem d_Mo_delete_56 : decode b_Mo_delete 56 = .ok (.getfield 13, 3) := by decide +kernel
theorem d_Mo_delete_59 : decode b_Mo_delete 59 = .ok (.sipush 200, 3) := by decide +kernel
theorem d_Mo_delete_62 : decode b_Mo_delete 62 = .ok (.iload_n 1, 1) := by decide +kernel
theorem d_Mo_delete_63 : decode b_Mo_delete 63 = .ok (.imul, 1) := by decide +kernel
theorem d_Mo_delete_64 : decode b_Mo_delete 64 = .ok (.iload_n 2, 1) := by decide +kernel
theorem d_Mo_delete_65 : decode b_Mo_delete 65 = .ok (.iadd, 1) := by decide +kernel
theorem d_Mo_delete_66 : decode b_Mo_delete 66 = .ok (.caload, 1) := by decide +kernel
theorem d_Mo_delete_67 : decode b_Mo_delete 67 = .ok (.istore_n 3, 1) := by decide +kernel
theorem d_Mo_delete_68 : decode b_Mo_delete 68 = .ok (.aload_n 0, 1) := by decide +kernel
theorem d_Mo_delete_69 : decode b_Mo_delete 69 = .ok (.iload_n 1, 1) := by decide +kernel
theorem d_Mo_delete_70 : decode b_Mo_delete 70 = .ok (.iconst 1, 1) := by decide +kernel
theorem d_Mo_delete_71 : decode b_Mo_delete 71 = .ok (.iload_n 2, 1) := by decide +kernel
theorem d_Mo_delete_72 : decode b_Mo_delete 72 = .ok (.iconst 0, 1) := by decide +kernel
theorem d_Mo_delete_73 : decode b_Mo_delete 73 = .ok (.invokevirtual 101, 3) := by decide +kernel
theorem d_Mo_delete_76 : decode b_Mo_delete 76 = .ok (.iload_n 3, 1) := by decide +kernel
theorem d_Mo_delete_77 : decode b_Mo_delete 77 = .ok (.ireturn, 1) := by decide +kernel
theorem d_Mo_fitted_0 : decode b_Mo_fitted 0 = .ok (.iload_n 0, 1) := by decide +kernel
theorem d_Mo_fitted_1 : decode b_Mo_fitted 1 = .ok (.ifCond .ne 33, 3) := by decide +kernel
theorem d_Mo_fitted_4 : decode b_Mo_fitted 4 = .ok (.iload_n 3, 1) := by decide +kernel
theorem d_Mo_fitted_5 : decode b_Mo_fitted 5 = .ok (.ifCond .ne 29, 3) := by decide +kernel
theorem d_Mo_fitted_8 : decode b_Mo_fitted 8 = .ok (.iload 4, 2) := by decide +kernel
theorem d_Mo_fitted_10 : decode b_Mo_fitted 10 = .ok (.iload_n 1, 1) := by decide +kernel
theorem d_Mo_fitted_11 : decode b_Mo_fitted 11 = .ok (.if_icmp .lt 15, 3) := by decide +kernel
theorem d_Mo_fitted_14 : decode b_Mo_fitted 14 = .ok (.iload 4, 2) := by decide +kernel
theorem d_Mo_fitted_16 : decode b_Mo_fitted 16 = .ok (.iload_n 1, 1) := by decide +kernel
theorem d_Mo_fitted_17 : decode b_Mo_fitted 17 = .ok (.if_icmp .ne 15, 3) := by decide +kernel
theorem d_Mo_fitted_20 : decode b_Mo_fitted 20 = .ok (.iload 5, 2) := by decide +kernel
theorem d_Mo_fitted_22 : decode b_Mo_fitted 22 = .ok (.iload_n 2, 1) := by decide +kernel
theorem d_Mo_fitted_23 : decode b_Mo_fitted 23 = .ok (.if_icmp .ge 9, 3) := by decide +kernel
theorem d_Mo_fitted_26 : decode b_Mo_fitted 26 = .ok (.iload_n 1, 1) := by decide +kernel
theorem d_Mo_fitted_27 : decode b_Mo_fitted 27 = .ok (.iconst 1, 1) := by decide +kernel
theorem d_Mo_fitted_28 : decode b_Mo_fitted 28 = .ok (.iadd, 1) := by decide +kernel
theorem d_Mo_fitted_29 : decode b_Mo_fitted 29 = .ok (.goto 4, 3) := by decide +kernel
theorem d_Mo_fitted_32 : decode b_Mo_fitted 32 = .ok (.iload_n 1, 1) := by decide +kernel
theorem d_Mo_fitted_33 : decode b_Mo_fitted 33 = .ok (.ireturn, 1) := by decide +kernel
theorem d_Mo_fitted_34 : decode b_Mo_fitted 34 = .ok (.iload_n 0, 1) := by decide +kernel
theorem d_Mo_fitted_35 : decode b_Mo_fitted 35 = .ok (.ifCond .ne 22, 3) := by decide +kernel
theorem d_Mo_fitted_38 : decode b_Mo_fitted 38 = .ok (.iload_n 3, 1) := by decide +kernel
theorem d_Mo_fitted_39 : decode b_Mo_fitted 39 = .ok (.iconst 1, 1) := by decide +kernel
theorem d_Mo_fitted_40 : decode b_Mo_fitted 40 = .ok (.if_icmp .ne 17, 3) := by decide +kernel
theorem d_Mo_fitted_43 : decode b_Mo_fitted 43 = .ok (.iload 4, 2) := by decide +kernel
theorem d_Mo_fitted_45 : decode b_Mo_fitted 45 = .ok (.iload_n 1, 1) := by decide +kernel
theorem d_Mo_fitted_46 : decode b_Mo_fitted 46 = .ok (.if_icmp .ge 9, 3) := by decide +kernel
theorem d_Mo_fitted_49 : decode b_Mo_fitted 49 = .ok (.iload_n 1, 1) := by decide +kernel
theorem d_Mo_fitted_50 : decode b_Mo_fitted 50 = .ok (.iconst 1, 1) := by decide +kernel
theorem d_Mo_fitted_51 : decode b_Mo_fitted 51 = .ok (.isub, 1) := by decide +kernel
theorem d_Mo_fitted_52 : decode b_Mo_fitted 52 = .ok (.goto 4, 3) := by decide +kernel
theorem d_Mo_fitted_55 : decode b_Mo_fitted 55 = .ok (.iload_n 1, 1) := by decide +kernel
theorem d_Mo_fitted_56 : decode b_Mo_fitted 56 = .ok (.ireturn, 1) := by decide +kernel
theorem d_Mo_fitted_57 : decode b_Mo_fitted 57 = .ok (.iload_n 0, 1) := by decide +kernel
theorem d_Mo_fitted_58 : decode b_Mo_fitted 58 = .ok (.iconst 1, 1) := by decide +kernel
theorem d_Mo_fitted_59 : decode b_Mo_fitted 59 = .ok (.if_icmp .ne 21, 3) := by decide +kernel
theorem d_Mo_fitted_62 : decode b_Mo_fitted 62 = .ok (.iload_n 3, 1) := by decide +kernel
theorem d_Mo_fitted_63 : decode b_Mo_fitted 63 = .ok (.ifCond .ne 17, 3) := by decide +kernel
theorem d_Mo_fitted_66 : decode b_Mo_fitted 66 = .ok (.iload 4, 2) := by decide +kernel
theorem d_Mo_fitted_68 : decode b_Mo_fitted 68 = .ok (.iload_n 1, 1) := by decide +kernel
theorem d_Mo_fitted_69 : decode b_Mo_fitted 69 = .ok (.if_icmp .gt 9, 3) := by decide +kernel
theorem d_Mo_fitted_72 : decode b_Mo_fitted 72 = .ok (.iload_n 1, 1) := by decide +kernel
theorem d_Mo_fitted_73 : decode b_Mo_fitted 73 = .ok (.iconst 1, 1) := by decide +kernel
theorem d_Mo_fitted_74 : decode b_Mo_fitted 74 = .ok (.iadd, 1) := by decide +kernel
theorem d_Mo_fitted_75 : decode b_Mo_fitted 75 = .ok (.goto 4, 3) := by decide +kernel
theorem d_Mo_fitted_78 : decode b_Mo_fitted 78 = .ok (.iload_n 1, 1) := by decide +kernel
theorem d_Mo_fitted_79 : decode b_Mo_fitted 79 = .ok (.ireturn, 1) := by decide +kernel
theorem d_Mo_fitted_80 : decode b_Mo_fitted 80 = .ok (.iload_n 0, 1) := by decide +kernel
theorem d_Mo_fitted_81 : decode b_Mo_fitted 81 = .ok (.iconst 1, 1) := by decide +kernel
theorem d_Mo_fitted_82 : decode b_Mo_fitted 82 = .ok (.if_icmp .ne 32, 3) := by decide +kernel
theorem d_Mo_fitted_85 : decode b_Mo_fitted 85 = .ok (.iload_n 3, 1) := by decide +kernel
theorem d_Mo_fitted_86 : decode b_Mo_fitted 86 = .ok (.iconst 1, 1) := by decide +kernel
theorem d_Mo_fitted_87 : decode b_Mo_fitted 87 = .ok (.if_icmp .ne 27, 3) := by decide +kernel
theorem d_Mo_fitted_90 : decode b_Mo_fitted 90 = .ok (.iload 4, 2) := by decide +kernel
theorem d_Mo_fitted_92 : decode b_Mo_fitted 92 = .ok (.iload_n 1, 1) := by decide +kernel
theorem d_Mo_fitted_93 : decode b_Mo_fitted 93 = .ok (.if_icmp .ne 7, 3) := by decide +kernel
theorem d_Mo_fitted_96 : decode b_Mo_fitted 96 = .ok (.iconst (-1), 1) := by decide +kernel
theorem d_Mo_fitted_97 : decode b_Mo_fitted 97 = .ok (.goto 16, 3) := by decide +kernel
theorem d_Mo_fitted_100 : decode b_Mo_fitted 100 = .ok (.iload 4, 2) := by decide +kernel
theorem d_Mo_fitted_102 : decode b_Mo_fitted 102 = .ok (.iload_n 1, 1) := by decide +kernel
theorem d_Mo_fitted_103 : decode b_Mo_fitted 103 = .ok (.if_icmp .ge 9, 3) := by decide +kernel
theorem d_Mo_fitted_106 : decode b_Mo_fitted 106 = .ok (.iload_n 1, 1) := by decide +kernel
theorem d_Mo_fitted_107 : decode b_Mo_fitted 107 = .ok (.iconst 1, 1) := by decide +kernel
theorem d_Mo_fitted_108 : decode b_Mo_fitted 108 = .ok (.isub, 1) := by decide +kernel
theorem d_Mo_fitted_109 : decode b_Mo_fitted 109 = .ok (.goto 4, 3) := by decide +kernel
theorem d_Mo_fitted_112 : decode b_Mo_fitted 112 = .ok (.iload_n 1, 1) := by decide +kernel
theorem d_Mo_fitted_113 : decode b_Mo_fitted 113 = .ok (.ireturn, 1) := by decide +kernel
theorem d_Mo_fitted_114 : decode b_Mo_fitted 114 = .ok (.iload_n 1, 1) := by decide +kernel
theorem d_Mo_fitted_115 : decode b_Mo_fitted 115 = .ok (.ireturn, 1) := by decide +kernel
theorem d_Mo_forget_0 : decode b_Mo_forget 0 = .ok (.aload_n 0, 1) := by decide +kernel
theorem d_Mo_forget_1 : decode b_Mo_forget 1 = .ok (.getfield 41, 3) := by decide +kernel
theorem d_Mo_forget_4 : decode b_Mo_forget 4 = .ok (.iload_n 1, 1) := by decide +kernel
theorem d_Mo_forget_5 : decode b_Mo_forget 5 = .ok (.dup2, 1) := by decide +kernel
theorem d_Mo_forget_6 : decode b_Mo_forget 6 = .ok (.iaload, 1) := by decide +kernel
theorem d_Mo_forget_7 : decode b_Mo_forget 7 = .ok (.iconst 1, 1) := by decide +kernel
theorem d_Mo_forget_8 : decode b_Mo_forget 8 = .ok (.isub, 1) := by decide +kernel
theorem d_Mo_forget_9 : decode b_Mo_forget 9 = .ok (.iastore, 1) := by decide +kernel
theorem d_Mo_forget_10 : decode b_Mo_forget 10 = .ok (.bipush 40, 2) := by decide +kernel
theorem d_Mo_forget_12 : decode b_Mo_forget 12 = .ok (.iload_n 1, 1) := by decide +kernel
theorem d_Mo_forget_13 : decode b_Mo_forget 13 = .ok (.imul, 1) := by decide +kernel
theorem d_Mo_forget_14 : decode b_Mo_forget 14 = .ok (.istore_n 2, 1) := by decide +kernel
theorem d_Mo_forget_15 : decode b_Mo_forget 15 = .ok (.iload_n 2, 1) := by decide +kernel
theorem d_Mo_forget_16 : decode b_Mo_forget 16 = .ok (.bipush 40, 2) := by decide +kernel
theorem d_Mo_forget_18 : decode b_Mo_forget 18 = .ok (.iload_n 1, 1) := by decide +kernel
theorem d_Mo_forget_19 : decode b_Mo_forget 19 = .ok (.imul, 1) := by decide +kernel
theorem d_Mo_forget_20 : decode b_Mo_forget 20 = .ok (.aload_n 0, 1) := by decide +kernel
theorem d_Mo_forget_21 : decode b_Mo_forget 21 = .ok (.getfield 41, 3) := by decide +kernel
theorem d_Mo_forget_24 : decode b_Mo_forget 24 = .ok (.iload_n 1, 1) := by decide +kernel
theorem d_Mo_forget_25 : decode b_Mo_forget 25 = .ok (.iaload, 1) := by decide +kernel
theorem d_Mo_forget_26 : decode b_Mo_forget 26 = .ok (.iadd, 1) := by decide +kernel
theorem d_Mo_forget_27 : decode b_Mo_forget 27 = .ok (.if_icmp .ge 65, 3) := by decide +kernel
theorem d_Mo_forget_30 : decode b_Mo_forget 30 = .ok (.aload_n 0, 1) := by decide +kernel
theorem d_Mo_forget_31 : decode b_Mo_forget 31 = .ok (.getfield 44, 3) := by decide +kernel
theorem d_Mo_forget_34 : decode b_Mo_forget 34 = .ok (.iload_n 2, 1) := by decide +kernel
theorem d_Mo_forget_35 : decode b_Mo_forget 35 = .ok (.aload_n 0, 1) := by decide +kernel
theorem d_Mo_forget_36 : decode b_Mo_forget 36 = .ok (.getfield 44, 3) := by decide +kernel
theorem d_Mo_forget_39 : decode b_Mo_forget 39 = .ok (.iload_n 2, 1) := by decide +kernel
theorem d_Mo_forget_40 : decode b_Mo_forget 40 = .ok (.iconst 1, 1) := by decide +kernel
theorem d_Mo_forget_41 : decode b_Mo_forget 41 = .ok (.iadd, 1) := by decide +kernel
theorem d_Mo_forget_42 : decode b_Mo_forget 42 = .ok (.iaload, 1) := by decide +kernel
theorem d_Mo_forget_43 : decode b_Mo_forget 43 = .ok (.iastore, 1) := by decide +kernel
theorem d_Mo_forget_44 : decode b_Mo_forget 44 = .ok (.aload_n 0, 1) := by decide +kernel
theorem d_Mo_forget_45 : decode b_Mo_forget 45 = .ok (.getfield 47, 3) := by decide +kernel
theorem d_Mo_forget_48 : decode b_Mo_forget 48 = .ok (.iload_n 2, 1) := by decide +kernel
theorem d_Mo_forget_49 : decode b_Mo_forget 49 = .ok (.aload_n 0, 1) := by decide +kernel
theorem d_Mo_forget_50 : decode b_Mo_forget 50 = .ok (.getfield 47, 3) := by decide +kernel
theorem d_Mo_forget_53 : decode b_Mo_forget 53 = .ok (.iload_n 2, 1) := by decide +kernel
theorem d_Mo_forget_54 : decode b_Mo_forget 54 = .ok (.iconst 1, 1) := by decide +kernel
theorem d_Mo_forget_55 : decode b_Mo_forget 55 = .ok (.iadd, 1) := by decide +kernel
theorem d_Mo_forget_56 : decode b_Mo_forget 56 = .ok (.iaload, 1) := by decide +kernel
theorem d_Mo_forget_57 : decode b_Mo_forget 57 = .ok (.iastore, 1) := by decide +kernel
theorem d_Mo_forget_58 : decode b_Mo_forget 58 = .ok (.aload_n 0, 1) := by decide +kernel
theorem d_Mo_forget_59 : decode b_Mo_forget 59 = .ok (.getfield 50, 3) := by decide +kernel
theorem d_Mo_forget_62 : decode b_Mo_forget 62 = .ok (.iload_n 2, 1) := by decide +kernel
theorem d_Mo_forget_63 : decode b_Mo_forget 63 = .ok (.aload_n 0, 1) := by decide +kernel
theorem d_Mo_forget_64 : decode b_Mo_forget 64 = .ok (.getfield 50, 3) := by decide +kernel
theorem d_Mo_forget_67 : decode b_Mo_forget 67 = .ok (.iload_n 2, 1) := by decide +kernel
theorem d_Mo_forget_68 : decode b_Mo_forget 68 = .ok (.iconst 1, 1) := by decide +kernel
theorem d_Mo_forget_69 : decode b_Mo_forget 69 = .ok (.iadd, 1) := by decide +kernel
theorem d_Mo_forget_70 : decode b_Mo_forget 70 = .ok (.iaload, 1) := by decide +kernel
theorem d_Mo_forget_71 : decode b_Mo_forget 71 = .ok (.iastore, 1) := by decide +kernel
theorem d_Mo_forget_72 : decode b_Mo_forget 72 = .ok (.aload_n 0, 1) := by decide +kernel
theorem d_Mo_forget_73 : decode b_Mo_forget 73 = .ok (.getfield 53, 3) := by decide +kernel
theorem d_Mo_forget_76 : decode b_Mo_forget 76 = .ok (.iload_n 2, 1) := by decide +kernel
theorem d_Mo_forget_77 : decode b_Mo_forget 77 = .ok (.aload_n 0, 1) := by decide +kernel
theorem d_Mo_forget_78 : decode b_Mo_forget 78 = .ok (.getfield 53, 3) := by decide +kernel
theorem d_Mo_forget_81 : decode b_Mo_forget 81 = .ok (.iload_n 2, 1) := by decide +kernel
theorem d_Mo_forget_82 : decode b_Mo_forget 82 = .ok (.iconst 1, 1) := by decide +kernel
theorem d_Mo_forget_83 : decode b_Mo_forget 83 = .ok (.iadd, 1) := by decide +kernel
theorem d_Mo_forget_84 : decode b_Mo_forget 84 = .ok (.iaload, 1) := by decide +kernel
theorem d_Mo_forget_85 : decode b_Mo_forget 85 = .ok (.iastore, 1) := by decide +kernel
theorem d_Mo_forget_86 : decode b_Mo_forget 86 = .ok (.iinc 2 1, 3) := by decide +kernel
theorem d_Mo_forget_89 : decode b_Mo_forget 89 = .ok (.goto (-74), 3) := by decide +kernel
theorem d_Mo_forget_92 : decode b_Mo_forget 92 = .ok (.return_, 1) := by decide +kernel
theorem d_Mo_get_0 : decode b_Mo_get 0 = .ok (.bipush 40, 2) := by decide +kernel
theorem d_Mo_get_2 : decode b_Mo_get 2 = .ok (.iload_n 1, 1) := by decide +kernel
theorem d_Mo_get_3 : decode b_Mo_get 3 = .ok (.imul, 1) := by decide +kernel
theorem d_Mo_get_4 : decode b_Mo_get 4 = .ok (.istore_n 3, 1) := by decide +kernel
theorem d_Mo_get_5 : decode b_Mo_get 5 = .ok (.aload_n 0, 1) := by decide +kernel
theorem d_Mo_get_6 : decode b_Mo_get 6 = .ok (.aload_n 0, 1) := by decide +kernel
theorem d_Mo_get_7 : decode b_Mo_get 7 = .ok (.getfield 26, 3) := by decide +kernel
theorem d_Mo_get_10 : decode b_Mo_get 10 = .ok (.iload_n 3, 1) := by decide +kernel
theorem d_Mo_get_11 : decode b_Mo_get 11 = .ok (.iaload, 1) := by decide +kernel
theorem d_Mo_get_12 : decode b_Mo_get 12 = .ok (.putfield 60, 3) := by decide +kernel
theorem d_Mo_get_15 : decode b_Mo_get 15 = .ok (.aload_n 0, 1) := by decide +kernel
theorem d_Mo_get_16 : decode b_Mo_get 16 = .ok (.aload_n 0, 1) := by decide +kernel
theorem d_Mo_get_17 : decode b_Mo_get 17 = .ok (.getfield 29, 3) := by decide +kernel
theorem d_Mo_get_20 : decode b_Mo_get 20 = .ok (.iload_n 3, 1) := by decide +kernel
theorem d_Mo_get_21 : decode b_Mo_get 21 = .ok (.iaload, 1) := by decide +kernel
theorem d_Mo_get_22 : decode b_Mo_get 22 = .ok (.putfield 63, 3) := by decide +kernel
theorem d_Mo_get_25 : decode b_Mo_get 25 = .ok (.aload_n 0, 1) := by decide +kernel
theorem d_Mo_get_26 : decode b_Mo_get 26 = .ok (.aload_n 0, 1) := by decide +kernel
theorem d_Mo_get_27 : decode b_Mo_get 27 = .ok (.getfield 32, 3) := by decide +kernel
theorem d_Mo_get_30 : decode b_Mo_get 30 = .ok (.iload_n 3, 1) := by decide +kernel
theorem d_Mo_get_31 : decode b_Mo_get 31 = .ok (.iaload, 1) := by decide +kernel
theorem d_Mo_get_32 : decode b_Mo_get 32 = .ok (.putfield 66, 3) := by decide +kernel
theorem d_Mo_get_35 : decode b_Mo_get 35 = .ok (.aload_n 0, 1) := by decide +kernel
theorem d_Mo_get_36 : decode b_Mo_get 36 = .ok (.aload_n 0, 1) := by decide +kernel
theorem d_Mo_get_37 : decode b_Mo_get 37 = .ok (.getfield 35, 3) := by decide +kernel
theorem d_Mo_get_40 : decode b_Mo_get 40 = .ok (.iload_n 3, 1) := by decide +kernel
theorem d_Mo_get_41 : decode b_Mo_get 41 = .ok (.iaload, 1) := by decide +kernel
theorem d_Mo_get_42 : decode b_Mo_get 42 = .ok (.putfield 69, 3) := by decide +kernel
theorem d_Mo_get_45 : decode b_Mo_get 45 = .ok (.aload_n 0, 1) := by decide +kernel
theorem d_Mo_get_46 : decode b_Mo_get 46 = .ok (.getfield 38, 3) := by decide +kernel
theorem d_Mo_get_49 : decode b_Mo_get 49 = .ok (.iload_n 3, 1) := by decide +kernel
theorem d_Mo_get_50 : decode b_Mo_get 50 = .ok (.iaload, 1) := by decide +kernel
theorem d_Mo_get_51 : decode b_Mo_get 51 = .ok (.istore 4, 2) := by decide +kernel
theorem d_Mo_get_53 : decode b_Mo_get 53 = .ok (.aload_n 0, 1) := by decide +kernel
theorem d_Mo_get_54 : decode b_Mo_get 54 = .ok (.getfield 23, 3) := by decide +kernel
theorem d_Mo_get_57 : decode b_Mo_get 57 = .ok (.iload_n 1, 1) := by decide +kernel
theorem d_Mo_get_58 : decode b_Mo_get 58 = .ok (.dup2, 1) := by decide +kernel
theorem d_Mo_get_59 : decode b_Mo_get 59 = .ok (.iaload, 1) := by decide +kernel
theorem d_Mo_get_60 : decode b_Mo_get 60 = .ok (.iconst 1, 1) := by decide +kernel
theorem d_Mo_get_61 : decode b_Mo_get 61 = .ok (.isub, 1) := by decide +kernel
theorem d_Mo_get_62 : decode b_Mo_get 62 = .ok (.iastore, 1) := by decide +kernel
theorem d_Mo_get_63 : decode b_Mo_get 63 = .ok (.iload_n 3, 1) := by decide +kernel
theorem d_Mo_get_64 : decode b_Mo_get 64 = .ok (.istore 5, 2) := by decide +kernel
theorem d_Mo_get_66 : decode b_Mo_get 66 = .ok (.iload 5, 2) := by decide +kernel
theorem d_Mo_get_68 : decode b_Mo_get 68 = .ok (.iload_n 3, 1) := by decide +kernel
theorem d_Mo_get_69 : decode b_Mo_get 69 = .ok (.aload_n 0, 1) := by decide +kernel
theorem d_Mo_get_70 : decode b_Mo_get 70 = .ok (.getfield 23, 3) := by decide +kernel
theorem d_Mo_get_73 : decode b_Mo_get 73 = .ok (.iload_n 1, 1) := by decide +kernel
theorem d_Mo_get_74 : decode b_Mo_get 74 = .ok (.iaload, 1) := by decide +kernel
theorem d_Mo_get_75 : decode b_Mo_get 75 = .ok (.iadd, 1) := by decide +kernel
theorem d_Mo_get_76 : decode b_Mo_get 76 = .ok (.if_icmp .ge 89, 3) := by decide +kernel
theorem d_Mo_get_79 : decode b_Mo_get 79 = .ok (.aload_n 0, 1) := by decide +kernel
theorem d_Mo_get_80 : decode b_Mo_get 80 = .ok (.getfield 26, 3) := by decide +kernel
theorem d_Mo_get_83 : decode b_Mo_get 83 = .ok (.iload 5, 2) := by decide +kernel
theorem d_Mo_get_85 : decode b_Mo_get 85 = .ok (.aload_n 0, 1) := by decide +kernel
theorem d_Mo_get_86 : decode b_Mo_get 86 = .ok (.getfield 26, 3) := by decide +kernel
theorem d_Mo_get_89 : decode b_Mo_get 89 = .ok (.iload 5, 2) := by decide +kernel
theorem d_Mo_get_91 : decode b_Mo_get 91 = .ok (.iconst 1, 1) := by decide +kernel
theorem d_Mo_get_92 : decode b_Mo_get 92 = .ok (.iadd, 1) := by decide +kernel
theorem d_Mo_get_93 : decode b_Mo_get 93 = .ok (.iaload, 1) := by decide +kernel
theorem d_Mo_get_94 : decode b_Mo_get 94 = .ok (.iastore, 1) := by decide +kernel
theorem d_Mo_get_95 : decode b_Mo_get 95 = .ok (.aload_n 0, 1) := by decide +kernel
theorem d_Mo_get_96 : decode b_Mo_get 96 = .ok (.getfield 29, 3) := by decide +kernel
theorem d_Mo_get_99 : decode b_Mo_get 99 = .ok (.iload 5, 2) := by decide +kernel
theorem d_Mo_get_101 : decode b_Mo_get 101 = .ok (.aload_n 0, 1) := by decide +kernel
theorem d_Mo_get_102 : decode b_Mo_get 102 = .ok (.getfield 29, 3) := by decide +kernel
theorem d_Mo_get_105 : decode b_Mo_get 105 = .ok (.iload 5, 2) := by decide +kernel
theorem d_Mo_get_107 : decode b_Mo_get 107 = .ok (.iconst 1, 1) := by decide +kernel
theorem d_Mo_get_108 : decode b_Mo_get 108 = .ok (.iadd, 1) := by decide +kernel
theorem d_Mo_get_109 : decode b_Mo_get 109 = .ok (.iaload, 1) := by decide +kernel
theorem d_Mo_get_110 : decode b_Mo_get 110 = .ok (.iastore, 1) := by decide +kernel
theorem d_Mo_get_111 : decode b_Mo_get 111 = .ok (.aload_n 0, 1) := by decide +kernel
theorem d_Mo_get_112 : decode b_Mo_get 112 = .ok (.getfield 32, 3) := by decide +kernel
theorem d_Mo_get_115 : decode b_Mo_get 115 = .ok (.iload 5, 2) := by decide +kernel
theorem d_Mo_get_117 : decode b_Mo_get 117 = .ok (.aload_n 0, 1) := by decide +kernel
theorem d_Mo_get_118 : decode b_Mo_get 118 = .ok (.getfield 32, 3) := by decide +kernel
theorem d_Mo_get_121 : decode b_Mo_get 121 = .ok (.iload 5, 2) := by decide +kernel
theorem d_Mo_get_123 : decode b_Mo_get 123 = .ok (.iconst 1, 1) := by decide +kernel
theorem d_Mo_get_124 : decode b_Mo_get 124 = .ok (.iadd, 1) := by decide +kernel
theorem d_Mo_get_125 : decode b_Mo_get 125 = .ok (.iaload, 1) := by decide +kernel
theorem d_Mo_get_126 : decode b_Mo_get 126 = .ok (.iastore, 1) := by decide +kernel
theorem d_Mo_get_127 : decode b_Mo_get 127 = .ok (.aload_n 0, 1) := by decide +kernel
theorem d_Mo_get_128 : decode b_Mo_get 128 = .ok (.getfield 35, 3) := by decide +kernel
theorem d_Mo_get_131 : decode b_Mo_get 131 = .ok (.iload 5, 2) := by decide +kernel
theorem d_Mo_get_133 : decode b_Mo_get 133 = .ok (.aload_n 0, 1) := by decide +kernel
theorem d_Mo_get_134 : decode b_Mo_get 134 = .ok (.getfield 35, 3) := by decide +kernel
theorem d_Mo_get_137 : decode b_Mo_get 137 = .ok (.iload 5, 2) := by decide +kernel
theorem d_Mo_get_139 : decode b_Mo_get 139 = .ok (.iconst 1, 1) := by decide +kernel
theorem d_Mo_get_140 : decode b_Mo_get 140 = .ok (.iadd, 1) := by decide +kernel
theorem d_Mo_get_141 : decode b_Mo_get 141 = .ok (.iaload, 1) := by decide +kernel
theorem d_Mo_get_142 : decode b_Mo_get 142 = .ok (.iastore, 1) := by decide +kernel
theorem d_Mo_get_143 : decode b_Mo_get 143 = .ok (.aload_n 0, 1) := by decide +kernel
theorem d_Mo_get_144 : decode b_Mo_get 144 = .ok (.getfield 38, 3) := by decide +kernel
theorem d_Mo_get_147 : decode b_Mo_get 147 = .ok (.iload 5, 2) := by decide +kernel
theorem d_Mo_get_149 : decode b_Mo_get 149 = .ok (.aload_n 0, 1) := by decide +kernel
theorem d_Mo_get_150 : decode b_Mo_get 150 = .ok (.getfield 38, 3) := by decide +kernel
theorem d_Mo_get_153 : decode b_Mo_get 153 = .ok (.iload 5, 2) := by decide +kernel
theorem d_Mo_get_155 : decode b_Mo_get 155 = .ok (.iconst 1, 1) := by decide +kernel
theorem d_Mo_get_156 : decode b_Mo_get 156 = .ok (.iadd, 1) := by decide +kernel
theorem d_Mo_get_157 : decode b_Mo_get 157 = .ok (.iaload, 1) := by decide +kernel
theorem d_Mo_get_158 : decode b_Mo_get 158 = .ok (.iastore, 1) := by decide +kernel
theorem d_Mo_get_159 : decode b_Mo_get 159 = .ok (.iinc 5 1, 3) := by decide +kernel
theorem d_Mo_get_162 : decode b_Mo_get 162 = .ok (.goto (-96), 3) := by decide +kernel
theorem d_Mo_get_165 : decode b_Mo_get 165 = .ok (.iload_n 1, 1) := by decide +kernel
theorem d_Mo_get_166 : decode b_Mo_get 166 = .ok (.invokestatic 72, 3) := by decide +kernel
theorem d_Mo_get_169 : decode b_Mo_get 169 = .ok (.istore 5, 2) := by decide +kernel
theorem d_Mo_get_171 : decode b_Mo_get 171 = .ok (.aload_n 0, 1) := by decide +kernel
theorem d_Mo_get_172 : decode b_Mo_get 172 = .ok (.getfield 41, 3) := by decide +kernel
theorem d_Mo_get_175 : decode b_Mo_get 175 = .ok (.iload 5, 2) := by decide +kernel
theorem d_Mo_get_177 : decode b_Mo_get 177 = .ok (.iaload, 1) := by decide +kernel
theorem d_Mo_get_178 : decode b_Mo_get 178 = .ok (.ifCond .le 32, 3) := by decide +kernel
theorem d_Mo_get_181 : decode b_Mo_get 181 = .ok (.aload_n 0, 1) := by decide +kernel
theorem d_Mo_get_182 : decode b_Mo_get 182 = .ok (.getfield 17, 3) := by decide +kernel
theorem d_Mo_get_185 : decode b_Mo_get 185 = .ok (.iload 5, 2) := by decide +kernel
theorem d_Mo_get_187 : decode b_Mo_get 187 = .ok (.iaload, 1) := by decide +kernel
theorem d_Mo_get_188 : decode b_Mo_get 188 = .ok (.aload_n 0, 1) := by decide +kernel
theorem d_Mo_get_189 : decode b_Mo_get 189 = .ok (.getfield 41, 3) := by decide +kernel
theorem d_Mo_get_192 : decode b_Mo_get 192 = .ok (.iload 5, 2) := by decide +kernel
theorem d_Mo_get_194 : decode b_Mo_get 194 = .ok (.iaload, 1) := by decide +kernel
theorem d_Mo_get_195 : decode b_Mo_get 195 = .ok (.isub, 1) := by decide +kernel
theorem d_Mo_get_196 : decode b_Mo_get 196 = .ok (.iload 4, 2) := by decide +kernel
theorem d_Mo_get_198 : decode b_Mo_get 198 = .ok (.if_icmp .ge 12, 3) := by decide +kernel
theorem d_Mo_get_201 : decode b_Mo_get 201 = .ok (.aload_n 0, 1) := by decide +kernel
theorem d_Mo_get_202 : decode b_Mo_get 202 = .ok (.iload 5, 2) := by decide +kernel
theorem d_Mo_get_204 : decode b_Mo_get 204 = .ok (.invokevirtual 76, 3) := by decide +kernel
theorem d_Mo_get_207 : decode b_Mo_get 207 = .ok (.goto (-36), 3) := by decide +kernel
theorem d_Mo_get_210 : decode b_Mo_get 210 = .ok (.bipush 40, 2) := by decide +kernel
theorem d_Mo_get_212 : decode b_Mo_get 212 = .ok (.iload 5, 2) := by decide +kernel
theorem d_Mo_get_214 : decode b_Mo_get 214 = .ok (.imul, 1) := by decide +kernel
theorem d_Mo_get_215 : decode b_Mo_get 215 = .ok (.istore 6, 2) := by decide +kernel
theorem d_Mo_get_217 : decode b_Mo_get 217 = .ok (.iload 6, 2) := by decide +kernel
theorem d_Mo_get_219 : decode b_Mo_get 219 = .ok (.bipush 40, 2) := by decide +kernel
theorem d_Mo_get_221 : decode b_Mo_get 221 = .ok (.iload 5, 2) := by decide +kernel
theorem d_Mo_get_223 : decode b_Mo_get 223 = .ok (.imul, 1) := by decide +kernel
theorem d_Mo_get_224 : decode b_Mo_get 224 = .ok (.aload_n 0, 1) := by decide +kernel
theorem d_Mo_get_225 : decode b_Mo_get 225 = .ok (.getfield 41, 3) := by decide +kernel
theorem d_Mo_get_228 : decode b_Mo_get 228 = .ok (.iload 5, 2) := by decide +kernel
theorem d_Mo_get_230 : decode b_Mo_get 230 = .ok (.iaload, 1) := by decide +kernel
theorem d_Mo_get_231 : decode b_Mo_get 231 = .ok (.iadd, 1) := by decide +kernel
theorem d_Mo_get_232 : decode b_Mo_get 232 = .ok (.if_icmp .ge 158, 3) := by decide +kernel
theorem d_Mo_get_235 : decode b_Mo_get 235 = .ok (.aload_n 0, 1) := by decide +kernel
theorem d_Mo_get_236 : decode b_Mo_get 236 = .ok (.getfield 60, 3) := by decide +kernel
theorem d_Mo_get_239 : decode b_Mo_get 239 = .ok (.aload_n 0, 1) := by decide +kernel
theorem d_Mo_get_240 : decode b_Mo_get 240 = .ok (.getfield 63, 3) := by decide +kernel
theorem d_Mo_get_243 : decode b_Mo_get 243 = .ok (.aload_n 0, 1) := by decide +kernel
theorem d_Mo_get_244 : decode b_Mo_get 244 = .ok (.getfield 69, 3) := by decide +kernel
theorem d_Mo_get_247 : decode b_Mo_get 247 = .ok (.aload_n 0, 1) := by decide +kernel
theorem d_Mo_get_248 : decode b_Mo_get 248 = .ok (.getfield 44, 3) := by decide +kernel
theorem d_Mo_get_251 : decode b_Mo_get 251 = .ok (.iload 6, 2) := by decide +kernel
theorem d_Mo_get_253 : decode b_Mo_get 253 = .ok (.iaload, 1) := by decide +kernel
theorem d_Mo_get_254 : decode b_Mo_get 254 = .ok (.aload_n 0, 1) := by decide +kernel
theorem d_Mo_get_255 : decode b_Mo_get 255 = .ok (.getfield 47, 3) := by decide +kernel
theorem d_Mo_get_258 : decode b_Mo_get 258 = .ok (.iload 6, 2) := by decide +kernel
theorem d_Mo_get_260 : decode b_Mo_get 260 = .ok (.iaload, 1) := by decide +kernel
theorem d_Mo_get_261 : decode b_Mo_get 261 = .ok (.aload_n 0, 1) := by decide +kernel
theorem d_Mo_get_262 : decode b_Mo_get 262 = .ok (.getfield 53, 3) := by decide +kernel
theorem d_Mo_get_265 : decode b_Mo_get 265 = .ok (.iload 6, 2) := by decide +kernel
theorem d_Mo_get_267 : decode b_Mo_get 267 = .ok (.iaload, 1) := by decide +kernel
theorem d_Mo_get_268 : decode b_Mo_get 268 = .ok (.invokestatic 80, 3) := by decide +kernel
theorem d_Mo_get_271 : decode b_Mo_get 271 = .ok (.istore 7, 2) := by decide +kernel
theorem d_Mo_get_273 : decode b_Mo_get 273 = .ok (.aload_n 0, 1) := by decide +kernel
theorem d_Mo_get_274 : decode b_Mo_get 274 = .ok (.getfield 44, 3) := by decide +kernel
theorem d_Mo_get_277 : decode b_Mo_get 277 = .ok (.iload 6, 2) := by decide +kernel
theorem d_Mo_get_279 : decode b_Mo_get 279 = .ok (.iaload, 1) := by decide +kernel
theorem d_Mo_get_280 : decode b_Mo_get 280 = .ok (.aload_n 0, 1) := by decide +kernel
theorem d_Mo_get_281 : decode b_Mo_get 281 = .ok (.getfield 47, 3) := by decide +kernel
theorem d_Mo_get_284 : decode b_Mo_get 284 = .ok (.iload 6, 2) := by decide +kernel
theorem d_Mo_get_286 : decode b_Mo_get 286 = .ok (.iaload, 1) := by decide +kernel
theorem d_Mo_get_287 : decode b_Mo_get 287 = .ok (.aload_n 0, 1) := by decide +kernel
theorem d_Mo_get_288 : decode b_Mo_get 288 = .ok (.getfield 53, 3) := by decide +kernel
theorem d_Mo_get_291 : decode b_Mo_get 291 = .ok (.iload 6, 2) := by decide +kernel
theorem d_Mo_get_293 : decode b_Mo_get 293 = .ok (.iaload, 1) := by decide +kernel
theorem d_Mo_get_294 : decode b_Mo_get 294 = .ok (.aload_n 0, 1) := by decide +kernel
theorem d_Mo_get_295 : decode b_Mo_get 295 = .ok (.getfield 60, 3) := by decide +kernel
theorem d_Mo_get_298 : decode b_Mo_get 298 = .ok (.aload_n 0, 1) := by decide +kernel
theorem d_Mo_get_299 : decode b_Mo_get 299 = .ok (.getfield 63, 3) := by decide +kernel
theorem d_Mo_get_302 : decode b_Mo_get 302 = .ok (.aload_n 0, 1) := by decide +kernel
theorem d_Mo_get_303 : decode b_Mo_get 303 = .ok (.getfield 69, 3) := by decide +kernel
theorem d_Mo_get_306 : decode b_Mo_get 306 = .ok (.invokestatic 80, 3) := by decide +kernel
theorem d_Mo_get_309 : decode b_Mo_get 309 = .ok (.istore 8, 2) := by decide +kernel
theorem d_Mo_get_311 : decode b_Mo_get 311 = .ok (.aload_n 0, 1) := by decide +kernel
theorem d_Mo_get_312 : decode b_Mo_get 312 = .ok (.iload 7, 2) := by decide +kernel
theorem d_Mo_get_314 : decode b_Mo_get 314 = .ok (.ifCond .ge 7, 3) := by decide +kernel
theorem d_Mo_get_317 : decode b_Mo_get 317 = .ok (.iconst 2, 1) := by decide +kernel
theorem d_Mo_get_318 : decode b_Mo_get 318 = .ok (.goto 7, 3) := by decide +kernel
theorem d_Mo_get_321 : decode b_Mo_get 321 = .ok (.aload_n 0, 1) := by decide +kernel
theorem d_Mo_get_322 : decode b_Mo_get 322 = .ok (.getfield 60, 3) := by decide +kernel
theorem d_Mo_get_325 : decode b_Mo_get 325 = .ok (.putfield 60, 3) := by decide +kernel
theorem d_Mo_get_328 : decode b_Mo_get 328 = .ok (.aload_n 0, 1) := by decide +kernel
theorem d_Mo_get_329 : decode b_Mo_get 329 = .ok (.iload 7, 2) := by decide +kernel
theorem d_Mo_get_331 : decode b_Mo_get 331 = .ok (.ifCond .ge 7, 3) := by decide +kernel
theorem d_Mo_get_334 : decode b_Mo_get 334 = .ok (.iconst 0, 1) := by decide +kernel
theorem d_Mo_get_335 : decode b_Mo_get 335 = .ok (.goto 5, 3) := by decide +kernel
theorem d_Mo_get_338 : decode b_Mo_get 338 = .ok (.iload 7, 2) := by decide +kernel
theorem d_Mo_get_340 : decode b_Mo_get 340 = .ok (.putfield 63, 3) := by decide +kernel
theorem d_Mo_get_343 : decode b_Mo_get 343 = .ok (.aload_n 0, 1) := by decide +kernel
theorem d_Mo_get_344 : decode b_Mo_get 344 = .ok (.getfield 44, 3) := by decide +kernel
theorem d_Mo_get_347 : decode b_Mo_get 347 = .ok (.iload 6, 2) := by decide +kernel
theorem d_Mo_get_349 : decode b_Mo_get 349 = .ok (.iload 8, 2) := by decide +kernel
theorem d_Mo_get_351 : decode b_Mo_get 351 = .ok (.ifCond .ge 7, 3) := by decide +kernel
theorem d_Mo_get_354 : decode b_Mo_get 354 = .ok (.iconst 2, 1) := by decide +kernel
theorem d_Mo_get_355 : decode b_Mo_get 355 = .ok (.goto 10, 3) := by decide +kernel
theorem d_Mo_get_358 : decode b_Mo_get 358 = .ok (.aload_n 0, 1) := by decide +kernel
theorem d_Mo_get_359 : decode b_Mo_get 359 = .ok (.getfield 44, 3) := by decide +kernel
theorem d_Mo_get_362 : decode b_Mo_get 362 = .ok (.iload 6, 2) := by decide +kernel
theorem d_Mo_get_364 : decode b_Mo_get 364 = .ok (.iaload, 1) := by decide +kernel
theorem d_Mo_get_365 : decode b_Mo_get 365 = .ok (.iastore, 1) := by decide +kernel
theorem d_Mo_get_366 : decode b_Mo_get 366 = .ok (.aload_n 0, 1) := by decide +kernel
theorem d_Mo_get_367 : decode b_Mo_get 367 = .ok (.getfield 47, 3) := by decide +kernel
theorem d_Mo_get_370 : decode b_Mo_get 370 = .ok (.iload 6, 2) := by decide +kernel
theorem d_Mo_get_372 : decode b_Mo_get 372 = .ok (.iload 8, 2) := by decide +kernel
theorem d_Mo_get_374 : decode b_Mo_get 374 = .ok (.ifCond .ge 7, 3) := by decide +kernel
theorem d_Mo_get_377 : decode b_Mo_get 377 = .ok (.iconst 0, 1) := by decide +kernel
theorem d_Mo_get_378 : decode b_Mo_get 378 = .ok (.goto 5, 3) := by decide +kernel
theorem d_Mo_get_381 : decode b_Mo_get 381 = .ok (.iload 8, 2) := by decide +kernel
theorem d_Mo_get_383 : decode b_Mo_get 383 = .ok (.iastore, 1) := by decide +kernel
theorem d_Mo_get_384 : decode b_Mo_get 384 = .ok (.iinc 6 1, 3) := by decide +kernel
theorem d_Mo_get_387 : decode b_Mo_get 387 = .ok (.goto (-170), 3) := by decide +kernel
theorem d_Mo_get_390 : decode b_Mo_get 390 = .ok (.aload_n 0, 1) := by decide +kernel
theorem d_Mo_get_391 : decode b_Mo_get 391 = .ok (.iload_n 2, 1) := by decide +kernel
theorem d_Mo_get_392 : decode b_Mo_get 392 = .ok (.invokevirtual 84, 3) := by decide +kernel
theorem d_Mo_get_395 : decode b_Mo_get 395 = .ok (.aload_n 0, 1) := by decide +kernel
theorem d_Mo_get_396 : decode b_Mo_get 396 = .ok (.getfield 20, 3) := by decide +kernel
theorem d_Mo_get_399 : decode b_Mo_get 399 = .ok (.iload_n 1, 1) := by decide +kernel
theorem d_Mo_get_400 : decode b_Mo_get 400 = .ok (.dup2, 1) := by decide +kernel
theorem d_Mo_get_401 : decode b_Mo_get 401 = .ok (.iaload, 1) := by decide +kernel
theorem d_Mo_get_402 : decode b_Mo_get 402 = .ok (.iconst 1, 1) := by decide +kernel
theorem d_Mo_get_403 : decode b_Mo_get 403 = .ok (.iadd, 1) := by decide +kernel
theorem d_Mo_get_404 : decode b_Mo_get 404 = .ok (.iastore, 1) := by decide +kernel
theorem d_Mo_get_405 : decode b_Mo_get 405 = .ok (.return_, 1) := by decide +kernel
theorem d_Mo_got_0 : decode b_Mo_got 0 = .ok (.aload_n 0, 1) := by decide +kernel
theorem d_Mo_got_1 : decode b_Mo_got 1 = .ok (.iload_n 1, 1) := by decide +kernel
theorem d_Mo_got_2 : decode b_Mo_got 2 = .ok (.invokestatic 94, 3) := by decide +kernel
theorem d_Mo_got_5 : decode b_Mo_got 5 = .ok (.ifCond .eq 7, 3) := by decide +kernel
theorem d_Mo_got_8 : decode b_Mo_got 8 = .ok (.iconst 0, 1) := by decide +kernel
theorem d_Mo_got_9 : decode b_Mo_got 9 = .ok (.goto 4, 3) := by decide +kernel
theorem d_Mo_got_12 : decode b_Mo_got 12 = .ok (.iconst 1, 1) := by decide +kernel
theorem d_Mo_got_13 : decode b_Mo_got 13 = .ok (.putfield 56, 3) := by decide +kernel
theorem d_Mo_got_16 : decode b_Mo_got 16 = .ok (.aload_n 0, 1) := by decide +kernel
theorem d_Mo_got_17 : decode b_Mo_got 17 = .ok (.getfield 56, 3) := by decide +kernel
theorem d_Mo_got_20 : decode b_Mo_got 20 = .ok (.ifCond .ne 16, 3) := by decide +kernel
theorem d_Mo_got_23 : decode b_Mo_got 23 = .ok (.aload_n 0, 1) := by decide +kernel
theorem d_Mo_got_24 : decode b_Mo_got 24 = .ok (.getfield 20, 3) := by decide +kernel
theorem d_Mo_got_27 : decode b_Mo_got 27 = .ok (.iload_n 1, 1) := by decide +kernel
theorem d_Mo_got_28 : decode b_Mo_got 28 = .ok (.iload_n 2, 1) := by decide +kernel
theorem d_Mo_got_29 : decode b_Mo_got 29 = .ok (.invokestatic 87, 3) := by decide +kernel
theorem d_Mo_got_32 : decode b_Mo_got 32 = .ok (.iaload, 1) := by decide +kernel
theorem d_Mo_got_33 : decode b_Mo_got 33 = .ok (.goto 4, 3) := by decide +kernel
theorem d_Mo_got_36 : decode b_Mo_got 36 = .ok (.iconst 0, 1) := by decide +kernel
theorem d_Mo_got_37 : decode b_Mo_got 37 = .ok (.ireturn, 1) := by decide +kernel
theorem d_Mo_init_0 : decode b_Mo_init 0 = .ok (.aload_n 0, 1) := by decide +kernel
theorem d_Mo_init_1 : decode b_Mo_init 1 = .ok (.invokespecial 1, 3) := by decide +kernel
theorem d_Mo_init_4 : decode b_Mo_init 4 = .ok (.aload_n 0, 1) := by decide +kernel
theorem d_Mo_init_5 : decode b_Mo_init 5 = .ok (.iconst 4, 1) := by decide +kernel
theorem d_Mo_init_6 : decode b_Mo_init 6 = .ok (.newarray .int, 2) := by decide +kernel
theorem d_Mo_init_8 : decode b_Mo_init 8 = .ok (.putfield 7, 3) := by decide +kernel
theorem d_Mo_init_11 : decode b_Mo_init 11 = .ok (.aload_n 0, 1) := by decide +kernel
theorem d_Mo_init_12 : decode b_Mo_init 12 = .ok (.sipush 800, 3) := by decide +kernel
theorem d_Mo_init_15 : decode b_Mo_init 15 = .ok (.newarray .char, 2) := by decide +kernel
theorem d_Mo_init_17 : decode b_Mo_init 17 = .ok (.putfield 13, 3) := by decide +kernel
theorem d_Mo_init_20 : decode b_Mo_init 20 = .ok (.aload_n 0, 1) := by decide +kernel
theorem d_Mo_init_21 : decode b_Mo_init 21 = .ok (.bipush 6, 2) := by decide +kernel
theorem d_Mo_init_23 : decode b_Mo_init 23 = .ok (.newarray .int, 2) := by decide +kernel
theorem d_Mo_init_25 : decode b_Mo_init 25 = .ok (.putfield 17, 3) := by decide +kernel
theorem d_Mo_init_28 : decode b_Mo_init 28 = .ok (.aload_n 0, 1) := by decide +kernel
theorem d_Mo_init_29 : decode b_Mo_init 29 = .ok (.bipush 6, 2) := by decide +kernel
theorem d_Mo_init_31 : decode b_Mo_init 31 = .ok (.newarray .int, 2) := by decide +kernel
theorem d_Mo_init_33 : decode b_Mo_init 33 = .ok (.putfield 20, 3) := by decide +kernel
theorem d_Mo_init_36 : decode b_Mo_init 36 = .ok (.aload_n 0, 1) := by decide +kernel
theorem d_Mo_init_37 : decode b_Mo_init 37 = .ok (.bipush 6, 2) := by decide +kernel
theorem d_Mo_init_39 : decode b_Mo_init 39 = .ok (.newarray .int, 2) := by decide +kernel
theorem d_Mo_init_41 : decode b_Mo_init 41 = .ok (.putfield 23, 3) := by decide +kernel
theorem d_Mo_init_44 : decode b_Mo_init 44 = .ok (.aload_n 0, 1) := by decide +kernel
theorem d_Mo_init_45 : decode b_Mo_init 45 = .ok (.sipush 240, 3) := by decide +kernel
theorem d_Mo_init_48 : decode b_Mo_init 48 = .ok (.newarray .int, 2) := by decide +kernel
theorem d_Mo_init_50 : decode b_Mo_init 50 = .ok (.putfield 26, 3) := by decide +kernel
theorem d_Mo_init_53 : decode b_Mo_init 53 = .ok (.aload_n 0, 1) := by decide +kernel
theorem d_Mo_init_54 : decode b_Mo_init 54 = .ok (.sipush 240, 3) := by decide +kernel
theorem d_Mo_init_57 : decode b_Mo_init 57 = .ok (.newarray .int, 2) := by decide +kernel
theorem d_Mo_init_59 : decode b_Mo_init 59 = .ok (.putfield 29, 3) := by decide +kernel
theorem d_Mo_init_62 : decode b_Mo_init 62 = .ok (.aload_n 0, 1) := by decide +kernel
theorem d_Mo_init_63 : decode b_Mo_init 63 = .ok (.sipush 240, 3) := by decide +kernel
theorem d_Mo_init_66 : decode b_Mo_init 66 = .ok (.newarray .int, 2) := by decide +kernel
theorem d_Mo_init_68 : decode b_Mo_init 68 = .ok (.putfield 32, 3) := by decide +kernel
theorem d_Mo_init_71 : decode b_Mo_init 71 = .ok (.aload_n 0, 1) := by decide +kernel
theorem d_Mo_init_72 : decode b_Mo_init 72 = .ok (.sipush 240, 3) := by decide +kernel
theorem d_Mo_init_75 : decode b_Mo_init 75 = .ok (.newarray .int, 2) := by decide +kernel
theorem d_Mo_init_77 : decode b_Mo_init 77 = .ok (.putfield 35, 3) := by decide +kernel
theorem d_Mo_init_80 : decode b_Mo_init 80 = .ok (.aload_n 0, 1) := by decide +kernel
theorem d_Mo_init_81 : decode b_Mo_init 81 = .ok (.sipush 240, 3) := by decide +kernel
theorem d_Mo_init_84 : decode b_Mo_init 84 = .ok (.newarray .int, 2) := by decide +kernel
theorem d_Mo_init_86 : decode b_Mo_init 86 = .ok (.putfield 38, 3) := by decide +kernel
theorem d_Mo_init_89 : decode b_Mo_init 89 = .ok (.aload_n 0, 1) := by decide +kernel
theorem d_Mo_init_90 : decode b_Mo_init 90 = .ok (.bipush 6, 2) := by decide +kernel
theorem d_Mo_init_92 : decode b_Mo_init 92 = .ok (.newarray .int, 2) := by decide +kernel
theorem d_Mo_init_94 : decode b_Mo_init 94 = .ok (.putfield 41, 3) := by decide +kernel
theorem d_Mo_init_97 : decode b_Mo_init 97 = .ok (.aload_n 0, 1) := by decide +kernel
theorem d_Mo_init_98 : decode b_Mo_init 98 = .ok (.sipush 240, 3) := by decide +kernel
theorem d_Mo_init_101 : decode b_Mo_init 101 = .ok (.newarray .int, 2) := by decide +kernel
theorem d_Mo_init_103 : decode b_Mo_init 103 = .ok (.putfield 44, 3) := by decide +kernel
theorem d_Mo_init_106 : decode b_Mo_init 106 = .ok (.aload_n 0, 1) := by decide +kernel
theorem d_Mo_init_107 : decode b_Mo_init 107 = .ok (.sipush 240, 3) := by decide +kernel
theorem d_Mo_init_110 : decode b_Mo_init 110 = .ok (.newarray .int, 2) := by decide +kernel
theorem d_Mo_init_112 : decode b_Mo_init 112 = .ok (.putfield 47, 3) := by decide +kernel
theorem d_Mo_init_115 : decode b_Mo_init 115 = .ok (.aload_n 0, 1) := by decide +kernel
theorem d_Mo_init_116 : decode b_Mo_init 116 = .ok (.sipush 240, 3) := by decide +kernel
theorem d_Mo_init_119 : decode b_Mo_init 119 = .ok (.newarray .int, 2) := by decide +kernel
theorem d_Mo_init_121 : decode b_Mo_init 121 = .ok (.putfield 50, 3) := by decide +kernel
theorem d_Mo_init_124 : decode b_Mo_init 124 = .ok (.aload_n 0, 1) := by decide +kernel
theorem d_Mo_init_125 : decode b_Mo_init 125 = .ok (.sipush 240, 3) := by decide +kernel
theorem d_Mo_init_128 : decode b_Mo_init 128 = .ok (.newarray .int, 2) := by decide +kernel
theorem d_Mo_init_130 : decode b_Mo_init 130 = .ok (.putfield 53, 3) := by decide +kernel
theorem d_Mo_init_133 : decode b_Mo_init 133 = .ok (.return_, 1) := by decide +kernel
theorem d_Mo_insert_0 : decode b_Mo_insert 0 = .ok (.iload_n 1, 1) := by decide +kernel
theorem d_Mo_insert_1 : decode b_Mo_insert 1 = .ok (.invokestatic 94, 3) := by decide +kernel
theorem d_Mo_insert_4 : decode b_Mo_insert 4 = .ok (.ifCond .eq 15, 3) := by decide +kernel
theorem d_Mo_insert_7 : decode b_Mo_insert 7 = .ok (.iload_n 3, 1) := by decide +kernel
theorem d_Mo_insert_8 : decode b_Mo_insert 8 = .ok (.bipush 32, 2) := by decide +kernel
theorem d_Mo_insert_10 : decode b_Mo_insert 10 = .ok (.if_icmp .lt 9, 3) := by decide +kernel
theorem d_Mo_insert_13 : decode b_Mo_insert 13 = .ok (.iload_n 3, 1) := by decide +kernel
theorem d_Mo_insert_14 : decode b_Mo_insert 14 = .ok (.bipush 126, 2) := by decide +kernel
theorem d_Mo_insert_16 : decode b_Mo_insert 16 = .ok (.if_icmp .le 7, 3) := by decide +kernel
theorem d_Mo_insert_19 : decode b_Mo_insert 19 = .ok (.iconst 1, 1) := by decide +kernel
theorem d_Mo_insert_20 : decode b_Mo_insert 20 = .ok (.goto 4, 3) := by decide +kernel
theorem d_Mo_insert_23 : decode b_Mo_insert 23 = .ok (.iconst 0, 1) := by decide +kernel
theorem d_Mo_insert_24 : decode b_Mo_insert 24 = .ok (.istore 4, 2) := by decide +kernel
theorem d_Mo_insert_26 : decode b_Mo_insert 26 = .ok (.aload_n 0, 1) := by decide +kernel
theorem d_Mo_insert_27 : decode b_Mo_insert 27 = .ok (.iload 4, 2) := by decide +kernel
theorem d_Mo_insert_29 : decode b_Mo_insert 29 = .ok (.ifCond .eq 7, 3) := by decide +kernel
theorem d_Mo_insert_32 : decode b_Mo_insert 32 = .ok (.iconst 1, 1) := by decide +kernel
theorem d_Mo_insert_33 : decode b_Mo_insert 33 = .ok (.goto 45, 3) := by decide +kernel
theorem d_Mo_insert_36 : decode b_Mo_insert 36 = .ok (.iload_n 2, 1) := by decide +kernel
theorem d_Mo_insert_37 : decode b_Mo_insert 37 = .ok (.ifCond .lt 13, 3) := by decide +kernel
theorem d_Mo_insert_40 : decode b_Mo_insert 40 = .ok (.iload_n 2, 1) := by decide +kernel
theorem d_Mo_insert_41 : decode b_Mo_insert 41 = .ok (.aload_n 0, 1) := by decide +kernel
theorem d_Mo_insert_42 : decode b_Mo_insert 42 = .ok (.getfield 7, 3) := by decide +kernel
theorem d_Mo_insert_45 : decode b_Mo_insert 45 = .ok (.iload_n 1, 1) := by decide +kernel
theorem d_Mo_insert_46 : decode b_Mo_insert 46 = .ok (.iaload, 1) := by decide +kernel
theorem d_Mo_insert_47 : decode b_Mo_insert 47 = .ok (.if_icmp .le 7, 3) := by decide +kernel
theorem d_Mo_insert_50 : decode b_Mo_insert 50 = .ok (.iconst 2, 1) := by decide +kernel
theorem d_Mo_insert_51 : decode b_Mo_insert 51 = .ok (.goto 27, 3) := by decide +kernel
theorem d_Mo_insert_54 : decode b_Mo_insert 54 = .ok (.aload_n 0, 1) := by decide +kernel
theorem d_Mo_insert_55 : decode b_Mo_insert 55 = .ok (.getfield 7, 3) := by decide +kernel
theorem d_Mo_insert_58 : decode b_Mo_insert 58 = .ok (.iload_n 1, 1) := by decide +kernel
theorem d_Mo_insert_59 : decode b_Mo_insert 59 = .ok (.iaload, 1) := by decide +kernel
theorem d_Mo_insert_60 : decode b_Mo_insert 60 = .ok (.bipush 40, 2) := by decide +kernel
theorem d_Mo_insert_62 : decode b_Mo_insert 62 = .ok (.if_icmp .ge 11, 3) := by decide +kernel
theorem d_Mo_insert_65 : decode b_Mo_insert 65 = .ok (.aload_n 0, 1) := by decide +kernel
theorem d_Mo_insert_66 : decode b_Mo_insert 66 = .ok (.iload_n 1, 1) := by decide +kernel
theorem d_Mo_insert_67 : decode b_Mo_insert 67 = .ok (.invokevirtual 98, 3) := by decide +kernel
theorem d_Mo_insert_70 : decode b_Mo_insert 70 = .ok (.ifCond .eq 7, 3) := by decide +kernel
theorem d_Mo_insert_73 : decode b_Mo_insert 73 = .ok (.iconst 3, 1) := by decide +kernel
theorem d_Mo_insert_74 : decode b_Mo_insert 74 = .ok (.goto 4, 3) := by decide +kernel
theorem d_Mo_insert_77 : decode b_Mo_insert 77 = .ok (.iconst 0, 1) := by decide +kernel
theorem d_Mo_insert_78 : decode b_Mo_insert 78 = .ok (.putfield 56, 3) := by decide +kernel
theorem d_Mo_insert_81 : decode b_Mo_insert 81 = .ok (.aload_n 0, 1) := by decide +kernel
theorem d_Mo_insert_82 : decode b_Mo_insert 82 = .ok (.getfield 56, 3) := by decide +kernel
theorem d_Mo_insert_85 : decode b_Mo_insert 85 = .ok (.ifCond .eq 5, 3) := by decide +kernel
theorem d_Mo_insert_88 : decode b_Mo_insert 88 = .ok (.iconst 0, 1) := by decide +kernel
theorem d_Mo_insert_89 : decode b_Mo_insert 89 = .ok (.ireturn, 1) := by decide +kernel
theorem d_Mo_insert_90 : decode b_Mo_insert 90 = .ok (.aload_n 0, 1) := by decide +kernel
theorem d_Mo_insert_91 : decode b_Mo_insert 91 = .ok (.iload_n 1, 1) := by decide +kernel
theorem d_Mo_insert_92 : decode b_Mo_insert 92 = .ok (.iconst 0, 1) := by decide +kernel
theorem d_Mo_insert_93 : decode b_Mo_insert 93 = .ok (.iload_n 2, 1) := by decide +kernel
theorem d_Mo_insert_94 : decode b_Mo_insert 94 = .ok (.iload_n 3, 1) := by decide +kernel
theorem d_Mo_insert_95 : decode b_Mo_insert 95 = .ok (.invokevirtual 101, 3) := by decide +kernel
theorem d_Mo_insert_98 : decode b_Mo_insert 98 = .ok (.aload_n 0, 1) := by decide +kernel
theorem d_Mo_insert_99 : decode b_Mo_insert 99 = .ok (.getfield 7, 3) := by decide +kernel
theorem d_Mo_insert_102 : decode b_Mo_insert 102 = .ok (.iload_n 1, 1) := by decide +kernel
theorem d_Mo_insert_103 : decode b_Mo_insert 103 = .ok (.iaload, 1) := by decide +kernel
theorem d_Mo_insert_104 : decode b_Mo_insert 104 = .ok (.ireturn, 1) := by decide +kernel
theorem d_Mo_isClient_0 : decode b_Mo_isClient 0 = .ok (.iload_n 0, 1) := by decide +kernel
theorem d_Mo_isClient_1 : decode b_Mo_isClient 1 = .ok (.iconst 1, 1) := by decide +kernel
theorem d_Mo_isClient_2 : decode b_Mo_isClient 2 = .ok (.if_icmp .lt 12, 3) := by decide +kernel
theorem d_Mo_isClient_5 : decode b_Mo_isClient 5 = .ok (.iload_n 0, 1) := by decide +kernel
theorem d_Mo_isClient_6 : decode b_Mo_isClient 6 = .ok (.iconst 3, 1) := by decide +kernel
theorem d_Mo_isClient_7 : decode b_Mo_isClient 7 = .ok (.if_icmp .gt 7, 3) := by decide +kernel
theorem d_Mo_isClient_10 : decode b_Mo_isClient 10 = .ok (.iconst 1, 1) := by decide +kernel
theorem d_Mo_isClient_11 : decode b_Mo_isClient 11 = .ok (.goto 4, 3) := by decide +kernel
theorem d_Mo_isClient_14 : decode b_Mo_isClient 14 = .ok (.iconst 0, 1) := by decide +kernel
theorem d_Mo_isClient_15 : decode b_Mo_isClient 15 = .ok (.ireturn, 1) := by decide +kernel
theorem d_Mo_isSite_0 : decode b_Mo_isSite 0 = .ok (.iload_n 0, 1) := by decide +kernel
theorem d_Mo_isSite_1 : decode b_Mo_isSite 1 = .ok (.ifCond .lt 12, 3) := by decide +kernel
theorem d_Mo_isSite_4 : decode b_Mo_isSite 4 = .ok (.iload_n 0, 1) := by decide +kernel
theorem d_Mo_isSite_5 : decode b_Mo_isSite 5 = .ok (.iconst 3, 1) := by decide +kernel
theorem d_Mo_isSite_6 : decode b_Mo_isSite 6 = .ok (.if_icmp .gt 7, 3) := by decide +kernel
theorem d_Mo_isSite_9 : decode b_Mo_isSite 9 = .ok (.iconst 1, 1) := by decide +kernel
theorem d_Mo_isSite_10 : decode b_Mo_isSite 10 = .ok (.goto 4, 3) := by decide +kernel
theorem d_Mo_isSite_13 : decode b_Mo_isSite 13 = .ok (.iconst 0, 1) := by decide +kernel
theorem d_Mo_isSite_14 : decode b_Mo_isSite 14 = .ok (.ireturn, 1) := by decide +kernel
theorem d_Mo_letter_0 : decode b_Mo_letter 0 = .ok (.aload_n 0, 1) := by decide +kernel
theorem d_Mo_letter_1 : decode b_Mo_letter 1 = .ok (.iload_n 1, 1) := by decide +kernel
theorem d_Mo_letter_2 : decode b_Mo_letter 2 = .ok (.invokestatic 109, 3) := by decide +kernel
theorem d_Mo_letter_5 : decode b_Mo_letter 5 = .ok (.ifCond .ne 7, 3) := by decide +kernel
theorem d_Mo_letter_8 : decode b_Mo_letter 8 = .ok (.iconst 1, 1) := by decide +kernel
theorem d_Mo_letter_9 : decode b_Mo_letter 9 = .ok (.goto 22, 3) := by decide +kernel
theorem d_Mo_letter_12 : decode b_Mo_letter 12 = .ok (.iload_n 2, 1) := by decide +kernel
theorem d_Mo_letter_13 : decode b_Mo_letter 13 = .ok (.ifCond .lt 13, 3) := by decide +kernel
theorem d_Mo_letter_16 : decode b_Mo_letter 16 = .ok (.iload_n 2, 1) := by decide +kernel
theorem d_Mo_letter_17 : decode b_Mo_letter 17 = .ok (.aload_n 0, 1) := by decide +kernel
theorem d_Mo_letter_18 : decode b_Mo_letter 18 = .ok (.getfield 7, 3) := by decide +kernel
theorem d_Mo_letter_21 : decode b_Mo_letter 21 = .ok (.iload_n 1, 1) := by decide +kernel
theorem d_Mo_letter_22 : decode b_Mo_letter 22 = .ok (.iaload, 1) := by decide +kernel
theorem d_Mo_letter_23 : decode b_Mo_letter 23 = .ok (.if_icmp .lt 7, 3) := by decide +kernel
theorem d_Mo_letter_26 : decode b_Mo_letter 26 = .ok (.iconst 2, 1) := by decide +kernel
theorem d_Mo_letter_27 : decode b_Mo_letter 27 = .ok (.goto 4, 3) := by decide +kernel
theorem d_Mo_letter_30 : decode b_Mo_letter 30 = .ok (.iconst 0, 1) := by decide +kernel
theorem d_Mo_letter_31 : decode b_Mo_letter 31 = .ok (.putfield 56, 3) := by decide +kernel
theorem d_Mo_letter_34 : decode b_Mo_letter 34 = .ok (.aload_n 0, 1) := by decide +kernel
theorem d_Mo_letter_35 : decode b_Mo_letter 35 = .ok (.getfield 56, 3) := by decide +kernel
theorem d_Mo_letter_38 : decode b_Mo_letter 38 = .ok (.ifCond .ne 18, 3) := by decide +kernel
theorem d_Mo_letter_41 : decode b_Mo_letter 41 = .ok (.aload_n 0, 1) := by decide +kernel
theorem d_Mo_letter_42 : decode b_Mo_letter 42 = .ok (.getfield 13, 3) := by decide +kernel
theorem d_Mo_letter_45 : decode b_Mo_letter 45 = .ok (.sipush 200, 3) := by decide +kernel
theorem d_Mo_letter_48 : decode b_Mo_letter 48 = .ok (.iload_n 1, 1) := by decide +kernel
theorem d_Mo_letter_49 : decode b_Mo_letter 49 = .ok (.imul, 1) := by decide +kernel
theorem d_Mo_letter_50 : decode b_Mo_letter 50 = .ok (.iload_n 2, 1) := by decide +kernel
theorem d_Mo_letter_51 : decode b_Mo_letter 51 = .ok (.iadd, 1) := by decide +kernel
theorem d_Mo_letter_52 : decode b_Mo_letter 52 = .ok (.caload, 1) := by decide +kernel
theorem d_Mo_letter_53 : decode b_Mo_letter 53 = .ok (.goto 4, 3) := by decide +kernel
theorem d_Mo_letter_56 : decode b_Mo_letter 56 = .ok (.iconst 0, 1) := by decide +kernel
theorem d_Mo_letter_57 : decode b_Mo_letter 57 = .ok (.ireturn, 1) := by decide +kernel
theorem d_Mo_line_0 : decode b_Mo_line 0 = .ok (.iconst 2, 1) := by decide +kernel
theorem d_Mo_line_1 : decode b_Mo_line 1 = .ok (.iload_n 0, 1) := by decide +kernel
theorem d_Mo_line_2 : decode b_Mo_line 2 = .ok (.imul, 1) := by decide +kernel
theorem d_Mo_line_3 : decode b_Mo_line 3 = .ok (.iload_n 1, 1) := by decide +kernel
theorem d_Mo_line_4 : decode b_Mo_line 4 = .ok (.ifCond .eq 7, 3) := by decide +kernel
theorem d_Mo_line_7 : decode b_Mo_line 7 = .ok (.iconst 2, 1) := by decide +kernel
theorem d_Mo_line_8 : decode b_Mo_line 8 = .ok (.goto 4, 3) := by decide +kernel
theorem d_Mo_line_11 : decode b_Mo_line 11 = .ok (.iconst 1, 1) := by decide +kernel
theorem d_Mo_line_12 : decode b_Mo_line 12 = .ok (.isub, 1) := by decide +kernel
theorem d_Mo_line_13 : decode b_Mo_line 13 = .ok (.ireturn, 1) := by decide +kernel
theorem d_Mo_loaded_0 : decode b_Mo_loaded 0 = .ok (.aload_n 0, 1) := by decide +kernel
theorem d_Mo_loaded_1 : decode b_Mo_loaded 1 = .ok (.getfield 41, 3) := by decide +kernel
theorem d_Mo_loaded_4 : decode b_Mo_loaded 4 = .ok (.iload_n 1, 1) := by decide +kernel
theorem d_Mo_loaded_5 : decode b_Mo_loaded 5 = .ok (.iconst 1, 1) := by decide +kernel
theorem d_Mo_loaded_6 : decode b_Mo_loaded 6 = .ok (.invokestatic 87, 3) := by decide +kernel
theorem d_Mo_loaded_9 : decode b_Mo_loaded 9 = .ok (.iaload, 1) := by decide +kernel
theorem d_Mo_loaded_10 : decode b_Mo_loaded 10 = .ok (.bipush 16, 2) := by decide +kernel
theorem d_Mo_loaded_12 : decode b_Mo_loaded 12 = .ok (.if_icmp .lt 7, 3) := by decide +kernel
theorem d_Mo_loaded_15 : decode b_Mo_loaded 15 = .ok (.iconst 1, 1) := by decide +kernel
theorem d_Mo_loaded_16 : decode b_Mo_loaded 16 = .ok (.goto 4, 3) := by decide +kernel
theorem d_Mo_loaded_19 : decode b_Mo_loaded 19 = .ok (.iconst 0, 1) := by decide +kernel
theorem d_Mo_loaded_20 : decode b_Mo_loaded 20 = .ok (.ireturn, 1) := by decide +kernel
theorem d_Mo_nod_0 : decode b_Mo_nod 0 = .ok (.aload_n 0, 1) := by decide +kernel
theorem d_Mo_nod_1 : decode b_Mo_nod 1 = .ok (.iload_n 1, 1) := by decide +kernel
theorem d_Mo_nod_2 : decode b_Mo_nod 2 = .ok (.invokestatic 94, 3) := by decide +kernel
theorem d_Mo_nod_5 : decode b_Mo_nod 5 = .ok (.ifCond .ne 7, 3) := by decide +kernel
theorem d_Mo_nod_8 : decode b_Mo_nod 8 = .ok (.iconst 1, 1) := by decide +kernel
theorem d_Mo_nod_9 : decode b_Mo_nod 9 = .ok (.goto 16, 3) := by decide +kernel
theorem d_Mo_nod_12 : decode b_Mo_nod 12 = .ok (.aload_n 0, 1) := by decide +kernel
theorem d_Mo_nod_13 : decode b_Mo_nod 13 = .ok (.iload_n 1, 1) := by decide +kernel
theorem d_Mo_nod_14 : decode b_Mo_nod 14 = .ok (.invokevirtual 98, 3) := by decide +kernel
theorem d_Mo_nod_17 : decode b_Mo_nod 17 = .ok (.ifCond .eq 7, 3) := by decide +kernel
theorem d_Mo_nod_20 : decode b_Mo_nod 20 = .ok (.iconst 2, 1) := by decide +kernel
theorem d_Mo_nod_21 : decode b_Mo_nod 21 = .ok (.goto 4, 3) := by decide +kernel
theorem d_Mo_nod_24 : decode b_Mo_nod 24 = .ok (.iconst 0, 1) := by decide +kernel
theorem d_Mo_nod_25 : decode b_Mo_nod 25 = .ok (.putfield 56, 3) := by decide +kernel
theorem d_Mo_nod_28 : decode b_Mo_nod 28 = .ok (.aload_n 0, 1) := by decide +kernel
theorem d_Mo_nod_29 : decode b_Mo_nod 29 = .ok (.getfield 56, 3) := by decide +kernel
theorem d_Mo_nod_32 : decode b_Mo_nod 32 = .ok (.ifCond .ne 11, 3) := by decide +kernel
theorem d_Mo_nod_35 : decode b_Mo_nod 35 = .ok (.aload_n 0, 1) := by decide +kernel
theorem d_Mo_nod_36 : decode b_Mo_nod 36 = .ok (.iload_n 1, 1) := by decide +kernel
theorem d_Mo_nod_37 : decode b_Mo_nod 37 = .ok (.iconst 2, 1) := by decide +kernel
theorem d_Mo_nod_38 : decode b_Mo_nod 38 = .ok (.iconst 0, 1) := by decide +kernel
theorem d_Mo_nod_39 : decode b_Mo_nod 39 = .ok (.iconst 0, 1) := by decide +kernel
theorem d_Mo_nod_40 : decode b_Mo_nod 40 = .ok (.invokevirtual 101, 3) := by decide +kernel
theorem d_Mo_nod_43 : decode b_Mo_nod 43 = .ok (.return_, 1) := by decide +kernel
theorem d_Mo_open_0 : decode b_Mo_open 0 = .ok (.aload_n 0, 1) := by decide +kernel
theorem d_Mo_open_1 : decode b_Mo_open 1 = .ok (.iload_n 1, 1) := by decide +kernel
theorem d_Mo_open_2 : decode b_Mo_open 2 = .ok (.invokestatic 94, 3) := by decide +kernel
theorem d_Mo_open_5 : decode b_Mo_open 5 = .ok (.ifCond .eq 7, 3) := by decide +kernel
theorem d_Mo_open_8 : decode b_Mo_open 8 = .ok (.iconst 0, 1) := by decide +kernel
theorem d_Mo_open_9 : decode b_Mo_open 9 = .ok (.goto 4, 3) := by decide +kernel
theorem d_Mo_open_12 : decode b_Mo_open 12 = .ok (.iconst 1, 1) := by decide +kernel
theorem d_Mo_open_13 : decode b_Mo_open 13 = .ok (.putfield 56, 3) := by decide +kernel
theorem d_Mo_open_16 : decode b_Mo_open 16 = .ok (.aload_n 0, 1) := by decide +kernel
theorem d_Mo_open_17 : decode b_Mo_open 17 = .ok (.getfield 56, 3) := by decide +kernel
theorem d_Mo_open_20 : decode b_Mo_open 20 = .ok (.ifCond .ne 16, 3) := by decide +kernel
theorem d_Mo_open_23 : decode b_Mo_open 23 = .ok (.aload_n 0, 1) := by decide +kernel
theorem d_Mo_open_24 : decode b_Mo_open 24 = .ok (.getfield 41, 3) := by decide +kernel
theorem d_Mo_open_27 : decode b_Mo_open 27 = .ok (.iload_n 1, 1) := by decide +kernel
theorem d_Mo_open_28 : decode b_Mo_open 28 = .ok (.iload_n 2, 1) := by decide +kernel
theorem d_Mo_open_29 : decode b_Mo_open 29 = .ok (.invokestatic 87, 3) := by decide +kernel
theorem d_Mo_open_32 : decode b_Mo_open 32 = .ok (.iaload, 1) := by decide +kernel
theorem d_Mo_open_33 : decode b_Mo_open 33 = .ok (.goto 4, 3) := by decide +kernel
theorem d_Mo_open_36 : decode b_Mo_open 36 = .ok (.iconst 0, 1) := by decide +kernel
theorem d_Mo_open_37 : decode b_Mo_open 37 = .ok (.ireturn, 1) := by decide +kernel
theorem d_Mo_pull_0 : decode b_Mo_pull 0 = .ok (.aload_n 0, 1) := by decide +kernel
theorem d_Mo_pull_1 : decode b_Mo_pull 1 = .ok (.iload_n 1, 1) := by decide +kernel
theorem d_Mo_pull_2 : decode b_Mo_pull 2 = .ok (.invokestatic 94, 3) := by decide +kernel
theorem d_Mo_pull_5 : decode b_Mo_pull 5 = .ok (.ifCond .ne 7, 3) := by decide +kernel
theorem d_Mo_pull_8 : decode b_Mo_pull 8 = .ok (.iconst 1, 1) := by decide +kernel
theorem d_Mo_pull_9 : decode b_Mo_pull 9 = .ok (.goto 21, 3) := by decide +kernel
theorem d_Mo_pull_12 : decode b_Mo_pull 12 = .ok (.aload_n 0, 1) := by decide +kernel
theorem d_Mo_pull_13 : decode b_Mo_pull 13 = .ok (.getfield 23, 3) := by decide +kernel
theorem d_Mo_pull_16 : decode b_Mo_pull 16 = .ok (.iload_n 1, 1) := by decide +kernel
theorem d_Mo_pull_17 : decode b_Mo_pull 17 = .ok (.iconst 0, 1) := by decide +kernel
theorem d_Mo_pull_18 : decode b_Mo_pull 18 = .ok (.invokestatic 87, 3) := by decide +kernel
theorem d_Mo_pull_21 : decode b_Mo_pull 21 = .ok (.iaload, 1) := by decide +kernel
theorem d_Mo_pull_22 : decode b_Mo_pull 22 = .ok (.ifCond .ne 7, 3) := by decide +kernel
theorem d_Mo_pull_25 : decode b_Mo_pull 25 = .ok (.iconst 2, 1) := by decide +kernel
theorem d_Mo_pull_26 : decode b_Mo_pull 26 = .ok (.goto 4, 3) := by decide +kernel
theorem d_Mo_pull_29 : decode b_Mo_pull 29 = .ok (.iconst 0, 1) := by decide +kernel
theorem d_Mo_pull_30 : decode b_Mo_pull 30 = .ok (.putfield 56, 3) := by decide +kernel
theorem d_Mo_pull_33 : decode b_Mo_pull 33 = .ok (.aload_n 0, 1) := by decide +kernel
theorem d_Mo_pull_34 : decode b_Mo_pull 34 = .ok (.getfield 56, 3) := by decide +kernel
theorem d_Mo_pull_37 : decode b_Mo_pull 37 = .ok (.ifCond .eq 5, 3) := by decide +kernel
theorem d_Mo_pull_40 : decode b_Mo_pull 40 = .ok (.iconst 0, 1) := by decide +kernel
theorem d_Mo_pull_41 : decode b_Mo_pull 41 = .ok (.ireturn, 1) := by decide +kernel
theorem d_Mo_pull_42 : decode b_Mo_pull 42 = .ok (.aload_n 0, 1) := by decide +kernel
theorem d_Mo_pull_43 : decode b_Mo_pull 43 = .ok (.iload_n 1, 1) := by decide +kernel
theorem d_Mo_pull_44 : decode b_Mo_pull 44 = .ok (.iconst 0, 1) := by decide +kernel
theorem d_Mo_pull_45 : decode b_Mo_pull 45 = .ok (.invokestatic 87, 3) := by decide +kernel
theorem d_Mo_pull_48 : decode b_Mo_pull 48 = .ok (.iload_n 1, 1) := by decide +kernel
theorem d_Mo_pull_49 : decode b_Mo_pull 49 = .ok (.invokevirtual 105, 3) := by decide +kernel
theorem d_Mo_pull_52 : decode b_Mo_pull 52 = .ok (.aload_n 0, 1) := by decide +kernel
theorem d_Mo_pull_53 : decode b_Mo_pull 53 = .ok (.getfield 60, 3) := by decide +kernel
theorem d_Mo_pull_56 : decode b_Mo_pull 56 = .ok (.ireturn, 1) := by decide +kernel
theorem d_Mo_push_0 : decode b_Mo_push 0 = .ok (.aload_n 0, 1) := by decide +kernel
theorem d_Mo_push_1 : decode b_Mo_push 1 = .ok (.iload_n 1, 1) := by decide +kernel
theorem d_Mo_push_2 : decode b_Mo_push 2 = .ok (.invokestatic 94, 3) := by decide +kernel
theorem d_Mo_push_5 : decode b_Mo_push 5 = .ok (.ifCond .ne 7, 3) := by decide +kernel
theorem d_Mo_push_8 : decode b_Mo_push 8 = .ok (.iconst 1, 1) := by decide +kernel
theorem d_Mo_push_9 : decode b_Mo_push 9 = .ok (.goto 21, 3) := by decide +kernel
theorem d_Mo_push_12 : decode b_Mo_push 12 = .ok (.aload_n 0, 1) := by decide +kernel
theorem d_Mo_push_13 : decode b_Mo_push 13 = .ok (.getfield 23, 3) := by decide +kernel
theorem d_Mo_push_16 : decode b_Mo_push 16 = .ok (.iload_n 1, 1) := by decide +kernel
theorem d_Mo_push_17 : decode b_Mo_push 17 = .ok (.iconst 1, 1) := by decide +kernel
theorem d_Mo_push_18 : decode b_Mo_push 18 = .ok (.invokestatic 87, 3) := by decide +kernel
theorem d_Mo_push_21 : decode b_Mo_push 21 = .ok (.iaload, 1) := by decide +kernel
theorem d_Mo_push_22 : decode b_Mo_push 22 = .ok (.ifCond .ne 7, 3) := by decide +kernel
theorem d_Mo_push_25 : decode b_Mo_push 25 = .ok (.iconst 2, 1) := by decide +kernel
theorem d_Mo_push_26 : decode b_Mo_push 26 = .ok (.goto 4, 3) := by decide +kernel
theorem d_Mo_push_29 : decode b_Mo_push 29 = .ok (.iconst 0, 1) := by decide +kernel
theorem d_Mo_push_30 : decode b_Mo_push 30 = .ok (.putfield 56, 3) := by decide +kernel
theorem d_Mo_push_33 : decode b_Mo_push 33 = .ok (.iconst 1, 1) := by decide +kernel
theorem d_Mo_push_34 : decode b_Mo_push 34 = .ok (.istore_n 2, 1) := by decide +kernel
theorem d_Mo_push_35 : decode b_Mo_push 35 = .ok (.iload_n 2, 1) := by decide +kernel
theorem d_Mo_push_36 : decode b_Mo_push 36 = .ok (.iconst 3, 1) := by decide +kernel
theorem d_Mo_push_37 : decode b_Mo_push 37 = .ok (.if_icmp .gt 58, 3) := by decide +kernel
theorem d_Mo_push_40 : decode b_Mo_push 40 = .ok (.aload_n 0, 1) := by decide +kernel
theorem d_Mo_push_41 : decode b_Mo_push 41 = .ok (.getfield 56, 3) := by decide +kernel
theorem d_Mo_push_44 : decode b_Mo_push 44 = .ok (.ifCond .ne 51, 3) := by decide +kernel
theorem d_Mo_push_47 : decode b_Mo_push 47 = .ok (.iload_n 2, 1) := by decide +kernel
theorem d_Mo_push_48 : decode b_Mo_push 48 = .ok (.iconst 0, 1) := by decide +kernel
theorem d_Mo_push_49 : decode b_Mo_push 49 = .ok (.invokestatic 87, 3) := by decide +kernel
theorem d_Mo_push_52 : decode b_Mo_push 52 = .ok (.istore_n 3, 1) := by decide +kernel
theorem d_Mo_push_53 : decode b_Mo_push 53 = .ok (.aload_n 0, 1) := by decide +kernel
theorem d_Mo_push_54 : decode b_Mo_push 54 = .ok (.iload_n 2, 1) := by decide +kernel
theorem d_Mo_push_55 : decode b_Mo_push 55 = .ok (.iload_n 1, 1) := by decide +kernel
theorem d_Mo_push_56 : decode b_Mo_push 56 = .ok (.if_icmp .eq 29, 3) := by decide +kernel
theorem d_Mo_push_59 : decode b_Mo_push 59 = .ok (.aload_n 0, 1) := by decide +kernel
theorem d_Mo_push_60 : decode b_Mo_push 60 = .ok (.getfield 41, 3) := by decide +kernel
theorem d_Mo_push_63 : decode b_Mo_push 63 = .ok (.iload_n 3, 1) := by decide +kernel
theorem d_Mo_push_64 : decode b_Mo_push 64 = .ok (.iaload, 1) := by decide +kernel
theorem d_Mo_push_65 : decode b_Mo_push 65 = .ok (.bipush 24, 2) := by decide +kernel
theorem d_Mo_push_67 : decode b_Mo_push 67 = .ok (.if_icmp .ge 14, 3) := by decide +kernel
theorem d_Mo_push_70 : decode b_Mo_push 70 = .ok (.aload_n 0, 1) := by decide +kernel
theorem d_Mo_push_71 : decode b_Mo_push 71 = .ok (.getfield 23, 3) := by decide +kernel
theorem d_Mo_push_74 : decode b_Mo_push 74 = .ok (.iload_n 3, 1) := by decide +kernel
theorem d_Mo_push_75 : decode b_Mo_push 75 = .ok (.iaload, 1) := by decide +kernel
theorem d_Mo_push_76 : decode b_Mo_push 76 = .ok (.bipush 24, 2) := by decide +kernel
theorem d_Mo_push_78 : decode b_Mo_push 78 = .ok (.if_icmp .lt 7, 3) := by decide +kernel
theorem d_Mo_push_81 : decode b_Mo_push 81 = .ok (.iconst 3, 1) := by decide +kernel
theorem d_Mo_push_82 : decode b_Mo_push 82 = .ok (.goto 4, 3) := by decide +kernel
theorem d_Mo_push_85 : decode b_Mo_push 85 = .ok (.iconst 0, 1) := by decide +kernel
theorem d_Mo_push_86 : decode b_Mo_push 86 = .ok (.putfield 56, 3) := by decide +kernel
theorem d_Mo_push_89 : decode b_Mo_push 89 = .ok (.iinc 2 1, 3) := by decide +kernel
theorem d_Mo_push_92 : decode b_Mo_push 92 = .ok (.goto (-57), 3) := by decide +kernel
theorem d_Mo_push_95 : decode b_Mo_push 95 = .ok (.aload_n 0, 1) := by decide +kernel
theorem d_Mo_push_96 : decode b_Mo_push 96 = .ok (.getfield 56, 3) := by decide +kernel
theorem d_Mo_push_99 : decode b_Mo_push 99 = .ok (.ifCond .eq 5, 3) := by decide +kernel
theorem d_Mo_push_102 : decode b_Mo_push 102 = .ok (.iconst 0, 1) := by decide +kernel
theorem d_Mo_push_103 : decode b_Mo_push 103 = .ok (.ireturn, 1) := by decide +kernel
theorem d_Mo_push_104 : decode b_Mo_push 104 = .ok (.aload_n 0, 1) := by decide +kernel
theorem d_Mo_push_105 : decode b_Mo_push 105 = .ok (.iload_n 1, 1) := by decide +kernel
theorem d_Mo_push_106 : decode b_Mo_push 106 = .ok (.iconst 1, 1) := by decide +kernel
theorem d_Mo_push_107 : decode b_Mo_push 107 = .ok (.invokestatic 87, 3) := by decide +kernel
theorem d_Mo_push_110 : decode b_Mo_push 110 = .ok (.iconst 0, 1) := by decide +kernel
theorem d_Mo_push_111 : decode b_Mo_push 111 = .ok (.invokevirtual 105, 3) := by decide +kernel
theorem d_Mo_push_114 : decode b_Mo_push 114 = .ok (.aload_n 0, 1) := by decide +kernel
theorem d_Mo_push_115 : decode b_Mo_push 115 = .ok (.getfield 60, 3) := by decide +kernel
theorem d_Mo_push_118 : decode b_Mo_push 118 = .ok (.istore_n 2, 1) := by decide +kernel
theorem d_Mo_push_119 : decode b_Mo_push 119 = .ok (.iconst 1, 1) := by decide +kernel
theorem d_Mo_push_120 : decode b_Mo_push 120 = .ok (.istore_n 3, 1) := by decide +kernel
theorem d_Mo_push_121 : decode b_Mo_push 121 = .ok (.iload_n 3, 1) := by decide +kernel
theorem d_Mo_push_122 : decode b_Mo_push 122 = .ok (.iconst 3, 1) := by decide +kernel
theorem d_Mo_push_123 : decode b_Mo_push 123 = .ok (.if_icmp .gt 23, 3) := by decide +kernel
theorem d_Mo_push_126 : decode b_Mo_push 126 = .ok (.iload_n 3, 1) := by decide +kernel
theorem d_Mo_push_127 : decode b_Mo_push 127 = .ok (.iload_n 1, 1) := by decide +kernel
theorem d_Mo_push_128 : decode b_Mo_push 128 = .ok (.if_icmp .eq 12, 3) := by decide +kernel
theorem d_Mo_push_131 : decode b_Mo_push 131 = .ok (.aload_n 0, 1) := by decide +kernel
theorem d_Mo_push_132 : decode b_Mo_push 132 = .ok (.iload_n 3, 1) := by decide +kernel
theorem d_Mo_push_133 : decode b_Mo_push 133 = .ok (.iconst 0, 1) := by decide +kernel
theorem d_Mo_push_134 : decode b_Mo_push 134 = .ok (.invokestatic 87, 3) := by decide +kernel
theorem d_Mo_push_137 : decode b_Mo_push 137 = .ok (.invokevirtual 91, 3) := by decide +kernel
theorem d_Mo_push_140 : decode b_Mo_push 140 = .ok (.iinc 3 1, 3) := by decide +kernel
theorem d_Mo_push_143 : decode b_Mo_push 143 = .ok (.goto (-22), 3) := by decide +kernel
theorem d_Mo_push_146 : decode b_Mo_push 146 = .ok (.iload_n 2, 1) := by decide +kernel
theorem d_Mo_push_147 : decode b_Mo_push 147 = .ok (.ireturn, 1) := by decide +kernel
theorem d_Mo_quiet_0 : decode b_Mo_quiet 0 = .ok (.aload_n 0, 1) := by decide +kernel
theorem d_Mo_quiet_1 : decode b_Mo_quiet 1 = .ok (.iconst 0, 1) := by decide +kernel
theorem d_Mo_quiet_2 : decode b_Mo_quiet 2 = .ok (.putfield 56, 3) := by decide +kernel
theorem d_Mo_quiet_5 : decode b_Mo_quiet 5 = .ok (.iconst 0, 1) := by decide +kernel
theorem d_Mo_quiet_6 : decode b_Mo_quiet 6 = .ok (.istore_n 1, 1) := by decide +kernel
theorem d_Mo_quiet_7 : decode b_Mo_quiet 7 = .ok (.iconst 0, 1) := by decide +kernel
theorem d_Mo_quiet_8 : decode b_Mo_quiet 8 = .ok (.istore_n 2, 1) := by decide +kernel
theorem d_Mo_quiet_9 : decode b_Mo_quiet 9 = .ok (.iload_n 2, 1) := by decide +kernel
theorem d_Mo_quiet_10 : decode b_Mo_quiet 10 = .ok (.bipush 6, 2) := by decide +kernel
theorem d_Mo_quiet_12 : decode b_Mo_quiet 12 = .ok (.if_icmp .ge 18, 3) := by decide +kernel
theorem d_Mo_quiet_15 : decode b_Mo_quiet 15 = .ok (.iload_n 1, 1) := by decide +kernel
theorem d_Mo_quiet_16 : decode b_Mo_quiet 16 = .ok (.aload_n 0, 1) := by decide +kernel
theorem d_Mo_quiet_17 : decode b_Mo_quiet 17 = .ok (.getfield 23, 3) := by decide +kernel
theorem d_Mo_quiet_20 : decode b_Mo_quiet 20 = .ok (.iload_n 2, 1) := by decide +kernel
theorem d_Mo_quiet_21 : decode b_Mo_quiet 21 = .ok (.iaload, 1) := by decide +kernel
theorem d_Mo_quiet_22 : decode b_Mo_quiet 22 = .ok (.iadd, 1) := by decide +kernel
theorem d_Mo_quiet_23 : decode b_Mo_quiet 23 = .ok (.istore_n 1, 1) := by decide +kernel
theorem d_Mo_quiet_24 : decode b_Mo_quiet 24 = .ok (.iinc 2 1, 3) := by decide +kernel
theorem d_Mo_quiet_27 : decode b_Mo_quiet 27 = .ok (.goto (-18), 3) := by decide +kernel
theorem d_Mo_quiet_30 : decode b_Mo_quiet 30 = .ok (.iload_n 1, 1) := by decide +kernel
theorem d_Mo_quiet_31 : decode b_Mo_quiet 31 = .ok (.ifCond .ne 7, 3) := by decide +kernel
theorem d_Mo_quiet_34 : decode b_Mo_quiet 34 = .ok (.iconst 1, 1) := by decide +kernel
theorem d_Mo_quiet_35 : decode b_Mo_quiet 35 = .ok (.goto 4, 3) := by decide +kernel
theorem d_Mo_quiet_38 : decode b_Mo_quiet 38 = .ok (.iconst 0, 1) := by decide +kernel
theorem d_Mo_quiet_39 : decode b_Mo_quiet 39 = .ok (.ireturn, 1) := by decide +kernel
theorem d_Mo_send_0 : decode b_Mo_send 0 = .ok (.bipush 40, 2) := by decide +kernel
theorem d_Mo_send_2 : decode b_Mo_send 2 = .ok (.iload_n 1, 1) := by decide +kernel
theorem d_Mo_send_3 : decode b_Mo_send 3 = .ok (.imul, 1) := by decide +kernel
theorem d_Mo_send_4 : decode b_Mo_send 4 = .ok (.aload_n 0, 1) := by decide +kernel
theorem d_Mo_send_5 : decode b_Mo_send 5 = .ok (.getfield 23, 3) := by decide +kernel
theorem d_Mo_send_8 : decode b_Mo_send 8 = .ok (.iload_n 1, 1) := by decide +kernel
theorem d_Mo_send_9 : decode b_Mo_send 9 = .ok (.iaload, 1) := by decide +kernel
theorem d_Mo_send_10 : decode b_Mo_send 10 = .ok (.iadd, 1) := by decide +kernel
theorem d_Mo_send_11 : decode b_Mo_send 11 = .ok (.istore_n 2, 1) := by decide +kernel
theorem d_Mo_send_12 : decode b_Mo_send 12 = .ok (.aload_n 0, 1) := by decide +kernel
theorem d_Mo_send_13 : decode b_Mo_send 13 = .ok (.getfield 26, 3) := by decide +kernel
theorem d_Mo_send_16 : decode b_Mo_send 16 = .ok (.iload_n 2, 1) := by decide +kernel
theorem d_Mo_send_17 : decode b_Mo_send 17 = .ok (.aload_n 0, 1) := by decide +kernel
theorem d_Mo_send_18 : decode b_Mo_send 18 = .ok (.getfield 60, 3) := by decide +kernel
theorem d_Mo_send_21 : decode b_Mo_send 21 = .ok (.iastore, 1) := by decide +kernel
theorem d_Mo_send_22 : decode b_Mo_send 22 = .ok (.aload_n 0, 1) := by decide +kernel
theorem d_Mo_send_23 : decode b_Mo_send 23 = .ok (.getfield 29, 3) := by decide +kernel
theorem d_Mo_send_26 : decode b_Mo_send 26 = .ok (.iload_n 2, 1) := by decide +kernel
theorem d_Mo_send_27 : decode b_Mo_send 27 = .ok (.aload_n 0, 1) := by decide +kernel
theorem d_Mo_send_28 : decode b_Mo_send 28 = .ok (.getfield 63, 3) := by decide +kernel
theorem d_Mo_send_31 : decode b_Mo_send 31 = .ok (.iastore, 1) := by decide +kernel
theorem d_Mo_send_32 : decode b_Mo_send 32 = .ok (.aload_n 0, 1) := by decide +kernel
theorem d_Mo_send_33 : decode b_Mo_send 33 = .ok (.getfield 32, 3) := by decide +kernel
theorem d_Mo_send_36 : decode b_Mo_send 36 = .ok (.iload_n 2, 1) := by decide +kernel
theorem d_Mo_send_37 : decode b_Mo_send 37 = .ok (.aload_n 0, 1) := by decide +kernel
theorem d_Mo_send_38 : decode b_Mo_send 38 = .ok (.getfield 66, 3) := by decide +kernel
theorem d_Mo_send_41 : decode b_Mo_send 41 = .ok (.iastore, 1) := by decide +kernel
theorem d_Mo_send_42 : decode b_Mo_send 42 = .ok (.aload_n 0, 1) := by decide +kernel
theorem d_Mo_send_43 : decode b_Mo_send 43 = .ok (.getfield 35, 3) := by decide +kernel
theorem d_Mo_send_46 : decode b_Mo_send 46 = .ok (.iload_n 2, 1) := by decide +kernel
theorem d_Mo_send_47 : decode b_Mo_send 47 = .ok (.aload_n 0, 1) := by decide +kernel
theorem d_Mo_send_48 : decode b_Mo_send 48 = .ok (.getfield 69, 3) := by decide +kernel
theorem d_Mo_send_51 : decode b_Mo_send 51 = .ok (.iastore, 1) := by decide +kernel
theorem d_Mo_send_52 : decode b_Mo_send 52 = .ok (.aload_n 0, 1) := by decide +kernel
theorem d_Mo_send_53 : decode b_Mo_send 53 = .ok (.getfield 38, 3) := by decide +kernel
theorem d_Mo_send_56 : decode b_Mo_send 56 = .ok (.iload_n 2, 1) := by decide +kernel
theorem d_Mo_send_57 : decode b_Mo_send 57 = .ok (.aload_n 0, 1) := by decide +kernel
theorem d_Mo_send_58 : decode b_Mo_send 58 = .ok (.getfield 20, 3) := by decide +kernel
theorem d_Mo_send_61 : decode b_Mo_send 61 = .ok (.iload_n 1, 1) := by decide +kernel
theorem d_Mo_send_62 : decode b_Mo_send 62 = .ok (.invokestatic 72, 3) := by decide +kernel
theorem d_Mo_send_65 : decode b_Mo_send 65 = .ok (.iaload, 1) := by decide +kernel
theorem d_Mo_send_66 : decode b_Mo_send 66 = .ok (.iastore, 1) := by decide +kernel
theorem d_Mo_send_67 : decode b_Mo_send 67 = .ok (.aload_n 0, 1) := by decide +kernel
theorem d_Mo_send_68 : decode b_Mo_send 68 = .ok (.getfield 23, 3) := by decide +kernel
theorem d_Mo_send_71 : decode b_Mo_send 71 = .ok (.iload_n 1, 1) := by decide +kernel
theorem d_Mo_send_72 : decode b_Mo_send 72 = .ok (.dup2, 1) := by decide +kernel
theorem d_Mo_send_73 : decode b_Mo_send 73 = .ok (.iaload, 1) := by decide +kernel
theorem d_Mo_send_74 : decode b_Mo_send 74 = .ok (.iconst 1, 1) := by decide +kernel
theorem d_Mo_send_75 : decode b_Mo_send 75 = .ok (.iadd, 1) := by decide +kernel
theorem d_Mo_send_76 : decode b_Mo_send 76 = .ok (.iastore, 1) := by decide +kernel
theorem d_Mo_send_77 : decode b_Mo_send 77 = .ok (.bipush 40, 2) := by decide +kernel
theorem d_Mo_send_79 : decode b_Mo_send 79 = .ok (.iload_n 1, 1) := by decide +kernel
theorem d_Mo_send_80 : decode b_Mo_send 80 = .ok (.imul, 1) := by decide +kernel
theorem d_Mo_send_81 : decode b_Mo_send 81 = .ok (.aload_n 0, 1) := by decide +kernel
theorem d_Mo_send_82 : decode b_Mo_send 82 = .ok (.getfield 41, 3) := by decide +kernel
theorem d_Mo_send_85 : decode b_Mo_send 85 = .ok (.iload_n 1, 1) := by decide +kernel
theorem d_Mo_send_86 : decode b_Mo_send 86 = .ok (.iaload, 1) := by decide +kernel
theorem d_Mo_send_87 : decode b_Mo_send 87 = .ok (.iadd, 1) := by decide +kernel
theorem d_Mo_send_88 : decode b_Mo_send 88 = .ok (.istore_n 3, 1) := by decide +kernel
theorem d_Mo_send_89 : decode b_Mo_send 89 = .ok (.aload_n 0, 1) := by decide +kernel
theorem d_Mo_send_90 : decode b_Mo_send 90 = .ok (.getfield 44, 3) := by decide +kernel
theorem d_Mo_send_93 : decode b_Mo_send 93 = .ok (.iload_n 3, 1) := by decide +kernel
theorem d_Mo_send_94 : decode b_Mo_send 94 = .ok (.aload_n 0, 1) := by decide +kernel
theorem d_Mo_send_95 : decode b_Mo_send 95 = .ok (.getfield 60, 3) := by decide +kernel
theorem d_Mo_send_98 : decode b_Mo_send 98 = .ok (.iastore, 1) := by decide +kernel
theorem d_Mo_send_99 : decode b_Mo_send 99 = .ok (.aload_n 0, 1) := by decide +kernel
theorem d_Mo_send_100 : decode b_Mo_send 100 = .ok (.getfield 47, 3) := by decide +kernel
theorem d_Mo_send_103 : decode b_Mo_send 103 = .ok (.iload_n 3, 1) := by decide +kernel
theorem d_Mo_send_104 : decode b_Mo_send 104 = .ok (.aload_n 0, 1) := by decide +kernel
theorem d_Mo_send_105 : decode b_Mo_send 105 = .ok (.getfield 63, 3) := by decide +kernel
theorem d_Mo_send_108 : decode b_Mo_send 108 = .ok (.iastore, 1) := by decide +kernel
theorem d_Mo_send_109 : decode b_Mo_send 109 = .ok (.aload_n 0, 1) := by decide +kernel
theorem d_Mo_send_110 : decode b_Mo_send 110 = .ok (.getfield 50, 3) := by decide +kernel
theorem d_Mo_send_113 : decode b_Mo_send 113 = .ok (.iload_n 3, 1) := by decide +kernel
theorem d_Mo_send_114 : decode b_Mo_send 114 = .ok (.aload_n 0, 1) := by decide +kernel
theorem d_Mo_send_115 : decode b_Mo_send 115 = .ok (.getfield 66, 3) := by decide +kernel
theorem d_Mo_send_118 : decode b_Mo_send 118 = .ok (.iastore, 1) := by decide +kernel
theorem d_Mo_send_119 : decode b_Mo_send 119 = .ok (.aload_n 0, 1) := by decide +kernel
theorem d_Mo_send_120 : decode b_Mo_send 120 = .ok (.getfield 53, 3) := by decide +kernel
theorem d_Mo_send_123 : decode b_Mo_send 123 = .ok (.iload_n 3, 1) := by decide +kernel
theorem d_Mo_send_124 : decode b_Mo_send 124 = .ok (.aload_n 0, 1) := by decide +kernel
theorem d_Mo_send_125 : decode b_Mo_send 125 = .ok (.getfield 69, 3) := by decide +kernel
theorem d_Mo_send_128 : decode b_Mo_send 128 = .ok (.iastore, 1) := by decide +kernel
theorem d_Mo_send_129 : decode b_Mo_send 129 = .ok (.aload_n 0, 1) := by decide +kernel
theorem d_Mo_send_130 : decode b_Mo_send 130 = .ok (.getfield 41, 3) := by decide +kernel
theorem d_Mo_send_133 : decode b_Mo_send 133 = .ok (.iload_n 1, 1) := by decide +kernel
theorem d_Mo_send_134 : decode b_Mo_send 134 = .ok (.dup2, 1) := by decide +kernel
theorem d_Mo_send_135 : decode b_Mo_send 135 = .ok (.iaload, 1) := by decide +kernel
theorem d_Mo_send_136 : decode b_Mo_send 136 = .ok (.iconst 1, 1) := by decide +kernel
theorem d_Mo_send_137 : decode b_Mo_send 137 = .ok (.iadd, 1) := by decide +kernel
theorem d_Mo_send_138 : decode b_Mo_send 138 = .ok (.iastore, 1) := by decide +kernel
theorem d_Mo_send_139 : decode b_Mo_send 139 = .ok (.aload_n 0, 1) := by decide +kernel
theorem d_Mo_send_140 : decode b_Mo_send 140 = .ok (.getfield 17, 3) := by decide +kernel
theorem d_Mo_send_143 : decode b_Mo_send 143 = .ok (.iload_n 1, 1) := by decide +kernel
theorem d_Mo_send_144 : decode b_Mo_send 144 = .ok (.dup2, 1) := by decide +kernel
theorem d_Mo_send_145 : decode b_Mo_send 145 = .ok (.iaload, 1) := by decide +kernel
theorem d_Mo_send_146 : decode b_Mo_send 146 = .ok (.iconst 1, 1) := by decide +kernel
theorem d_Mo_send_147 : decode b_Mo_send 147 = .ok (.iadd, 1) := by decide +kernel
theorem d_Mo_send_148 : decode b_Mo_send 148 = .ok (.iastore, 1) := by decide +kernel
theorem d_Mo_send_149 : decode b_Mo_send 149 = .ok (.return_, 1) := by decide +kernel
theorem d_Mo_size_0 : decode b_Mo_size 0 = .ok (.aload_n 0, 1) := by decide +kernel
theorem d_Mo_size_1 : decode b_Mo_size 1 = .ok (.iload_n 1, 1) := by decide +kernel
theorem d_Mo_size_2 : decode b_Mo_size 2 = .ok (.invokestatic 109, 3) := by decide +kernel
theorem d_Mo_size_5 : decode b_Mo_size 5 = .ok (.ifCond .eq 7, 3) := by decide +kernel
theorem d_Mo_size_8 : decode b_Mo_size 8 = .ok (.iconst 0, 1) := by decide +kernel
theorem d_Mo_size_9 : decode b_Mo_size 9 = .ok (.goto 4, 3) := by decide +kernel
theorem d_Mo_size_12 : decode b_Mo_size 12 = .ok (.iconst 1, 1) := by decide +kernel
theorem d_Mo_size_13 : decode b_Mo_size 13 = .ok (.putfield 56, 3) := by decide +kernel
theorem d_Mo_size_16 : decode b_Mo_size 16 = .ok (.aload_n 0, 1) := by decide +kernel
theorem d_Mo_size_17 : decode b_Mo_size 17 = .ok (.getfield 56, 3) := by decide +kernel
theorem d_Mo_size_20 : decode b_Mo_size 20 = .ok (.ifCond .ne 12, 3) := by decide +kernel
theorem d_Mo_size_23 : decode b_Mo_size 23 = .ok (.aload_n 0, 1) := by decide +kernel
theorem d_Mo_size_24 : decode b_Mo_size 24 = .ok (.getfield 7, 3) := by decide +kernel
theorem d_Mo_size_27 : decode b_Mo_size 27 = .ok (.iload_n 1, 1) := by decide +kernel
theorem d_Mo_size_28 : decode b_Mo_size 28 = .ok (.iaload, 1) := by decide +kernel
theorem d_Mo_size_29 : decode b_Mo_size 29 = .ok (.goto 4, 3) := by decide +kernel
theorem d_Mo_size_32 : decode b_Mo_size 32 = .ok (.iconst 0, 1) := by decide +kernel
theorem d_Mo_size_33 : decode b_Mo_size 33 = .ok (.ireturn, 1) := by decide +kernel
theorem d_Mo_thrown_0 : decode b_Mo_thrown 0 = .ok (.aload_n 0, 1) := by decide +kernel
theorem d_Mo_thrown_1 : decode b_Mo_thrown 1 = .ok (.getfield 56, 3) := by decide +kernel
theorem d_Mo_thrown_4 : decode b_Mo_thrown 4 = .ok (.ireturn, 1) := by decide +kernel
theorem d_Mo_waiting_0 : decode b_Mo_waiting 0 = .ok (.aload_n 0, 1) := by decide +kernel
theorem d_Mo_waiting_1 : decode b_Mo_waiting 1 = .ok (.iload_n 1, 1) := by decide +kernel
theorem d_Mo_waiting_2 : decode b_Mo_waiting 2 = .ok (.invokestatic 94, 3) := by decide +kernel
theorem d_Mo_waiting_5 : decode b_Mo_waiting 5 = .ok (.ifCond .eq 7, 3) := by decide +kernel
theorem d_Mo_waiting_8 : decode b_Mo_waiting 8 = .ok (.iconst 0, 1) := by decide +kernel
theorem d_Mo_waiting_9 : decode b_Mo_waiting 9 = .ok (.goto 4, 3) := by decide +kernel
theorem d_Mo_waiting_12 : decode b_Mo_waiting 12 = .ok (.iconst 1, 1) := by decide +kernel
theorem d_Mo_waiting_13 : decode b_Mo_waiting 13 = .ok (.putfield 56, 3) := by decide +kernel
theorem d_Mo_waiting_16 : decode b_Mo_waiting 16 = .ok (.aload_n 0, 1) := by decide +kernel
theorem d_Mo_waiting_17 : decode b_Mo_waiting 17 = .ok (.getfield 56, 3) := by decide +kernel
theorem d_Mo_waiting_20 : decode b_Mo_waiting 20 = .ok (.ifCond .ne 16, 3) := by decide +kernel
theorem d_Mo_waiting_23 : decode b_Mo_waiting 23 = .ok (.aload_n 0, 1) := by decide +kernel
theorem d_Mo_waiting_24 : decode b_Mo_waiting 24 = .ok (.getfield 23, 3) := by decide +kernel
theorem d_Mo_waiting_27 : decode b_Mo_waiting 27 = .ok (.iload_n 1, 1) := by decide +kernel
theorem d_Mo_waiting_28 : decode b_Mo_waiting 28 = .ok (.iload_n 2, 1) := by decide +kernel
theorem d_Mo_waiting_29 : decode b_Mo_waiting 29 = .ok (.invokestatic 87, 3) := by decide +kernel
theorem d_Mo_waiting_32 : decode b_Mo_waiting 32 = .ok (.iaload, 1) := by decide +kernel
theorem d_Mo_waiting_33 : decode b_Mo_waiting 33 = .ok (.goto 4, 3) := by decide +kernel
theorem d_Mo_waiting_36 : decode b_Mo_waiting 36 = .ok (.iconst 0, 1) := by decide +kernel
theorem d_Mo_waiting_37 : decode b_Mo_waiting 37 = .ok (.ireturn, 1) := by decide +kernel
end
section
/-! each instruction, decoded (written by wip/whole/names.py) -/
theorem d_Lw_change_0 : decode b_Lw_change 0 = .ok (.aload 4, 2) := by decide +kernel
theorem d_Lw_change_2 : decode b_Lw_change 2 = .ok (.iconst 0, 1) := by decide +kernel
theorem d_Lw_change_3 : decode b_Lw_change 3 = .ok (.aload_n 0, 1) := by decide +kernel
theorem d_Lw_change_4 : decode b_Lw_change 4 = .ok (.iload_n 1, 1) := by decide +kernel
theorem d_Lw_change_5 : decode b_Lw_change 5 = .ok (.iload_n 2, 1) := by decide +kernel
theorem d_Lw_change_6 : decode b_Lw_change 6 = .ok (.iload_n 3, 1) := by decide +kernel
theorem d_Lw_change_7 : decode b_Lw_change 7 = .ok (.invokevirtual 46, 3) := by decide +kernel
theorem d_Lw_change_10 : decode b_Lw_change 10 = .ok (.i2l, 1) := by decide +kernel
theorem d_Lw_change_11 : decode b_Lw_change 11 = .ok (.lastore, 1) := by decide +kernel
theorem d_Lw_change_12 : decode b_Lw_change 12 = .ok (.goto 11, 3) := by decide +kernel
theorem d_Lw_change_15 : decode b_Lw_change 15 = .ok (.astore 5, 2) := by decide +kernel
theorem d_Lw_change_17 : decode b_Lw_change 17 = .ok (.iconst 1, 1) := by decide +kernel
theorem d_Lw_change_18 : decode b_Lw_change 18 = .ok (.ireturn, 1) := by decide +kernel
theorem d_Lw_change_19 : decode b_Lw_change 19 = .ok (.astore 5, 2) := by decide +kernel
theorem d_Lw_change_21 : decode b_Lw_change 21 = .ok (.iconst 2, 1) := by decide +kernel
theorem d_Lw_change_22 : decode b_Lw_change 22 = .ok (.ireturn, 1) := by decide +kernel
theorem d_Lw_change_23 : decode b_Lw_change 23 = .ok (.iconst 0, 1) := by decide +kernel
theorem d_Lw_change_24 : decode b_Lw_change 24 = .ok (.ireturn, 1) := by decide +kernel
theorem d_Lw_delete_0 : decode b_Lw_delete 0 = .ok (.aload_n 3, 1) := by decide +kernel
theorem d_Lw_delete_1 : decode b_Lw_delete 1 = .ok (.iconst 0, 1) := by decide +kernel
theorem d_Lw_delete_2 : decode b_Lw_delete 2 = .ok (.aload_n 0, 1) := by decide +kernel
theorem d_Lw_delete_3 : decode b_Lw_delete 3 = .ok (.iload_n 1, 1) := by decide +kernel
theorem d_Lw_delete_4 : decode b_Lw_delete 4 = .ok (.iload_n 2, 1) := by decide +kernel
theorem d_Lw_delete_5 : decode b_Lw_delete 5 = .ok (.invokevirtual 19, 3) := by decide +kernel
theorem d_Lw_delete_8 : decode b_Lw_delete 8 = .ok (.i2l, 1) := by decide +kernel
theorem d_Lw_delete_9 : decode b_Lw_delete 9 = .ok (.lastore, 1) := by decide +kernel
theorem d_Lw_delete_10 : decode b_Lw_delete 10 = .ok (.goto 15, 3) := by decide +kernel
theorem d_Lw_delete_13 : decode b_Lw_delete 13 = .ok (.astore 4, 2) := by decide +kernel
theorem d_Lw_delete_15 : decode b_Lw_delete 15 = .ok (.iconst 1, 1) := by decide +kernel
theorem d_Lw_delete_16 : decode b_Lw_delete 16 = .ok (.ireturn, 1) := by decide +kernel
theorem d_Lw_delete_17 : decode b_Lw_delete 17 = .ok (.astore 4, 2) := by decide +kernel
theorem d_Lw_delete_19 : decode b_Lw_delete 19 = .ok (.iconst 2, 1) := by decide +kernel
theorem d_Lw_delete_20 : decode b_Lw_delete 20 = .ok (.ireturn, 1) := by decide +kernel
theorem d_Lw_delete_21 : decode b_Lw_delete 21 = .ok (.astore 4, 2) := by decide +kernel
theorem d_Lw_delete_23 : decode b_Lw_delete 23 = .ok (.iconst 3, 1) := by decide +kernel
theorem d_Lw_delete_24 : decode b_Lw_delete 24 = .ok (.ireturn, 1) := by decide +kernel
theorem d_Lw_delete_25 : decode b_Lw_delete 25 = .ok (.iconst 0, 1) := by decide +kernel
theorem d_Lw_delete_26 : decode b_Lw_delete 26 = .ok (.ireturn, 1) := by decide +kernel
theorem d_Lw_got_0 : decode b_Lw_got 0 = .ok (.aload_n 3, 1) := by decide +kernel
theorem d_Lw_got_1 : decode b_Lw_got 1 = .ok (.iconst 0, 1) := by decide +kernel
theorem d_Lw_got_2 : decode b_Lw_got 2 = .ok (.aload_n 0, 1) := by decide +kernel
theorem d_Lw_got_3 : decode b_Lw_got 3 = .ok (.iload_n 1, 1) := by decide +kernel
theorem d_Lw_got_4 : decode b_Lw_got 4 = .ok (.iload_n 2, 1) := by decide +kernel
theorem d_Lw_got_5 : decode b_Lw_got 5 = .ok (.invokevirtual 40, 3) := by decide +kernel
theorem d_Lw_got_8 : decode b_Lw_got 8 = .ok (.i2l, 1) := by decide +kernel
theorem d_Lw_got_9 : decode b_Lw_got 9 = .ok (.lastore, 1) := by decide +kernel
theorem d_Lw_got_10 : decode b_Lw_got 10 = .ok (.goto 7, 3) := by decide +kernel
theorem d_Lw_got_13 : decode b_Lw_got 13 = .ok (.astore 4, 2) := by decide +kernel
theorem d_Lw_got_15 : decode b_Lw_got 15 = .ok (.iconst 1, 1) := by decide +kernel
theorem d_Lw_got_16 : decode b_Lw_got 16 = .ok (.ireturn, 1) := by decide +kernel
theorem d_Lw_got_17 : decode b_Lw_got 17 = .ok (.iconst 0, 1) := by decide +kernel
theorem d_Lw_got_18 : decode b_Lw_got 18 = .ok (.ireturn, 1) := by decide +kernel
theorem d_Lw_insert_0 : decode b_Lw_insert 0 = .ok (.aload 4, 2) := by decide +kernel
theorem d_Lw_insert_2 : decode b_Lw_insert 2 = .ok (.iconst 0, 1) := by decide +kernel
theorem d_Lw_insert_3 : decode b_Lw_insert 3 = .ok (.aload_n 0, 1) := by decide +kernel
theorem d_Lw_insert_4 : decode b_Lw_insert 4 = .ok (.iload_n 1, 1) := by decide +kernel
theorem d_Lw_insert_5 : decode b_Lw_insert 5 = .ok (.iload_n 2, 1) := by decide +kernel
theorem d_Lw_insert_6 : decode b_Lw_insert 6 = .ok (.iload_n 3, 1) := by decide +kernel
theorem d_Lw_insert_7 : decode b_Lw_insert 7 = .ok (.invokevirtual 7, 3) := by decide +kernel
theorem d_Lw_insert_10 : decode b_Lw_insert 10 = .ok (.i2l, 1) := by decide +kernel
theorem d_Lw_insert_11 : decode b_Lw_insert 11 = .ok (.lastore, 1) := by decide +kernel
theorem d_Lw_insert_12 : decode b_Lw_insert 12 = .ok (.goto 15, 3) := by decide +kernel
theorem d_Lw_insert_15 : decode b_Lw_insert 15 = .ok (.astore 5, 2) := by decide +kernel
theorem d_Lw_insert_17 : decode b_Lw_insert 17 = .ok (.iconst 1, 1) := by decide +kernel
theorem d_Lw_insert_18 : decode b_Lw_insert 18 = .ok (.ireturn, 1) := by decide +kernel
theorem d_Lw_insert_19 : decode b_Lw_insert 19 = .ok (.astore 5, 2) := by decide +kernel
theorem d_Lw_insert_21 : decode b_Lw_insert 21 = .ok (.iconst 2, 1) := by decide +kernel
theorem d_Lw_insert_22 : decode b_Lw_insert 22 = .ok (.ireturn, 1) := by decide +kernel
theorem d_Lw_insert_23 : decode b_Lw_insert 23 = .ok (.astore 5, 2) := by decide +kernel
theorem d_Lw_insert_25 : decode b_Lw_insert 25 = .ok (.iconst 3, 1) := by decide +kernel
theorem d_Lw_insert_26 : decode b_Lw_insert 26 = .ok (.ireturn, 1) := by decide +kernel
theorem d_Lw_insert_27 : decode b_Lw_insert 27 = .ok (.iconst 0, 1) := by decide +kernel
theorem d_Lw_insert_28 : decode b_Lw_insert 28 = .ok (.ireturn, 1) := by decide +kernel
theorem d_Lw_law_0 : decode b_Lw_law 0 = .ok (.new 8, 3) := by decide +kernel
theorem d_Lw_law_3 : decode b_Lw_law 3 = .ok (.dup, 1) := by decide +kernel
theorem d_Lw_law_4 : decode b_Lw_law 4 = .ok (.invokespecial 56, 3) := by decide +kernel
theorem d_Lw_law_7 : decode b_Lw_law 7 = .ok (.astore_n 1, 1) := by decide +kernel
theorem d_Lw_law_8 : decode b_Lw_law 8 = .ok (.new 57, 3) := by decide +kernel
theorem d_Lw_law_11 : decode b_Lw_law 11 = .ok (.dup, 1) := by decide +kernel
theorem d_Lw_law_12 : decode b_Lw_law 12 = .ok (.invokespecial 59, 3) := by decide +kernel
theorem d_Lw_law_15 : decode b_Lw_law 15 = .ok (.astore_n 2, 1) := by decide +kernel
theorem d_Lw_law_16 : decode b_Lw_law 16 = .ok (.iconst 1, 1) := by decide +kernel
theorem d_Lw_law_17 : decode b_Lw_law 17 = .ok (.newarray .long, 2) := by decide +kernel
theorem d_Lw_law_19 : decode b_Lw_law 19 = .ok (.astore_n 3, 1) := by decide +kernel
theorem d_Lw_law_20 : decode b_Lw_law 20 = .ok (.iconst 0, 1) := by decide +kernel
theorem d_Lw_law_21 : decode b_Lw_law 21 = .ok (.istore 4, 2) := by decide +kernel
theorem d_Lw_law_23 : decode b_Lw_law 23 = .ok (.iload 4, 2) := by decide +kernel
theorem d_Lw_law_25 : decode b_Lw_law 25 = .ok (.aload_n 0, 1) := by decide +kernel
theorem d_Lw_law_26 : decode b_Lw_law 26 = .ok (.arraylength, 1) := by decide +kernel
theorem d_Lw_law_27 : decode b_Lw_law 27 = .ok (.iconst 4, 1) := by decide +kernel
theorem d_Lw_law_28 : decode b_Lw_law 28 = .ok (.isub, 1) := by decide +kernel
theorem d_Lw_law_29 : decode b_Lw_law 29 = .ok (.if_icmp .gt 877, 3) := by decide +kernel
theorem d_Lw_law_32 : decode b_Lw_law 32 = .ok (.aload_n 0, 1) := by decide +kernel
theorem d_Lw_law_33 : decode b_Lw_law 33 = .ok (.iload 4, 2) := by decide +kernel
theorem d_Lw_law_35 : decode b_Lw_law 35 = .ok (.iaload, 1) := by decide +kernel
theorem d_Lw_law_36 : decode b_Lw_law 36 = .ok (.bipush 15, 2) := by decide +kernel
theorem d_Lw_law_38 : decode b_Lw_law 38 = .ok (.iand, 1) := by decide +kernel
theorem d_Lw_law_39 : decode b_Lw_law 39 = .ok (.tableswitch 861 0 12 #[65, 147, 215, 251, 307, 363, 447, 531, 615, 711, 767, 835, 848], 65) := by decide +kernel
theorem d_Lw_law_104 : decode b_Lw_law 104 = .ok (.aload_n 1, 1) := by decide +kernel
theorem d_Lw_law_105 : decode b_Lw_law 105 = .ok (.aload_n 0, 1) := by decide +kernel
theorem d_Lw_law_106 : decode b_Lw_law 106 = .ok (.iload 4, 2) := by decide +kernel
theorem d_Lw_law_108 : decode b_Lw_law 108 = .ok (.iconst 1, 1) := by decide +kernel
theorem d_Lw_law_109 : decode b_Lw_law 109 = .ok (.iadd, 1) := by decide +kernel
theorem d_Lw_law_110 : decode b_Lw_law 110 = .ok (.iaload, 1) := by decide +kernel
theorem d_Lw_law_111 : decode b_Lw_law 111 = .ok (.aload_n 0, 1) := by decide +kernel
theorem d_Lw_law_112 : decode b_Lw_law 112 = .ok (.iload 4, 2) := by decide +kernel
theorem d_Lw_law_114 : decode b_Lw_law 114 = .ok (.iconst 2, 1) := by decide +kernel
theorem d_Lw_law_115 : decode b_Lw_law 115 = .ok (.iadd, 1) := by decide +kernel
theorem d_Lw_law_116 : decode b_Lw_law 116 = .ok (.iaload, 1) := by decide +kernel
theorem d_Lw_law_117 : decode b_Lw_law 117 = .ok (.aload_n 0, 1) := by decide +kernel
theorem d_Lw_law_118 : decode b_Lw_law 118 = .ok (.iload 4, 2) := by decide +kernel
theorem d_Lw_law_120 : decode b_Lw_law 120 = .ok (.iconst 3, 1) := by decide +kernel
theorem d_Lw_law_121 : decode b_Lw_law 121 = .ok (.iadd, 1) := by decide +kernel
theorem d_Lw_law_122 : decode b_Lw_law 122 = .ok (.iaload, 1) := by decide +kernel
theorem d_Lw_law_123 : decode b_Lw_law 123 = .ok (.i2c, 1) := by decide +kernel
theorem d_Lw_law_124 : decode b_Lw_law 124 = .ok (.aload_n 3, 1) := by decide +kernel
theorem d_Lw_law_125 : decode b_Lw_law 125 = .ok (.invokestatic 60, 3) := by decide +kernel
theorem d_Lw_law_128 : decode b_Lw_law 128 = .ok (.istore 5, 2) := by decide +kernel
theorem d_Lw_law_130 : decode b_Lw_law 130 = .ok (.aload_n 2, 1) := by decide +kernel
theorem d_Lw_law_131 : decode b_Lw_law 131 = .ok (.aload_n 0, 1) := by decide +kernel
theorem d_Lw_law_132 : decode b_Lw_law 132 = .ok (.iload 4, 2) := by decide +kernel
theorem d_Lw_law_134 : decode b_Lw_law 134 = .ok (.iconst 1, 1) := by decide +kernel
theorem d_Lw_law_135 : decode b_Lw_law 135 = .ok (.iadd, 1) := by decide +kernel
theorem d_Lw_law_136 : decode b_Lw_law 136 = .ok (.iaload, 1) := by decide +kernel
theorem d_Lw_law_137 : decode b_Lw_law 137 = .ok (.aload_n 0, 1) := by decide +kernel
theorem d_Lw_law_138 : decode b_Lw_law 138 = .ok (.iload 4, 2) := by decide +kernel
theorem d_Lw_law_140 : decode b_Lw_law 140 = .ok (.iconst 2, 1) := by decide +kernel
theorem d_Lw_law_141 : decode b_Lw_law 141 = .ok (.iadd, 1) := by decide +kernel
theorem d_Lw_law_142 : decode b_Lw_law 142 = .ok (.iaload, 1) := by decide +kernel
theorem d_Lw_law_143 : decode b_Lw_law 143 = .ok (.aload_n 0, 1) := by decide +kernel
theorem d_Lw_law_144 : decode b_Lw_law 144 = .ok (.iload 4, 2) := by decide +kernel
theorem d_Lw_law_146 : decode b_Lw_law 146 = .ok (.iconst 3, 1) := by decide +kernel
theorem d_Lw_law_147 : decode b_Lw_law 147 = .ok (.iadd, 1) := by decide +kernel
theorem d_Lw_law_148 : decode b_Lw_law 148 = .ok (.iaload, 1) := by decide +kernel
theorem d_Lw_law_149 : decode b_Lw_law 149 = .ok (.i2c, 1) := by decide +kernel
theorem d_Lw_law_150 : decode b_Lw_law 150 = .ok (.invokevirtual 65, 3) := by decide +kernel
theorem d_Lw_law_153 : decode b_Lw_law 153 = .ok (.istore 6, 2) := by decide +kernel
theorem d_Lw_law_155 : decode b_Lw_law 155 = .ok (.aload_n 2, 1) := by decide +kernel
theorem d_Lw_law_156 : decode b_Lw_law 156 = .ok (.invokevirtual 66, 3) := by decide +kernel
theorem d_Lw_law_159 : decode b_Lw_law 159 = .ok (.iload 5, 2) := by decide +kernel
theorem d_Lw_law_161 : decode b_Lw_law 161 = .ok (.if_icmp .eq 5, 3) := by decide +kernel
theorem d_Lw_law_164 : decode b_Lw_law 164 = .ok (.iconst 0, 1) := by decide +kernel
theorem d_Lw_law_165 : decode b_Lw_law 165 = .ok (.ireturn, 1) := by decide +kernel
theorem d_Lw_law_166 : decode b_Lw_law 166 = .ok (.iload 5, 2) := by decide +kernel
theorem d_Lw_law_168 : decode b_Lw_law 168 = .ok (.ifCond .ne 15, 3) := by decide +kernel
theorem d_Lw_law_171 : decode b_Lw_law 171 = .ok (.aload_n 3, 1) := by decide +kernel
theorem d_Lw_law_172 : decode b_Lw_law 172 = .ok (.iconst 0, 1) := by decide +kernel
theorem d_Lw_law_173 : decode b_Lw_law 173 = .ok (.laload, 1) := by decide +kernel
theorem d_Lw_law_174 : decode b_Lw_law 174 = .ok (.iload 6, 2) := by decide +kernel
theorem d_Lw_law_176 : decode b_Lw_law 176 = .ok (.i2l, 1) := by decide +kernel
theorem d_Lw_law_177 : decode b_Lw_law 177 = .ok (.lcmp, 1) := by decide +kernel
theorem d_Lw_law_178 : decode b_Lw_law 178 = .ok (.ifCond .eq 5, 3) := by decide +kernel
theorem d_Lw_law_181 : decode b_Lw_law 181 = .ok (.iconst 0, 1) := by decide +kernel
theorem d_Lw_law_182 : decode b_Lw_law 182 = .ok (.ireturn, 1) := by decide +kernel
theorem d_Lw_law_183 : decode b_Lw_law 183 = .ok (.goto 717, 3) := by decide +kernel
theorem d_Lw_law_186 : decode b_Lw_law 186 = .ok (.aload_n 1, 1) := by decide +kernel
theorem d_Lw_law_187 : decode b_Lw_law 187 = .ok (.aload_n 0, 1) := by decide +kernel
theorem d_Lw_law_188 : decode b_Lw_law 188 = .ok (.iload 4, 2) := by decide +kernel
theorem d_Lw_law_190 : decode b_Lw_law 190 = .ok (.iconst 1, 1) := by decide +kernel
theorem d_Lw_law_191 : decode b_Lw_law 191 = .ok (.iadd, 1) := by decide +kernel
theorem d_Lw_law_192 : decode b_Lw_law 192 = .ok (.iaload, 1) := by decide +kernel
theorem d_Lw_law_193 : decode b_Lw_law 193 = .ok (.aload_n 0, 1) := by decide +kernel
theorem d_Lw_law_194 : decode b_Lw_law 194 = .ok (.iload 4, 2) := by decide +kernel
theorem d_Lw_law_196 : decode b_Lw_law 196 = .ok (.iconst 2, 1) := by decide +kernel
theorem d_Lw_law_197 : decode b_Lw_law 197 = .ok (.iadd, 1) := by decide +kernel
theorem d_Lw_law_198 : decode b_Lw_law 198 = .ok (.iaload, 1) := by decide +kernel
theorem d_Lw_law_199 : decode b_Lw_law 199 = .ok (.aload_n 3, 1) := by decide +kernel
theorem d_Lw_law_200 : decode b_Lw_law 200 = .ok (.invokestatic 70, 3) := by decide +kernel
theorem d_Lw_law_203 : decode b_Lw_law 203 = .ok (.istore 5, 2) := by decide +kernel
theorem d_Lw_law_205 : decode b_Lw_law 205 = .ok (.aload_n 2, 1) := by decide +kernel
theorem d_Lw_law_206 : decode b_Lw_law 206 = .ok (.aload_n 0, 1) := by decide +kernel
theorem d_Lw_law_207 : decode b_Lw_law 207 = .ok (.iload 4, 2) := by decide +kernel
theorem d_Lw_law_209 : decode b_Lw_law 209 = .ok (.iconst 1, 1) := by decide +kernel
theorem d_Lw_law_210 : decode b_Lw_law 210 = .ok (.iadd, 1) := by decide +kernel
theorem d_Lw_law_211 : decode b_Lw_law 211 = .ok (.iaload, 1) := by decide +kernel
theorem d_Lw_law_212 : decode b_Lw_law 212 = .ok (.aload_n 0, 1) := by decide +kernel
theorem d_Lw_law_213 : decode b_Lw_law 213 = .ok (.iload 4, 2) := by decide +kernel
theorem d_Lw_law_215 : decode b_Lw_law 215 = .ok (.iconst 2, 1) := by decide +kernel
theorem d_Lw_law_216 : decode b_Lw_law 216 = .ok (.iadd, 1) := by decide +kernel
theorem d_Lw_law_217 : decode b_Lw_law 217 = .ok (.iaload, 1) := by decide +kernel
theorem d_Lw_law_218 : decode b_Lw_law 218 = .ok (.invokevirtual 73, 3) := by decide +kernel
theorem d_Lw_law_221 : decode b_Lw_law 221 = .ok (.istore 6, 2) := by decide +kernel
theorem d_Lw_law_223 : decode b_Lw_law 223 = .ok (.aload_n 2, 1) := by decide +kernel
theorem d_Lw_law_224 : decode b_Lw_law 224 = .ok (.invokevirtual 66, 3) := by decide +kernel
theorem d_Lw_law_227 : decode b_Lw_law 227 = .ok (.iload 5, 2) := by decide +kernel
theorem d_Lw_law_229 : decode b_Lw_law 229 = .ok (.if_icmp .eq 5, 3) := by decide +kernel
theorem d_Lw_law_232 : decode b_Lw_law 232 = .ok (.iconst 0, 1) := by decide +kernel
theorem d_Lw_law_233 : decode b_Lw_law 233 = .ok (.ireturn, 1) := by decide +kernel
theorem d_Lw_law_234 : decode b_Lw_law 234 = .ok (.iload 5, 2) := by decide +kernel
theorem d_Lw_law_236 : decode b_Lw_law 236 = .ok (.ifCond .ne 15, 3) := by decide +kernel
theorem d_Lw_law_239 : decode b_Lw_law 239 = .ok (.aload_n 3, 1) := by decide +kernel
theorem d_Lw_law_240 : decode b_Lw_law 240 = .ok (.iconst 0, 1) := by decide +kernel
theorem d_Lw_law_241 : decode b_Lw_law 241 = .ok (.laload, 1) := by decide +kernel
theorem d_Lw_law_242 : decode b_Lw_law 242 = .ok (.iload 6, 2) := by decide +kernel
theorem d_Lw_law_244 : decode b_Lw_law 244 = .ok (.i2l, 1) := by decide +kernel
theorem d_Lw_law_245 : decode b_Lw_law 245 = .ok (.lcmp, 1) := by decide +kernel
theorem d_Lw_law_246 : decode b_Lw_law 246 = .ok (.ifCond .eq 5, 3) := by decide +kernel
theorem d_Lw_law_249 : decode b_Lw_law 249 = .ok (.iconst 0, 1) := by decide +kernel
theorem d_Lw_law_250 : decode b_Lw_law 250 = .ok (.ireturn, 1) := by decide +kernel
theorem d_Lw_law_251 : decode b_Lw_law 251 = .ok (.goto 649, 3) := by decide +kernel
theorem d_Lw_law_254 : decode b_Lw_law 254 = .ok (.aload_n 1, 1) := by decide +kernel
theorem d_Lw_law_255 : decode b_Lw_law 255 = .ok (.aload_n 0, 1) := by decide +kernel
theorem d_Lw_law_256 : decode b_Lw_law 256 = .ok (.iload 4, 2) := by decide +kernel
theorem d_Lw_law_258 : decode b_Lw_law 258 = .ok (.iconst 1, 1) := by decide +kernel
theorem d_Lw_law_259 : decode b_Lw_law 259 = .ok (.iadd, 1) := by decide +kernel
theorem d_Lw_law_260 : decode b_Lw_law 260 = .ok (.iaload, 1) := by decide +kernel
theorem d_Lw_law_261 : decode b_Lw_law 261 = .ok (.invokestatic 74, 3) := by decide +kernel
theorem d_Lw_law_264 : decode b_Lw_law 264 = .ok (.istore 5, 2) := by decide +kernel
theorem d_Lw_law_266 : decode b_Lw_law 266 = .ok (.aload_n 2, 1) := by decide +kernel
theorem d_Lw_law_267 : decode b_Lw_law 267 = .ok (.aload_n 0, 1) := by decide +kernel
theorem d_Lw_law_268 : decode b_Lw_law 268 = .ok (.iload 4, 2) := by decide +kernel
theorem d_Lw_law_270 : decode b_Lw_law 270 = .ok (.iconst 1, 1) := by decide +kernel
theorem d_Lw_law_271 : decode b_Lw_law 271 = .ok (.iadd, 1) := by decide +kernel
theorem d_Lw_law_272 : decode b_Lw_law 272 = .ok (.iaload, 1) := by decide +kernel
theorem d_Lw_law_273 : decode b_Lw_law 273 = .ok (.invokevirtual 77, 3) := by decide +kernel
theorem d_Lw_law_276 : decode b_Lw_law 276 = .ok (.aload_n 2, 1) := by decide +kernel
theorem d_Lw_law_277 : decode b_Lw_law 277 = .ok (.invokevirtual 66, 3) := by decide +kernel
theorem d_Lw_law_280 : decode b_Lw_law 280 = .ok (.iload 5, 2) := by decide +kernel
theorem d_Lw_law_282 : decode b_Lw_law 282 = .ok (.if_icmp .eq 5, 3) := by decide +kernel
theorem d_Lw_law_285 : decode b_Lw_law 285 = .ok (.iconst 0, 1) := by decide +kernel
theorem d_Lw_law_286 : decode b_Lw_law 286 = .ok (.ireturn, 1) := by decide +kernel
theorem d_Lw_law_287 : decode b_Lw_law 287 = .ok (.goto 613, 3) := by decide +kernel
theorem d_Lw_law_290 : decode b_Lw_law 290 = .ok (.aload_n 1, 1) := by decide +kernel
theorem d_Lw_law_291 : decode b_Lw_law 291 = .ok (.aload_n 0, 1) := by decide +kernel
theorem d_Lw_law_292 : decode b_Lw_law 292 = .ok (.iload 4, 2) := by decide +kernel
theorem d_Lw_law_294 : decode b_Lw_law 294 = .ok (.iconst 1, 1) := by decide +kernel
theorem d_Lw_law_295 : decode b_Lw_law 295 = .ok (.iadd, 1) := by decide +kernel
theorem d_Lw_law_296 : decode b_Lw_law 296 = .ok (.iaload, 1) := by decide +kernel
theorem d_Lw_law_297 : decode b_Lw_law 297 = .ok (.aload_n 3, 1) := by decide +kernel
theorem d_Lw_law_298 : decode b_Lw_law 298 = .ok (.invokestatic 78, 3) := by decide +kernel
theorem d_Lw_law_301 : decode b_Lw_law 301 = .ok (.istore 5, 2) := by decide +kernel
theorem d_Lw_law_303 : decode b_Lw_law 303 = .ok (.aload_n 2, 1) := by decide +kernel
theorem d_Lw_law_304 : decode b_Lw_law 304 = .ok (.aload_n 0, 1) := by decide +kernel
theorem d_Lw_law_305 : decode b_Lw_law 305 = .ok (.iload 4, 2) := by decide +kernel
theorem d_Lw_law_307 : decode b_Lw_law 307 = .ok (.iconst 1, 1) := by decide +kernel
theorem d_Lw_law_308 : decode b_Lw_law 308 = .ok (.iadd, 1) := by decide +kernel
theorem d_Lw_law_309 : decode b_Lw_law 309 = .ok (.iaload, 1) := by decide +kernel
theorem d_Lw_law_310 : decode b_Lw_law 310 = .ok (.invokevirtual 81, 3) := by decide +kernel
theorem d_Lw_law_313 : decode b_Lw_law 313 = .ok (.istore 6, 2) := by decide +kernel
theorem d_Lw_law_315 : decode b_Lw_law 315 = .ok (.aload_n 2, 1) := by decide +kernel
theorem d_Lw_law_316 : decode b_Lw_law 316 = .ok (.invokevirtual 66, 3) := by decide +kernel
theorem d_Lw_law_319 : decode b_Lw_law 319 = .ok (.iload 5, 2) := by decide +kernel
theorem d_Lw_law_321 : decode b_Lw_law 321 = .ok (.if_icmp .eq 5, 3) := by decide +kernel
theorem d_Lw_law_324 : decode b_Lw_law 324 = .ok (.iconst 0, 1) := by decide +kernel
theorem d_Lw_law_325 : decode b_Lw_law 325 = .ok (.ireturn, 1) := by decide +kernel
theorem d_Lw_law_326 : decode b_Lw_law 326 = .ok (.iload 5, 2) := by decide +kernel
theorem d_Lw_law_328 : decode b_Lw_law 328 = .ok (.ifCond .ne 15, 3) := by decide +kernel
theorem d_Lw_law_331 : decode b_Lw_law 331 = .ok (.aload_n 3, 1) := by decide +kernel
theorem d_Lw_law_332 : decode b_Lw_law 332 = .ok (.iconst 0, 1) := by decide +kernel
theorem d_Lw_law_333 : decode b_Lw_law 333 = .ok (.laload, 1) := by decide +kernel
theorem d_Lw_law_334 : decode b_Lw_law 334 = .ok (.iload 6, 2) := by decide +kernel
theorem d_Lw_law_336 : decode b_Lw_law 336 = .ok (.i2l, 1) := by decide +kernel
theorem d_Lw_law_337 : decode b_Lw_law 337 = .ok (.lcmp, 1) := by decide +kernel
theorem d_Lw_law_338 : decode b_Lw_law 338 = .ok (.ifCond .eq 5, 3) := by decide +kernel
theorem d_Lw_law_341 : decode b_Lw_law 341 = .ok (.iconst 0, 1) := by decide +kernel
theorem d_Lw_law_342 : decode b_Lw_law 342 = .ok (.ireturn, 1) := by decide +kernel
theorem d_Lw_law_343 : decode b_Lw_law 343 = .ok (.goto 557, 3) := by decide +kernel
theorem d_Lw_law_346 : decode b_Lw_law 346 = .ok (.aload_n 1, 1) := by decide +kernel
theorem d_Lw_law_347 : decode b_Lw_law 347 = .ok (.aload_n 0, 1) := by decide +kernel
theorem d_Lw_law_348 : decode b_Lw_law 348 = .ok (.iload 4, 2) := by decide +kernel
theorem d_Lw_law_350 : decode b_Lw_law 350 = .ok (.iconst 1, 1) := by decide +kernel
theorem d_Lw_law_351 : decode b_Lw_law 351 = .ok (.iadd, 1) := by decide +kernel
theorem d_Lw_law_352 : decode b_Lw_law 352 = .ok (.iaload, 1) := by decide +kernel
theorem d_Lw_law_353 : decode b_Lw_law 353 = .ok (.aload_n 3, 1) := by decide +kernel
theorem d_Lw_law_354 : decode b_Lw_law 354 = .ok (.invokestatic 82, 3) := by decide +kernel
theorem d_Lw_law_357 : decode b_Lw_law 357 = .ok (.istore 5, 2) := by decide +kernel
theorem d_Lw_law_359 : decode b_Lw_law 359 = .ok (.aload_n 2, 1) := by decide +kernel
theorem d_Lw_law_360 : decode b_Lw_law 360 = .ok (.aload_n 0, 1) := by decide +kernel
theorem d_Lw_law_361 : decode b_Lw_law 361 = .ok (.iload 4, 2) := by decide +kernel
theorem d_Lw_law_363 : decode b_Lw_law 363 = .ok (.iconst 1, 1) := by decide +kernel
theorem d_Lw_law_364 : decode b_Lw_law 364 = .ok (.iadd, 1) := by decide +kernel
theorem d_Lw_law_365 : decode b_Lw_law 365 = .ok (.iaload, 1) := by decide +kernel
theorem d_Lw_law_366 : decode b_Lw_law 366 = .ok (.invokevirtual 84, 3) := by decide +kernel
theorem d_Lw_law_369 : decode b_Lw_law 369 = .ok (.istore 6, 2) := by decide +kernel
theorem d_Lw_law_371 : decode b_Lw_law 371 = .ok (.aload_n 2, 1) := by decide +kernel
theorem d_Lw_law_372 : decode b_Lw_law 372 = .ok (.invokevirtual 66, 3) := by decide +kernel
theorem d_Lw_law_375 : decode b_Lw_law 375 = .ok (.iload 5, 2) := by decide +kernel
theorem d_Lw_law_377 : decode b_Lw_law 377 = .ok (.if_icmp .eq 5, 3) := by decide +kernel
theorem d_Lw_law_380 : decode b_Lw_law 380 = .ok (.iconst 0, 1) := by decide +kernel
theorem d_Lw_law_381 : decode b_Lw_law 381 = .ok (.ireturn, 1) := by decide +kernel
theorem d_Lw_law_382 : decode b_Lw_law 382 = .ok (.iload 5, 2) := by decide +kernel
theorem d_Lw_law_384 : decode b_Lw_law 384 = .ok (.ifCond .ne 15, 3) := by decide +kernel
theorem d_Lw_law_387 : decode b_Lw_law 387 = .ok (.aload_n 3, 1) := by decide +kernel
theorem d_Lw_law_388 : decode b_Lw_law 388 = .ok (.iconst 0, 1) := by decide +kernel
theorem d_Lw_law_389 : decode b_Lw_law 389 = .ok (.laload, 1) := by decide +kernel
theorem d_Lw_law_390 : decode b_Lw_law 390 = .ok (.iload 6, 2) := by decide +kernel
theorem d_Lw_law_392 : decode b_Lw_law 392 = .ok (.i2l, 1) := by decide +kernel
theorem d_Lw_law_393 : decode b_Lw_law 393 = .ok (.lcmp, 1) := by decide +kernel
theorem d_Lw_law_394 : decode b_Lw_law 394 = .ok (.ifCond .eq 5, 3) := by decide +kernel
theorem d_Lw_law_397 : decode b_Lw_law 397 = .ok (.iconst 0, 1) := by decide +kernel
theorem d_Lw_law_398 : decode b_Lw_law 398 = .ok (.ireturn, 1) := by decide +kernel
theorem d_Lw_law_399 : decode b_Lw_law 399 = .ok (.goto 501, 3) := by decide +kernel
theorem d_Lw_law_402 : decode b_Lw_law 402 = .ok (.aload_n 1, 1) := by decide +kernel
theorem d_Lw_law_403 : decode b_Lw_law 403 = .ok (.aload_n 0, 1) := by decide +kernel
theorem d_Lw_law_404 : decode b_Lw_law 404 = .ok (.iload 4, 2) := by decide +kernel
theorem d_Lw_law_406 : decode b_Lw_law 406 = .ok (.iconst 1, 1) := by decide +kernel
theorem d_Lw_law_407 : decode b_Lw_law 407 = .ok (.iadd, 1) := by decide +kernel
theorem d_Lw_law_408 : decode b_Lw_law 408 = .ok (.iaload, 1) := by decide +kernel
theorem d_Lw_law_409 : decode b_Lw_law 409 = .ok (.aload_n 0, 1) := by decide +kernel
theorem d_Lw_law_410 : decode b_Lw_law 410 = .ok (.iload 4, 2) := by decide +kernel
theorem d_Lw_law_412 : decode b_Lw_law 412 = .ok (.iconst 2, 1) := by decide +kernel
theorem d_Lw_law_413 : decode b_Lw_law 413 = .ok (.iadd, 1) := by decide +kernel
theorem d_Lw_law_414 : decode b_Lw_law 414 = .ok (.iaload, 1) := by decide +kernel
theorem d_Lw_law_415 : decode b_Lw_law 415 = .ok (.ifCond .eq 7, 3) := by decide +kernel
theorem d_Lw_law_418 : decode b_Lw_law 418 = .ok (.iconst 1, 1) := by decide +kernel
theorem d_Lw_law_419 : decode b_Lw_law 419 = .ok (.goto 4, 3) := by decide +kernel
theorem d_Lw_law_422 : decode b_Lw_law 422 = .ok (.iconst 0, 1) := by decide +kernel
theorem d_Lw_law_423 : decode b_Lw_law 423 = .ok (.aload_n 3, 1) := by decide +kernel
theorem d_Lw_law_424 : decode b_Lw_law 424 = .ok (.invokestatic 85, 3) := by decide +kernel
theorem d_Lw_law_427 : decode b_Lw_law 427 = .ok (.istore 5, 2) := by decide +kernel
theorem d_Lw_law_429 : decode b_Lw_law 429 = .ok (.aload_n 2, 1) := by decide +kernel
theorem d_Lw_law_430 : decode b_Lw_law 430 = .ok (.aload_n 0, 1) := by decide +kernel
theorem d_Lw_law_431 : decode b_Lw_law 431 = .ok (.iload 4, 2) := by decide +kernel
theorem d_Lw_law_433 : decode b_Lw_law 433 = .ok (.iconst 1, 1) := by decide +kernel
theorem d_Lw_law_434 : decode b_Lw_law 434 = .ok (.iadd, 1) := by decide +kernel
theorem d_Lw_law_435 : decode b_Lw_law 435 = .ok (.iaload, 1) := by decide +kernel
theorem d_Lw_law_436 : decode b_Lw_law 436 = .ok (.aload_n 0, 1) := by decide +kernel
theorem d_Lw_law_437 : decode b_Lw_law 437 = .ok (.iload 4, 2) := by decide +kernel
theorem d_Lw_law_439 : decode b_Lw_law 439 = .ok (.iconst 2, 1) := by decide +kernel
theorem d_Lw_law_440 : decode b_Lw_law 440 = .ok (.iadd, 1) := by decide +kernel
theorem d_Lw_law_441 : decode b_Lw_law 441 = .ok (.iaload, 1) := by decide +kernel
theorem d_Lw_law_442 : decode b_Lw_law 442 = .ok (.ifCond .eq 7, 3) := by decide +kernel
theorem d_Lw_law_445 : decode b_Lw_law 445 = .ok (.iconst 1, 1) := by decide +kernel
theorem d_Lw_law_446 : decode b_Lw_law 446 = .ok (.goto 4, 3) := by decide +kernel
theorem d_Lw_law_449 : decode b_Lw_law 449 = .ok (.iconst 0, 1) := by decide +kernel
theorem d_Lw_law_450 : decode b_Lw_law 450 = .ok (.invokevirtual 88, 3) := by decide +kernel
theorem d_Lw_law_453 : decode b_Lw_law 453 = .ok (.istore 6, 2) := by decide +kernel
theorem d_Lw_law_455 : decode b_Lw_law 455 = .ok (.aload_n 2, 1) := by decide +kernel
theorem d_Lw_law_456 : decode b_Lw_law 456 = .ok (.invokevirtual 66, 3) := by decide +kernel
theorem d_Lw_law_459 : decode b_Lw_law 459 = .ok (.iload 5, 2) := by decide +kernel
theorem d_Lw_law_461 : decode b_Lw_law 461 = .ok (.if_icmp .eq 5, 3) := by decide +kernel
theorem d_Lw_law_464 : decode b_Lw_law 464 = .ok (.iconst 0, 1) := by decide +kernel
theorem d_Lw_law_465 : decode b_Lw_law 465 = .ok (.ireturn, 1) := by decide +kernel
theorem d_Lw_law_466 : decode b_Lw_law 466 = .ok (.iload 5, 2) := by decide +kernel
theorem d_Lw_law_468 : decode b_Lw_law 468 = .ok (.ifCond .ne 15, 3) := by decide +kernel
theorem d_Lw_law_471 : decode b_Lw_law 471 = .ok (.aload_n 3, 1) := by decide +kernel
theorem d_Lw_law_472 : decode b_Lw_law 472 = .ok (.iconst 0, 1) := by decide +kernel
theorem d_Lw_law_473 : decode b_Lw_law 473 = .ok (.laload, 1) := by decide +kernel
theorem d_Lw_law_474 : decode b_Lw_law 474 = .ok (.iload 6, 2) := by decide +kernel
theorem d_Lw_law_476 : decode b_Lw_law 476 = .ok (.i2l, 1) := by decide +kernel
theorem d_Lw_law_477 : decode b_Lw_law 477 = .ok (.lcmp, 1) := by decide +kernel
theorem d_Lw_law_478 : decode b_Lw_law 478 = .ok (.ifCond .eq 5, 3) := by decide +kernel
theorem d_Lw_law_481 : decode b_Lw_law 481 = .ok (.iconst 0, 1) := by decide +kernel
theorem d_Lw_law_482 : decode b_Lw_law 482 = .ok (.ireturn, 1) := by decide +kernel
theorem d_Lw_law_483 : decode b_Lw_law 483 = .ok (.goto 417, 3) := by decide +kernel
theorem d_Lw_law_486 : decode b_Lw_law 486 = .ok (.aload_n 1, 1) := by decide +kernel
theorem d_Lw_law_487 : decode b_Lw_law 487 = .ok (.aload_n 0, 1) := by decide +kernel
theorem d_Lw_law_488 : decode b_Lw_law 488 = .ok (.iload 4, 2) := by decide +kernel
theorem d_Lw_law_490 : decode b_Lw_law 490 = .ok (.iconst 1, 1) := by decide +kernel
theorem d_Lw_law_491 : decode b_Lw_law 491 = .ok (.iadd, 1) := by decide +kernel
theorem d_Lw_law_492 : decode b_Lw_law 492 = .ok (.iaload, 1) := by decide +kernel
theorem d_Lw_law_493 : decode b_Lw_law 493 = .ok (.aload_n 0, 1) := by decide +kernel
theorem d_Lw_law_494 : decode b_Lw_law 494 = .ok (.iload 4, 2) := by decide +kernel
theorem d_Lw_law_496 : decode b_Lw_law 496 = .ok (.iconst 2, 1) := by decide +kernel
theorem d_Lw_law_497 : decode b_Lw_law 497 = .ok (.iadd, 1) := by decide +kernel
theorem d_Lw_law_498 : decode b_Lw_law 498 = .ok (.iaload, 1) := by decide +kernel
theorem d_Lw_law_499 : decode b_Lw_law 499 = .ok (.ifCond .eq 7, 3) := by decide +kernel
theorem d_Lw_law_502 : decode b_Lw_law 502 = .ok (.iconst 1, 1) := by decide +kernel
theorem d_Lw_law_503 : decode b_Lw_law 503 = .ok (.goto 4, 3) := by decide +kernel
theorem d_Lw_law_506 : decode b_Lw_law 506 = .ok (.iconst 0, 1) := by decide +kernel
theorem d_Lw_law_507 : decode b_Lw_law 507 = .ok (.aload_n 3, 1) := by decide +kernel
theorem d_Lw_law_508 : decode b_Lw_law 508 = .ok (.invokestatic 89, 3) := by decide +kernel
theorem d_Lw_law_511 : decode b_Lw_law 511 = .ok (.istore 5, 2) := by decide +kernel
theorem d_Lw_law_513 : decode b_Lw_law 513 = .ok (.aload_n 2, 1) := by decide +kernel
theorem d_Lw_law_514 : decode b_Lw_law 514 = .ok (.aload_n 0, 1) := by decide +kernel
theorem d_Lw_law_515 : decode b_Lw_law 515 = .ok (.iload 4, 2) := by decide +kernel
theorem d_Lw_law_517 : decode b_Lw_law 517 = .ok (.iconst 1, 1) := by decide +kernel
theorem d_Lw_law_518 : decode b_Lw_law 518 = .ok (.iadd, 1) := by decide +kernel
theorem d_Lw_law_519 : decode b_Lw_law 519 = .ok (.iaload, 1) := by decide +kernel
theorem d_Lw_law_520 : decode b_Lw_law 520 = .ok (.aload_n 0, 1) := by decide +kernel
theorem d_Lw_law_521 : decode b_Lw_law 521 = .ok (.iload 4, 2) := by decide +kernel
theorem d_Lw_law_523 : decode b_Lw_law 523 = .ok (.iconst 2, 1) := by decide +kernel
theorem d_Lw_law_524 : decode b_Lw_law 524 = .ok (.iadd, 1) := by decide +kernel
theorem d_Lw_law_525 : decode b_Lw_law 525 = .ok (.iaload, 1) := by decide +kernel
theorem d_Lw_law_526 : decode b_Lw_law 526 = .ok (.ifCond .eq 7, 3) := by decide +kernel
theorem d_Lw_law_529 : decode b_Lw_law 529 = .ok (.iconst 1, 1) := by decide +kernel
theorem d_Lw_law_530 : decode b_Lw_law 530 = .ok (.goto 4, 3) := by decide +kernel
theorem d_Lw_law_533 : decode b_Lw_law 533 = .ok (.iconst 0, 1) := by decide +kernel
theorem d_Lw_law_534 : decode b_Lw_law 534 = .ok (.invokevirtual 91, 3) := by decide +kernel
theorem d_Lw_law_537 : decode b_Lw_law 537 = .ok (.istore 6, 2) := by decide +kernel
theorem d_Lw_law_539 : decode b_Lw_law 539 = .ok (.aload_n 2, 1) := by decide +kernel
theorem d_Lw_law_540 : decode b_Lw_law 540 = .ok (.invokevirtual 66, 3) := by decide +kernel
theorem d_Lw_law_543 : decode b_Lw_law 543 = .ok (.iload 5, 2) := by decide +kernel
theorem d_Lw_law_545 : decode b_Lw_law 545 = .ok (.if_icmp .eq 5, 3) := by decide +kernel
theorem d_Lw_law_548 : decode b_Lw_law 548 = .ok (.iconst 0, 1) := by decide +kernel
theorem d_Lw_law_549 : decode b_Lw_law 549 = .ok (.ireturn, 1) := by decide +kernel
theorem d_Lw_law_550 : decode b_Lw_law 550 = .ok (.iload 5, 2) := by decide +kernel
theorem d_Lw_law_552 : decode b_Lw_law 552 = .ok (.ifCond .ne 15, 3) := by decide +kernel
theorem d_Lw_law_555 : decode b_Lw_law 555 = .ok (.aload_n 3, 1) := by decide +kernel
theorem d_Lw_law_556 : decode b_Lw_law 556 = .ok (.iconst 0, 1) := by decide +kernel
theorem d_Lw_law_557 : decode b_Lw_law 557 = .ok (.laload, 1) := by decide +kernel
theorem d_Lw_law_558 : decode b_Lw_law 558 = .ok (.iload 6, 2) := by decide +kernel
theorem d_Lw_law_560 : decode b_Lw_law 560 = .ok (.i2l, 1) := by decide +kernel
theorem d_Lw_law_561 : decode b_Lw_law 561 = .ok (.lcmp, 1) := by decide +kernel
theorem d_Lw_law_562 : decode b_Lw_law 562 = .ok (.ifCond .eq 5, 3) := by decide +kernel
theorem d_Lw_law_565 : decode b_Lw_law 565 = .ok (.iconst 0, 1) := by decide +kernel
theorem d_Lw_law_566 : decode b_Lw_law 566 = .ok (.ireturn, 1) := by decide +kernel
theorem d_Lw_law_567 : decode b_Lw_law 567 = .ok (.goto 333, 3) := by decide +kernel
theorem d_Lw_law_570 : decode b_Lw_law 570 = .ok (.aload_n 1, 1) := by decide +kernel
theorem d_Lw_law_571 : decode b_Lw_law 571 = .ok (.aload_n 0, 1) := by decide +kernel
theorem d_Lw_law_572 : decode b_Lw_law 572 = .ok (.iload 4, 2) := by decide +kernel
theorem d_Lw_law_574 : decode b_Lw_law 574 = .ok (.iconst 1, 1) := by decide +kernel
theorem d_Lw_law_575 : decode b_Lw_law 575 = .ok (.iadd, 1) := by decide +kernel
theorem d_Lw_law_576 : decode b_Lw_law 576 = .ok (.iaload, 1) := by decide +kernel
theorem d_Lw_law_577 : decode b_Lw_law 577 = .ok (.aload_n 0, 1) := by decide +kernel
theorem d_Lw_law_578 : decode b_Lw_law 578 = .ok (.iload 4, 2) := by decide +kernel
theorem d_Lw_law_580 : decode b_Lw_law 580 = .ok (.iconst 2, 1) := by decide +kernel
theorem d_Lw_law_581 : decode b_Lw_law 581 = .ok (.iadd, 1) := by decide +kernel
theorem d_Lw_law_582 : decode b_Lw_law 582 = .ok (.iaload, 1) := by decide +kernel
theorem d_Lw_law_583 : decode b_Lw_law 583 = .ok (.ifCond .eq 7, 3) := by decide +kernel
theorem d_Lw_law_586 : decode b_Lw_law 586 = .ok (.iconst 1, 1) := by decide +kernel
theorem d_Lw_law_587 : decode b_Lw_law 587 = .ok (.goto 4, 3) := by decide +kernel
theorem d_Lw_law_590 : decode b_Lw_law 590 = .ok (.iconst 0, 1) := by decide +kernel
theorem d_Lw_law_591 : decode b_Lw_law 591 = .ok (.aload_n 3, 1) := by decide +kernel
theorem d_Lw_law_592 : decode b_Lw_law 592 = .ok (.invokestatic 92, 3) := by decide +kernel
theorem d_Lw_law_595 : decode b_Lw_law 595 = .ok (.istore 5, 2) := by decide +kernel
theorem d_Lw_law_597 : decode b_Lw_law 597 = .ok (.aload_n 2, 1) := by decide +kernel
theorem d_Lw_law_598 : decode b_Lw_law 598 = .ok (.aload_n 0, 1) := by decide +kernel
theorem d_Lw_law_599 : decode b_Lw_law 599 = .ok (.iload 4, 2) := by decide +kernel
theorem d_Lw_law_601 : decode b_Lw_law 601 = .ok (.iconst 1, 1) := by decide +kernel
theorem d_Lw_law_602 : decode b_Lw_law 602 = .ok (.iadd, 1) := by decide +kernel
theorem d_Lw_law_603 : decode b_Lw_law 603 = .ok (.iaload, 1) := by decide +kernel
theorem d_Lw_law_604 : decode b_Lw_law 604 = .ok (.aload_n 0, 1) := by decide +kernel
theorem d_Lw_law_605 : decode b_Lw_law 605 = .ok (.iload 4, 2) := by decide +kernel
theorem d_Lw_law_607 : decode b_Lw_law 607 = .ok (.iconst 2, 1) := by decide +kernel
theorem d_Lw_law_608 : decode b_Lw_law 608 = .ok (.iadd, 1) := by decide +kernel
theorem d_Lw_law_609 : decode b_Lw_law 609 = .ok (.iaload, 1) := by decide +kernel
theorem d_Lw_law_610 : decode b_Lw_law 610 = .ok (.ifCond .eq 7, 3) := by decide +kernel
theorem d_Lw_law_613 : decode b_Lw_law 613 = .ok (.iconst 1, 1) := by decide +kernel
theorem d_Lw_law_614 : decode b_Lw_law 614 = .ok (.goto 4, 3) := by decide +kernel
theorem d_Lw_law_617 : decode b_Lw_law 617 = .ok (.iconst 0, 1) := by decide +kernel
theorem d_Lw_law_618 : decode b_Lw_law 618 = .ok (.invokevirtual 94, 3) := by decide +kernel
theorem d_Lw_law_621 : decode b_Lw_law 621 = .ok (.istore 6, 2) := by decide +kernel
theorem d_Lw_law_623 : decode b_Lw_law 623 = .ok (.aload_n 2, 1) := by decide +kernel
theorem d_Lw_law_624 : decode b_Lw_law 624 = .ok (.invokevirtual 66, 3) := by decide +kernel
theorem d_Lw_law_627 : decode b_Lw_law 627 = .ok (.iload 5, 2) := by decide +kernel
theorem d_Lw_law_629 : decode b_Lw_law 629 = .ok (.if_icmp .eq 5, 3) := by decide +kernel
theorem d_Lw_law_632 : decode b_Lw_law 632 = .ok (.iconst 0, 1) := by decide +kernel
theorem d_Lw_law_633 : decode b_Lw_law 633 = .ok (.ireturn, 1) := by decide +kernel
theorem d_Lw_law_634 : decode b_Lw_law 634 = .ok (.iload 5, 2) := by decide +kernel
theorem d_Lw_law_636 : decode b_Lw_law 636 = .ok (.ifCond .ne 15, 3) := by decide +kernel
theorem d_Lw_law_639 : decode b_Lw_law 639 = .ok (.aload_n 3, 1) := by decide +kernel
theorem d_Lw_law_640 : decode b_Lw_law 640 = .ok (.iconst 0, 1) := by decide +kernel
theorem d_Lw_law_641 : decode b_Lw_law 641 = .ok (.laload, 1) := by decide +kernel
theorem d_Lw_law_642 : decode b_Lw_law 642 = .ok (.iload 6, 2) := by decide +kernel
theorem d_Lw_law_644 : decode b_Lw_law 644 = .ok (.i2l, 1) := by decide +kernel
theorem d_Lw_law_645 : decode b_Lw_law 645 = .ok (.lcmp, 1) := by decide +kernel
theorem d_Lw_law_646 : decode b_Lw_law 646 = .ok (.ifCond .eq 5, 3) := by decide +kernel
theorem d_Lw_law_649 : decode b_Lw_law 649 = .ok (.iconst 0, 1) := by decide +kernel
theorem d_Lw_law_650 : decode b_Lw_law 650 = .ok (.ireturn, 1) := by decide +kernel
theorem d_Lw_law_651 : decode b_Lw_law 651 = .ok (.goto 249, 3) := by decide +kernel
theorem d_Lw_law_654 : decode b_Lw_law 654 = .ok (.aload_n 1, 1) := by decide +kernel
theorem d_Lw_law_655 : decode b_Lw_law 655 = .ok (.aload_n 0, 1) := by decide +kernel
theorem d_Lw_law_656 : decode b_Lw_law 656 = .ok (.iload 4, 2) := by decide +kernel
theorem d_Lw_law_658 : decode b_Lw_law 658 = .ok (.iconst 1, 1) := by decide +kernel
theorem d_Lw_law_659 : decode b_Lw_law 659 = .ok (.iadd, 1) := by decide +kernel
theorem d_Lw_law_660 : decode b_Lw_law 660 = .ok (.iaload, 1) := by decide +kernel
theorem d_Lw_law_661 : decode b_Lw_law 661 = .ok (.aload_n 0, 1) := by decide +kernel
theorem d_Lw_law_662 : decode b_Lw_law 662 = .ok (.iload 4, 2) := by decide +kernel
theorem d_Lw_law_664 : decode b_Lw_law 664 = .ok (.iconst 2, 1) := by decide +kernel
theorem d_Lw_law_665 : decode b_Lw_law 665 = .ok (.iadd, 1) := by decide +kernel
theorem d_Lw_law_666 : decode b_Lw_law 666 = .ok (.iaload, 1) := by decide +kernel
theorem d_Lw_law_667 : decode b_Lw_law 667 = .ok (.ifCond .eq 7, 3) := by decide +kernel
theorem d_Lw_law_670 : decode b_Lw_law 670 = .ok (.iconst 1, 1) := by decide +kernel
theorem d_Lw_law_671 : decode b_Lw_law 671 = .ok (.goto 4, 3) := by decide +kernel
theorem d_Lw_law_674 : decode b_Lw_law 674 = .ok (.iconst 0, 1) := by decide +kernel
theorem d_Lw_law_675 : decode b_Lw_law 675 = .ok (.aload_n 0, 1) := by decide +kernel
theorem d_Lw_law_676 : decode b_Lw_law 676 = .ok (.iload 4, 2) := by decide +kernel
theorem d_Lw_law_678 : decode b_Lw_law 678 = .ok (.iconst 3, 1) := by decide +kernel
theorem d_Lw_law_679 : decode b_Lw_law 679 = .ok (.iadd, 1) := by decide +kernel
theorem d_Lw_law_680 : decode b_Lw_law 680 = .ok (.iaload, 1) := by decide +kernel
theorem d_Lw_law_681 : decode b_Lw_law 681 = .ok (.aload_n 3, 1) := by decide +kernel
theorem d_Lw_law_682 : decode b_Lw_law 682 = .ok (.invokestatic 95, 3) := by decide +kernel
theorem d_Lw_law_685 : decode b_Lw_law 685 = .ok (.istore 5, 2) := by decide +kernel
theorem d_Lw_law_687 : decode b_Lw_law 687 = .ok (.aload_n 2, 1) := by decide +kernel
theorem d_Lw_law_688 : decode b_Lw_law 688 = .ok (.aload_n 0, 1) := by decide +kernel
theorem d_Lw_law_689 : decode b_Lw_law 689 = .ok (.iload 4, 2) := by decide +kernel
theorem d_Lw_law_691 : decode b_Lw_law 691 = .ok (.iconst 1, 1) := by decide +kernel
theorem d_Lw_law_692 : decode b_Lw_law 692 = .ok (.iadd, 1) := by decide +kernel
theorem d_Lw_law_693 : decode b_Lw_law 693 = .ok (.iaload, 1) := by decide +kernel
theorem d_Lw_law_694 : decode b_Lw_law 694 = .ok (.aload_n 0, 1) := by decide +kernel
theorem d_Lw_law_695 : decode b_Lw_law 695 = .ok (.iload 4, 2) := by decide +kernel
theorem d_Lw_law_697 : decode b_Lw_law 697 = .ok (.iconst 2, 1) := by decide +kernel
theorem d_Lw_law_698 : decode b_Lw_law 698 = .ok (.iadd, 1) := by decide +kernel
theorem d_Lw_law_699 : decode b_Lw_law 699 = .ok (.iaload, 1) := by decide +kernel
theorem d_Lw_law_700 : decode b_Lw_law 700 = .ok (.ifCond .eq 7, 3) := by decide +kernel
theorem d_Lw_law_703 : decode b_Lw_law 703 = .ok (.iconst 1, 1) := by decide +kernel
theorem d_Lw_law_704 : decode b_Lw_law 704 = .ok (.goto 4, 3) := by decide +kernel
theorem d_Lw_law_707 : decode b_Lw_law 707 = .ok (.iconst 0, 1) := by decide +kernel
theorem d_Lw_law_708 : decode b_Lw_law 708 = .ok (.aload_n 0, 1) := by decide +kernel
theorem d_Lw_law_709 : decode b_Lw_law 709 = .ok (.iload 4, 2) := by decide +kernel
theorem d_Lw_law_711 : decode b_Lw_law 711 = .ok (.iconst 3, 1) := by decide +kernel
theorem d_Lw_law_712 : decode b_Lw_law 712 = .ok (.iadd, 1) := by decide +kernel
theorem d_Lw_law_713 : decode b_Lw_law 713 = .ok (.iaload, 1) := by decide +kernel
theorem d_Lw_law_714 : decode b_Lw_law 714 = .ok (.invokevirtual 98, 3) := by decide +kernel
theorem d_Lw_law_717 : decode b_Lw_law 717 = .ok (.istore 6, 2) := by decide +kernel
theorem d_Lw_law_719 : decode b_Lw_law 719 = .ok (.aload_n 2, 1) := by decide +kernel
theorem d_Lw_law_720 : decode b_Lw_law 720 = .ok (.invokevirtual 66, 3) := by decide +kernel
theorem d_Lw_law_723 : decode b_Lw_law 723 = .ok (.iload 5, 2) := by decide +kernel
theorem d_Lw_law_725 : decode b_Lw_law 725 = .ok (.if_icmp .eq 5, 3) := by decide +kernel
theorem d_Lw_law_728 : decode b_Lw_law 728 = .ok (.iconst 0, 1) := by decide +kernel
theorem d_Lw_law_729 : decode b_Lw_law 729 = .ok (.ireturn, 1) := by decide +kernel
theorem d_Lw_law_730 : decode b_Lw_law 730 = .ok (.iload 5, 2) := by decide +kernel
theorem d_Lw_law_732 : decode b_Lw_law 732 = .ok (.ifCond .ne 15, 3) := by decide +kernel
theorem d_Lw_law_735 : decode b_Lw_law 735 = .ok (.aload_n 3, 1) := by decide +kernel
theorem d_Lw_law_736 : decode b_Lw_law 736 = .ok (.iconst 0, 1) := by decide +kernel
theorem d_Lw_law_737 : decode b_Lw_law 737 = .ok (.laload, 1) := by decide +kernel
theorem d_Lw_law_738 : decode b_Lw_law 738 = .ok (.iload 6, 2) := by decide +kernel
theorem d_Lw_law_740 : decode b_Lw_law 740 = .ok (.i2l, 1) := by decide +kernel
theorem d_Lw_law_741 : decode b_Lw_law 741 = .ok (.lcmp, 1) := by decide +kernel
theorem d_Lw_law_742 : decode b_Lw_law 742 = .ok (.ifCond .eq 5, 3) := by decide +kernel
theorem d_Lw_law_745 : decode b_Lw_law 745 = .ok (.iconst 0, 1) := by decide +kernel
theorem d_Lw_law_746 : decode b_Lw_law 746 = .ok (.ireturn, 1) := by decide +kernel
theorem d_Lw_law_747 : decode b_Lw_law 747 = .ok (.goto 153, 3) := by decide +kernel
theorem d_Lw_law_750 : decode b_Lw_law 750 = .ok (.aload_n 1, 1) := by decide +kernel
theorem d_Lw_law_751 : decode b_Lw_law 751 = .ok (.aload_n 0, 1) := by decide +kernel
theorem d_Lw_law_752 : decode b_Lw_law 752 = .ok (.iload 4, 2) := by decide +kernel
theorem d_Lw_law_754 : decode b_Lw_law 754 = .ok (.iconst 1, 1) := by decide +kernel
theorem d_Lw_law_755 : decode b_Lw_law 755 = .ok (.iadd, 1) := by decide +kernel
theorem d_Lw_law_756 : decode b_Lw_law 756 = .ok (.iaload, 1) := by decide +kernel
theorem d_Lw_law_757 : decode b_Lw_law 757 = .ok (.aload_n 3, 1) := by decide +kernel
theorem d_Lw_law_758 : decode b_Lw_law 758 = .ok (.invokestatic 99, 3) := by decide +kernel
theorem d_Lw_law_761 : decode b_Lw_law 761 = .ok (.istore 5, 2) := by decide +kernel
theorem d_Lw_law_763 : decode b_Lw_law 763 = .ok (.aload_n 2, 1) := by decide +kernel
theorem d_Lw_law_764 : decode b_Lw_law 764 = .ok (.aload_n 0, 1) := by decide +kernel
theorem d_Lw_law_765 : decode b_Lw_law 765 = .ok (.iload 4, 2) := by decide +kernel
theorem d_Lw_law_767 : decode b_Lw_law 767 = .ok (.iconst 1, 1) := by decide +kernel
theorem d_Lw_law_768 : decode b_Lw_law 768 = .ok (.iadd, 1) := by decide +kernel
theorem d_Lw_law_769 : decode b_Lw_law 769 = .ok (.iaload, 1) := by decide +kernel
theorem d_Lw_law_770 : decode b_Lw_law 770 = .ok (.invokevirtual 101, 3) := by decide +kernel
theorem d_Lw_law_773 : decode b_Lw_law 773 = .ok (.istore 6, 2) := by decide +kernel
theorem d_Lw_law_775 : decode b_Lw_law 775 = .ok (.aload_n 2, 1) := by decide +kernel
theorem d_Lw_law_776 : decode b_Lw_law 776 = .ok (.invokevirtual 66, 3) := by decide +kernel
theorem d_Lw_law_779 : decode b_Lw_law 779 = .ok (.iload 5, 2) := by decide +kernel
theorem d_Lw_law_781 : decode b_Lw_law 781 = .ok (.if_icmp .eq 5, 3) := by decide +kernel
theorem d_Lw_law_784 : decode b_Lw_law 784 = .ok (.iconst 0, 1) := by decide +kernel
theorem d_Lw_law_785 : decode b_Lw_law 785 = .ok (.ireturn, 1) := by decide +kernel
theorem d_Lw_law_786 : decode b_Lw_law 786 = .ok (.iload 5, 2) := by decide +kernel
theorem d_Lw_law_788 : decode b_Lw_law 788 = .ok (.ifCond .ne 15, 3) := by decide +kernel
theorem d_Lw_law_791 : decode b_Lw_law 791 = .ok (.aload_n 3, 1) := by decide +kernel
theorem d_Lw_law_792 : decode b_Lw_law 792 = .ok (.iconst 0, 1) := by decide +kernel
theorem d_Lw_law_793 : decode b_Lw_law 793 = .ok (.laload, 1) := by decide +kernel
theorem d_Lw_law_794 : decode b_Lw_law 794 = .ok (.iload 6, 2) := by decide +kernel
theorem d_Lw_law_796 : decode b_Lw_law 796 = .ok (.i2l, 1) := by decide +kernel
theorem d_Lw_law_797 : decode b_Lw_law 797 = .ok (.lcmp, 1) := by decide +kernel
theorem d_Lw_law_798 : decode b_Lw_law 798 = .ok (.ifCond .eq 5, 3) := by decide +kernel
theorem d_Lw_law_801 : decode b_Lw_law 801 = .ok (.iconst 0, 1) := by decide +kernel
theorem d_Lw_law_802 : decode b_Lw_law 802 = .ok (.ireturn, 1) := by decide +kernel
theorem d_Lw_law_803 : decode b_Lw_law 803 = .ok (.goto 97, 3) := by decide +kernel
theorem d_Lw_law_806 : decode b_Lw_law 806 = .ok (.aload_n 1, 1) := by decide +kernel
theorem d_Lw_law_807 : decode b_Lw_law 807 = .ok (.aload_n 0, 1) := by decide +kernel
theorem d_Lw_law_808 : decode b_Lw_law 808 = .ok (.iload 4, 2) := by decide +kernel
theorem d_Lw_law_810 : decode b_Lw_law 810 = .ok (.iconst 1, 1) := by decide +kernel
theorem d_Lw_law_811 : decode b_Lw_law 811 = .ok (.iadd, 1) := by decide +kernel
theorem d_Lw_law_812 : decode b_Lw_law 812 = .ok (.iaload, 1) := by decide +kernel
theorem d_Lw_law_813 : decode b_Lw_law 813 = .ok (.aload_n 0, 1) := by decide +kernel
theorem d_Lw_law_814 : decode b_Lw_law 814 = .ok (.iload 4, 2) := by decide +kernel
theorem d_Lw_law_816 : decode b_Lw_law 816 = .ok (.iconst 2, 1) := by decide +kernel
theorem d_Lw_law_817 : decode b_Lw_law 817 = .ok (.iadd, 1) := by decide +kernel
theorem d_Lw_law_818 : decode b_Lw_law 818 = .ok (.iaload, 1) := by decide +kernel
theorem d_Lw_law_819 : decode b_Lw_law 819 = .ok (.aload_n 3, 1) := by decide +kernel
theorem d_Lw_law_820 : decode b_Lw_law 820 = .ok (.invokestatic 102, 3) := by decide +kernel
theorem d_Lw_law_823 : decode b_Lw_law 823 = .ok (.istore 5, 2) := by decide +kernel
theorem d_Lw_law_825 : decode b_Lw_law 825 = .ok (.aload_n 2, 1) := by decide +kernel
theorem d_Lw_law_826 : decode b_Lw_law 826 = .ok (.aload_n 0, 1) := by decide +kernel
theorem d_Lw_law_827 : decode b_Lw_law 827 = .ok (.iload 4, 2) := by decide +kernel
theorem d_Lw_law_829 : decode b_Lw_law 829 = .ok (.iconst 1, 1) := by decide +kernel
theorem d_Lw_law_830 : decode b_Lw_law 830 = .ok (.iadd, 1) := by decide +kernel
theorem d_Lw_law_831 : decode b_Lw_law 831 = .ok (.iaload, 1) := by decide +kernel
theorem d_Lw_law_832 : decode b_Lw_law 832 = .ok (.aload_n 0, 1) := by decide +kernel
theorem d_Lw_law_833 : decode b_Lw_law 833 = .ok (.iload 4, 2) := by decide +kernel
theorem d_Lw_law_835 : decode b_Lw_law 835 = .ok (.iconst 2, 1) := by decide +kernel
theorem d_Lw_law_836 : decode b_Lw_law 836 = .ok (.iadd, 1) := by decide +kernel
theorem d_Lw_law_837 : decode b_Lw_law 837 = .ok (.iaload, 1) := by decide +kernel
theorem d_Lw_law_838 : decode b_Lw_law 838 = .ok (.invokevirtual 104, 3) := by decide +kernel
theorem d_Lw_law_841 : decode b_Lw_law 841 = .ok (.istore 6, 2) := by decide +kernel
theorem d_Lw_law_843 : decode b_Lw_law 843 = .ok (.aload_n 2, 1) := by decide +kernel
theorem d_Lw_law_844 : decode b_Lw_law 844 = .ok (.invokevirtual 66, 3) := by decide +kernel
theorem d_Lw_law_847 : decode b_Lw_law 847 = .ok (.iload 5, 2) := by decide +kernel
theorem d_Lw_law_849 : decode b_Lw_law 849 = .ok (.if_icmp .eq 5, 3) := by decide +kernel
theorem d_Lw_law_852 : decode b_Lw_law 852 = .ok (.iconst 0, 1) := by decide +kernel
theorem d_Lw_law_853 : decode b_Lw_law 853 = .ok (.ireturn, 1) := by decide +kernel
theorem d_Lw_law_854 : decode b_Lw_law 854 = .ok (.iload 5, 2) := by decide +kernel
theorem d_Lw_law_856 : decode b_Lw_law 856 = .ok (.ifCond .ne 15, 3) := by decide +kernel
theorem d_Lw_law_859 : decode b_Lw_law 859 = .ok (.aload_n 3, 1) := by decide +kernel
theorem d_Lw_law_860 : decode b_Lw_law 860 = .ok (.iconst 0, 1) := by decide +kernel
theorem d_Lw_law_861 : decode b_Lw_law 861 = .ok (.laload, 1) := by decide +kernel
theorem d_Lw_law_862 : decode b_Lw_law 862 = .ok (.iload 6, 2) := by decide +kernel
theorem d_Lw_law_864 : decode b_Lw_law 864 = .ok (.i2l, 1) := by decide +kernel
theorem d_Lw_law_865 : decode b_Lw_law 865 = .ok (.lcmp, 1) := by decide +kernel
theorem d_Lw_law_866 : decode b_Lw_law 866 = .ok (.ifCond .eq 5, 3) := by decide +kernel
theorem d_Lw_law_869 : decode b_Lw_law 869 = .ok (.iconst 0, 1) := by decide +kernel
theorem d_Lw_law_870 : decode b_Lw_law 870 = .ok (.ireturn, 1) := by decide +kernel
theorem d_Lw_law_871 : decode b_Lw_law 871 = .ok (.goto 29, 3) := by decide +kernel
theorem d_Lw_law_874 : decode b_Lw_law 874 = .ok (.aload_n 1, 1) := by decide +kernel
theorem d_Lw_law_875 : decode b_Lw_law 875 = .ok (.invokevirtual 105, 3) := by decide +kernel
theorem d_Lw_law_878 : decode b_Lw_law 878 = .ok (.aload_n 2, 1) := by decide +kernel
theorem d_Lw_law_879 : decode b_Lw_law 879 = .ok (.invokevirtual 109, 3) := by decide +kernel
theorem d_Lw_law_882 : decode b_Lw_law 882 = .ok (.if_icmp .eq 18, 3) := by decide +kernel
theorem d_Lw_law_885 : decode b_Lw_law 885 = .ok (.iconst 0, 1) := by decide +kernel
theorem d_Lw_law_886 : decode b_Lw_law 886 = .ok (.ireturn, 1) := by decide +kernel
theorem d_Lw_law_887 : decode b_Lw_law 887 = .ok (.aload_n 1, 1) := by decide +kernel
theorem d_Lw_law_888 : decode b_Lw_law 888 = .ok (.invokevirtual 110, 3) := by decide +kernel
theorem d_Lw_law_891 : decode b_Lw_law 891 = .ok (.aload_n 2, 1) := by decide +kernel
theorem d_Lw_law_892 : decode b_Lw_law 892 = .ok (.invokevirtual 113, 3) := by decide +kernel
theorem d_Lw_law_895 : decode b_Lw_law 895 = .ok (.if_icmp .eq 5, 3) := by decide +kernel
theorem d_Lw_law_898 : decode b_Lw_law 898 = .ok (.iconst 0, 1) := by decide +kernel
theorem d_Lw_law_899 : decode b_Lw_law 899 = .ok (.ireturn, 1) := by decide +kernel
theorem d_Lw_law_900 : decode b_Lw_law 900 = .ok (.iinc 4 4, 3) := by decide +kernel
theorem d_Lw_law_903 : decode b_Lw_law 903 = .ok (.goto (-880), 3) := by decide +kernel
theorem d_Lw_law_906 : decode b_Lw_law 906 = .ok (.iconst 1, 1) := by decide +kernel
theorem d_Lw_law_907 : decode b_Lw_law 907 = .ok (.ireturn, 1) := by decide +kernel
theorem d_Lw_letter_0 : decode b_Lw_letter 0 = .ok (.aload_n 3, 1) := by decide +kernel
theorem d_Lw_letter_1 : decode b_Lw_letter 1 = .ok (.iconst 0, 1) := by decide +kernel
theorem d_Lw_letter_2 : decode b_Lw_letter 2 = .ok (.aload_n 0, 1) := by decide +kernel
theorem d_Lw_letter_3 : decode b_Lw_letter 3 = .ok (.iload_n 1, 1) := by decide +kernel
theorem d_Lw_letter_4 : decode b_Lw_letter 4 = .ok (.iload_n 2, 1) := by decide +kernel
theorem d_Lw_letter_5 : decode b_Lw_letter 5 = .ok (.invokevirtual 53, 3) := by decide +kernel
theorem d_Lw_letter_8 : decode b_Lw_letter 8 = .ok (.i2l, 1) := by decide +kernel
theorem d_Lw_letter_9 : decode b_Lw_letter 9 = .ok (.lastore, 1) := by decide +kernel
theorem d_Lw_letter_10 : decode b_Lw_letter 10 = .ok (.goto 11, 3) := by decide +kernel
theorem d_Lw_letter_13 : decode b_Lw_letter 13 = .ok (.astore 4, 2) := by decide +kernel
theorem d_Lw_letter_15 : decode b_Lw_letter 15 = .ok (.iconst 1, 1) := by decide +kernel
theorem d_Lw_letter_16 : decode b_Lw_letter 16 = .ok (.ireturn, 1) := by decide +kernel
theorem d_Lw_letter_17 : decode b_Lw_letter 17 = .ok (.astore 4, 2) := by decide +kernel
theorem d_Lw_letter_19 : decode b_Lw_letter 19 = .ok (.iconst 2, 1) := by decide +kernel
theorem d_Lw_letter_20 : decode b_Lw_letter 20 = .ok (.ireturn, 1) := by decide +kernel
theorem d_Lw_letter_21 : decode b_Lw_letter 21 = .ok (.iconst 0, 1) := by decide +kernel
theorem d_Lw_letter_22 : decode b_Lw_letter 22 = .ok (.ireturn, 1) := by decide +kernel
theorem d_Lw_nod_0 : decode b_Lw_nod 0 = .ok (.aload_n 0, 1) := by decide +kernel
theorem d_Lw_nod_1 : decode b_Lw_nod 1 = .ok (.iload_n 1, 1) := by decide +kernel
theorem d_Lw_nod_2 : decode b_Lw_nod 2 = .ok (.invokevirtual 23, 3) := by decide +kernel
theorem d_Lw_nod_5 : decode b_Lw_nod 5 = .ok (.goto 9, 3) := by decide +kernel
theorem d_Lw_nod_8 : decode b_Lw_nod 8 = .ok (.astore_n 2, 1) := by decide +kernel
theorem d_Lw_nod_9 : decode b_Lw_nod 9 = .ok (.iconst 1, 1) := by decide +kernel
theorem d_Lw_nod_10 : decode b_Lw_nod 10 = .ok (.ireturn, 1) := by decide +kernel
theorem d_Lw_nod_11 : decode b_Lw_nod 11 = .ok (.astore_n 2, 1) := by decide +kernel
theorem d_Lw_nod_12 : decode b_Lw_nod 12 = .ok (.iconst 2, 1) := by decide +kernel
theorem d_Lw_nod_13 : decode b_Lw_nod 13 = .ok (.ireturn, 1) := by decide +kernel
theorem d_Lw_nod_14 : decode b_Lw_nod 14 = .ok (.iconst 0, 1) := by decide +kernel
theorem d_Lw_nod_15 : decode b_Lw_nod 15 = .ok (.ireturn, 1) := by decide +kernel
theorem d_Lw_open_0 : decode b_Lw_open 0 = .ok (.aload_n 3, 1) := by decide +kernel
theorem d_Lw_open_1 : decode b_Lw_open 1 = .ok (.iconst 0, 1) := by decide +kernel
theorem d_Lw_open_2 : decode b_Lw_open 2 = .ok (.aload_n 0, 1) := by decide +kernel
theorem d_Lw_open_3 : decode b_Lw_open 3 = .ok (.iload_n 1, 1) := by decide +kernel
theorem d_Lw_open_4 : decode b_Lw_open 4 = .ok (.iload_n 2, 1) := by decide +kernel
theorem d_Lw_open_5 : decode b_Lw_open 5 = .ok (.invokevirtual 43, 3) := by decide +kernel
theorem d_Lw_open_8 : decode b_Lw_open 8 = .ok (.i2l, 1) := by decide +kernel
theorem d_Lw_open_9 : decode b_Lw_open 9 = .ok (.lastore, 1) := by decide +kernel
theorem d_Lw_open_10 : decode b_Lw_open 10 = .ok (.goto 7, 3) := by decide +kernel
theorem d_Lw_open_13 : decode b_Lw_open 13 = .ok (.astore 4, 2) := by decide +kernel
theorem d_Lw_open_15 : decode b_Lw_open 15 = .ok (.iconst 1, 1) := by decide +kernel
theorem d_Lw_open_16 : decode b_Lw_open 16 = .ok (.ireturn, 1) := by decide +kernel
theorem d_Lw_open_17 : decode b_Lw_open 17 = .ok (.iconst 0, 1) := by decide +kernel
theorem d_Lw_open_18 : decode b_Lw_open 18 = .ok (.ireturn, 1) := by decide +kernel
theorem d_Lw_pull_0 : decode b_Lw_pull 0 = .ok (.aload_n 2, 1) := by decide +kernel
theorem d_Lw_pull_1 : decode b_Lw_pull 1 = .ok (.iconst 0, 1) := by decide +kernel
theorem d_Lw_pull_2 : decode b_Lw_pull 2 = .ok (.aload_n 0, 1) := by decide +kernel
theorem d_Lw_pull_3 : decode b_Lw_pull 3 = .ok (.iload_n 1, 1) := by decide +kernel
theorem d_Lw_pull_4 : decode b_Lw_pull 4 = .ok (.invokevirtual 33, 3) := by decide +kernel
theorem d_Lw_pull_7 : decode b_Lw_pull 7 = .ok (.i2l, 1) := by decide +kernel
theorem d_Lw_pull_8 : decode b_Lw_pull 8 = .ok (.lastore, 1) := by decide +kernel
theorem d_Lw_pull_9 : decode b_Lw_pull 9 = .ok (.goto 9, 3) := by decide +kernel
theorem d_Lw_pull_12 : decode b_Lw_pull 12 = .ok (.astore_n 3, 1) := by decide +kernel
theorem d_Lw_pull_13 : decode b_Lw_pull 13 = .ok (.iconst 1, 1) := by decide +kernel
theorem d_Lw_pull_14 : decode b_Lw_pull 14 = .ok (.ireturn, 1) := by decide +kernel
theorem d_Lw_pull_15 : decode b_Lw_pull 15 = .ok (.astore_n 3, 1) := by decide +kernel
theorem d_Lw_pull_16 : decode b_Lw_pull 16 = .ok (.iconst 2, 1) := by decide +kernel
theorem d_Lw_pull_17 : decode b_Lw_pull 17 = .ok (.ireturn, 1) := by decide +kernel
theorem d_Lw_pull_18 : decode b_Lw_pull 18 = .ok (.iconst 0, 1) := by decide +kernel
theorem d_Lw_pull_19 : decode b_Lw_pull 19 = .ok (.ireturn, 1) := by decide +kernel
theorem d_Lw_push_0 : decode b_Lw_push 0 = .ok (.aload_n 2, 1) := by decide +kernel
theorem d_Lw_push_1 : decode b_Lw_push 1 = .ok (.iconst 0, 1) := by decide +kernel
theorem d_Lw_push_2 : decode b_Lw_push 2 = .ok (.aload_n 0, 1) := by decide +kernel
theorem d_Lw_push_3 : decode b_Lw_push 3 = .ok (.iload_n 1, 1) := by decide +kernel
theorem d_Lw_push_4 : decode b_Lw_push 4 = .ok (.invokevirtual 27, 3) := by decide +kernel
theorem d_Lw_push_7 : decode b_Lw_push 7 = .ok (.i2l, 1) := by decide +kernel
theorem d_Lw_push_8 : decode b_Lw_push 8 = .ok (.lastore, 1) := by decide +kernel
theorem d_Lw_push_9 : decode b_Lw_push 9 = .ok (.goto 12, 3) := by decide +kernel
theorem d_Lw_push_12 : decode b_Lw_push 12 = .ok (.astore_n 3, 1) := by decide +kernel
theorem d_Lw_push_13 : decode b_Lw_push 13 = .ok (.iconst 1, 1) := by decide +kernel
theorem d_Lw_push_14 : decode b_Lw_push 14 = .ok (.ireturn, 1) := by decide +kernel
theorem d_Lw_push_15 : decode b_Lw_push 15 = .ok (.astore_n 3, 1) := by decide +kernel
theorem d_Lw_push_16 : decode b_Lw_push 16 = .ok (.iconst 2, 1) := by decide +kernel
theorem d_Lw_push_17 : decode b_Lw_push 17 = .ok (.ireturn, 1) := by decide +kernel
theorem d_Lw_push_18 : decode b_Lw_push 18 = .ok (.astore_n 3, 1) := by decide +kernel
theorem d_Lw_push_19 : decode b_Lw_push 19 = .ok (.iconst 3, 1) := by decide +kernel
theorem d_Lw_push_20 : decode b_Lw_push 20 = .ok (.ireturn, 1) := by decide +kernel
theorem d_Lw_push_21 : decode b_Lw_push 21 = .ok (.iconst 0, 1) := by decide +kernel
theorem d_Lw_push_22 : decode b_Lw_push 22 = .ok (.ireturn, 1) := by decide +kernel
theorem d_Lw_size_0 : decode b_Lw_size 0 = .ok (.aload_n 2, 1) := by decide +kernel
theorem d_Lw_size_1 : decode b_Lw_size 1 = .ok (.iconst 0, 1) := by decide +kernel
theorem d_Lw_size_2 : decode b_Lw_size 2 = .ok (.aload_n 0, 1) := by decide +kernel
theorem d_Lw_size_3 : decode b_Lw_size 3 = .ok (.iload_n 1, 1) := by decide +kernel
theorem d_Lw_size_4 : decode b_Lw_size 4 = .ok (.invokevirtual 50, 3) := by decide +kernel
theorem d_Lw_size_7 : decode b_Lw_size 7 = .ok (.i2l, 1) := by decide +kernel
theorem d_Lw_size_8 : decode b_Lw_size 8 = .ok (.lastore, 1) := by decide +kernel
theorem d_Lw_size_9 : decode b_Lw_size 9 = .ok (.goto 6, 3) := by decide +kernel
theorem d_Lw_size_12 : decode b_Lw_size 12 = .ok (.astore_n 3, 1) := by decide +kernel
theorem d_Lw_size_13 : decode b_Lw_size 13 = .ok (.iconst 1, 1) := by decide +kernel
theorem d_Lw_size_14 : decode b_Lw_size 14 = .ok (.ireturn, 1) := by decide +kernel
theorem d_Lw_size_15 : decode b_Lw_size 15 = .ok (.iconst 0, 1) := by decide +kernel
theorem d_Lw_size_16 : decode b_Lw_size 16 = .ok (.ireturn, 1) := by decide +kernel
theorem d_Lw_waiting_0 : decode b_Lw_waiting 0 = .ok (.aload_n 3, 1) := by decide +kernel
theorem d_Lw_waiting_1 : decode b_Lw_waiting 1 = .ok (.iconst 0, 1) := by decide +kernel
theorem d_Lw_waiting_2 : decode b_Lw_waiting 2 = .ok (.aload_n 0, 1) := by decide +kernel
theorem d_Lw_waiting_3 : decode b_Lw_waiting 3 = .ok (.iload_n 1, 1) := by decide +kernel
theorem d_Lw_waiting_4 : decode b_Lw_waiting 4 = .ok (.iload_n 2, 1) := by decide +kernel
theorem d_Lw_waiting_5 : decode b_Lw_waiting 5 = .ok (.invokevirtual 36, 3) := by decide +kernel
theorem d_Lw_waiting_8 : decode b_Lw_waiting 8 = .ok (.i2l, 1) := by decide +kernel
theorem d_Lw_waiting_9 : decode b_Lw_waiting 9 = .ok (.lastore, 1) := by decide +kernel
theorem d_Lw_waiting_10 : decode b_Lw_waiting 10 = .ok (.goto 7, 3) := by decide +kernel
theorem d_Lw_waiting_13 : decode b_Lw_waiting 13 = .ok (.astore 4, 2) := by decide +kernel
theorem d_Lw_waiting_15 : decode b_Lw_waiting 15 = .ok (.iconst 1, 1) := by decide +kernel
theorem d_Lw_waiting_16 : decode b_Lw_waiting 16 = .ok (.ireturn, 1) := by decide +kernel
theorem d_Lw_waiting_17 : decode b_Lw_waiting 17 = .ok (.iconst 0, 1) := by decide +kernel
theorem d_Lw_waiting_18 : decode b_Lw_waiting 18 = .ok (.ireturn, 1) := by decide +kernel
end
section
/-! THE WORLD: a layout La (what lies where; fixed while the system runs) and a memory mu (the ints in it) -/
abbrev la_M : Type := Nat → Nat → Int32
abbrev la_L : Type := Nat → Option ((Nat → Int32) → va_E)
def la_set (mu : la_M) (a : Nat) (g : Nat → Int32) : la_M := fun q => if q = a then g else mu q
def la_up (mu : la_M) (a k : Nat) (v : Int32) : la_M := la_set mu a (upd (mu a) k v)
theorem la_set_s {mu : la_M} {a : Nat} {g : Nat → Int32} : la_set mu a g a = g := if_pos rfl
theorem la_set_n {mu : la_M} {a q : Nat} {g : Nat → Int32} (h : q ≠ a) : la_set mu a g q = mu q := if_neg h
theorem la_up_s {mu : la_M} {a k : Nat} {v : Int32} : la_up mu a k v a k = v := by
  unfold la_up
  rw [la_set_s]
  exact if_pos rfl
theorem la_up_k {mu : la_M} {a q k j : Nat} {v : Int32} (h : j ≠ k) : la_up mu a k v q j = mu q j := by
  unfold la_up
  by_cases hq : q = a
  · subst hq
    rw [la_set_s]
    exact if_neg h
  · rw [la_set_n hq]
theorem la_up_n {mu : la_M} {a q k : Nat} {v : Int32} (h : q ≠ a) : la_up mu a k v q = mu q := la_set_n h
def la_P (D : va_G) (cl : List vw_C) (La : la_L) (mu : la_M) (H : Heap) : Prop := ∀ (a : Nat) (f : (Nat → Int32) → va_E), La a = some f → va_at D cl (a, f (mu a)) H
def la_A (La : la_L) : Nat → Prop := fun q => ∃ f, La q = some f
theorem la_P.one {D : va_G} {cl : List vw_C} {La : la_L} {mu : la_M} {H : Heap} (h : la_P D cl La mu H) {a : Nat} {f : (Nat → Int32) → va_E} (ha : La a = some f) : va_P D cl [(a, f (mu a))] H := by
  intro k q hk
  have hz : k < 1 := (List.getElem?_eq_some_iff.mp hk).1
  rw [show k = 0 by omega] at hk
  cases hk
  exact h a f ha
theorem la_P.lt {D : va_G} {cl : List vw_C} {La : la_L} {mu : la_M} {H : Heap} (h : la_P D cl La mu H) {a : Nat} (ha : la_A La a) : a < H.size := by
  obtain ⟨f, hf⟩ := ha
  exact (h a f hf).lt
theorem la_P.kept {D : va_G} {cl : List vw_C} {La : la_L} {mu : la_M} {H H1 : Heap} (h : la_P D cl La mu H) (hq : ∀ a, la_A La a → H1[a]? = H[a]?) : la_P D cl La mu H1 := fun a f ha => (h a f ha).kept (hq a ⟨f, ha⟩)
theorem la_P.set {D : va_G} {cl : List vw_C} {La : la_L} {mu : la_M} {H H1 : Heap} (h : la_P D cl La mu H) {a : Nat} {f : (Nat → Int32) → va_E} (ha : La a = some f) {g : Nat → Int32} (h1 : va_at D cl (a, f g) H1) (oq : ∀ q : Nat, q ≠ a → H1[q]? = H[q]?) : la_P D cl La (la_set mu a g) H1 := by
  intro b f' hb
  by_cases hq : b = a
  · subst hq
    rw [ha] at hb
    cases hb
    rw [la_set_s]
    exact h1
  · rw [la_set_n hq]
    exact (h b f' hb).kept (oq b hq)
section LAR
variable {p : Program} {l : Launch} {e : Env} {R : Room} {s : State} {m : MethodId} {args : Array Value} {below : List Frame} {meth : Method} {c : Code} {H : Heap} {locs : List Loc} {cells slots : Nat} {Q : State → Prop}
variable {cc : ByteArray} {pc : Nat} {ls : Array Slot} {rest : List Value} {D : va_G} {cl : List vw_C} {La : la_L} {mu : la_M} {a : Nat} {f : (Nat → Int32) → va_E} {tys : List (ClassId × FieldType)} {H0 : Heap}
theorem la_get (hexec : p.tables.exec = Jvm.exec) (hb : c.code = cc) {own ref C : String} {T : u_T} {N ci index : Nat} {Ts : List Cond} (hts : ∀ w ∈ Ts, w.before args s = true) (hin : ∀ w ∈ u_ws C T N, w ∈ Ts) (hown : s.vm.findClass own = some m.cls) (hK : va_K D cl tys s) (hP : la_P D cl La mu H) (ha : La a = some f) {fs : List Value} (hf : f (mu a) = .inr (ci, fs)) (hc : cl[ci]? = some (C, T, N)) (k : Nat) (hk : k < N) (hlink : (Cond.fieldLink own index ref (T k).2.1 (T k).2.2.1).before args s = true) (hsame : ∀ x, s.fieldFound? (T k).1 (T k).2.1 (T k).2.2.1 = some x → s.fieldFound? ref (T k).2.1 (T k).2.2.1 = some x) {v : Value} (hv : fs[k]? = some v) (hdg : decode cc pc = .ok (.getfield index, 3))
    (kk : W p l e R s m args below meth c H locs cells slots Q (F0 m (pc + 3) ls (v :: rest))) : W p l e R s m args below meth c H locs cells slots Q (F0 m pc ls (.ref a :: rest)) :=
  va_get hexec hb hts hin hown hK (hP.one ha) 0 (by rw [hf]; rfl) hc k hk hlink hsame hv hdg kk
theorem la_put (hexec : p.tables.exec = Jvm.exec) (hb : c.code = cc) {own ref C : String} {T : u_T} {N ci index : Nat} {Ts : List Cond} (hts : ∀ w ∈ Ts, w.before args s = true) (hin : ∀ w ∈ u_ws C T N, w ∈ Ts) (ty0 : Nat → FieldType) (hty : ∀ k, k < N → parseFieldDescriptor (T k).2.2.1 = some (ty0 k)) (hnm : ∀ a, a < N → ∀ b, b < N → a ≠ b → (T a).2.1 ≠ (T b).2.1) (hown : s.vm.findClass own = some m.cls) (hK : va_K D cl tys s) (hP : la_P D cl La mu H) (hS0 : va_S (la_A La) H0 H locs) (ha : La a = some f) {fs : List Value} (hf : f (mu a) = .inr (ci, fs)) (hc : cl[ci]? = some (C, T, N)) (k : Nat) (hk : k < N) (hlink : (Cond.fieldLink own index ref (T k).2.1 (T k).2.2.1).before args s = true) (hsame : ∀ x, s.fieldFound? (T k).1 (T k).2.1 (T k).2.2.1 = some x → s.fieldFound? ref (T k).2.1 (T k).2.2.1 = some x) (hfin : (T k).2.2.2 = false) {ty : FieldType} {v : Int32} (hd : parseFieldDescriptor (T k).2.2.1 = some ty) (hn : narrow ty (.int v) = .int v) (hfit : fits ty (.int v) = true) (hl : k < fs.length) (hf' : f (upd (mu a) k v) = .inr (ci, fs.set k (.int v)))
    (hdg : decode cc pc = .ok (.putfield index, 3)) (kk : ∀ (H1 : Heap) (locs1 : List Loc), la_P D cl La (la_up mu a k v) H1 → va_S (la_A La) H0 H1 locs1 → W p l e R s m args below meth c H1 locs1 cells slots Q (F0 m (pc + 3) ls rest)) : W p l e R s m args below meth c H locs cells slots Q (F0 m pc ls (.int v :: .ref a :: rest)) := by
  have hap := va_apart (own := own) hts hin ty0 hty hnm hK hc
  have h0 := hP a f ha
  rw [hf] at h0
  obtain ⟨r, h1, cell, q1, q2, q3, q4⟩ := h0
  have hr : r = (C, T, N) := Option.some.inj (h1.symm.trans hc)
  subst hr
  obtain ⟨hS, hfc, kC, hkC, hkind⟩ := hK.1 ci _ hc
  obtain ⟨cf, kf, fi, fd, hi, hsl⟩ := hS k hk
  have hlay := hts _ (hin _ (u_in_lay hk))
  unfold u_lay at hlay
  rw [if_neg (by rw [hfin]; decide)] at hlay
  have hst := (u_facts hfc hkC (u_lays hts hin hk) hi).1
  have h6 := u_store hfc hkC hkind hlay hi hd hn hfit
  refine W.putK hexec hb (f := fd) ⟨hown, hlink, ⟨_, _, _, hsame _ hi⟩, hst⟩ (by rw [q2]; exact h6) q1 q3 (by rw [hsl]; exact k2_hasslot (q4 k hk)) rfl rfl hdg fun H' e1 e2 e3 => ?_
  rw [hsl] at e1 ⊢
  refine kk H' _ (hP.set ha ?_ e3) (hS0.put e2 e3 ⟨f, ha⟩)
  rw [hf']
  exact ⟨_, hc, t_OB.to (V := updV (vp_V fs) k (.int v)) ⟨_, e1, q2, q3, t_set q4 hap hk (.int v)⟩ (fun j _ => vp_updV_set hl (.int v) j)⟩
theorem la_iald (hexec : p.tables.exec = Jvm.exec) (hb : c.code = cc) (hK : va_K D cl tys s) (hP : la_P D cl La mu H) (t0 : Nat) {cA : ClassId} {n : Nat} (ha : La a = some f) (hf : f (mu a) = .inl (cA, n, .inl (mu a))) (ht : tys[t0]? = some (cA, .int)) {i : Int32} (j : Nat) (hi : i = nI j) (hj : j < n) (hn : n < 2 ^ 31) (hdg : decode cc pc = .ok (.iaload, 1))
    (kk : W p l e R s m args below meth c H locs cells slots Q (F0 m (pc + 1) ls (.int (mu a j) :: rest))) : W p l e R s m args below meth c H locs cells slots Q (F0 m pc ls (.int i :: .ref a :: rest)) := by
  subst hi
  refine va_iald (n := n) (f := mu a) (cA := cA) hexec hb hK (hP.one ha) 0 t0 (by rw [hf]; rfl) ht (vp_in_nI hj hn) hdg ?_
  rw [nI_clamp (by omega)]
  exact kk
theorem la_cald (hexec : p.tables.exec = Jvm.exec) (hb : c.code = cc) (hK : va_K D cl tys s) (hP : la_P D cl La mu H) (t0 : Nat) {cA : ClassId} {n : Nat} (ha : La a = some f) (hf : f (mu a) = .inl (cA, n, .inl (mu a))) (ht : tys[t0]? = some (cA, .char)) {i : Int32} (j : Nat) (hi : i = nI j) (hj : j < n) (hn : n < 2 ^ 31) (hdg : decode cc pc = .ok (.caload, 1))
    (kk : W p l e R s m args below meth c H locs cells slots Q (F0 m (pc + 1) ls (.int (mu a j) :: rest))) : W p l e R s m args below meth c H locs cells slots Q (F0 m pc ls (.int i :: .ref a :: rest)) := by
  subst hi
  refine va_cald (n := n) (f := mu a) (cA := cA) hexec hb hK (hP.one ha) 0 t0 (by rw [hf]; rfl) ht (vp_in_nI hj hn) hdg ?_
  rw [nI_clamp (by omega)]
  exact kk
theorem la_aald (hexec : p.tables.exec = Jvm.exec) (hb : c.code = cc) (hK : va_K D cl tys s) (hP : la_P D cl La mu H) (t0 : Nat) {cA : ClassId} {C : String} {n : Nat} {F : Nat → Nat} (ha : La a = some f) (hf : f (mu a) = .inl (cA, n, .inr (.inr (.inr (.inr (fun k => some (F k))))))) (ht : tys[t0]? = some (cA, .object C)) {i : Int32} (j : Nat) (hi : i = nI j) (hj : j < n) (hn : n < 2 ^ 31) (hdg : decode cc pc = .ok (.aaload, 1))
    (kk : W p l e R s m args below meth c H locs cells slots Q (F0 m (pc + 1) ls (.ref (F j) :: rest))) : W p l e R s m args below meth c H locs cells slots Q (F0 m pc ls (.int i :: .ref a :: rest)) := by
  subst hi
  refine va_aldq (n := n) (f := fun k => some (F k)) (cA := cA) (C := C) hexec hb hK (hP.one ha) 0 t0 (by rw [hf]; rfl) ht (vp_in_nI hj hn) hdg ?_
  rw [nI_clamp (by omega)]
  exact kk
theorem la_iast (hexec : p.tables.exec = Jvm.exec) (hb : c.code = cc) (hK : va_K D cl tys s) (hP : la_P D cl La mu H) (hS : va_S (la_A La) H0 H locs) (t0 : Nat) {cA : ClassId} {n : Nat} (ha : La a = some f) (hf : ∀ g, f g = .inl (cA, n, .inl g)) (ht : tys[t0]? = some (cA, .int)) {i x : Int32} (j : Nat) (hi : i = nI j) (hj : j < n) (hn : n < 2 ^ 31) (hdg : decode cc pc = .ok (.iastore, 1))
    (kk : ∀ (H1 : Heap) (locs1 : List Loc), la_P D cl La (la_up mu a j x) H1 → va_S (la_A La) H0 H1 locs1 → W p l e R s m args below meth c H1 locs1 cells slots Q (F0 m (pc + 1) ls rest)) : W p l e R s m args below meth c H locs cells slots Q (F0 m pc ls (.int x :: .int i :: .ref a :: rest)) := by
  subst hi
  have h0 := hP a f ha
  rw [hf] at h0
  have h1 : H[a]? = some (vp_cell cA (n, .inl (mu a))) := h0
  refine W.iast hexec hb h1 ((hK.2 t0 _ ht).1 n (fun j => .int (mu a j))) (fun q => by cases q) (by show ¬ (nI j < 0 ∨ (arrV _ _ _).slots.size ≤ _); rw [arrV_size]; exact vp_in_nI hj hn) rfl rfl hdg fun H1 e z oq => ?_
  rw [nI_clamp (by omega)] at e ⊢
  refine kk H1 _ (hP.set ha ?_ oq) (hS.put z oq ⟨f, ha⟩)
  rw [hf]
  show H1[a]? = some (vp_cell _ _)
  rw [e, vp_cell_i, vp_cell_i, arrV_store]
  congr 2
  funext q
  by_cases hq : q = j
  · subst hq
    simp [updV, upd]
  · simp [updV, upd, hq]
theorem la_cast (hexec : p.tables.exec = Jvm.exec) (hb : c.code = cc) (hK : va_K D cl tys s) (hP : la_P D cl La mu H) (hS : va_S (la_A La) H0 H locs) (t0 : Nat) {cA : ClassId} {n : Nat} (ha : La a = some f) (hf : ∀ g, f g = .inl (cA, n, .inl g)) (ht : tys[t0]? = some (cA, .char)) {i x : Int32} (hx : vp_nar .char x = x) (j : Nat) (hi : i = nI j) (hj : j < n) (hn : n < 2 ^ 31) (hdg : decode cc pc = .ok (.castore, 1))
    (kk : ∀ (H1 : Heap) (locs1 : List Loc), la_P D cl La (la_up mu a j x) H1 → va_S (la_A La) H0 H1 locs1 → W p l e R s m args below meth c H1 locs1 cells slots Q (F0 m (pc + 1) ls rest)) : W p l e R s m args below meth c H locs cells slots Q (F0 m pc ls (.int x :: .int i :: .ref a :: rest)) := by
  subst hi
  have h0 := hP a f ha
  rw [hf] at h0
  have h1 : H[a]? = some (vp_cell cA (n, .inl (mu a))) := h0
  refine W.cast hexec hb h1 ((hK.2 t0 _ ht).1 n (fun j => .int (mu a j))) (fun q => by cases q) (by show ¬ (nI j < 0 ∨ (arrV _ _ _).slots.size ≤ _); rw [arrV_size]; exact vp_in_nI hj hn) rfl rfl hdg fun H1 e z oq => ?_
  rw [nI_clamp (by omega)] at e ⊢
  refine kk H1 _ (hP.set ha ?_ oq) (hS.put z oq ⟨f, ha⟩)
  rw [hf]
  have hxn : narrow .char (.int x) = .int x := by
    have h2 : narrow .char (.int x) = .int (vp_nar .char x) := rfl
    rw [h2, hx]
  show H1[a]? = some (vp_cell _ _)
  rw [e, hxn, vp_cell_i, vp_cell_i, arrV_store]
  congr 2
  funext q
  by_cases hq : q = j
  · subst hq
    simp [updV, upd]
  · simp [updV, upd, hq]
end LAR
end
section
/-! THROWING. A contract of a method that throws an exception of the class E and has changed nothing that was there. -/
def tx_E (E : String) (st : State) (o : Outcome) (t : State) : Prop := ∃ (q : Addr) (ce : Cell), o = .threw q ∧ t.heap[q]? = some ce ∧ ce.vm = .none ∧ st.vm.findClass E = some ce.cls ∧ st.WarmedH t.vm ∧ st.sameButNew ({ t with vm := st.vm } : State) [] 1 6
def tx_Met (l : Launch) (y : MethodName) (ws : List Cond) (rm : Room) (Pc : Array Value → State → Prop) (E : String) : Prop :=
  MetFree l y (headSpec ws rm) Pc (fun _ _ _ _ _ => True) (fun _ st o t => tx_E E st o t)
/-- old cells stay -/
theorem tx_old {s U : State} {k n : Nat} (h : s.sameButNew ({ U with vm := s.vm } : State) [] k n) : s.heap.size ≤ U.heap.size ∧ ∀ q : Nat, q < s.heap.size → U.heap[q]? = s.heap[q]? := by
  obtain ⟨-, h2, -, -, -, h6⟩ := h
  refine ⟨h2, fun q hq => ?_⟩
  obtain ⟨c', e1, e2, -, e4⟩ := h6 q s.heap[q] (Array.getElem?_eq_getElem hq)
  have hs : c'.slots = (s.heap[q]).slots := Array.ext_getElem? fun i => e4 i (by simp)
  rw [hs] at e2
  have e5 : U.heap[q]? = some c' := e1
  rw [e5, e2, Array.getElem?_eq_getElem hq]
section TXB
variable {l : Launch} {R : Room} {p : Program} {e : Env} {below : List Frame} {s : State} {sargs : Array Value} {y : MethodName} {m : MethodId} {meth : Method} {c : Code} {T : State} {locs : List Loc} {cells slots : Nat}
/-- a call of a method that throws: the note lies over the caller's frame, its arguments gone -/
theorem tx_inv {ws : List Cond} {rm : Room} {Pc : Array Value → State → Prop} {E : String} {bytes : ByteArray} {maxL len : Nat} {ret : Option FieldType} (hM : tx_Met l y ws rm Pc E) (hblind : FrameBlind Pc) (hrc : rm.cells = 1) (hrs : rm.slots = 6)
    (hframes : rm.frames + 1 ≤ R.frames) (hlocals : 8 + (maxL + 11) + rm.locals ≤ R.locals) (hws : ∀ w ∈ ws, ∀ (a' : Array Value) (U : State), s.WarmedH U.vm → w.before a' U = true) (hcode : Cond.code y bytes maxL ret ∈ ws) (hinit : ∀ (a' : Array Value) (U : State), s.WarmedH U.vm → (Cond.initialized y.cls).before a' U = true)
    (X : Stand p l e R s m sargs below meth c T locs cells slots) {g : JFrame} {ig : Instr} {mk : MethodId} {a : Array Value} (hg : g.method = m) (hsize : g.locals.size = c.maxLocals) (hdg : decode c.code g.pc = .ok (ig, len))
    (hW : 2 * g.monitorRoom + (g.stack.map fun v => v.category).sum ≤ 8) (hn : T.methodNamed? y = some mk) (hc : cells + 1 ≤ R.cells) (hs : slots + 6 ≤ R.slots) (hp : Pc a T) :
    ∃ (q : Addr) (ce : Cell) (U : State), Stand p l e R s m sargs below meth c U locs (cells + 1) (slots + 6) ∧ U.heap[q]? = some ce ∧ ce.vm = .none ∧ s.vm.findClass E = some ce.cls ∧ T.heap.size ≤ U.heap.size ∧ (∀ z : Nat, z < T.heap.size → U.heap[z]? = T.heap[z]?) ∧
      Steps p.tables e below (doInvoke e (T.setTop g) [] mk a).1 ((U.setTop g).pushFrame (.throwing q)) := by
  have h1 : (headSpec ws rm).pre.before a T = true := atoms_intro fun w hw => hws w hw _ _ X.warmed
  have h2 : (Cond.code y bytes maxL ret).before a T = true := hws _ hcode _ _ X.warmed
  have h3 : (Cond.initialized y.cls).before a T = true := hinit _ _ X.warmed
  obtain ⟨methY, cY, hmY, hcY, -, hlY, -, -, -, -⟩ := Cond.code_spec hn h2
  obtain ⟨kY, hkY, -⟩ := className_of_methodNamed hn
  have hinitY : kY.init = .initialized := Cond.initialized_spec (findClass_of_methodNamed hn) hkY h3
  have h : At T g.method c below := by rw [hg]; exact X.here
  have happ : (headSpec ws rm).appliesLoose y e.platform (T.calling g mk a) = true :=
    Spec.appliesLoose_calling (g := g) h hdg hn hkY hinitY
      (X.room_calling (g := g) (R' := rm) hsize hmY hcY hframes (by rw [hlY]; omega) (by rw [hrc]; exact hc) (by rw [hrs]; exact hs)) h1
  obtain ⟨mid, hmid⟩ := h.above
  have hfr : (T.setTop g).frames = (.java g :: mid) ++ below := by rw [State.frames_setTop' g h.top, hmid]; rfl
  obtain ⟨o, s₂, hsteps, -, hend, q, ce, rfl, hce, hcv, hcl, hW₂, hsame⟩ := Steps.callFree hM p X.admits X.cas X.clock (acts := []) hfr happ (hblind _ _ _ _ hp) trivial
  have hcl : T.vm.findClass E = some ce.cls := hcl
  have hW' : T.WarmedH s₂.vm := hW₂
  obtain ⟨e2, q2, q3, q4, q5, q6⟩ := hsame
  have e3 : s₂ = ({ (T.calling g mk a).setFrames s₂.frames with heap := s₂.heap, slotsUsed := s₂.slotsUsed } : State).setVm s₂.vm := by
    have h9 : s₂ = ({ s₂ with vm := (T.calling g mk a).vm } : State).setVm s₂.vm := rfl
    rw [show ({ s₂ with vm := (T.calling g mk a).vm } : State) = _ from e2] at h9
    exact h9
  have hf₂ : s₂.frames = .throwing q :: (T.setTop g).frames := hend
  rw [State.frames_setTop' g h.top] at hf₂
  obtain ⟨g₀, hg0⟩ := Option.isSome_iff_exists.mp h.top
  obtain ⟨r, hr⟩ := State.topJava?_eq_some.mp hg0
  have hs₂ : s₂ = ((({ T with heap := s₂.heap, slotsUsed := s₂.slotsUsed } : State).setVm s₂.vm).setTop g).pushFrame (.throwing q) := by
    have hr' : (({ T with heap := s₂.heap, slotsUsed := s₂.slotsUsed } : State).setVm s₂.vm).frames = .java g₀ :: r := hr
    refine e3.trans ?_
    rw [hf₂, State.calling_eq h.top, State.setFrames_setFrames, State.pushFrame, State.frames_setTop _ hr', State.setTop_of_frames _ hr', State.setFrames_setFrames, hr]
    rfl
  have hsame' : T.sameButNew ({ T with heap := s₂.heap, slotsUsed := s₂.slotsUsed } : State) [] 1 6 := by
    refine ⟨?_, q2, q3, q4, q5, q6⟩
    obtain ⟨t, ht, -⟩ := State.frames_cons hr
    show ({ T with heap := s₂.heap, slotsUsed := s₂.slotsUsed } : State) = { T.setFrames T.frames with heap := s₂.heap, slotsUsed := s₂.slotsUsed }
    rw [State.setFrames_self ht]
  have hold := tx_old (s := T) (U := { T with heap := s₂.heap, slotsUsed := s₂.slotsUsed }) (k := 1) (n := 6) hsame'
  subst hg
  have X' : Stand p l e R s g.method sargs below meth c (({ T with heap := s₂.heap, slotsUsed := s₂.slotsUsed } : State).setVm s₂.vm) (locs ++ []) (cells + 1) (slots + 6) :=
    ⟨X.admits, X.cas, X.clock, X.frames, X.room, X.hears, X.method, X.code, (X.here.setHeapUsed s₂.heap s₂.slotsUsed).setVm hW'.alike, X.tail, State.WarmedH.trans X.warmed hW', X.limits, X.bytes, X.same.trans (hsame'.setVm s.vm)⟩
  rw [List.append_nil] at X'
  refine ⟨q, ce, (({ T with heap := s₂.heap, slotsUsed := s₂.slotsUsed } : State).setVm s₂.vm), X', hce, hcv, by rw [← X.warmed.alike.findClass]; exact hcl, hold.1, hold.2, ?_⟩
  rw [← hs₂]
  exact hsteps
end TXB
end
section
/-! PURE: changes as (kind, place, origin); what fitting does to lengths and to the places' being valid; the grid of one client -/
abbrev ot_T : Type := Nat × Nat × Nat
def ot_fk (k p k' p' : Nat) : Nat := if k = 1 ∧ k' = 1 ∧ p' = p then 2 else k
def ot_fp (k p o k' p' o' : Nat) : Nat :=
  if k = 0 then
    (if k' = 0 then (if p' < p ∨ (p' = p ∧ o' < o) then p + 1 else p)
     else if k' = 1 then (if p' < p then p - 1 else p) else p)
  else if k = 1 then
    (if k' = 0 then (if p' ≤ p then p + 1 else p)
     else if k' = 1 then (if p' = p then 0 else if p' < p then p - 1 else p) else p)
  else p
def ot_fit (a b : ot_T) : ot_T := (ot_fk a.1 a.2.1 b.1 b.2.1, ot_fp a.1 a.2.1 a.2.2 b.1 b.2.1 b.2.2, a.2.2)
def ot_dl (a : ot_T) : Int := if a.1 = 0 then 1 else if a.1 = 1 then -1 else 0
def ot_ok (n : Int) (a : ot_T) : Prop := (a.1 = 0 → (a.2.1 : Int) ≤ n) ∧ (a.1 = 1 → (a.2.1 : Int) < n)
def ot_up {α : Type} (f : Nat → α) (k : Nat) (v : α) : Nat → α := fun j => if j = k then v else f j
theorem ot_up_s {α : Type} {f : Nat → α} {k : Nat} {v : α} : ot_up f k v k = v := if_pos rfl
theorem ot_up_n {α : Type} {f : Nat → α} {k j : Nat} {v : α} (h : j ≠ k) : ot_up f k v j = f j := if_neg h
theorem ot_ok_fit {n : Int} {a b : ot_T} (ha : ot_ok n a) (hb : ot_ok n b) : ot_ok (n + ot_dl b) (ot_fit a b) := by
  obtain ⟨k, p, o⟩ := a
  obtain ⟨k', p', o'⟩ := b
  obtain ⟨ha0, ha1⟩ := ha
  obtain ⟨hb0, hb1⟩ := hb
  dsimp only at ha0 ha1 hb0 hb1
  by_cases h0 : k = 0
  · subst h0
    have ha := ha0 rfl
    refine ⟨fun _ => ?_, fun h => ?_⟩
    · by_cases h0' : k' = 0
      · subst h0'
        simp only [ot_fit, ot_fp, ot_dl, if_true]
        split <;> omega
      · by_cases h1' : k' = 1
        · subst h1'
          have hb := hb1 rfl
          simp only [ot_fit, ot_fp, ot_dl, if_true, if_neg h0']
          split <;> omega
        · simp only [ot_fit, ot_fp, ot_dl, if_true, if_neg h0', if_neg h1']
          omega
    · simp [ot_fit, ot_fk] at h
  · by_cases h1 : k = 1
    · subst h1
      have ha := ha1 rfl
      refine ⟨fun h => ?_, fun h => ?_⟩
      · simp only [ot_fit, ot_fk] at h
        split at h <;> omega
      · simp only [ot_fit, ot_fk] at h
        by_cases h0' : k' = 0
        · subst h0'
          simp only [ot_fit, ot_fp, ot_dl, if_true, if_neg h0]
          split <;> omega
        · by_cases h1' : k' = 1
          · subst h1'
            have hb := hb1 rfl
            have hne : ¬ p' = p := by
              intro e
              simp [e] at h
            simp only [ot_fit, ot_fp, ot_dl, if_true, if_neg h0, if_neg hne]
            split <;> omega
          · simp only [ot_fit, ot_fp, ot_dl, if_true, if_neg h0, if_neg h0', if_neg h1']
            omega
    · have e : ot_fk k p k' p' = k := if_neg (fun q => h1 q.1)
      refine ⟨fun h => absurd (e.symm.trans h) h0, fun h => absurd (e.symm.trans h) h1⟩
theorem ot_dl_fit (a b : ot_T) : ot_dl a + ot_dl (ot_fit b a) = ot_dl b + ot_dl (ot_fit a b) := by
  obtain ⟨k, p, o⟩ := a
  obtain ⟨k', p', o'⟩ := b
  by_cases hc : k = 1 ∧ k' = 1 ∧ p' = p
  · have hc' : k' = 1 ∧ k = 1 ∧ p = p' := ⟨hc.2.1, hc.1, hc.2.2.symm⟩
    simp only [ot_dl, ot_fit, ot_fk, if_pos hc, if_pos hc']
    obtain ⟨h1, h2, -⟩ := hc
    subst h1; subst h2
    rfl
  · have hc' : ¬ (k' = 1 ∧ k = 1 ∧ p = p') := fun q => hc ⟨q.2.1, q.1, q.2.2.symm⟩
    simp only [ot_dl, ot_fit, ot_fk, if_neg hc, if_neg hc']
    omega
theorem ot_kind_fit (a b : ot_T) : (ot_fit a b).1 = 0 ↔ a.1 = 0 := by
  simp only [ot_fit, ot_fk]
  split
  · rename_i h
    omega
  · exact Iff.rfl
theorem ot_dl_le (a : ot_T) : ot_dl a ≤ 1 := by
  unfold ot_dl
  split
  · omega
  · split <;> omega
theorem ot_dl_np {a : ot_T} (h : a.1 ≠ 0) : ot_dl a ≤ 0 := by
  unfold ot_dl
  rw [if_neg h]
  split <;> omega
/-! the grid -/
def ot_cons (h g : Nat → Nat) (i j : Nat) : Prop := (∀ q, q < i → h q ≤ j) ∧ (∀ q, q < j → g q ≤ i)
def ot_grid (a y : Nat) (u : Nat → ot_T) (h : Nat → Nat) (d : Nat → ot_T) (g : Nat → Nat) (C S : Nat → Nat → ot_T) (ln : Nat → Nat → Int) : Prop :=
  (∀ i, i < a → C i (h i) = u i) ∧ (∀ j, j < y → S (g j) j = d j) ∧
  (∀ i j, i < a → j < y → h i ≤ j → g j ≤ i → C i (j + 1) = ot_fit (C i j) (S i j) ∧ S (i + 1) j = ot_fit (S i j) (C i j)) ∧
  (∀ i j, i < a → j ≤ y → h i ≤ j → ot_cons h g i j → ot_ok (ln i j) (C i j) ∧ ln (i + 1) j = ln i j + ot_dl (C i j)) ∧
  (∀ i j, i ≤ a → j < y → g j ≤ i → ot_cons h g i j → ot_ok (ln i j) (S i j) ∧ ln i (j + 1) = ln i j + ot_dl (S i j))
theorem ot_grid.swap {a y : Nat} {u : Nat → ot_T} {h : Nat → Nat} {d : Nat → ot_T} {g : Nat → Nat} {C S : Nat → Nat → ot_T} {ln : Nat → Nat → Int} (G : ot_grid a y u h d g C S ln) :
    ot_grid y a d g u h (fun j i => S i j) (fun j i => C i j) (fun j i => ln i j) := by
  obtain ⟨E1, E2, E3, E4, E5⟩ := G
  exact ⟨E2, E1, fun j i hj hi hg hh => ⟨(E3 i j hi hj hh hg).2, (E3 i j hi hj hh hg).1⟩, fun j i hj hi hg hc => E5 i j hi hj hg ⟨hc.2, hc.1⟩, fun j i hj hi hh hc => E4 i j hi hj hh ⟨hc.2, hc.1⟩⟩
def ot_cf (S : Nat → ot_T) (v : ot_T) (b : Nat) : Nat → ot_T
  | 0 => v
  | t + 1 => ot_fit (ot_cf S v b t) (S (b + t))
theorem ot_grid.more {a y : Nat} {u : Nat → ot_T} {h : Nat → Nat} {d : Nat → ot_T} {g : Nat → Nat} {C S : Nat → Nat → ot_T} {ln : Nat → Nat → Int} (G : ot_grid a y u h d g C S ln)
    {b : Nat} {v : ot_T} (hb : b ≤ y) (hh : ∀ i, i < a → h i ≤ b) (hg : ∀ j, j < y → g j ≤ a) (hv : ot_ok (ln a b) v) :
    ∃ (C' S' : Nat → Nat → ot_T) (ln' : Nat → Nat → Int), ot_grid (a + 1) y (ot_up u a v) (ot_up h a b) d g C' S' ln' ∧ (∀ i j, i < a → C' i j = C i j) ∧ (∀ i j, i ≤ a → S' i j = S i j) ∧ (∀ i j, i ≤ a → ln' i j = ln i j) ∧ C' a b = v ∧ ln' (a + 1) b = ln a b + ot_dl v := by
  obtain ⟨E1, E2, E3, E4, E5⟩ := G
  have hc0 : ∀ j, b ≤ j → j ≤ y → ot_cons h g a j := fun j h1 h2 => ⟨fun q hq => Nat.le_trans (hh q hq) h1, fun q hq => hg q (Nat.lt_of_lt_of_le hq h2)⟩
  have hok : ∀ t, b + t ≤ y → ot_ok (ln a (b + t)) (ot_cf (S a) v b t) := by
    intro t
    induction t with
    | zero => intro _; exact hv
    | succ t ih =>
      intro ht
      have h1 := ih (by omega)
      obtain ⟨h2, h3⟩ := E5 a (b + t) (Nat.le_refl _) (by omega) (hg _ (by omega)) (hc0 _ (by omega) (by omega))
      have h4 := ot_ok_fit h1 h2
      rw [← h3] at h4
      exact h4
  have hokj : ∀ j, b ≤ j → j ≤ y → ot_ok (ln a j) (ot_cf (S a) v b (j - b)) := by
    intro j h1 h2
    have h3 := hok (j - b) (by omega)
    rw [show b + (j - b) = j by omega] at h3
    exact h3
  have hst : ∀ j, b ≤ j → ot_cf (S a) v b (j + 1 - b) = ot_fit (ot_cf (S a) v b (j - b)) (S a j) := by
    intro j h1
    rw [show j + 1 - b = (j - b) + 1 by omega]
    show ot_fit _ (S a (b + (j - b))) = _
    rw [show b + (j - b) = j by omega]
  have na : ∀ i, i < a → ¬ i = a := fun i hi => Nat.ne_of_lt hi
  have na1 : ∀ i, i ≤ a → ¬ i = a + 1 := fun i hi => by omega
  have hcc : ∀ i j, i ≤ a → ot_cons (ot_up h a b) g i j → ot_cons h g i j := fun i j hi hc => ⟨fun q hq => by
    have h1 := hc.1 q hq
    rw [ot_up_n (by omega)] at h1
    exact h1, hc.2⟩
  refine ⟨fun i j => if i = a then ot_cf (S a) v b (j - b) else C i j, fun i j => if i = a + 1 then ot_fit (S a j) (ot_cf (S a) v b (j - b)) else S i j, fun i j => if i = a + 1 then ln a j + ot_dl (ot_cf (S a) v b (j - b)) else ln i j, ⟨?_, ?_, ?_, ?_, ?_⟩, ?_, ?_, ?_, ?_, ?_⟩
  · intro i hi
    dsimp only
    by_cases hia : i = a
    · subst hia
      rw [if_pos rfl, ot_up_s, ot_up_s, Nat.sub_self]
      rfl
    · rw [if_neg hia, ot_up_n hia, ot_up_n hia]
      exact E1 i (by omega)
  · intro j hj
    dsimp only
    rw [if_neg (na1 _ (hg j hj))]
    exact E2 j hj
  · intro i j hi hj h1 h2
    dsimp only
    by_cases hia : i = a
    · subst hia
      rw [ot_up_s] at h1
      rw [if_pos rfl, if_pos rfl, if_neg (by omega), if_pos rfl]
      exact ⟨hst j h1, rfl⟩
    · rw [ot_up_n hia] at h1
      rw [if_neg hia, if_neg hia, if_neg (by omega), if_neg (by omega)]
      exact E3 i j (by omega) hj h1 h2
  · intro i j hi hj h1 hc
    dsimp only
    by_cases hia : i = a
    · subst hia
      rw [ot_up_s] at h1
      rw [if_pos rfl, if_neg (by omega), if_pos rfl]
      exact ⟨hokj j h1 hj, rfl⟩
    · rw [ot_up_n hia] at h1
      rw [if_neg hia, if_neg (by omega), if_neg (by omega)]
      exact E4 i j (by omega) hj h1 (hcc i j (by omega) hc)
  · intro i j hi hj h1 hc
    dsimp only
    by_cases hia : i = a + 1
    · subst hia
      have hbj : b ≤ j := by
        have h3 := hc.1 a (by omega)
        rw [ot_up_s] at h3
        exact h3
      obtain ⟨h4, h5⟩ := E5 a j (Nat.le_refl _) hj (hg j hj) (hc0 j hbj (by omega))
      rw [if_pos rfl, if_pos rfl, if_pos rfl]
      refine ⟨ot_ok_fit h4 (hokj j hbj (by omega)), ?_⟩
      rw [hst j hbj, h5]
      have h6 := ot_dl_fit (ot_cf (S a) v b (j - b)) (S a j)
      omega
    · rw [if_neg hia, if_neg hia, if_neg hia]
      exact E5 i j (by omega) hj h1 (hcc i j (by omega) hc)
  · intro i j hi
    exact if_neg (na i hi)
  · intro i j hi
    exact if_neg (na1 i hi)
  · intro i j hi
    exact if_neg (na1 i hi)
  · dsimp only
    rw [if_pos rfl, Nat.sub_self]
    rfl
  · dsimp only
    rw [if_pos rfl, Nat.sub_self]
    rfl
theorem ot_grid.moreD {a y : Nat} {u : Nat → ot_T} {h : Nat → Nat} {d : Nat → ot_T} {g : Nat → Nat} {C S : Nat → Nat → ot_T} {ln : Nat → Nat → Int} (G : ot_grid a y u h d g C S ln)
    {x : Nat} {v : ot_T} (hx : x ≤ a) (hg : ∀ j, j < y → g j ≤ x) (hh : ∀ i, i < a → h i ≤ y) (hv : ot_ok (ln x y) v) :
    ∃ (C' S' : Nat → Nat → ot_T) (ln' : Nat → Nat → Int), ot_grid a (y + 1) u h (ot_up d y v) (ot_up g y x) C' S' ln' ∧ (∀ i j, j < y → S' i j = S i j) ∧ (∀ i j, j ≤ y → C' i j = C i j) ∧ (∀ i j, j ≤ y → ln' i j = ln i j) ∧ S' x y = v ∧ ln' x (y + 1) = ln x y + ot_dl v := by
  obtain ⟨C1, S1, l1, G1, e1, e2, e3, e4, e5⟩ := G.swap.more (b := x) (v := v) hx hg hh hv
  exact ⟨fun i j => S1 j i, fun i j => C1 j i, fun i j => l1 j i, G1.swap, fun i j hj => e1 j i hj, fun i j hj => e2 j i hj, fun i j hj => e3 j i hj, e4, e5⟩
theorem ot_grid.kind {a y : Nat} {u : Nat → ot_T} {h : Nat → Nat} {d : Nat → ot_T} {g : Nat → Nat} {C S : Nat → Nat → ot_T} {ln : Nat → Nat → Int} (G : ot_grid a y u h d g C S ln)
    {i : Nat} (hi : i < a) : ∀ t, (∀ j, h i ≤ j → j < h i + t → j < y ∧ g j ≤ i) → ((C i (h i + t)).1 = 0 ↔ (u i).1 = 0) := by
  intro t
  induction t with
  | zero =>
    intro _
    rw [Nat.add_zero, G.1 i hi]
  | succ t ih =>
    intro hj
    obtain ⟨h1, h2⟩ := hj (h i + t) (by omega) (by omega)
    rw [← Nat.add_assoc, (G.2.2.1 i (h i + t) hi h1 (by omega) h2).1, ot_kind_fit]
    exact ih (fun j h3 h4 => hj j h3 (by omega))
theorem ot_grid.growS {a y : Nat} {u : Nat → ot_T} {h : Nat → Nat} {d : Nat → ot_T} {g : Nat → Nat} {C S : Nat → Nat → ot_T} {ln : Nat → Nat → Int} (G : ot_grid a y u h d g C S ln)
    {i j : Nat} (hi : i ≤ a) (h0 : ∀ q, q < i → h q ≤ j) : ∀ t, (∀ q, q < j + t → g q ≤ i) → j + t ≤ y → ln i (j + t) ≤ ln i j + t := by
  intro t
  induction t with
  | zero =>
    intro _ _
    simp
  | succ t ih =>
    intro hg hy
    have h1 := ih (fun q hq => hg q (by omega)) (by omega)
    have h2 := (G.2.2.2.2 i (j + t) hi (by omega) (hg _ (by omega)) ⟨fun q hq => Nat.le_trans (h0 q hq) (by omega), fun q hq => hg q (by omega)⟩).2
    have h3 := ot_dl_le (S i (j + t))
    rw [← Nat.add_assoc, h2]
    omega
end
section
/-! PURE: what holds between the server and ONE client. a: sent up, x: got up, y: sent down, b: got down, kU, kD: known up, down; mu, hu / md, hd: the messages by number; ou, od: the open changes by number; nC, nS: the letters of the client's and of the server's text -/
def ot_cli (a x y b kU kD : Nat) (mu : Nat → ot_T) (hu : Nat → Nat) (md : Nat → ot_T) (hd : Nat → Nat) (ou od : Nat → ot_T) (nC nS : Int) : Prop :=
  ∃ (u : Nat → ot_T) (h : Nat → Nat) (d : Nat → ot_T) (g : Nat → Nat) (C S : Nat → Nat → ot_T) (ln : Nat → Nat → Int), ot_grid a y u h d g C S ln ∧
    (x ≤ a ∧ b ≤ y ∧ kU ≤ x ∧ kD ≤ b ∧ y ≤ kD + 24 ∧ a ≤ kU + 16) ∧
    (∀ i, x ≤ i → i < a → mu i = u i ∧ hu i = h i) ∧ (∀ j, b ≤ j → j < y → md j = d j ∧ hd j = g j) ∧
    (∀ i, kU ≤ i → i < a → ou i = C i b) ∧ (∀ j, kD ≤ j → j < y → od j = S x j) ∧
    (ln a b = nC ∧ ln x y = nS ∧ nC ≤ 64 ∧ nS ≤ 64) ∧
    (∀ i, i < a → h i ≤ b) ∧ (∀ j, j < y → g j ≤ x) ∧
    (∀ i, x ≤ i → i < a → kD ≤ h i) ∧ (∀ j, b ≤ j → j < y → kU ≤ g j) ∧
    (∀ i i', i ≤ i' → i' < a → h i ≤ h i') ∧ (∀ j j', j ≤ j' → j' < y → g j ≤ g j') ∧
    (∀ i, i < a → (u i).1 = 0 → ln (i + 1) (h i) ≤ 40) ∧
    (∀ j, b ≤ j → j < y → ln (g j) (j + 1) ≤ 64 ∧ ∀ i, g j ≤ i → i < a → j + 1 ≤ 24 + h i)
theorem ot_cli_0 {mu md ou od : Nat → ot_T} {hu hd : Nat → Nat} : ot_cli 0 0 0 0 0 0 mu hu md hd ou od 0 0 := by
  refine ⟨mu, hu, md, hd, fun i _ => mu i, fun _ j => md j, fun _ _ => 0, ⟨?_, ?_, ?_, ?_, ?_⟩, ⟨by omega, by omega, by omega, by omega, by omega, by omega⟩, ?_, ?_, ?_, ?_, ⟨rfl, rfl, by omega, by omega⟩, ?_, ?_, ?_, ?_, ?_, ?_, ?_, ?_⟩
  all_goals (intros; omega)
/-- a client makes a change -/
theorem ot_cli.make {a x y b kU kD : Nat} {mu md ou od : Nat → ot_T} {hu hd : Nat → Nat} {nC nS : Int} (I : ot_cli a x y b kU kD mu hu md hd ou od nC nS) {v : ot_T}
    (hv : ot_ok nC v) (h16 : a < kU + 16) (h40 : v.1 = 0 → nC < 40) :
    ot_cli (a + 1) x y b kU kD (ot_up mu a v) (ot_up hu a b) md hd (ot_up ou a v) od (nC + ot_dl v) nS := by
  obtain ⟨u, h, d, g, C, S, ln, G, ⟨p1, p2, p3, p4, p5, p6⟩, q1, q2, q3, q4, ⟨r1, r2, r3, r4⟩, s1, s2, s3, s4, s5, s6, s7, s8⟩ := I
  obtain ⟨C', S', ln', G', e1, e2, e3, e4, e5⟩ := G.more (b := b) (v := v) p2 s1 (fun j hj => Nat.le_trans (s2 j hj) p1) (by rw [r1]; exact hv)
  have h64 : nC + ot_dl v ≤ 64 := by
    by_cases h0 : v.1 = 0
    · have := h40 h0
      have := ot_dl_le v
      omega
    · have := ot_dl_np h0
      omega
  refine ⟨ot_up u a v, ot_up h a b, d, g, C', S', ln', G', ⟨by omega, p2, p3, p4, p5, by omega⟩, ?_, q2, ?_, ?_, ⟨by rw [e5, r1], by rw [e3 _ _ p1, r2], h64, r4⟩, ?_, s2, ?_, s4, ?_, s6, ?_, ?_⟩
  · intro i h1 h2
    by_cases hi : i = a
    · subst hi
      exact ⟨by rw [ot_up_s, ot_up_s], by rw [ot_up_s, ot_up_s]⟩
    · rw [ot_up_n hi, ot_up_n hi, ot_up_n hi, ot_up_n hi]
      exact q1 i h1 (by omega)
  · intro i h1 h2
    by_cases hi : i = a
    · subst hi
      rw [ot_up_s, e4]
    · rw [ot_up_n hi, e1 i b (by omega)]
      exact q3 i h1 (by omega)
  · intro j h1 h2
    rw [e2 x j p1]
    exact q4 j h1 h2
  · intro i h1
    by_cases hi : i = a
    · subst hi
      rw [ot_up_s]
      exact Nat.le_refl _
    · rw [ot_up_n hi]
      exact s1 i (by omega)
  · intro i h1 h2
    by_cases hi : i = a
    · subst hi
      rw [ot_up_s]
      exact p4
    · rw [ot_up_n hi]
      exact s3 i h1 (by omega)
  · intro i i' h1 h2
    by_cases hi : i' = a
    · subst hi
      rw [ot_up_s]
      by_cases hj : i = i'
      · subst hj
        rw [ot_up_s]
        exact Nat.le_refl _
      · rw [ot_up_n hj]
        exact s1 i (by omega)
    · rw [ot_up_n hi, ot_up_n (by omega)]
      exact s5 i i' h1 (by omega)
  · intro i h1 h2
    by_cases hi : i = a
    · subst hi
      rw [ot_up_s] at h2
      rw [ot_up_s, e5, r1]
      have := h40 h2
      have := ot_dl_le v
      omega
    · rw [ot_up_n hi] at h2
      rw [ot_up_n hi, e3 _ _ (by omega)]
      exact s7 i (by omega) h2
  · intro j h1 h2
    obtain ⟨h3, h4⟩ := s8 j h1 h2
    refine ⟨by rw [e3 _ _ (Nat.le_trans (s2 j h2) p1)]; exact h3, fun i h5 h6 => ?_⟩
    by_cases hi : i = a
    · subst hi
      rw [ot_up_s]
      omega
    · rw [ot_up_n hi]
      exact h4 i h5 (by omega)
/-- the server sends a change that it has just done: v, on its text of nS letters -/
theorem ot_cli.sent {a x y b kU kD : Nat} {mu md ou od : Nat → ot_T} {hu hd : Nat → Nat} {nC nS : Int} (I : ot_cli a x y b kU kD mu hu md hd ou od nC nS) {v : ot_T}
    (hv : ot_ok nS v) (h24 : y < kD + 24) (h64 : nS + ot_dl v ≤ 64) :
    ot_cli a x (y + 1) b kU kD mu hu (ot_up md y v) (ot_up hd y x) ou (ot_up od y v) nC (nS + ot_dl v) := by
  obtain ⟨u, h, d, g, C, S, ln, G, ⟨p1, p2, p3, p4, p5, p6⟩, q1, q2, q3, q4, ⟨r1, r2, r3, r4⟩, s1, s2, s3, s4, s5, s6, s7, s8⟩ := I
  obtain ⟨C', S', ln', G', e1, e2, e3, e4, e5⟩ := G.moreD (x := x) (v := v) p1 s2 (fun i hi => Nat.le_trans (s1 i hi) p2) (by rw [r2]; exact hv)
  refine ⟨u, h, ot_up d y v, ot_up g y x, C', S', ln', G', ⟨p1, by omega, p3, p4, by omega, p6⟩, q1, ?_, ?_, ?_, ⟨by rw [e3 _ _ p2, r1], by rw [e5, r2], r3, h64⟩, s1, ?_, s3, ?_, s5, ?_, ?_, ?_⟩
  · intro j h1 h2
    by_cases hj : j = y
    · subst hj
      exact ⟨by rw [ot_up_s, ot_up_s], by rw [ot_up_s, ot_up_s]⟩
    · rw [ot_up_n hj, ot_up_n hj, ot_up_n hj, ot_up_n hj]
      exact q2 j h1 (by omega)
  · intro i h1 h2
    rw [e2 i b p2]
    exact q3 i h1 h2
  · intro j h1 h2
    by_cases hj : j = y
    · subst hj
      rw [ot_up_s, e4]
    · rw [ot_up_n hj, e1 x j (by omega)]
      exact q4 j h1 (by omega)
  · intro j h1
    by_cases hj : j = y
    · subst hj
      rw [ot_up_s]
      exact Nat.le_refl _
    · rw [ot_up_n hj]
      exact s2 j (by omega)
  · intro j h1 h2
    by_cases hj : j = y
    · subst hj
      rw [ot_up_s]
      exact p3
    · rw [ot_up_n hj]
      exact s4 j h1 (by omega)
  · intro j j' h1 h2
    by_cases hj : j' = y
    · subst hj
      rw [ot_up_s]
      by_cases hi : j = j'
      · subst hi
        rw [ot_up_s]
        exact Nat.le_refl _
      · rw [ot_up_n hi]
        exact s2 j (by omega)
    · rw [ot_up_n hj, ot_up_n (by omega)]
      exact s6 j j' h1 (by omega)
  · intro i h1 h2
    rw [e3 _ _ (Nat.le_trans (s1 i h1) p2)]
    exact s7 i h1 h2
  · intro j h1 h2
    by_cases hj : j = y
    · subst hj
      rw [ot_up_s, e5, r2]
      refine ⟨h64, fun i h5 h6 => ?_⟩
      have := s3 i h5 h6
      omega
    · obtain ⟨h3, h4⟩ := s8 j h1 (by omega)
      rw [ot_up_n hj, e3 _ _ (by omega)]
      exact ⟨h3, h4⟩
/-- a message m fitted through n open changes from number k on -/
def ot_rm (m : ot_T) (o : Nat → ot_T) (k : Nat) : Nat → ot_T
  | 0 => m
  | t + 1 => ot_fit (ot_rm m o k t) (o (k + t))
/-- the open changes behind it -/
def ot_ro (m : ot_T) (o : Nat → ot_T) (k n : Nat) : Nat → ot_T := fun j => if k ≤ j ∧ j < n then ot_fit (o j) (ot_rm m o k (j - k)) else o j
/-- the server gets the client's oldest message -/
theorem ot_cli.serverGets {a x y b kU kD : Nat} {mu md ou od : Nat → ot_T} {hu hd : Nat → Nat} {nC nS : Int} (I : ot_cli a x y b kU kD mu hu md hd ou od nC nS) (hx : x < a) :
    ot_ok nS (ot_rm (mu x) od (max kD (hu x)) (y - max kD (hu x))) ∧ nS + ot_dl (ot_rm (mu x) od (max kD (hu x)) (y - max kD (hu x))) ≤ 64 ∧ max kD (hu x) ≤ y ∧ kD ≤ hu x ∧
      ot_cli a (x + 1) y b kU (max kD (hu x)) mu hu md hd ou (ot_ro (mu x) od (max kD (hu x)) y) nC (nS + ot_dl (ot_rm (mu x) od (max kD (hu x)) (y - max kD (hu x)))) := by
  obtain ⟨u, h, d, g, C, S, ln, G, ⟨p1, p2, p3, p4, p5, p6⟩, q1, q2, q3, q4, ⟨r1, r2, r3, r4⟩, s1, s2, s3, s4, s5, s6, s7, s8⟩ := I
  obtain ⟨m1, m2⟩ := q1 x (Nat.le_refl _) hx
  have k1 : kD ≤ h x := s3 x (Nat.le_refl _) hx
  have hk : max kD (hu x) = h x := by rw [m2]; omega
  have hb := s1 x hx
  rw [hk]
  have hrm : ∀ t, h x + t ≤ y → ot_rm (mu x) od (h x) t = C x (h x + t) := by
    intro t
    induction t with
    | zero =>
      intro _
      show mu x = _
      rw [m1, Nat.add_zero, G.1 x hx]
    | succ t ih =>
      intro ht
      show ot_fit (ot_rm (mu x) od (h x) t) (od (h x + t)) = _
      rw [ih (by omega), q4 _ (by omega) (by omega), ← Nat.add_assoc, (G.2.2.1 x (h x + t) hx (by omega) (by omega) (s2 _ (by omega))).1]
  have hm : ot_rm (mu x) od (h x) (y - h x) = C x y := by
    rw [hrm (y - h x) (by omega), show h x + (y - h x) = y by omega]
  rw [hm]
  have hcons : ot_cons h g x y := ⟨fun q hq => Nat.le_trans (s1 q (by omega)) p2, fun q hq => s2 q hq⟩
  obtain ⟨g1, g2⟩ := G.2.2.2.1 x y hx (Nat.le_refl _) (by omega) hcons
  rw [r2] at g1 g2
  have h64 : nS + ot_dl (C x y) ≤ 64 := by
    by_cases h0 : (C x y).1 = 0
    · have h1 := G.kind hx (y - h x) (fun j h1 h2 => ⟨by omega, s2 j (by omega)⟩)
      rw [show h x + (y - h x) = y by omega] at h1
      have h2 := s7 x hx (h1.mp h0)
      have h3 := G.growS (i := x + 1) (j := h x) (by omega) (fun q hq => s5 q x (by omega) hx) (y - h x) (fun q hq => Nat.le_trans (s2 q (by omega)) (by omega)) (by omega)
      rw [show h x + (y - h x) = y by omega] at h3
      omega
    · have := ot_dl_np h0
      omega
  refine ⟨g1, h64, by omega, by omega, ?_⟩
  refine ⟨u, h, d, g, C, S, ln, G, ⟨hx, p2, by omega, hb, by omega, p6⟩, fun i h1 h2 => q1 i (by omega) h2, q2, q3, ?_, ⟨r1, g2, r3, h64⟩, s1, fun j hj => Nat.le_trans (s2 j hj) (by omega), fun i h1 h2 => s5 x i (by omega) h2, s4, s5, s6, s7, s8⟩
  intro j h1 h2
  unfold ot_ro
  rw [if_pos ⟨h1, h2⟩, hrm (j - h x) (by omega), show h x + (j - h x) = j by omega, q4 j (by omega) h2, (G.2.2.1 x j hx h2 h1 (s2 j h2)).2]
/-- the client gets the server's oldest message -/
theorem ot_cli.clientGets {a x y b kU kD : Nat} {mu md ou od : Nat → ot_T} {hu hd : Nat → Nat} {nC nS : Int} (I : ot_cli a x y b kU kD mu hu md hd ou od nC nS) (hb : b < y) :
    ot_ok nC (ot_rm (md b) ou (max kU (hd b)) (a - max kU (hd b))) ∧ nC + ot_dl (ot_rm (md b) ou (max kU (hd b)) (a - max kU (hd b))) ≤ 64 ∧ max kU (hd b) ≤ a ∧ kU ≤ hd b ∧
      ot_cli a x y (b + 1) (max kU (hd b)) kD mu hu md hd (ot_ro (md b) ou (max kU (hd b)) a) od (nC + ot_dl (ot_rm (md b) ou (max kU (hd b)) (a - max kU (hd b)))) nS := by
  obtain ⟨u, h, d, g, C, S, ln, G, ⟨p1, p2, p3, p4, p5, p6⟩, q1, q2, q3, q4, ⟨r1, r2, r3, r4⟩, s1, s2, s3, s4, s5, s6, s7, s8⟩ := I
  obtain ⟨m1, m2⟩ := q2 b (Nat.le_refl _) hb
  have k1 : kU ≤ g b := s4 b (Nat.le_refl _) hb
  have hk : max kU (hd b) = g b := by rw [m2]; omega
  have hx := s2 b hb
  rw [hk]
  have hrm : ∀ t, g b + t ≤ a → ot_rm (md b) ou (g b) t = S (g b + t) b := by
    intro t
    induction t with
    | zero =>
      intro _
      show md b = _
      rw [m1, Nat.add_zero, G.2.1 b hb]
    | succ t ih =>
      intro ht
      show ot_fit (ot_rm (md b) ou (g b) t) (ou (g b + t)) = _
      rw [ih (by omega), q3 _ (by omega) (by omega), ← Nat.add_assoc, (G.2.2.1 (g b + t) b (by omega) hb (s1 _ (by omega)) (by omega)).2]
  have hm : ot_rm (md b) ou (g b) (a - g b) = S a b := by
    rw [hrm (a - g b) (by omega), show g b + (a - g b) = a by omega]
  rw [hm]
  have hcons : ot_cons h g a b := ⟨fun q hq => s1 q hq, fun q hq => Nat.le_trans (s2 q (by omega)) p1⟩
  obtain ⟨g1, g2⟩ := G.2.2.2.2 a b (Nat.le_refl _) hb (by omega) hcons
  rw [r1] at g1 g2
  obtain ⟨t1, t2⟩ := s8 b (Nat.le_refl _) hb
  have hall : ∀ t, g b + t ≤ a → ln (g b + t) (b + 1) ≤ 64 := by
    intro t
    induction t with
    | zero => intro _; exact t1
    | succ t ih =>
      intro ht
      have h1 := ih (by omega)
      have h2 := (G.2.2.2.1 (g b + t) (b + 1) (by omega) (by omega) (Nat.le_trans (s1 _ (by omega)) (by omega)) ⟨fun q hq => Nat.le_trans (s1 q (by omega)) (by omega), fun q hq => Nat.le_trans (s6 q b (by omega) hb) (by omega)⟩).2
      rw [← Nat.add_assoc]
      by_cases h0 : (C (g b + t) (b + 1)).1 = 0
      · have hhb := s1 (g b + t) (by omega)
        have h3 := G.kind (i := g b + t) (by omega) (b + 1 - h (g b + t)) (fun j h3 h4 => ⟨by omega, Nat.le_trans (s6 j b (by omega) hb) (by omega)⟩)
        rw [show h (g b + t) + (b + 1 - h (g b + t)) = b + 1 by omega] at h3
        have h4 := s7 (g b + t) (by omega) (h3.mp h0)
        have h5 := G.growS (i := g b + t + 1) (j := h (g b + t)) (by omega) (fun q hq => s5 q (g b + t) (by omega) (by omega)) (b + 1 - h (g b + t)) (fun q hq => Nat.le_trans (s6 q b (by omega) hb) (by omega)) (by omega)
        rw [show h (g b + t) + (b + 1 - h (g b + t)) = b + 1 by omega] at h5
        have h6 := t2 (g b + t) (by omega) (by omega)
        omega
      · have := ot_dl_np h0
        omega
  have h64 : nC + ot_dl (S a b) ≤ 64 := by
    have h1 := hall (a - g b) (by omega)
    rw [show g b + (a - g b) = a by omega, g2] at h1
    exact h1
  refine ⟨g1, h64, by omega, by omega, ?_⟩
  refine ⟨u, h, d, g, C, S, ln, G, ⟨p1, hb, hx, by omega, p5, by omega⟩, q1, fun j h1 h2 => q2 j (by omega) h2, ?_, q4, ⟨g2, r2, h64, r4⟩, fun i hi => Nat.le_trans (s1 i hi) (by omega), s2, s3, fun j h1 h2 => s6 b j (by omega) h2, s5, s6, s7, fun j h1 h2 => s8 j (by omega) h2⟩
  intro i h1 h2
  unfold ot_ro
  rw [if_pos ⟨h1, h2⟩, hrm (i - g b) (by omega), show g b + (i - g b) = i by omega, q3 i (by omega) h2, (G.2.2.1 i b h2 hb (s1 i h2) h1).1]
end
section
/-! CONTRACTS over the world (layout, memory): read-only ones (cr) and writing ones (cw), with exact answers; how they begin, how they are called; rows for fields -/
def tyE (E : Nat → ClassId) : List (ClassId × FieldType) := [(E 0, .int), (E 1, .char), (E 2, .long), (E 3, .object R_Tx), (E 4, .object R_Wy), (E 5, .object R_Ch)]
def ki (D : va_G) (E : Nat → ClassId) (U : State) : Prop := va_K D cls5 (tyE E) U
theorem ki.moved {D : va_G} {E : Nat → ClassId} {u U : State} (hvm : u.vm.Alike U.vm) (h : ki D E u) : ki D E U := va_K.moved hvm h
def sh_Ch : (Nat → Int32) → va_E := fun g => .inr (0, [.int (g 0), .int (g 1), .int (g 2), .int (g 3)])
def sh_Tx (la : Nat) : (Nat → Int32) → va_E := fun g => .inr (1, [.ref la, .int (g 1)])
def sh_Wy (r a1 a2 a3 : Nat) : (Nat → Int32) → va_E := fun g => .inr (2, [.int (nI r), .ref a1, .ref a2, .ref a3, .int (g 4), .int (g 5), .int (g 6)])
def sh_Er (a1 a2 a3 a4 : Nat) : (Nat → Int32) → va_E := fun _ => .inr (3, [.ref a1, .ref a2, .ref a3, .ref a4])
def sh_Mo (b : Nat) : (Nat → Int32) → va_E := fun g => .inr (4, [.int (g 0), .ref (b + 1), .ref (b + 2), .ref (b + 3), .ref (b + 4), .ref (b + 5), .ref (b + 6), .ref (b + 7), .ref (b + 8), .ref (b + 9), .ref (b + 10), .ref (b + 11), .ref (b + 12), .ref (b + 13), .ref (b + 14), .ref (b + 15), .int (g 16), .int (g 17), .int (g 18), .int (g 19)])
def sh_I (E : Nat → ClassId) (n : Nat) : (Nat → Int32) → va_E := fun g => .inl (E 0, n, .inl g)
def sh_C (E : Nat → ClassId) (n : Nat) : (Nat → Int32) → va_E := fun g => .inl (E 1, n, .inl g)
def sh_R (c : ClassId) (n : Nat) (F : Nat → Nat) : (Nat → Int32) → va_E := fun _ => .inl (c, n, .inr (.inr (.inr (.inr (fun k => some (F k))))))
/-- a char -/
def chz (x : Int32) : Prop := narrow .char (.int x) = .int x ∧ fits .char (.int x) = true
theorem chz_0 : chz 0 := ⟨by decide, by decide⟩
theorem chz.nar {x : Int32} (h : chz x) : vp_nar .char x = x := by
  have h1 : narrow .char (.int x) = .int (vp_nar .char x) := rfl
  have h2 := h.1
  rw [h1] at h2
  exact Value.int.inj h2
/-- what a method knows of the machine -/
def zz (own : String) (cd : ByteArray) (n : Nat) (D : va_G) (E : Nat → ClassId) (p : Program) (s : State) (m : MethodId) (c : Code) (args : Array Value) : Prop :=
  p.tables.exec = Jvm.exec ∧ c.code = cd ∧ c.maxLocals = n ∧ s.vm.findClass own = some m.cls ∧ (∀ w ∈ gw, w.before args s = true) ∧ ki D E s
def cr_Q (v : Option Value) : Array Value → State → Outcome → State → Prop := fun _ st o t => o = .returned v ∧ t.heap = st.heap
def cw_Q (v : Option Value) (B : Heap → Prop) (A : Nat → Prop) : Array Value → State → Outcome → State → Prop := fun _ st o t => o = .returned v ∧ B t.heap ∧ va_F A st t
def rmm (fr lo : Nat) : Room := { frames := fr, cells := 0, slots := 0, locals := lo }
/-- the method returns v and changes nothing -/
def cr (l : Launch) (y : MethodName) (cd : ByteArray) (n : Nat) (ret : Option FieldType) (fr lo : Nat) (D : va_G) (E : Nat → ClassId) (La : la_L) (av : List Value) (mu : la_M) (v : Option Value) : Prop :=
  Met l y (.code y cd n ret :: gw) (rmm fr lo) (va_Pc av (fun U => la_P D cls5 La mu U.heap ∧ ki D E U)) (cr_Q v) 0 0 (fun _ => False)
/-- the method returns v; the memory mu becomes mu1 -/
def cw (l : Launch) (y : MethodName) (cd : ByteArray) (n : Nat) (ret : Option FieldType) (fr lo : Nat) (D : va_G) (E : Nat → ClassId) (La : la_L) (av : List Value) (mu : la_M) (v : Option Value) (mu1 : la_M) : Prop :=
  Met l y (.code y cd n ret :: gw) (rmm fr lo) (va_Pc av (fun U => la_P D cls5 La mu U.heap ∧ ki D E U)) (cw_Q v (la_P D cls5 La mu1) (la_A La)) 0 0 (la_A La)
section CB
variable {l : Launch} {y : MethodName} {cd : ByteArray} {n : Nat} {ret : Option FieldType} {fr lo : Nat} {D : va_G} {E : Nat → ClassId} {La : la_L} {av : List Value} {mu mu1 : la_M} {v : Option Value}
theorem cr_begin (own : String) (hy : plainName y.cls = true) (ho : y.cls = own) (hn : (lg_sl av).length ≤ n)
    (body : ∀ (p : Program) (e : Env) (s : State) (m : MethodId) (below : List Frame) (meth : Method) (c : Code) (ls : Array Slot), zz own cd n D E p s m c av.toArray → meth.sig.returnType = ret → meth.locks = false → la_P D cls5 La mu s.heap → lv_has ls n (lv_args 0 av) →
      W p l e (rmm fr lo) s m av.toArray below meth c s.heap [] 0 0 (MQ below (cr_Q v) av.toArray s 0 0 (fun _ => False)) (F0 m 0 ls [])) : cr l y cd n ret fr lo D E La av mu v := by
  refine Met.ofW (cc := cd) (maxL := n) (ret := ret) hy rfl ?_
  intro p e s m args below meth c s₁ B hml hv
  obtain ⟨rfl, hP, hK⟩ := hv
  have hts := atoms_spec (ws := .code y cd n ret :: gw) B.pre
  have hown : s.vm.findClass y.cls = some m.cls := findClass_of_methodNamed B.named
  rw [ho] at hown
  have hl := lv_entry av hn
  rw [lg_entry_eq]
  exact body p e s m below meth c _ ⟨B.exec, B.bytes, hml, hown, fun w h => hts w (List.mem_cons_of_mem _ h), hK⟩ B.returns B.notSynchronized hP hl
theorem cw_begin (own : String) (hy : plainName y.cls = true) (ho : y.cls = own) (hn : (lg_sl av).length ≤ n)
    (body : ∀ (p : Program) (e : Env) (s : State) (m : MethodId) (below : List Frame) (meth : Method) (c : Code) (ls : Array Slot), zz own cd n D E p s m c av.toArray → meth.sig.returnType = ret → meth.locks = false → la_P D cls5 La mu s.heap → va_S (la_A La) s.heap s.heap [] → lv_has ls n (lv_args 0 av) →
      W p l e (rmm fr lo) s m av.toArray below meth c s.heap [] 0 0 (MQ below (cw_Q v (la_P D cls5 La mu1) (la_A La)) av.toArray s 0 0 (la_A La)) (F0 m 0 ls [])) : cw l y cd n ret fr lo D E La av mu v mu1 := by
  refine Met.ofW (cc := cd) (maxL := n) (ret := ret) hy rfl ?_
  intro p e s m args below meth c s₁ B hml hv
  obtain ⟨rfl, hP, hK⟩ := hv
  have hts := atoms_spec (ws := .code y cd n ret :: gw) B.pre
  have hown : s.vm.findClass y.cls = some m.cls := findClass_of_methodNamed B.named
  rw [ho] at hown
  have hl := lv_entry av hn
  rw [lg_entry_eq]
  exact body p e s m below meth c _ ⟨B.exec, B.bytes, hml, hown, fun w h => hts w (List.mem_cons_of_mem _ h), hK⟩ B.returns B.notSynchronized hP va_S.rf hl
end CB
/-- the static facts of a call: virtual, static -/
def kv (own : String) (index : Nat) (y : MethodName) (C : String) (bytes : ByteArray) (maxL : Nat) (ret : Option FieldType) (n : Nat) : Prop :=
  Cond.methodLink own index y ∈ gw ∧ Cond.instanceMethod y ∈ gw ∧ Cond.selects C y y ∈ gw ∧ Cond.initialized C ∈ gw ∧ Cond.code y bytes maxL ret ∈ gw ∧
  (y.cls = C ∧ y.cls ≠ "java/lang/invoke/MethodHandle" ∧ y.cls ≠ "java/lang/invoke/VarHandle" ∧ (parseMethodDescriptor y.desc).map (fun d => d.parameters.length) = some n)
def ks (own : String) (index : Nat) (y : MethodName) (bytes : ByteArray) (maxL : Nat) (ret : Option FieldType) (n : Nat) : Prop :=
  Cond.methodLink own index y ∈ gw ∧ Cond.static y ∈ gw ∧ Cond.initialized y.cls ∈ gw ∧ Cond.code y bytes maxL ret ∈ gw ∧
  (y.cls ≠ "java/lang/invoke/MethodHandle" ∧ y.cls ≠ "java/lang/invoke/VarHandle" ∧ (parseMethodDescriptor y.desc).map (fun d => d.parameters.length) = some n)
/-- the static facts of a class: its number, its fields -/
def kc (ci : Nat) (C : String) (T : u_T) (N : Nat) (ty0 : Nat → FieldType) : Prop :=
  cls5[ci]? = some (C, T, N) ∧ (∀ w ∈ u_ws C T N, w ∈ gw) ∧ (∀ k, k < N → parseFieldDescriptor (T k).2.2.1 = some (ty0 k)) ∧ (∀ a, a < N → ∀ b, b < N → a ≠ b → (T a).2.1 ≠ (T b).2.1)
theorem kc_Ch : kc 0 R_Ch F_Ch 4 t_Ch := ⟨rfl, wy_Ch, t_Ch_ok, n_Ch⟩
theorem kc_Tx : kc 1 R_Tx F_Tx 2 t_Tx := ⟨rfl, wy_Tx, t_Tx_ok, n_Tx⟩
theorem kc_Wy : kc 2 R_Wy F_Wy 7 t_Wy := ⟨rfl, wy_Wy, t_Wy_ok, n_Wy⟩
theorem kc_Er : kc 3 R_Er F_Er 4 t_Er := ⟨rfl, wy_Er, t_Er_ok, n_Er⟩
theorem kc_Mo : kc 4 R_Mo F_Mo 20 t_Mo := ⟨rfl, wy_Mo, t_Mo_ok, n_Mo⟩
theorem good_gw : GoodIn gw gw := fun w h => ⟨h, good_of_word (gw_good w h)⟩
theorem good_cons {w : Cond} (h : w ∈ gw) {ws : List Cond} (hw : GoodIn gw ws) : GoodIn gw (w :: ws) := by
  intro x hx
  rcases List.mem_cons.mp hx with rfl | hx
  · exact good_gw _ h
  · exact hw x hx
section CC
variable {p : Program} {l : Launch} {e : Env} {R : Room} {s : State} {m : MethodId} {args : Array Value} {below : List Frame} {meth : Method} {c : Code} {H : Heap} {locs : List Loc} {cells slots : Nat} {Q : State → Prop}
variable {cc : ByteArray} {nL pc : Nat} {ls : Array Slot} {D : va_G} {E : Nat → ClassId} {La : la_L} {mu mu1 : la_M} {own C : String} {index n maxL fr lo : Nat} {y : MethodName} {bytes : ByteArray} {ret : Option FieldType} {As rest st0 : List Value} {v : Option Value} {b : Nat} {A0 : Nat → Prop} {H0 : Heap}
theorem cr_call {a : Array Value} (hr : va_Run p l e R s m args below meth c H locs cells slots 0 0 (F0 m pc ls st0) rest (cr_Q v a) (fun _ => False))
    (kk : W p l e R s m args below meth c H locs cells slots Q (F0 m (pc + 3) ls (v.toList ++ rest))) : W p l e R s m args below meth c H locs cells slots Q (F0 m pc ls st0) := by
  intro T hT X
  obtain ⟨v', st₀, t, T', L, h0, X', hL, e1, e2, ⟨hv, hh⟩, st⟩ := hr T hT X
  cases hv
  obtain ⟨t2, a1, b1⟩ := kk T' (by rw [e1, hh, h0]) (Stand.forget X' (fun q h => (hL q h).elim))
  exact ⟨t2, st t2 a1, b1⟩
theorem cw_call {a : Array Value} {B : Heap → Prop} {A1 : Nat → Prop} (hr : va_Run p l e R s m args below meth c H locs cells slots 0 0 (F0 m pc ls st0) rest (cw_Q v B A1 a) A1) (hS : va_S A0 H0 H locs) (hA : ∀ q, A1 q → A0 q)
    (kk : ∀ (H1 : Heap) (locs1 : List Loc), B H1 → (∀ q : Nat, q < H.size → ¬ A1 q → H1[q]? = H[q]?) → va_S A0 H0 H1 locs1 → W p l e R s m args below meth c H1 locs1 cells slots Q (F0 m (pc + 3) ls (v.toList ++ rest))) : W p l e R s m args below meth c H locs cells slots Q (F0 m pc ls st0) := by
  intro T hT X
  obtain ⟨v', st₀, t, T', L, h0, X', hL, e1, e2, ⟨hv, hB, hz, hk⟩, st⟩ := hr T hT X
  cases hv
  rw [h0] at hz hk
  obtain ⟨t2, a1, b1⟩ := kk T'.heap (locs ++ L) (by rw [e1]; exact hB) (fun q h1 h2 => by rw [e1]; exact hk q h1 h2)
    ⟨Nat.le_trans hS.1 (by rw [e1]; exact hz), fun q h1 h2 => by rw [e1, hk q (Nat.lt_of_lt_of_le h1 hS.1) (fun z => h2 (hA q z))]; exact hS.2.1 q h1 h2, fun q hq => by
      rcases List.mem_append.mp hq with h | h
      · exact hS.2.2 q h
      · exact hA _ (hL q h)⟩ T' rfl X'
  exact ⟨t2, st t2 a1, b1⟩
theorem kv.words (Z : zz own cc nL D E p s m c args) (K : kv own index y C bytes maxL ret n) (hR : fr + 1 ≤ R.frames ∧ 8 + (maxL + 11) + lo ≤ R.locals) : CallW R s args own C index y bytes maxL ret (.code y bytes maxL ret :: gw) (rmm fr lo) 0 0 n := by
  obtain ⟨h1, h2, h3, h4, h5, h6⟩ := K
  exact cwV n Z.2.2.2.2.1 (good_cons h1 (good_cons h2 (good_cons h3 (good_cons h4 (good_cons h5 good_gw))))) rfl rfl rfl h6 hR
theorem ks.words (Z : zz own cc nL D E p s m c args) (K : ks own index y bytes maxL ret n) (hR : fr + 1 ≤ R.frames ∧ 8 + (maxL + 11) + lo ≤ R.locals) : CallB R s args own index y bytes maxL ret (.code y bytes maxL ret :: gw) (rmm fr lo) 0 0 n ∧ (Cond.static y).before args s = true := by
  obtain ⟨h1, h2, h3, h4, h6⟩ := K
  have hts := Z.2.2.2.2.1
  exact ⟨callB_of n hts (good_cons h4 good_gw) rfl rfl rfl (hts _ h3) (hts _ h1) h6 hR, hts _ h2⟩
theorem pc_blind {av : List Value} {La : la_L} {mu : la_M} : FrameBlind (va_Pc av (fun U => la_P D cls5 La mu U.heap ∧ ki D E U)) := fun a U g mk q => ⟨q.1, q.2.1, va_K.moved (u := U) (U := U.calling g mk a) (Vm.Alike.refl U.vm) q.2.2⟩
theorem pc_here {av : List Value} (hK : ki D E s) (hP : la_P D cls5 La mu H) (U : State) (hU : U.heap = H) (hW : s.WarmedH U.vm) : va_Pc av (fun U => la_P D cls5 La mu U.heap ∧ ki D E U) av.toArray U := ⟨rfl, by rw [hU]; exact hP, ki.moved hW.alike hK⟩
theorem la_recv {ci : Nat} {f : (Nat → Int32) → va_E} {fs : List Value} {T : u_T} {N : Nat} {ty0 : Nat → FieldType} (hK : ki D E s) (hP : la_P D cls5 La mu H) (kcc : kc ci C T N ty0) (ha : La b = some f) (hf : f (mu b) = .inr (ci, fs)) : ∃ cell : Cell, H[b]? = some cell ∧ cell.vm.isStatics = false ∧ s.vm.findClass C = some cell.cls :=
  va_recv (q0 := 0) hK (hP.one ha) kcc.1 (by rw [hf]; rfl)
/-- a virtual call of a read-only method -/
theorem cr_V (Z : zz own cc nL D E p s m c args) (K : kv own index y C bytes maxL ret n) (hM : cr l y bytes maxL ret fr lo D E La (.ref b :: As) mu v) (hP : la_P D cls5 La mu H) (hrc : ∃ cell : Cell, H[b]? = some cell ∧ cell.vm.isStatics = false ∧ s.vm.findClass C = some cell.cls)
    (rest : List Value) (hst : st0 = As.reverse ++ .ref b :: rest) (hn : As.length = n) (hsize : ls.size = nL) (hW : (rest.map fun v => v.category).sum ≤ 8) (hR : fr + 1 ≤ R.frames ∧ 8 + (maxL + 11) + lo ≤ R.locals) (hcs : cells ≤ R.cells ∧ slots ≤ R.slots) (hdg : decode cc pc = .ok (.invokevirtual index, 3))
    (kk : W p l e R s m args below meth c H locs cells slots Q (F0 m (pc + 3) ls (v.toList ++ rest))) : W p l e R s m args below meth c H locs cells slots Q (F0 m pc ls st0) :=
  cr_call (va_runV (As := As) (rest := rest) (b := b) ⟨Z.1, Z.2.1, Z.2.2.1, Z.2.2.2.1, Z.2.2.2.2.1⟩ hM (kv.words Z K hR) ⟨pc_blind, hrc, pc_here Z.2.2.2.2.2 hP⟩ rfl hn hsize hst (lv_room hW) hdg hcs) kk
/-- a static call of a read-only method -/
theorem cr_S (Z : zz own cc nL D E p s m c args) (K : ks own index y bytes maxL ret n) (hM : cr l y bytes maxL ret fr lo D E La As mu v) (hP : la_P D cls5 La mu H)
    (rest : List Value) (hst : st0 = As.reverse ++ rest) (hn : As.length = n) (hsize : ls.size = nL) (hW : (rest.map fun v => v.category).sum ≤ 8) (hR : fr + 1 ≤ R.frames ∧ 8 + (maxL + 11) + lo ≤ R.locals) (hcs : cells ≤ R.cells ∧ slots ≤ R.slots) (hdg : decode cc pc = .ok (.invokestatic index, 3))
    (kk : W p l e R s m args below meth c H locs cells slots Q (F0 m (pc + 3) ls (v.toList ++ rest))) : W p l e R s m args below meth c H locs cells slots Q (F0 m pc ls st0) :=
  cr_call (va_runS (As := As) (rest := rest) ⟨Z.1, Z.2.1, Z.2.2.1, Z.2.2.2.1, Z.2.2.2.2.1⟩ hM (ks.words Z K hR) ⟨pc_blind, pc_here Z.2.2.2.2.2 hP⟩ rfl hn hsize hst (lv_room hW) hdg hcs) kk
/-- a virtual call of a writing method -/
theorem cw_V (Z : zz own cc nL D E p s m c args) (K : kv own index y C bytes maxL ret n) (hM : cw l y bytes maxL ret fr lo D E La (.ref b :: As) mu v mu1) (hP : la_P D cls5 La mu H) (hS : va_S A0 H0 H locs) (hA : ∀ q, la_A La q → A0 q) (hrc : ∃ cell : Cell, H[b]? = some cell ∧ cell.vm.isStatics = false ∧ s.vm.findClass C = some cell.cls)
    (rest : List Value) (hst : st0 = As.reverse ++ .ref b :: rest) (hn : As.length = n) (hsize : ls.size = nL) (hW : (rest.map fun v => v.category).sum ≤ 8) (hR : fr + 1 ≤ R.frames ∧ 8 + (maxL + 11) + lo ≤ R.locals) (hcs : cells ≤ R.cells ∧ slots ≤ R.slots) (hdg : decode cc pc = .ok (.invokevirtual index, 3))
    (kk : ∀ (H1 : Heap) (locs1 : List Loc), la_P D cls5 La mu1 H1 → (∀ q : Nat, q < H.size → ¬ la_A La q → H1[q]? = H[q]?) → va_S A0 H0 H1 locs1 → W p l e R s m args below meth c H1 locs1 cells slots Q (F0 m (pc + 3) ls (v.toList ++ rest))) : W p l e R s m args below meth c H locs cells slots Q (F0 m pc ls st0) :=
  cw_call (va_runV (As := As) (rest := rest) (b := b) ⟨Z.1, Z.2.1, Z.2.2.1, Z.2.2.2.1, Z.2.2.2.2.1⟩ hM (kv.words Z K hR) ⟨pc_blind, hrc, pc_here Z.2.2.2.2.2 hP⟩ rfl hn hsize hst (lv_room hW) hdg hcs) hS hA kk
/-- a static call of a writing method -/
theorem cw_S (Z : zz own cc nL D E p s m c args) (K : ks own index y bytes maxL ret n) (hM : cw l y bytes maxL ret fr lo D E La As mu v mu1) (hP : la_P D cls5 La mu H) (hS : va_S A0 H0 H locs) (hA : ∀ q, la_A La q → A0 q)
    (rest : List Value) (hst : st0 = As.reverse ++ rest) (hn : As.length = n) (hsize : ls.size = nL) (hW : (rest.map fun v => v.category).sum ≤ 8) (hR : fr + 1 ≤ R.frames ∧ 8 + (maxL + 11) + lo ≤ R.locals) (hcs : cells ≤ R.cells ∧ slots ≤ R.slots) (hdg : decode cc pc = .ok (.invokestatic index, 3))
    (kk : ∀ (H1 : Heap) (locs1 : List Loc), la_P D cls5 La mu1 H1 → (∀ q : Nat, q < H.size → ¬ la_A La q → H1[q]? = H[q]?) → va_S A0 H0 H1 locs1 → W p l e R s m args below meth c H1 locs1 cells slots Q (F0 m (pc + 3) ls (v.toList ++ rest))) : W p l e R s m args below meth c H locs cells slots Q (F0 m pc ls st0) :=
  cw_call (va_runS (As := As) (rest := rest) ⟨Z.1, Z.2.1, Z.2.2.1, Z.2.2.2.1, Z.2.2.2.2.1⟩ hM (ks.words Z K hR) ⟨pc_blind, pc_here Z.2.2.2.2.2 hP⟩ rfl hn hsize hst (lv_room hW) hdg hcs) hS hA kk
variable {a ci N : Nat} {T : u_T} {ty0 : Nat → FieldType} {f : (Nat → Int32) → va_E} {ref : String}
/-- a field read -/
theorem g_f (Z : zz own cc nL D E p s m c args) (K : kc ci C T N ty0) (hP : la_P D cls5 La mu H) (ha : La a = some f) {fs : List Value} (hf : f (mu a) = .inr (ci, fs)) (k : Nat) (hk : k < N) (hw : Cond.fieldLink own index ref (T k).2.1 (T k).2.2.1 ∈ gw) (hr : (T k).1 = ref) {v : Value} (hv : fs[k]? = some v) (hdg : decode cc pc = .ok (.getfield index, 3))
    (kk : W p l e R s m args below meth c H locs cells slots Q (F0 m (pc + 3) ls (v :: rest))) : W p l e R s m args below meth c H locs cells slots Q (F0 m pc ls (.ref a :: rest)) :=
  la_get Z.1 Z.2.1 Z.2.2.2.2.1 K.2.1 Z.2.2.2.1 Z.2.2.2.2.2 hP ha hf K.1 k hk (Z.2.2.2.2.1 _ hw) (fun x h => by rw [← hr]; exact h) hv hdg kk
/-- an int field read, its value by a name -/
theorem g_i (Z : zz own cc nL D E p s m c args) (K : kc ci C T N ty0) (hP : la_P D cls5 La mu H) (ha : La a = some f) {fs : List Value} (hf : f (mu a) = .inr (ci, fs)) (k : Nat) (hk : k < N) (hw : Cond.fieldLink own index ref (T k).2.1 (T k).2.2.1 ∈ gw) (hr : (T k).1 = ref) {x v : Int32} (hv : fs[k]? = some (.int x)) (hx : x = v) (hdg : decode cc pc = .ok (.getfield index, 3))
    (kk : W p l e R s m args below meth c H locs cells slots Q (F0 m (pc + 3) ls (.int v :: rest))) : W p l e R s m args below meth c H locs cells slots Q (F0 m pc ls (.ref a :: rest)) := by
  subst hx
  exact g_f Z K hP ha hf k hk hw hr hv hdg kk
/-- a field written -/
theorem p_f (Z : zz own cc nL D E p s m c args) (K : kc ci C T N ty0) (hP : la_P D cls5 La mu H) (hS : va_S (la_A La) H0 H locs) (ha : La a = some f) {fs : List Value} (hf : f (mu a) = .inr (ci, fs)) (k : Nat) (hk : k < N) (hw : Cond.fieldLink own index ref (T k).2.1 (T k).2.2.1 ∈ gw) (hr : (T k).1 = ref) (hfin : (T k).2.2.2 = false) {x : Int32} (hn : narrow (ty0 k) (.int x) = .int x ∧ fits (ty0 k) (.int x) = true) (hl : k < fs.length) (hf' : f (upd (mu a) k x) = .inr (ci, fs.set k (.int x))) (hdg : decode cc pc = .ok (.putfield index, 3))
    (kk : ∀ (H1 : Heap) (locs1 : List Loc), la_P D cls5 La (la_up mu a k x) H1 → va_S (la_A La) H0 H1 locs1 → W p l e R s m args below meth c H1 locs1 cells slots Q (F0 m (pc + 3) ls rest)) : W p l e R s m args below meth c H locs cells slots Q (F0 m pc ls (.int x :: .ref a :: rest)) :=
  la_put Z.1 Z.2.1 Z.2.2.2.2.1 K.2.1 ty0 K.2.2.1 K.2.2.2 Z.2.2.2.1 Z.2.2.2.2.2 hP hS ha hf K.1 k hk (Z.2.2.2.2.1 _ hw) (fun x h => by rw [← hr]; exact h) hfin (K.2.2.1 k hk) hn.1 hn.2 hl hf' hdg kk
end CC
end
section
/-! the static facts of each call, by caller class and pool place (written by wip/whole/calls.py) -/
theorem kv_Ch_29 : kv R_Ch 29 y_Ch_fitToInsert R_Ch b_Ch_fitToInsert 4 none 2 := ⟨wl_Ch_29, wim_Ch_fitToInsert, ws_Ch_fitToInsert, wi_Ch, wc_Ch_fitToInsert, by decide +kernel⟩
theorem kv_Ch_33 : kv R_Ch 33 y_Ch_fitToDelete R_Ch b_Ch_fitToDelete 2 none 1 := ⟨wl_Ch_33, wim_Ch_fitToDelete, ws_Ch_fitToDelete, wi_Ch, wc_Ch_fitToDelete, by decide +kernel⟩
theorem kv_Ch_25 : kv R_Ch 25 y_Ch_fitTo R_Ch b_Ch_fitTo 4 none 3 := ⟨wl_Ch_25, wim_Ch_fitTo, ws_Ch_fitTo, wi_Ch, wc_Ch_fitTo, by decide +kernel⟩
theorem kv_Er_124 : kv R_Er 124 y_Tx_isSameAs R_Tx b_Tx_isSameAs 3 (some .boolean) 1 := ⟨wl_Er_124, wim_Tx_isSameAs, ws_Tx_isSameAs, wi_Tx, wc_Tx_isSameAs, by decide +kernel⟩
theorem ks_Er_35 : ks R_Er 35 y_Er_checkClient b_Er_checkClient 1 none 1 := ⟨wl_Er_35, wsm_Er_checkClient, wi_Er, wc_Er_checkClient, by decide +kernel⟩
theorem kv_Er_74 : kv R_Er 74 y_Er_way R_Er b_Er_way 3 (some (.object "EditRelay$Way")) 2 := ⟨wl_Er_74, wim_Er_way, ws_Er_way, wi_Er, wc_Er_way, by decide +kernel⟩
theorem kv_Er_106 : kv R_Er 106 y_Wy_openCount R_Wy b_Wy_openCount 1 (some .int) 0 := ⟨wl_Er_106, wim_Wy_openCount, ws_Wy_openCount, wi_Wy, wc_Wy_openCount, by decide +kernel⟩
theorem kv_Er_111 : kv R_Er 111 y_Wy_openChange R_Wy b_Wy_openChange 2 (some (.object "EditRelay$Change")) 1 := ⟨wl_Er_111, wim_Wy_openChange, ws_Wy_openChange, wi_Wy, wc_Wy_openChange, by decide +kernel⟩
theorem kv_Er_82 : kv R_Er 82 y_Wy_isFull R_Wy b_Wy_isFull 1 (some .boolean) 0 := ⟨wl_Er_82, wim_Wy_isFull, ws_Wy_isFull, wi_Wy, wc_Wy_isFull, by decide +kernel⟩
theorem kv_Er_102 : kv R_Er 102 y_Wy_waitingCount R_Wy b_Wy_waitingCount 1 (some .int) 0 := ⟨wl_Er_102, wim_Wy_waitingCount, ws_Wy_waitingCount, wi_Wy, wc_Wy_waitingCount, by decide +kernel⟩
theorem ks_Er_66 : ks R_Er 66 y_Er_checkHasLetter b_Er_checkHasLetter 2 none 2 := ⟨wl_Er_66, wsm_Er_checkHasLetter, wi_Er, wc_Er_checkHasLetter, by decide +kernel⟩
theorem kv_Er_59 : kv R_Er 59 y_Er_checkMayMakeChange R_Er b_Er_checkMayMakeChange 2 none 1 := ⟨wl_Er_59, wim_Er_checkMayMakeChange, ws_Er_checkMayMakeChange, wi_Er, wc_Er_checkMayMakeChange, by decide +kernel⟩
theorem kv_Er_62 : kv R_Er 62 y_Er_makeChange R_Er b_Er_makeChange 5 none 4 := ⟨wl_Er_62, wim_Er_makeChange, ws_Er_makeChange, wi_Er, wc_Er_makeChange, by decide +kernel⟩
theorem ks_Er_121 : ks R_Er 121 y_Er_checkSite b_Er_checkSite 1 none 1 := ⟨wl_Er_121, wsm_Er_checkSite, wi_Er, wc_Er_checkSite, by decide +kernel⟩
theorem kv_Er_145 : kv R_Er 145 y_Tx_perform R_Tx b_Tx_perform 2 none 1 := ⟨wl_Er_145, wim_Tx_perform, ws_Tx_perform, wi_Tx, wc_Tx_perform, by decide +kernel⟩
theorem kv_Er_95 : kv R_Er 95 y_Wy_send R_Wy b_Wy_send 4 none 2 := ⟨wl_Er_95, wim_Wy_send, ws_Wy_send, wi_Wy, wc_Wy_send, by decide +kernel⟩
theorem ks_Er_78 : ks R_Er 78 y_Er_checkSomeWaits b_Er_checkSomeWaits 1 none 1 := ⟨wl_Er_78, wsm_Er_checkSomeWaits, wi_Er, wc_Er_checkSomeWaits, by decide +kernel⟩
theorem kv_Er_88 : kv R_Er 88 y_Er_receive R_Er b_Er_receive 5 (some (.object "EditRelay$Change")) 3 := ⟨wl_Er_88, wim_Er_receive, ws_Er_receive, wi_Er, wc_Er_receive, by decide +kernel⟩
theorem kv_Er_149 : kv R_Er 149 y_Wy_oldestChange R_Wy b_Wy_oldestChange 1 (some (.object "EditRelay$Change")) 0 := ⟨wl_Er_149, wim_Wy_oldestChange, ws_Wy_oldestChange, wi_Wy, wc_Wy_oldestChange, by decide +kernel⟩
theorem kv_Er_153 : kv R_Er 153 y_Wy_oldestHeard R_Wy b_Wy_oldestHeard 1 (some .int) 0 := ⟨wl_Er_153, wim_Wy_oldestHeard, ws_Wy_oldestHeard, wi_Wy, wc_Wy_oldestHeard, by decide +kernel⟩
theorem kv_Er_156 : kv R_Er 156 y_Wy_forget R_Wy b_Wy_forget 2 none 1 := ⟨wl_Er_156, wim_Wy_forget, ws_Wy_forget, wi_Wy, wc_Wy_forget, by decide +kernel⟩
theorem kv_Er_159 : kv R_Er 159 y_Wy_fitOpenChanges R_Wy b_Wy_fitOpenChanges 4 none 1 := ⟨wl_Er_159, wim_Wy_fitOpenChanges, ws_Wy_fitOpenChanges, wi_Wy, wc_Wy_fitOpenChanges, by decide +kernel⟩
theorem kv_Lw_46 : kv R_Lw 46 y_Er_change R_Er b_Er_change 6 (some .int) 3 := ⟨wl_Lw_46, wim_Er_change, ws_Er_change, wi_Er, wc_Er_change, by decide +kernel⟩
theorem kv_Lw_19 : kv R_Lw 19 y_Er_delete R_Er b_Er_delete 5 (some .int) 2 := ⟨wl_Lw_19, wim_Er_delete, ws_Er_delete, wi_Er, wc_Er_delete, by decide +kernel⟩
theorem kv_Lw_40 : kv R_Lw 40 y_Er_got R_Er b_Er_got 3 (some .int) 2 := ⟨wl_Lw_40, wim_Er_got, ws_Er_got, wi_Er, wc_Er_got, by decide +kernel⟩
theorem kv_Lw_7 : kv R_Lw 7 y_Er_insert R_Er b_Er_insert 5 (some .int) 3 := ⟨wl_Lw_7, wim_Er_insert, ws_Er_insert, wi_Er, wc_Er_insert, by decide +kernel⟩
theorem kv_Lw_65 : kv R_Lw 65 y_Mo_insert R_Mo b_Mo_insert 5 (some .int) 3 := ⟨wl_Lw_65, wim_Mo_insert, ws_Mo_insert, wi_Mo, wc_Mo_insert, by decide +kernel⟩
theorem kv_Lw_66 : kv R_Lw 66 y_Mo_thrown R_Mo b_Mo_thrown 1 (some .int) 0 := ⟨wl_Lw_66, wim_Mo_thrown, ws_Mo_thrown, wi_Mo, wc_Mo_thrown, by decide +kernel⟩
theorem kv_Lw_73 : kv R_Lw 73 y_Mo_delete R_Mo b_Mo_delete 4 (some .int) 2 := ⟨wl_Lw_73, wim_Mo_delete, ws_Mo_delete, wi_Mo, wc_Mo_delete, by decide +kernel⟩
theorem kv_Lw_77 : kv R_Lw 77 y_Mo_nod R_Mo b_Mo_nod 2 none 1 := ⟨wl_Lw_77, wim_Mo_nod, ws_Mo_nod, wi_Mo, wc_Mo_nod, by decide +kernel⟩
theorem kv_Lw_81 : kv R_Lw 81 y_Mo_push R_Mo b_Mo_push 4 (some .int) 1 := ⟨wl_Lw_81, wim_Mo_push, ws_Mo_push, wi_Mo, wc_Mo_push, by decide +kernel⟩
theorem kv_Lw_84 : kv R_Lw 84 y_Mo_pull R_Mo b_Mo_pull 2 (some .int) 1 := ⟨wl_Lw_84, wim_Mo_pull, ws_Mo_pull, wi_Mo, wc_Mo_pull, by decide +kernel⟩
theorem kv_Lw_88 : kv R_Lw 88 y_Mo_waiting R_Mo b_Mo_waiting 3 (some .int) 2 := ⟨wl_Lw_88, wim_Mo_waiting, ws_Mo_waiting, wi_Mo, wc_Mo_waiting, by decide +kernel⟩
theorem kv_Lw_91 : kv R_Lw 91 y_Mo_got R_Mo b_Mo_got 3 (some .int) 2 := ⟨wl_Lw_91, wim_Mo_got, ws_Mo_got, wi_Mo, wc_Mo_got, by decide +kernel⟩
theorem kv_Lw_94 : kv R_Lw 94 y_Mo_open R_Mo b_Mo_open 3 (some .int) 2 := ⟨wl_Lw_94, wim_Mo_open, ws_Mo_open, wi_Mo, wc_Mo_open, by decide +kernel⟩
theorem kv_Lw_98 : kv R_Lw 98 y_Mo_change R_Mo b_Mo_change 5 (some .int) 3 := ⟨wl_Lw_98, wim_Mo_change, ws_Mo_change, wi_Mo, wc_Mo_change, by decide +kernel⟩
theorem kv_Lw_101 : kv R_Lw 101 y_Mo_size R_Mo b_Mo_size 2 (some .int) 1 := ⟨wl_Lw_101, wim_Mo_size, ws_Mo_size, wi_Mo, wc_Mo_size, by decide +kernel⟩
theorem kv_Lw_104 : kv R_Lw 104 y_Mo_letter R_Mo b_Mo_letter 3 (some .int) 2 := ⟨wl_Lw_104, wim_Mo_letter, ws_Mo_letter, wi_Mo, wc_Mo_letter, by decide +kernel⟩
theorem kv_Lw_105 : kv R_Lw 105 y_Er_alike R_Er b_Er_alike 2 (some .boolean) 0 := ⟨wl_Lw_105, wim_Er_alike, ws_Er_alike, wi_Er, wc_Er_alike, by decide +kernel⟩
theorem kv_Lw_109 : kv R_Lw 109 y_Mo_alike R_Mo b_Mo_alike 4 (some .boolean) 0 := ⟨wl_Lw_109, wim_Mo_alike, ws_Mo_alike, wi_Mo, wc_Mo_alike, by decide +kernel⟩
theorem kv_Lw_110 : kv R_Lw 110 y_Er_quiet R_Er b_Er_quiet 2 (some .boolean) 0 := ⟨wl_Lw_110, wim_Er_quiet, ws_Er_quiet, wi_Er, wc_Er_quiet, by decide +kernel⟩
theorem kv_Lw_113 : kv R_Lw 113 y_Mo_quiet R_Mo b_Mo_quiet 3 (some .boolean) 0 := ⟨wl_Lw_113, wim_Mo_quiet, ws_Mo_quiet, wi_Mo, wc_Mo_quiet, by decide +kernel⟩
theorem kv_Lw_53 : kv R_Lw 53 y_Er_letter R_Er b_Er_letter 4 (some .int) 2 := ⟨wl_Lw_53, wim_Er_letter, ws_Er_letter, wi_Er, wc_Er_letter, by decide +kernel⟩
theorem kv_Lw_23 : kv R_Lw 23 y_Er_nod R_Er b_Er_nod 2 none 1 := ⟨wl_Lw_23, wim_Er_nod, ws_Er_nod, wi_Er, wc_Er_nod, by decide +kernel⟩
theorem kv_Lw_43 : kv R_Lw 43 y_Er_open R_Er b_Er_open 3 (some .int) 2 := ⟨wl_Lw_43, wim_Er_open, ws_Er_open, wi_Er, wc_Er_open, by decide +kernel⟩
theorem kv_Lw_33 : kv R_Lw 33 y_Er_pull R_Er b_Er_pull 2 (some .int) 1 := ⟨wl_Lw_33, wim_Er_pull, ws_Er_pull, wi_Er, wc_Er_pull, by decide +kernel⟩
theorem kv_Lw_27 : kv R_Lw 27 y_Er_push R_Er b_Er_push 4 (some .int) 1 := ⟨wl_Lw_27, wim_Er_push, ws_Er_push, wi_Er, wc_Er_push, by decide +kernel⟩
theorem kv_Lw_50 : kv R_Lw 50 y_Er_size R_Er b_Er_size 2 (some .int) 1 := ⟨wl_Lw_50, wim_Er_size, ws_Er_size, wi_Er, wc_Er_size, by decide +kernel⟩
theorem kv_Lw_36 : kv R_Lw 36 y_Er_waiting R_Er b_Er_waiting 3 (some .int) 2 := ⟨wl_Lw_36, wim_Er_waiting, ws_Er_waiting, wi_Er, wc_Er_waiting, by decide +kernel⟩
theorem kv_Mo_84 : kv R_Mo 84 y_Mo_apply R_Mo b_Mo_apply 4 none 1 := ⟨wl_Mo_84, wim_Mo_apply, ws_Mo_apply, wi_Mo, wc_Mo_apply, by decide +kernel⟩
theorem ks_Mo_87 : ks R_Mo 87 y_Mo_line b_Mo_line 2 (some .int) 2 := ⟨wl_Mo_87, wsm_Mo_line, wi_Mo, wc_Mo_line, by decide +kernel⟩
theorem kv_Mo_91 : kv R_Mo 91 y_Mo_send R_Mo b_Mo_send 4 none 1 := ⟨wl_Mo_91, wim_Mo_send, ws_Mo_send, wi_Mo, wc_Mo_send, by decide +kernel⟩
theorem ks_Mo_94 : ks R_Mo 94 y_Mo_isClient b_Mo_isClient 1 (some .boolean) 1 := ⟨wl_Mo_94, wsm_Mo_isClient, wi_Mo, wc_Mo_isClient, by decide +kernel⟩
theorem kv_Mo_98 : kv R_Mo 98 y_Mo_loaded R_Mo b_Mo_loaded 2 (some .boolean) 1 := ⟨wl_Mo_98, wim_Mo_loaded, ws_Mo_loaded, wi_Mo, wc_Mo_loaded, by decide +kernel⟩
theorem kv_Mo_101 : kv R_Mo 101 y_Mo_begin R_Mo b_Mo_begin 5 none 4 := ⟨wl_Mo_101, wim_Mo_begin, ws_Mo_begin, wi_Mo, wc_Mo_begin, by decide +kernel⟩
theorem ks_Mo_72 : ks R_Mo 72 y_Mo_back b_Mo_back 1 (some .int) 1 := ⟨wl_Mo_72, wsm_Mo_back, wi_Mo, wc_Mo_back, by decide +kernel⟩
theorem kv_Mo_76 : kv R_Mo 76 y_Mo_forget R_Mo b_Mo_forget 3 none 1 := ⟨wl_Mo_76, wim_Mo_forget, ws_Mo_forget, wi_Mo, wc_Mo_forget, by decide +kernel⟩
theorem ks_Mo_80 : ks R_Mo 80 y_Mo_fitted b_Mo_fitted 6 (some .int) 6 := ⟨wl_Mo_80, wsm_Mo_fitted, wi_Mo, wc_Mo_fitted, by decide +kernel⟩
theorem ks_Mo_109 : ks R_Mo 109 y_Mo_isSite b_Mo_isSite 1 (some .boolean) 1 := ⟨wl_Mo_109, wsm_Mo_isSite, wi_Mo, wc_Mo_isSite, by decide +kernel⟩
theorem kv_Mo_105 : kv R_Mo 105 y_Mo_get R_Mo b_Mo_get 9 none 2 := ⟨wl_Mo_105, wim_Mo_get, ws_Mo_get, wi_Mo, wc_Mo_get, by decide +kernel⟩
theorem kv_Tx_28 : kv R_Tx 28 y_Tx_put R_Tx b_Tx_put 3 none 2 := ⟨wl_Tx_28, wim_Tx_put, ws_Tx_put, wi_Tx, wc_Tx_put, by decide +kernel⟩
theorem kv_Tx_32 : kv R_Tx 32 y_Tx_remove R_Tx b_Tx_remove 2 none 1 := ⟨wl_Tx_32, wim_Tx_remove, ws_Tx_remove, wi_Tx, wc_Tx_remove, by decide +kernel⟩
theorem kv_Wy_36 : kv R_Wy 36 y_Wy_openCount R_Wy b_Wy_openCount 1 (some .int) 0 := ⟨wl_Wy_36, wim_Wy_openCount, ws_Wy_openCount, wi_Wy, wc_Wy_openCount, by decide +kernel⟩
theorem kv_Wy_54 : kv R_Wy 54 y_Wy_openChange R_Wy b_Wy_openChange 2 (some (.object "EditRelay$Change")) 1 := ⟨wl_Wy_54, wim_Wy_openChange, ws_Wy_openChange, wi_Wy, wc_Wy_openChange, by decide +kernel⟩
theorem ks_Wy_58 : ks R_Wy 58 y_Ch_fitToEachOther b_Ch_fitToEachOther 4 none 2 := ⟨wl_Wy_58, wsm_Ch_fitToEachOther, wi_Ch, wc_Ch_fitToEachOther, by decide +kernel⟩
theorem ks_Wy_48 : ks R_Wy 48 y_Ma_max b_Ma_max 2 (some .int) 2 := ⟨wl_Wy_48, wsm_Ma_max, wi_Ma, wc_Ma_max, by decide +kernel⟩
theorem kv_Wy_40 : kv R_Wy 40 y_Wy_slotOf R_Wy b_Wy_slotOf 2 (some .int) 1 := ⟨wl_Wy_40, wim_Wy_slotOf, ws_Wy_slotOf, wi_Wy, wc_Wy_slotOf, by decide +kernel⟩
theorem kv_Wy_44 : kv R_Wy 44 y_Ch_copyFrom R_Ch b_Ch_copyFrom 2 none 1 := ⟨wl_Wy_44, wim_Ch_copyFrom, ws_Ch_copyFrom, wi_Ch, wc_Ch_copyFrom, by decide +kernel⟩
theorem ks_Wy_62 : ks R_Wy 62 y_Ma_floorMod b_Ma_floorMod 3 (some .int) 2 := ⟨wl_Wy_62, wsm_Ma_floorMod, wi_Ma, wc_Ma_floorMod, by decide +kernel⟩
end
section
/-! System.arraycopy within one char array; more rows for arrays of the world -/
section LCP
variable {p : Program} {l : Launch} {e : Env} {R : Room} {s : State} {m : MethodId} {args : Array Value} {below : List Frame} {meth : Method} {c : Code} {H : Heap} {locs : List Loc} {cells slots : Nat} {Q : State → Prop}
variable {cc : ByteArray} {nL pc : Nat} {ls : Array Slot} {rest : List Value} {D : va_G} {E : Nat → ClassId} {La : la_L} {mu : la_M} {a : Nat} {f : (Nat → Int32) → va_E} {H0 : Heap} {own : String} {index : Nat}
theorem la_copyc (Z : zz own cc nL D E p s m c args) (hw : Cond.methodLink own index arraycopyName ∈ gw) (hP : la_P D cls5 La mu H) (hS : va_S (la_A La) H0 H locs) {n : Nat} (ha : La a = some f) (hf : ∀ g, f g = .inl (E 1, n, .inl g)) {sp dp k : Int32} (sp0 dp0 k0 : Nat) (es : sp = nI sp0) (ed : dp = nI dp0) (ek : k = nI k0) (h1 : sp0 + k0 ≤ n) (h2 : dp0 + k0 ≤ n) (hn : n < 2 ^ 31) (hfit : ∀ j, fits .char (.int (mu a j)) = true)
    (hsize : ls.size = nL) (hframes : 1 ≤ R.frames) (hlocals : (rest.map fun v => v.category).sum + (nativeFrameWords "java/lang/System" "arraycopy" 5 + 11) ≤ R.locals) (hdg : decode cc pc = .ok (.invokestatic index, 3))
    (kk : ∀ (H1 : Heap) (locs1 : List Loc), la_P D cls5 La (la_set mu a (va_cpy (mu a) (mu a) sp0 dp0 k0)) H1 → va_S (la_A La) H0 H1 locs1 → W p l e R s m args below meth c H1 locs1 cells slots Q (F0 m (pc + 3) ls rest)) : W p l e R s m args below meth c H locs cells slots Q (F0 m pc ls (.int k :: .int dp :: .ref a :: .int sp :: .ref a :: rest)) := by
  subst es; subst ed; subst ek
  obtain ⟨hx, hb, hml, hown, hts, hK⟩ := Z
  have hK : va_K D cls5 (tyE E) s := hK
  have h0 := hP a f ha
  rw [hf] at h0
  have hc : H[a]? = some (vp_cell (E 1) (n, .inl (mu a))) := h0
  have hl : a < H.size := (Array.getElem?_eq_some_iff.mp hc).1
  intro T hT X
  obtain ⟨-, kA, hkA, cm, hkk⟩ := (hK.2 1 (E 1, .char) rfl).1 n (fun j => .int (mu a j))
  obtain ⟨vm', X', step⟩ := X.arraycopy hx hown (hts _ hw) (hts _ wna_arraycopy) (hts _ wsm_arraycopy) (hts _ wi_System) (src := a) (dst := a) (cs := vp_cell (E 1) (n, .inl (mu a))) (cd := vp_cell (E 1) (n, .inl (mu a))) (srcPos := nI sp0) (destPos := nI dp0) (n := nI k0) (by rw [hT]; exact hc) (by rw [hT]; exact hc)
    (fun _ h => by cases h) (fun _ h => by cases h) (fun h => by cases h) (fun h => by cases h) hkA hkA hkk hkk (by simp [refKind]) (nI_pos (by omega)) (nI_pos (by omega)) (nI_pos (by omega))
    (by rw [nI_toInt (by omega), nI_toInt (by omega)]; show ¬ _ > ((arrV (E 1) n (fun j => .int (mu a j))).slots.size : Int); rw [arrV_size]; omega)
    (by rw [nI_toInt (by omega), nI_toInt (by omega)]; show ¬ _ > ((arrV (E 1) n (fun j => .int (mu a j))).slots.size : Int); rw [arrV_size]; omega)
    (fun vm₁ _ i hi => by
      rw [nI_clamp (by omega)] at hi
      have e1 : (vp_cell (E 1) (n, .inl (mu a))).slots.getD ((nI sp0).toNatClampNeg + i) .null = .int (mu a ((nI sp0).toNatClampNeg + i)) := by
        show (arrV (E 1) n (fun j => .int (mu a j))).slots.getD _ _ = _
        rw [Array.getD_eq_getD_getElem?, arrV_read _ _ (by rw [nI_clamp (by omega)]; omega)]
        rfl
      refine ⟨?_, ?_⟩
      · rw [e1]
        exact hfit _
      · rw [e1]
        exact trivial)
    (g := F0 m pc ls (.int (nI k0) :: .int (nI dp0) :: .ref a :: .int (nI sp0) :: .ref a :: rest)) rfl (by rw [hml]; exact hsize) (rest := rest) rfl (by rw [hb]; exact hdg) hframes (by show 2 * 0 + _ + _ ≤ _; omega)
  have e1 : copied (vp_cell (E 1) (n, .inl (mu a))) (vp_cell (E 1) (n, .inl (mu a))) (nI sp0) (nI dp0) (nI k0) = vp_cell (E 1) (n, .inl (va_cpy (mu a) (mu a) sp0 dp0 k0)) := by
    have h3 := va_copied (fun z => Value.int z) (E 1) (E 1) (n0 := n) (n1 := n) (sp := sp0) (dp := dp0) (n := k0) (mu a) (mu a) h1
    show ((vp_cell (E 1) (n, .inl (mu a))).storeRun (nI dp0).toNatClampNeg ((vp_cell (E 1) (n, .inl (mu a))).stretch (nI sp0).toNatClampNeg (nI k0).toNatClampNeg)) = _
    rw [nI_clamp (by omega), nI_clamp (by omega), nI_clamp (by omega)]
    exact h3
  rw [e1] at X' step
  have hheap : ((T.setVm vm').setCell a (vp_cell (E 1) (n, .inl (va_cpy (mu a) (mu a) sp0 dp0 k0)))).heap = H.setIfInBounds a (vp_cell (E 1) (n, .inl (va_cpy (mu a) (mu a) sp0 dp0 k0))) := by rw [← hT]; rfl
  have oq : ∀ q : Nat, q ≠ a → (H.setIfInBounds a (vp_cell (E 1) (n, .inl (va_cpy (mu a) (mu a) sp0 dp0 k0))))[q]? = H[q]? := fun q hq => by simp [Array.getElem?_setIfInBounds, Ne.symm hq]
  have h1' : va_at D cls5 (a, f (va_cpy (mu a) (mu a) sp0 dp0 k0)) (H.setIfInBounds a (vp_cell (E 1) (n, .inl (va_cpy (mu a) (mu a) sp0 dp0 k0)))) := by
    rw [hf]
    show (H.setIfInBounds a _)[a]? = some _
    simp [Array.getElem?_setIfInBounds, hl]
  obtain ⟨t, a1, b1⟩ := kk _ _ (hP.set ha h1' oq) ⟨by simp; exact hS.1, fun q g1 g2 => by
      rw [oq q (fun e9 => g2 (by rw [e9]; exact ⟨f, ha⟩))]
      exact hS.2.1 q g1 g2, fun q hq => by
      rcases List.mem_append.mp hq with h | h
      · exact hS.2.2 q h
      · obtain ⟨z, -, hz⟩ := List.mem_map.mp h
        rw [← hz]
        exact ⟨f, ha⟩⟩ _ hheap X'
  exact ⟨t, step t a1, b1⟩
end LCP
theorem nI_s1 {a : Nat} (h : 1 ≤ a) : nI a - 1 = nI (a - 1) := pk_sub (b := 1) h
section LVV
variable {p : Program} {l : Launch} {e : Env} {R : Room} {s : State} {m : MethodId} {args : Array Value} {below : List Frame} {meth : Method} {c : Code} {H : Heap} {locs : List Loc} {cells slots : Nat} {Q : State → Prop}
variable {cc : ByteArray} {pc : Nat} {ls : Array Slot} {rest : List Value} {D : va_G} {cl : List vw_C} {La : la_L} {mu : la_M} {a : Nat} {f : (Nat → Int32) → va_E} {tys : List (ClassId × FieldType)}
theorem la_ialdv (hexec : p.tables.exec = Jvm.exec) (hb : c.code = cc) (hK : va_K D cl tys s) (hP : la_P D cl La mu H) (t0 : Nat) {cA : ClassId} {n : Nat} (ha : La a = some f) (hf : f (mu a) = .inl (cA, n, .inl (mu a))) (ht : tys[t0]? = some (cA, .int)) {i : Int32} (j : Nat) (hi : i = nI j) (hj : j < n) (hn : n < 2 ^ 31) {v : Int32} (hv : mu a j = v) (hdg : decode cc pc = .ok (.iaload, 1))
    (kk : W p l e R s m args below meth c H locs cells slots Q (F0 m (pc + 1) ls (.int v :: rest))) : W p l e R s m args below meth c H locs cells slots Q (F0 m pc ls (.int i :: .ref a :: rest)) := by
  subst hv
  exact la_iald hexec hb hK hP t0 ha hf ht j hi hj hn hdg kk
theorem la_caldv (hexec : p.tables.exec = Jvm.exec) (hb : c.code = cc) (hK : va_K D cl tys s) (hP : la_P D cl La mu H) (t0 : Nat) {cA : ClassId} {n : Nat} (ha : La a = some f) (hf : f (mu a) = .inl (cA, n, .inl (mu a))) (ht : tys[t0]? = some (cA, .char)) {i : Int32} (j : Nat) (hi : i = nI j) (hj : j < n) (hn : n < 2 ^ 31) {v : Int32} (hv : mu a j = v) (hdg : decode cc pc = .ok (.caload, 1))
    (kk : W p l e R s m args below meth c H locs cells slots Q (F0 m (pc + 1) ls (.int v :: rest))) : W p l e R s m args below meth c H locs cells slots Q (F0 m pc ls (.int i :: .ref a :: rest)) := by
  subst hv
  exact la_cald hexec hb hK hP t0 ha hf ht j hi hj hn hdg kk
end LVV
/-- a read-only contract of a JDK method -/
theorem cr_beginF {l : Launch} {y : MethodName} {cd : ByteArray} {n : Nat} {ret : Option FieldType} {fr lo : Nat} {D : va_G} {E : Nat → ClassId} {La : la_L} {av : List Value} {mu : la_M} {v : Option Value} (own : String) (hy : plainFor y = true) (ho : y.cls = own) (hn : (lg_sl av).length ≤ n)
    (body : ∀ (p : Program) (e : Env) (s : State) (m : MethodId) (below : List Frame) (meth : Method) (c : Code) (ls : Array Slot), zz own cd n D E p s m c av.toArray → meth.sig.returnType = ret → meth.locks = false → la_P D cls5 La mu s.heap → lv_has ls n (lv_args 0 av) →
      W p l e (rmm fr lo) s m av.toArray below meth c s.heap [] 0 0 (MQ below (cr_Q v) av.toArray s 0 0 (fun _ => False)) (F0 m 0 ls [])) : cr l y cd n ret fr lo D E La av mu v := by
  refine va_MetF (cc := cd) (maxL := n) (ret := ret) hy rfl ?_
  intro p e s m args below meth c s₁ B hml hv
  obtain ⟨rfl, hP, hK⟩ := hv
  have hts := atoms_spec (ws := .code y cd n ret :: gw) B.pre
  have hown : s.vm.findClass y.cls = some m.cls := findClass_of_methodNamed B.named
  rw [ho] at hown
  have hl := lv_entry av hn
  rw [lg_entry_eq]
  exact body p e s m below meth c _ ⟨B.exec, B.bytes, hml, hown, fun w h => hts w (List.mem_cons_of_mem _ h), hK⟩ B.returns B.notSynchronized hP hl
end
section
/-! EditRelay$Change: kind 0, place 1, letter 2, origin 3 (written by wip/whole/p10.py) -/
theorem cvm {D : va_G} {La : la_L} {mu mu1 : la_M} {H : Heap} (h : la_P D cls5 La mu H) (e : mu = mu1) : la_P D cls5 La mu1 H := e ▸ h
def ch_copy (mu : la_M) (d s : Nat) : la_M := la_up (la_up (la_up (la_up mu d 0 (mu s 0)) d 1 (mu s 1)) d 2 (mu s 2)) d 3 (mu s 3)
def ch_ins (mu : la_M) (h : Nat) (q o : Int32) : la_M := if q < mu h 1 ∨ (q = mu h 1 ∧ (mu h 0 = 1 ∨ o < mu h 3)) then la_up mu h 1 (mu h 1 + 1) else mu
def ch_del (mu : la_M) (h : Nat) (q : Int32) : la_M := if q < mu h 1 then la_up mu h 1 (mu h 1 - 1) else if q = mu h 1 ∧ mu h 0 = 1 then la_up (la_up mu h 0 2) h 1 0 else mu
def ch_fit (mu : la_M) (h : Nat) (k q o : Int32) : la_M := if mu h 0 = 2 then mu else if k = 0 then ch_ins mu h q o else if k = 1 then ch_del mu h q else mu
def ch_both (mu : la_M) (a b : Nat) : la_M := ch_fit (ch_fit mu a (mu b 0) (mu b 1) (mu b 3)) b (mu a 0) (mu a 1) (ch_fit mu a (mu b 0) (mu b 1) (mu b 3) a 3)
set_option maxHeartbeats 4000000 in
set_option maxRecDepth 100000 in
theorem c_Ch_copyFrom (l : Launch) (D : va_G) (E : Nat → ClassId) (La : la_L) {d0 s0 : Nat} (hd : La d0 = some sh_Ch) (hs : La s0 = some sh_Ch) (mu : la_M) (hc : chz (mu s0 2)) : cw l y_Ch_copyFrom b_Ch_copyFrom 2 none 0 0 D E La [.ref d0, .ref s0] mu none (ch_copy mu d0 s0) := by
  refine cw_begin R_Ch (by decide) rfl (Nat.le_of_ble_eq_true rfl) ?_
  intro p e s m below meth c ls Z hr hlocks hP hS hl
  have hx := Z.1
  have hb := Z.2.1
  have hK : va_K D cls5 (tyE E) s := Z.2.2.2.2.2
  have hl : lv_has ls 2 [(0, .ref d0), (1, .ref s0)] := hl
  refine lv_aload_n hx hb d_Ch_copyFrom_0 rfl (lv_at hl 0 rfl) ?_
  refine lv_aload_n hx hb d_Ch_copyFrom_1 rfl (lv_at hl 1 rfl) ?_
  refine g_f Z kc_Ch hP hs rfl 0 (by decide) wl_Ch_9 rfl rfl d_Ch_copyFrom_2 ?_
  refine p_f Z kc_Ch hP hS hd rfl 0 (by decide) wl_Ch_9 rfl rfl ⟨rfl, rfl⟩ (Nat.le_of_ble_eq_true rfl) rfl d_Ch_copyFrom_5 (fun H locs hP hS => ?_)
  refine lv_aload_n hx hb d_Ch_copyFrom_8 rfl (lv_at hl 0 rfl) ?_
  refine lv_aload_n hx hb d_Ch_copyFrom_9 rfl (lv_at hl 1 rfl) ?_
  refine g_i (v := (mu s0 1)) Z kc_Ch hP hs rfl 1 (by decide) wl_Ch_15 rfl rfl (la_up_k (by decide)) d_Ch_copyFrom_10 ?_
  refine p_f Z kc_Ch hP hS hd rfl 1 (by decide) wl_Ch_15 rfl rfl ⟨rfl, rfl⟩ (Nat.le_of_ble_eq_true rfl) rfl d_Ch_copyFrom_13 (fun H locs hP hS => ?_)
  refine lv_aload_n hx hb d_Ch_copyFrom_16 rfl (lv_at hl 0 rfl) ?_
  refine lv_aload_n hx hb d_Ch_copyFrom_17 rfl (lv_at hl 1 rfl) ?_
  refine g_i (v := (mu s0 2)) Z kc_Ch hP hs rfl 2 (by decide) wl_Ch_18 rfl rfl ((la_up_k (by decide)).trans (la_up_k (by decide))) d_Ch_copyFrom_18 ?_
  refine p_f Z kc_Ch hP hS hd rfl 2 (by decide) wl_Ch_18 rfl rfl hc (Nat.le_of_ble_eq_true rfl) rfl d_Ch_copyFrom_21 (fun H locs hP hS => ?_)
  refine lv_aload_n hx hb d_Ch_copyFrom_24 rfl (lv_at hl 0 rfl) ?_
  refine lv_aload_n hx hb d_Ch_copyFrom_25 rfl (lv_at hl 1 rfl) ?_
  refine g_i (v := (mu s0 3)) Z kc_Ch hP hs rfl 3 (by decide) wl_Ch_22 rfl rfl ((la_up_k (by decide)).trans ((la_up_k (by decide)).trans (la_up_k (by decide)))) d_Ch_copyFrom_26 ?_
  refine p_f Z kc_Ch hP hS hd rfl 3 (by decide) wl_Ch_22 rfl rfl ⟨rfl, rfl⟩ (Nat.le_of_ble_eq_true rfl) rfl d_Ch_copyFrom_29 (fun H locs hP hS => ?_)
  exact W.vret hx hb hr (fun t ht hW => ⟨rfl, by rw [ht]; exact cvm hP (rfl), hS.F ht⟩) hS.2.2 d_Ch_copyFrom_32
set_option maxHeartbeats 4000000 in
set_option maxRecDepth 100000 in
theorem c_Ch_fitToInsert (l : Launch) (D : va_G) (E : Nat → ClassId) (La : la_L) {h : Nat} (hh : La h = some sh_Ch) (mu : la_M) (q o : Int32) : cw l y_Ch_fitToInsert b_Ch_fitToInsert 4 none 0 0 D E La [.ref h, .int q, .int o] mu none (ch_ins mu h q o) := by
  refine cw_begin R_Ch (by decide) rfl (Nat.le_of_ble_eq_true rfl) ?_
  intro p e s m below meth c ls Z hr hlocks hP hS hl
  have hx := Z.1
  have hb := Z.2.1
  have hK : va_K D cls5 (tyE E) s := Z.2.2.2.2.2
  have hl : lv_has ls 4 [(0, .ref h), (1, .int q), (2, .int o)] := hl
  refine lv_aload_n hx hb d_Ch_fitToInsert_0 rfl (lv_at hl 0 rfl) ?_
  refine g_f Z kc_Ch hP hh rfl 0 (by decide) wl_Ch_9 rfl rfl d_Ch_fitToInsert_1 ?_
  refine lv_iconst (v := 1) hx hb d_Ch_fitToInsert_4 (by decide) ?_
  refine lv_icmp_eq (tgt := 16) hx hb d_Ch_fitToInsert_5 rfl (fun br5 => ?_) (fun br5 => ?_)
  · skip
    refine lv_iconst (v := 1) hx hb d_Ch_fitToInsert_16 (by decide) ?_
    refine lv_goto (tgt := 21) hx hb d_Ch_fitToInsert_17 rfl ?_
    refine lv_istore_n hx hb d_Ch_fitToInsert_21 rfl hl (by decide) rfl (fun ls hl => ?_)
    have hl : lv_has ls 4 [(3, .int 1), (0, .ref h), (1, .int q), (2, .int o)] := hl
    refine lv_iload_n hx hb d_Ch_fitToInsert_22 rfl (lv_at hl 2 rfl) ?_
    refine lv_aload_n hx hb d_Ch_fitToInsert_23 rfl (lv_at hl 1 rfl) ?_
    refine g_f Z kc_Ch hP hh rfl 1 (by decide) wl_Ch_15 rfl rfl d_Ch_fitToInsert_24 ?_
    refine lv_icmp_lt (tgt := 42) hx hb d_Ch_fitToInsert_27 rfl (fun br27 => ?_) (fun br27 => ?_)
    · skip
      refine lv_aload_n hx hb d_Ch_fitToInsert_42 rfl (lv_at hl 1 rfl) ?_
      refine lv_dup hx hb d_Ch_fitToInsert_43 rfl ?_
      refine g_f Z kc_Ch hP hh rfl 1 (by decide) wl_Ch_15 rfl rfl d_Ch_fitToInsert_44 ?_
      refine lv_iconst (v := 1) hx hb d_Ch_fitToInsert_47 (by decide) ?_
      refine lv_iadd hx hb d_Ch_fitToInsert_48 ?_
      refine p_f Z kc_Ch hP hS hh rfl 1 (by decide) wl_Ch_15 rfl rfl ⟨rfl, rfl⟩ (Nat.le_of_ble_eq_true rfl) rfl d_Ch_fitToInsert_49 (fun H locs hP hS => ?_)
      exact W.vret hx hb hr (fun t ht hW => ⟨rfl, by rw [ht]; exact cvm hP (by simp [ch_ins, br5, br27]), hS.F ht⟩) hS.2.2 d_Ch_fitToInsert_52
    · skip
      refine lv_iload_n hx hb d_Ch_fitToInsert_30 rfl (lv_at hl 2 rfl) ?_
      refine lv_aload_n hx hb d_Ch_fitToInsert_31 rfl (lv_at hl 1 rfl) ?_
      refine g_f Z kc_Ch hP hh rfl 1 (by decide) wl_Ch_15 rfl rfl d_Ch_fitToInsert_32 ?_
      refine lv_icmp_ne (tgt := 52) hx hb d_Ch_fitToInsert_35 rfl (fun br35 => ?_) (fun br35 => ?_)
      · skip
        exact W.vret hx hb hr (fun t ht hW => ⟨rfl, by rw [ht]; exact cvm hP (by simp [ch_ins, br5, br27, br35]), hS.F ht⟩) hS.2.2 d_Ch_fitToInsert_52
      · skip
        refine lv_iload_n hx hb d_Ch_fitToInsert_38 rfl (lv_at hl 0 rfl) ?_
        refine lv_if_eq (tgt := 52) hx hb d_Ch_fitToInsert_39 rfl (fun br39 => absurd br39 (by decide)) (fun br39 => ?_)
        refine lv_aload_n hx hb d_Ch_fitToInsert_42 rfl (lv_at hl 1 rfl) ?_
        refine lv_dup hx hb d_Ch_fitToInsert_43 rfl ?_
        refine g_f Z kc_Ch hP hh rfl 1 (by decide) wl_Ch_15 rfl rfl d_Ch_fitToInsert_44 ?_
        refine lv_iconst (v := 1) hx hb d_Ch_fitToInsert_47 (by decide) ?_
        refine lv_iadd hx hb d_Ch_fitToInsert_48 ?_
        refine p_f Z kc_Ch hP hS hh rfl 1 (by decide) wl_Ch_15 rfl rfl ⟨rfl, rfl⟩ (Nat.le_of_ble_eq_true rfl) rfl d_Ch_fitToInsert_49 (fun H locs hP hS => ?_)
        exact W.vret hx hb hr (fun t ht hW => ⟨rfl, by rw [ht]; exact cvm hP (by simp [ch_ins, br5, br27, br35, br39]), hS.F ht⟩) hS.2.2 d_Ch_fitToInsert_52
  · skip
    refine lv_iload_n hx hb d_Ch_fitToInsert_8 rfl (lv_at hl 2 rfl) ?_
    refine lv_aload_n hx hb d_Ch_fitToInsert_9 rfl (lv_at hl 0 rfl) ?_
    refine g_f Z kc_Ch hP hh rfl 3 (by decide) wl_Ch_22 rfl rfl d_Ch_fitToInsert_10 ?_
    refine lv_icmp_ge (tgt := 20) hx hb d_Ch_fitToInsert_13 rfl (fun br13 => ?_) (fun br13 => ?_)
    · skip
      refine lv_iconst (v := 0) hx hb d_Ch_fitToInsert_20 (by decide) ?_
      refine lv_istore_n hx hb d_Ch_fitToInsert_21 rfl hl (by decide) rfl (fun ls hl => ?_)
      have hl : lv_has ls 4 [(3, .int 0), (0, .ref h), (1, .int q), (2, .int o)] := hl
      refine lv_iload_n hx hb d_Ch_fitToInsert_22 rfl (lv_at hl 2 rfl) ?_
      refine lv_aload_n hx hb d_Ch_fitToInsert_23 rfl (lv_at hl 1 rfl) ?_
      refine g_f Z kc_Ch hP hh rfl 1 (by decide) wl_Ch_15 rfl rfl d_Ch_fitToInsert_24 ?_
      refine lv_icmp_lt (tgt := 42) hx hb d_Ch_fitToInsert_27 rfl (fun br27 => ?_) (fun br27 => ?_)
      · skip
        refine lv_aload_n hx hb d_Ch_fitToInsert_42 rfl (lv_at hl 1 rfl) ?_
        refine lv_dup hx hb d_Ch_fitToInsert_43 rfl ?_
        refine g_f Z kc_Ch hP hh rfl 1 (by decide) wl_Ch_15 rfl rfl d_Ch_fitToInsert_44 ?_
        refine lv_iconst (v := 1) hx hb d_Ch_fitToInsert_47 (by decide) ?_
        refine lv_iadd hx hb d_Ch_fitToInsert_48 ?_
        refine p_f Z kc_Ch hP hS hh rfl 1 (by decide) wl_Ch_15 rfl rfl ⟨rfl, rfl⟩ (Nat.le_of_ble_eq_true rfl) rfl d_Ch_fitToInsert_49 (fun H locs hP hS => ?_)
        exact W.vret hx hb hr (fun t ht hW => ⟨rfl, by rw [ht]; exact cvm hP (by simp [ch_ins, br5, (Int32.not_lt.mpr br13), br27]), hS.F ht⟩) hS.2.2 d_Ch_fitToInsert_52
      · skip
        refine lv_iload_n hx hb d_Ch_fitToInsert_30 rfl (lv_at hl 2 rfl) ?_
        refine lv_aload_n hx hb d_Ch_fitToInsert_31 rfl (lv_at hl 1 rfl) ?_
        refine g_f Z kc_Ch hP hh rfl 1 (by decide) wl_Ch_15 rfl rfl d_Ch_fitToInsert_32 ?_
        refine lv_icmp_ne (tgt := 52) hx hb d_Ch_fitToInsert_35 rfl (fun br35 => ?_) (fun br35 => ?_)
        · skip
          exact W.vret hx hb hr (fun t ht hW => ⟨rfl, by rw [ht]; exact cvm hP (by simp [ch_ins, br5, (Int32.not_lt.mpr br13), br27, br35]), hS.F ht⟩) hS.2.2 d_Ch_fitToInsert_52
        · skip
          refine lv_iload_n hx hb d_Ch_fitToInsert_38 rfl (lv_at hl 0 rfl) ?_
          refine lv_if_eq (tgt := 52) hx hb d_Ch_fitToInsert_39 rfl (fun br39 => ?_) (fun br39 => absurd (rfl) br39)
          exact W.vret hx hb hr (fun t ht hW => ⟨rfl, by rw [ht]; exact cvm hP (by simp [ch_ins, br5, (Int32.not_lt.mpr br13), br27, br35, br39]), hS.F ht⟩) hS.2.2 d_Ch_fitToInsert_52
    · skip
      refine lv_iconst (v := 1) hx hb d_Ch_fitToInsert_16 (by decide) ?_
      refine lv_goto (tgt := 21) hx hb d_Ch_fitToInsert_17 rfl ?_
      refine lv_istore_n hx hb d_Ch_fitToInsert_21 rfl hl (by decide) rfl (fun ls hl => ?_)
      have hl : lv_has ls 4 [(3, .int 1), (0, .ref h), (1, .int q), (2, .int o)] := hl
      refine lv_iload_n hx hb d_Ch_fitToInsert_22 rfl (lv_at hl 2 rfl) ?_
      refine lv_aload_n hx hb d_Ch_fitToInsert_23 rfl (lv_at hl 1 rfl) ?_
      refine g_f Z kc_Ch hP hh rfl 1 (by decide) wl_Ch_15 rfl rfl d_Ch_fitToInsert_24 ?_
      refine lv_icmp_lt (tgt := 42) hx hb d_Ch_fitToInsert_27 rfl (fun br27 => ?_) (fun br27 => ?_)
      · skip
        refine lv_aload_n hx hb d_Ch_fitToInsert_42 rfl (lv_at hl 1 rfl) ?_
        refine lv_dup hx hb d_Ch_fitToInsert_43 rfl ?_
        refine g_f Z kc_Ch hP hh rfl 1 (by decide) wl_Ch_15 rfl rfl d_Ch_fitToInsert_44 ?_
        refine lv_iconst (v := 1) hx hb d_Ch_fitToInsert_47 (by decide) ?_
        refine lv_iadd hx hb d_Ch_fitToInsert_48 ?_
        refine p_f Z kc_Ch hP hS hh rfl 1 (by decide) wl_Ch_15 rfl rfl ⟨rfl, rfl⟩ (Nat.le_of_ble_eq_true rfl) rfl d_Ch_fitToInsert_49 (fun H locs hP hS => ?_)
        exact W.vret hx hb hr (fun t ht hW => ⟨rfl, by rw [ht]; exact cvm hP (by simp [ch_ins, br5, (Int32.not_le.mp br13), br27]), hS.F ht⟩) hS.2.2 d_Ch_fitToInsert_52
      · skip
        refine lv_iload_n hx hb d_Ch_fitToInsert_30 rfl (lv_at hl 2 rfl) ?_
        refine lv_aload_n hx hb d_Ch_fitToInsert_31 rfl (lv_at hl 1 rfl) ?_
        refine g_f Z kc_Ch hP hh rfl 1 (by decide) wl_Ch_15 rfl rfl d_Ch_fitToInsert_32 ?_
        refine lv_icmp_ne (tgt := 52) hx hb d_Ch_fitToInsert_35 rfl (fun br35 => ?_) (fun br35 => ?_)
        · skip
          exact W.vret hx hb hr (fun t ht hW => ⟨rfl, by rw [ht]; exact cvm hP (by simp [ch_ins, br5, (Int32.not_le.mp br13), br27, br35]), hS.F ht⟩) hS.2.2 d_Ch_fitToInsert_52
        · skip
          refine lv_iload_n hx hb d_Ch_fitToInsert_38 rfl (lv_at hl 0 rfl) ?_
          refine lv_if_eq (tgt := 52) hx hb d_Ch_fitToInsert_39 rfl (fun br39 => absurd br39 (by decide)) (fun br39 => ?_)
          refine lv_aload_n hx hb d_Ch_fitToInsert_42 rfl (lv_at hl 1 rfl) ?_
          refine lv_dup hx hb d_Ch_fitToInsert_43 rfl ?_
          refine g_f Z kc_Ch hP hh rfl 1 (by decide) wl_Ch_15 rfl rfl d_Ch_fitToInsert_44 ?_
          refine lv_iconst (v := 1) hx hb d_Ch_fitToInsert_47 (by decide) ?_
          refine lv_iadd hx hb d_Ch_fitToInsert_48 ?_
          refine p_f Z kc_Ch hP hS hh rfl 1 (by decide) wl_Ch_15 rfl rfl ⟨rfl, rfl⟩ (Nat.le_of_ble_eq_true rfl) rfl d_Ch_fitToInsert_49 (fun H locs hP hS => ?_)
          exact W.vret hx hb hr (fun t ht hW => ⟨rfl, by rw [ht]; exact cvm hP (by simp [ch_ins, br5, (Int32.not_le.mp br13), br27, br35, br39]), hS.F ht⟩) hS.2.2 d_Ch_fitToInsert_52
set_option maxHeartbeats 4000000 in
set_option maxRecDepth 100000 in
theorem c_Ch_fitToDelete (l : Launch) (D : va_G) (E : Nat → ClassId) (La : la_L) {h : Nat} (hh : La h = some sh_Ch) (mu : la_M) (q : Int32) : cw l y_Ch_fitToDelete b_Ch_fitToDelete 2 none 0 0 D E La [.ref h, .int q] mu none (ch_del mu h q) := by
  refine cw_begin R_Ch (by decide) rfl (Nat.le_of_ble_eq_true rfl) ?_
  intro p e s m below meth c ls Z hr hlocks hP hS hl
  have hx := Z.1
  have hb := Z.2.1
  have hK : va_K D cls5 (tyE E) s := Z.2.2.2.2.2
  have hl : lv_has ls 2 [(0, .ref h), (1, .int q)] := hl
  refine lv_iload_n hx hb d_Ch_fitToDelete_0 rfl (lv_at hl 1 rfl) ?_
  refine lv_aload_n hx hb d_Ch_fitToDelete_1 rfl (lv_at hl 0 rfl) ?_
  refine g_f Z kc_Ch hP hh rfl 1 (by decide) wl_Ch_15 rfl rfl d_Ch_fitToDelete_2 ?_
  refine lv_icmp_ge (tgt := 21) hx hb d_Ch_fitToDelete_5 rfl (fun br5 => ?_) (fun br5 => ?_)
  · skip
    refine lv_iload_n hx hb d_Ch_fitToDelete_21 rfl (lv_at hl 1 rfl) ?_
    refine lv_aload_n hx hb d_Ch_fitToDelete_22 rfl (lv_at hl 0 rfl) ?_
    refine g_f Z kc_Ch hP hh rfl 1 (by decide) wl_Ch_15 rfl rfl d_Ch_fitToDelete_23 ?_
    refine lv_icmp_ne (tgt := 47) hx hb d_Ch_fitToDelete_26 rfl (fun br26 => ?_) (fun br26 => ?_)
    · skip
      exact W.vret hx hb hr (fun t ht hW => ⟨rfl, by rw [ht]; exact cvm hP (by simp [ch_del, (Int32.not_lt.mpr br5), br26]), hS.F ht⟩) hS.2.2 d_Ch_fitToDelete_47
    · skip
      refine lv_aload_n hx hb d_Ch_fitToDelete_29 rfl (lv_at hl 0 rfl) ?_
      refine g_f Z kc_Ch hP hh rfl 0 (by decide) wl_Ch_9 rfl rfl d_Ch_fitToDelete_30 ?_
      refine lv_iconst (v := 1) hx hb d_Ch_fitToDelete_33 (by decide) ?_
      refine lv_icmp_ne (tgt := 47) hx hb d_Ch_fitToDelete_34 rfl (fun br34 => ?_) (fun br34 => ?_)
      · skip
        exact W.vret hx hb hr (fun t ht hW => ⟨rfl, by rw [ht]; exact cvm hP (by simp [ch_del, (Int32.not_lt.mpr br5), br26, br34]), hS.F ht⟩) hS.2.2 d_Ch_fitToDelete_47
      · skip
        refine lv_aload_n hx hb d_Ch_fitToDelete_37 rfl (lv_at hl 0 rfl) ?_
        refine lv_iconst (v := 2) hx hb d_Ch_fitToDelete_38 (by decide) ?_
        refine p_f Z kc_Ch hP hS hh rfl 0 (by decide) wl_Ch_9 rfl rfl ⟨rfl, rfl⟩ (Nat.le_of_ble_eq_true rfl) rfl d_Ch_fitToDelete_39 (fun H locs hP hS => ?_)
        refine lv_aload_n hx hb d_Ch_fitToDelete_42 rfl (lv_at hl 0 rfl) ?_
        refine lv_iconst (v := 0) hx hb d_Ch_fitToDelete_43 (by decide) ?_
        refine p_f Z kc_Ch hP hS hh rfl 1 (by decide) wl_Ch_15 rfl rfl ⟨rfl, rfl⟩ (Nat.le_of_ble_eq_true rfl) rfl d_Ch_fitToDelete_44 (fun H locs hP hS => ?_)
        exact W.vret hx hb hr (fun t ht hW => ⟨rfl, by rw [ht]; exact cvm hP (by simp [ch_del, (Int32.not_lt.mpr br5), br26, br34]), hS.F ht⟩) hS.2.2 d_Ch_fitToDelete_47
  · skip
    refine lv_aload_n hx hb d_Ch_fitToDelete_8 rfl (lv_at hl 0 rfl) ?_
    refine lv_dup hx hb d_Ch_fitToDelete_9 rfl ?_
    refine g_f Z kc_Ch hP hh rfl 1 (by decide) wl_Ch_15 rfl rfl d_Ch_fitToDelete_10 ?_
    refine lv_iconst (v := 1) hx hb d_Ch_fitToDelete_13 (by decide) ?_
    refine lv_isub hx hb d_Ch_fitToDelete_14 ?_
    refine p_f Z kc_Ch hP hS hh rfl 1 (by decide) wl_Ch_15 rfl rfl ⟨rfl, rfl⟩ (Nat.le_of_ble_eq_true rfl) rfl d_Ch_fitToDelete_15 (fun H locs hP hS => ?_)
    refine lv_goto (tgt := 47) hx hb d_Ch_fitToDelete_18 rfl ?_
    exact W.vret hx hb hr (fun t ht hW => ⟨rfl, by rw [ht]; exact cvm hP (by simp [ch_del, (Int32.not_le.mp br5)]), hS.F ht⟩) hS.2.2 d_Ch_fitToDelete_47
set_option maxHeartbeats 4000000 in
set_option maxRecDepth 100000 in
theorem c_Ch_fitTo (l : Launch) (D : va_G) (E : Nat → ClassId) (La : la_L) {h : Nat} (hh : La h = some sh_Ch) (mu : la_M) (k q o : Int32) : cw l y_Ch_fitTo b_Ch_fitTo 4 none 1 23 D E La [.ref h, .int k, .int q, .int o] mu none (ch_fit mu h k q o) := by
  refine cw_begin R_Ch (by decide) rfl (Nat.le_of_ble_eq_true rfl) ?_
  intro p e s m below meth c ls Z hr hlocks hP hS hl
  have hx := Z.1
  have hb := Z.2.1
  have hK : va_K D cls5 (tyE E) s := Z.2.2.2.2.2
  have hl : lv_has ls 4 [(0, .ref h), (1, .int k), (2, .int q), (3, .int o)] := hl
  refine lv_aload_n hx hb d_Ch_fitTo_0 rfl (lv_at hl 0 rfl) ?_
  refine g_f Z kc_Ch hP hh rfl 0 (by decide) wl_Ch_9 rfl rfl d_Ch_fitTo_1 ?_
  refine lv_iconst (v := 2) hx hb d_Ch_fitTo_4 (by decide) ?_
  refine lv_icmp_ne (tgt := 9) hx hb d_Ch_fitTo_5 rfl (fun br5 => ?_) (fun br5 => ?_)
  · skip
    refine lv_iload_n hx hb d_Ch_fitTo_9 rfl (lv_at hl 1 rfl) ?_
    refine lv_if_ne (tgt := 22) hx hb d_Ch_fitTo_10 rfl (fun br10 => ?_) (fun br10 => ?_)
    · skip
      refine lv_iload_n hx hb d_Ch_fitTo_22 rfl (lv_at hl 1 rfl) ?_
      refine lv_iconst (v := 1) hx hb d_Ch_fitTo_23 (by decide) ?_
      refine lv_icmp_ne (tgt := 32) hx hb d_Ch_fitTo_24 rfl (fun br24 => ?_) (fun br24 => ?_)
      · skip
        exact W.vret hx hb hr (fun t ht hW => ⟨rfl, by rw [ht]; exact cvm hP (by simp [ch_fit, br5, br10, br24]), hS.F ht⟩) hS.2.2 d_Ch_fitTo_32
      · skip
        refine lv_aload_n hx hb d_Ch_fitTo_27 rfl (lv_at hl 0 rfl) ?_
        refine lv_iload_n hx hb d_Ch_fitTo_28 rfl (lv_at hl 2 rfl) ?_
        refine cw_V Z kv_Ch_33 (c_Ch_fitToDelete l D E La hh mu q) hP hS (fun _ h => h) (la_recv hK hP kc_Ch hh rfl) [] rfl rfl hl.1 (Nat.le_of_ble_eq_true rfl) ⟨by decide, by decide⟩ ⟨Nat.le_refl _, Nat.le_refl _⟩ d_Ch_fitTo_29 (fun H locs hP hkp hS => ?_)
        exact W.vret hx hb hr (fun t ht hW => ⟨rfl, by rw [ht]; exact cvm hP (by simp [ch_fit, br5, br10, br24]), hS.F ht⟩) hS.2.2 d_Ch_fitTo_32
    · skip
      refine lv_aload_n hx hb d_Ch_fitTo_13 rfl (lv_at hl 0 rfl) ?_
      refine lv_iload_n hx hb d_Ch_fitTo_14 rfl (lv_at hl 2 rfl) ?_
      refine lv_iload_n hx hb d_Ch_fitTo_15 rfl (lv_at hl 3 rfl) ?_
      refine cw_V Z kv_Ch_29 (c_Ch_fitToInsert l D E La hh mu q o) hP hS (fun _ h => h) (la_recv hK hP kc_Ch hh rfl) [] rfl rfl hl.1 (Nat.le_of_ble_eq_true rfl) ⟨by decide, by decide⟩ ⟨Nat.le_refl _, Nat.le_refl _⟩ d_Ch_fitTo_16 (fun H locs hP hkp hS => ?_)
      refine lv_goto (tgt := 32) hx hb d_Ch_fitTo_19 rfl ?_
      exact W.vret hx hb hr (fun t ht hW => ⟨rfl, by rw [ht]; exact cvm hP (by simp [ch_fit, br5, br10]), hS.F ht⟩) hS.2.2 d_Ch_fitTo_32
  · skip
    exact W.vret hx hb hr (fun t ht hW => ⟨rfl, by rw [ht]; exact cvm hP (by simp [ch_fit, br5]), hS.F ht⟩) hS.2.2 d_Ch_fitTo_8
set_option maxHeartbeats 4000000 in
set_option maxRecDepth 100000 in
theorem c_Ch_fitToEachOther (l : Launch) (D : va_G) (E : Nat → ClassId) (La : la_L) {a b : Nat} (ha : La a = some sh_Ch) (hb0 : La b = some sh_Ch) (mu : la_M) : cw l y_Ch_fitToEachOther b_Ch_fitToEachOther 4 none 2 46 D E La [.ref a, .ref b] mu none (ch_both mu a b) := by
  refine cw_begin R_Ch (by decide) rfl (Nat.le_of_ble_eq_true rfl) ?_
  intro p e s m below meth c ls Z hr hlocks hP hS hl
  have hx := Z.1
  have hb := Z.2.1
  have hK : va_K D cls5 (tyE E) s := Z.2.2.2.2.2
  have hl : lv_has ls 4 [(0, .ref a), (1, .ref b)] := hl
  refine lv_aload_n hx hb d_Ch_fitToEachOther_0 rfl (lv_at hl 0 rfl) ?_
  refine g_f Z kc_Ch hP ha rfl 0 (by decide) wl_Ch_9 rfl rfl d_Ch_fitToEachOther_1 ?_
  refine lv_istore_n hx hb d_Ch_fitToEachOther_4 rfl hl (by decide) rfl (fun ls hl => ?_)
  have hl : lv_has ls 4 [(2, .int (mu a 0)), (0, .ref a), (1, .ref b)] := hl
  refine lv_aload_n hx hb d_Ch_fitToEachOther_5 rfl (lv_at hl 1 rfl) ?_
  refine g_f Z kc_Ch hP ha rfl 1 (by decide) wl_Ch_15 rfl rfl d_Ch_fitToEachOther_6 ?_
  refine lv_istore_n hx hb d_Ch_fitToEachOther_9 rfl hl (by decide) rfl (fun ls hl => ?_)
  have hl : lv_has ls 4 [(3, .int (mu a 1)), (2, .int (mu a 0)), (0, .ref a), (1, .ref b)] := hl
  refine lv_aload_n hx hb d_Ch_fitToEachOther_10 rfl (lv_at hl 2 rfl) ?_
  refine lv_aload_n hx hb d_Ch_fitToEachOther_11 rfl (lv_at hl 3 rfl) ?_
  refine g_f Z kc_Ch hP hb0 rfl 0 (by decide) wl_Ch_9 rfl rfl d_Ch_fitToEachOther_12 ?_
  refine lv_aload_n hx hb d_Ch_fitToEachOther_15 rfl (lv_at hl 3 rfl) ?_
  refine g_f Z kc_Ch hP hb0 rfl 1 (by decide) wl_Ch_15 rfl rfl d_Ch_fitToEachOther_16 ?_
  refine lv_aload_n hx hb d_Ch_fitToEachOther_19 rfl (lv_at hl 3 rfl) ?_
  refine g_f Z kc_Ch hP hb0 rfl 3 (by decide) wl_Ch_22 rfl rfl d_Ch_fitToEachOther_20 ?_
  refine cw_V Z kv_Ch_25 (c_Ch_fitTo l D E La ha mu (mu b 0) (mu b 1) (mu b 3)) hP hS (fun _ h => h) (la_recv hK hP kc_Ch ha rfl) [] rfl rfl hl.1 (Nat.le_of_ble_eq_true rfl) ⟨by decide, by decide⟩ ⟨Nat.le_refl _, Nat.le_refl _⟩ d_Ch_fitToEachOther_23 (fun H locs hP hkp hS => ?_)
  refine lv_aload_n hx hb d_Ch_fitToEachOther_26 rfl (lv_at hl 3 rfl) ?_
  refine lv_iload_n hx hb d_Ch_fitToEachOther_27 rfl (lv_at hl 1 rfl) ?_
  refine lv_iload_n hx hb d_Ch_fitToEachOther_28 rfl (lv_at hl 0 rfl) ?_
  refine lv_aload_n hx hb d_Ch_fitToEachOther_29 rfl (lv_at hl 2 rfl) ?_
  refine g_f Z kc_Ch hP ha rfl 3 (by decide) wl_Ch_22 rfl rfl d_Ch_fitToEachOther_30 ?_
  refine cw_V Z kv_Ch_25 (c_Ch_fitTo l D E La hb0 (ch_fit mu a (mu b 0) (mu b 1) (mu b 3)) (mu a 0) (mu a 1) ((ch_fit mu a (mu b 0) (mu b 1) (mu b 3)) a 3)) hP hS (fun _ h => h) (la_recv hK hP kc_Ch hb0 rfl) [] rfl rfl hl.1 (Nat.le_of_ble_eq_true rfl) ⟨by decide, by decide⟩ ⟨Nat.le_refl _, Nat.le_refl _⟩ d_Ch_fitToEachOther_33 (fun H locs hP hkp hS => ?_)
  exact W.vret hx hb hr (fun t ht hW => ⟨rfl, by rw [ht]; exact cvm hP (rfl), hS.F ht⟩) hS.2.2 d_Ch_fitToEachOther_36
end
section
/-! EditRelay$Text at a0, its letters at a0 + 1 (written by wip/whole/p11.py) -/
def tx_put (mu : la_M) (a0 q n : Nat) (x : Int32) : la_M := la_up (la_up (la_set mu (a0 + 1) (va_cpy (mu (a0 + 1)) (mu (a0 + 1)) q (q + 1) (n - q))) (a0 + 1) q x) a0 1 (nI (n + 1))
def tx_rem (mu : la_M) (a0 q n : Nat) : la_M := la_up (la_set mu (a0 + 1) (va_cpy (mu (a0 + 1)) (mu (a0 + 1)) (q + 1) q (n - q - 1))) a0 1 (nI (n - 1))
def tx_do (mu : la_M) (a0 k q n : Nat) (x : Int32) : la_M := if k = 0 then tx_put mu a0 q n x else if k = 1 then tx_rem mu a0 q n else mu
def isTx (E : Nat → ClassId) (La : la_L) (a0 : Nat) : Prop := La a0 = some (sh_Tx (a0 + 1)) ∧ La (a0 + 1) = some (sh_C E 64)
set_option maxHeartbeats 4000000 in
set_option maxRecDepth 100000 in
theorem c_Tx_put (l : Launch) (D : va_G) (E : Nat → ClassId) (La : la_L) {a0 : Nat} (ha : isTx E La a0) (mu : la_M) {q n : Nat} (hn : mu a0 1 = nI n) (h1 : q ≤ n) (h2 : n < 64) (x : Int32) (hx0 : chz x) (hz : ∀ j, chz (mu (a0 + 1) j)) : cw l y_Tx_put b_Tx_put 3 none 1 18 D E La [.ref a0, .int (nI q), .int x] mu none (tx_put mu a0 q n x) := by
  refine cw_begin R_Tx (by decide) rfl (Nat.le_of_ble_eq_true rfl) ?_
  intro p e s m below meth c ls Z hr hlocks hP hS hl
  have hx := Z.1
  have hb := Z.2.1
  have hK : va_K D cls5 (tyE E) s := Z.2.2.2.2.2
  have hl : lv_has ls 3 [(0, .ref a0), (1, .int (nI q)), (2, .int x)] := hl
  refine lv_iload_n hx hb d_Tx_put_0 rfl (lv_at hl 1 rfl) ?_
  refine lv_if_lt (tgt := 21) hx hb d_Tx_put_1 rfl (fun br1 => absurd br1 (nI_pos (by omega))) (fun br1 => ?_)
  refine lv_iload_n hx hb d_Tx_put_4 rfl (lv_at hl 1 rfl) ?_
  refine lv_aload_n hx hb d_Tx_put_5 rfl (lv_at hl 0 rfl) ?_
  refine g_i (v := (nI n)) Z kc_Tx hP ha.1 rfl 1 (by decide) wl_Tx_36 rfl rfl hn d_Tx_put_6 ?_
  refine lv_icmp_gt (tgt := 21) hx hb d_Tx_put_9 rfl (fun br9 => absurd br9 (nI_nlt h1 (by omega))) (fun br9 => ?_)
  refine lv_aload_n hx hb d_Tx_put_12 rfl (lv_at hl 0 rfl) ?_
  refine g_i (v := (nI n)) Z kc_Tx hP ha.1 rfl 1 (by decide) wl_Tx_36 rfl rfl hn d_Tx_put_13 ?_
  refine lv_bipush (v := 64) hx hb d_Tx_put_16 (by decide) ?_
  refine lv_icmp_lt (tgt := 22) hx hb d_Tx_put_18 rfl (fun br18 => ?_) (fun br18 => absurd (nI_lt (b := 64) h2 (by decide)) br18)
  refine lv_aload_n hx hb d_Tx_put_22 rfl (lv_at hl 0 rfl) ?_
  refine g_f (v := .ref (a0 + 1)) Z kc_Tx hP ha.1 rfl 0 (by decide) wl_Tx_9 rfl rfl d_Tx_put_23 ?_
  refine lv_iload_n hx hb d_Tx_put_26 rfl (lv_at hl 1 rfl) ?_
  refine lv_aload_n hx hb d_Tx_put_27 rfl (lv_at hl 0 rfl) ?_
  refine g_f (v := .ref (a0 + 1)) Z kc_Tx hP ha.1 rfl 0 (by decide) wl_Tx_9 rfl rfl d_Tx_put_28 ?_
  refine lv_iload_n hx hb d_Tx_put_31 rfl (lv_at hl 1 rfl) ?_
  refine lv_iconst (v := 1) hx hb d_Tx_put_32 (by decide) ?_
  refine lv_iadd hx hb d_Tx_put_33 ?_
  refine lv_aload_n hx hb d_Tx_put_34 rfl (lv_at hl 0 rfl) ?_
  refine g_i (v := (nI n)) Z kc_Tx hP ha.1 rfl 1 (by decide) wl_Tx_36 rfl rfl hn d_Tx_put_35 ?_
  refine lv_iload_n hx hb d_Tx_put_38 rfl (lv_at hl 1 rfl) ?_
  refine lv_isub hx hb d_Tx_put_39 ?_
  refine la_copyc Z wl_Tx_39 hP hS ha.2 (fun _ => rfl) q (q + 1) (n - q) rfl (nI_1 q) (pk_sub h1) (by omega) (by omega) (by decide) (fun j => (hz j).2) hl.1 (by decide) (Nat.le_of_ble_eq_true rfl) d_Tx_put_40 (fun H locs hP hS => ?_)
  refine lv_aload_n hx hb d_Tx_put_43 rfl (lv_at hl 0 rfl) ?_
  refine g_f (v := .ref (a0 + 1)) Z kc_Tx hP ha.1 rfl 0 (by decide) wl_Tx_9 rfl rfl d_Tx_put_44 ?_
  refine lv_iload_n hx hb d_Tx_put_47 rfl (lv_at hl 1 rfl) ?_
  refine lv_iload_n hx hb d_Tx_put_48 rfl (lv_at hl 2 rfl) ?_
  refine la_cast hx hb hK hP hS 1 ha.2 (fun _ => rfl) rfl (chz.nar hx0) q rfl (by omega) (by decide) d_Tx_put_49 (fun H locs hP hS => ?_)
  refine lv_aload_n hx hb d_Tx_put_50 rfl (lv_at hl 0 rfl) ?_
  refine lv_dup hx hb d_Tx_put_51 rfl ?_
  refine g_i (v := (nI n)) Z kc_Tx hP ha.1 rfl 1 (by decide) wl_Tx_36 rfl rfl (((congrFun (la_up_n (Nat.ne_of_lt (Nat.lt_succ_self a0))) 1).trans (congrFun (la_set_n (Nat.ne_of_lt (Nat.lt_succ_self a0))) 1)).trans hn) d_Tx_put_52 ?_
  refine lv_iconst (v := 1) hx hb d_Tx_put_55 (by decide) ?_
  refine lv_iadd hx hb d_Tx_put_56 ?_
  refine p_f Z kc_Tx hP hS ha.1 rfl 1 (by decide) wl_Tx_36 rfl rfl ⟨rfl, rfl⟩ (Nat.le_of_ble_eq_true rfl) rfl d_Tx_put_57 (fun H locs hP hS => ?_)
  exact W.vret hx hb hr (fun t ht hW => ⟨rfl, by rw [ht]; exact cvm hP (by simp only [tx_put, nI_1]), hS.F ht⟩) hS.2.2 d_Tx_put_60
set_option maxHeartbeats 4000000 in
set_option maxRecDepth 100000 in
theorem c_Tx_remove (l : Launch) (D : va_G) (E : Nat → ClassId) (La : la_L) {a0 : Nat} (ha : isTx E La a0) (mu : la_M) {q n : Nat} (hn : mu a0 1 = nI n) (h1 : q < n) (h2 : n ≤ 64) (hz : ∀ j, chz (mu (a0 + 1) j)) : cw l y_Tx_remove b_Tx_remove 2 none 1 18 D E La [.ref a0, .int (nI q)] mu none (tx_rem mu a0 q n) := by
  refine cw_begin R_Tx (by decide) rfl (Nat.le_of_ble_eq_true rfl) ?_
  intro p e s m below meth c ls Z hr hlocks hP hS hl
  have hx := Z.1
  have hb := Z.2.1
  have hK : va_K D cls5 (tyE E) s := Z.2.2.2.2.2
  have hl : lv_has ls 2 [(0, .ref a0), (1, .int (nI q))] := hl
  refine lv_iload_n hx hb d_Tx_remove_0 rfl (lv_at hl 1 rfl) ?_
  refine lv_if_lt (tgt := 12) hx hb d_Tx_remove_1 rfl (fun br1 => absurd br1 (nI_pos (by omega))) (fun br1 => ?_)
  refine lv_iload_n hx hb d_Tx_remove_4 rfl (lv_at hl 1 rfl) ?_
  refine lv_aload_n hx hb d_Tx_remove_5 rfl (lv_at hl 0 rfl) ?_
  refine g_i (v := (nI n)) Z kc_Tx hP ha.1 rfl 1 (by decide) wl_Tx_36 rfl rfl hn d_Tx_remove_6 ?_
  refine lv_icmp_lt (tgt := 13) hx hb d_Tx_remove_9 rfl (fun br9 => ?_) (fun br9 => absurd (nI_lt h1 (by omega)) br9)
  refine lv_aload_n hx hb d_Tx_remove_13 rfl (lv_at hl 0 rfl) ?_
  refine g_f (v := .ref (a0 + 1)) Z kc_Tx hP ha.1 rfl 0 (by decide) wl_Tx_9 rfl rfl d_Tx_remove_14 ?_
  refine lv_iload_n hx hb d_Tx_remove_17 rfl (lv_at hl 1 rfl) ?_
  refine lv_iconst (v := 1) hx hb d_Tx_remove_18 (by decide) ?_
  refine lv_iadd hx hb d_Tx_remove_19 ?_
  refine lv_aload_n hx hb d_Tx_remove_20 rfl (lv_at hl 0 rfl) ?_
  refine g_f (v := .ref (a0 + 1)) Z kc_Tx hP ha.1 rfl 0 (by decide) wl_Tx_9 rfl rfl d_Tx_remove_21 ?_
  refine lv_iload_n hx hb d_Tx_remove_24 rfl (lv_at hl 1 rfl) ?_
  refine lv_aload_n hx hb d_Tx_remove_25 rfl (lv_at hl 0 rfl) ?_
  refine g_i (v := (nI n)) Z kc_Tx hP ha.1 rfl 1 (by decide) wl_Tx_36 rfl rfl hn d_Tx_remove_26 ?_
  refine lv_iload_n hx hb d_Tx_remove_29 rfl (lv_at hl 1 rfl) ?_
  refine lv_isub hx hb d_Tx_remove_30 ?_
  refine lv_iconst (v := 1) hx hb d_Tx_remove_31 (by decide) ?_
  refine lv_isub hx hb d_Tx_remove_32 ?_
  refine la_copyc Z wl_Tx_39 hP hS ha.2 (fun _ => rfl) (q + 1) q (n - q - 1) (nI_1 q) rfl (by rw [pk_sub (Nat.le_of_lt h1), nI_s1 (by omega)]) (by omega) (by omega) (by decide) (fun j => (hz j).2) hl.1 (by decide) (Nat.le_of_ble_eq_true rfl) d_Tx_remove_33 (fun H locs hP hS => ?_)
  refine lv_aload_n hx hb d_Tx_remove_36 rfl (lv_at hl 0 rfl) ?_
  refine lv_dup hx hb d_Tx_remove_37 rfl ?_
  refine g_i (v := (nI n)) Z kc_Tx hP ha.1 rfl 1 (by decide) wl_Tx_36 rfl rfl ((congrFun (la_set_n (Nat.ne_of_lt (Nat.lt_succ_self a0))) 1).trans hn) d_Tx_remove_38 ?_
  refine lv_iconst (v := 1) hx hb d_Tx_remove_41 (by decide) ?_
  refine lv_isub hx hb d_Tx_remove_42 ?_
  refine p_f Z kc_Tx hP hS ha.1 rfl 1 (by decide) wl_Tx_36 rfl rfl ⟨rfl, rfl⟩ (Nat.le_of_ble_eq_true rfl) rfl d_Tx_remove_43 (fun H locs hP hS => ?_)
  exact W.vret hx hb hr (fun t ht hW => ⟨rfl, by rw [ht]; exact cvm hP (by rw [nI_s1 (by omega)]; rfl), hS.F ht⟩) hS.2.2 d_Tx_remove_46
set_option maxHeartbeats 4000000 in
set_option maxRecDepth 100000 in
theorem c_Tx_perform_0 (l : Launch) (D : va_G) (E : Nat → ClassId) (La : la_L) {a0 c0 : Nat} (ha : isTx E La a0) (hc0 : La c0 = some sh_Ch) (mu : la_M) {q n : Nat} (hn : mu a0 1 = nI n) (hk : mu c0 0 = 0) (hq : mu c0 1 = nI q) (h1 : q ≤ n) (h2 : n < 64) (hx0 : chz (mu c0 2)) (hz : ∀ j, chz (mu (a0 + 1) j)) : cw l y_Tx_perform b_Tx_perform 2 none 2 40 D E La [.ref a0, .ref c0] mu none (tx_put mu a0 q n (mu c0 2)) := by
  refine cw_begin R_Tx (by decide) rfl (Nat.le_of_ble_eq_true rfl) ?_
  intro p e s m below meth c ls Z hr hlocks hP hS hl
  have hx := Z.1
  have hb := Z.2.1
  have hK : va_K D cls5 (tyE E) s := Z.2.2.2.2.2
  have hl : lv_has ls 2 [(0, .ref a0), (1, .ref c0)] := hl
  refine lv_aload_n hx hb d_Tx_perform_0 rfl (lv_at hl 1 rfl) ?_
  refine g_i (v := 0) Z kc_Ch hP hc0 rfl 0 (by decide) wl_Tx_15 rfl rfl hk d_Tx_perform_1 ?_
  refine lv_if_ne (tgt := 22) hx hb d_Tx_perform_4 rfl (fun br4 => absurd (rfl) br4) (fun br4 => ?_)
  refine lv_aload_n hx hb d_Tx_perform_7 rfl (lv_at hl 0 rfl) ?_
  refine lv_aload_n hx hb d_Tx_perform_8 rfl (lv_at hl 1 rfl) ?_
  refine g_i (v := (nI q)) Z kc_Ch hP hc0 rfl 1 (by decide) wl_Tx_21 rfl rfl hq d_Tx_perform_9 ?_
  refine lv_aload_n hx hb d_Tx_perform_12 rfl (lv_at hl 1 rfl) ?_
  refine g_f Z kc_Ch hP hc0 rfl 2 (by decide) wl_Tx_24 rfl rfl d_Tx_perform_13 ?_
  refine cw_V Z kv_Tx_28 (c_Tx_put l D E La ha mu hn h1 h2 (mu c0 2) hx0 hz) hP hS (fun _ h => h) (la_recv hK hP kc_Tx ha.1 rfl) [] rfl rfl hl.1 (Nat.le_of_ble_eq_true rfl) ⟨by decide, by decide⟩ ⟨Nat.le_refl _, Nat.le_refl _⟩ d_Tx_perform_16 (fun H locs hP hkp hS => ?_)
  refine lv_goto (tgt := 38) hx hb d_Tx_perform_19 rfl ?_
  exact W.vret hx hb hr (fun t ht hW => ⟨rfl, by rw [ht]; exact cvm hP (rfl), hS.F ht⟩) hS.2.2 d_Tx_perform_38
set_option maxHeartbeats 4000000 in
set_option maxRecDepth 100000 in
theorem c_Tx_perform_1 (l : Launch) (D : va_G) (E : Nat → ClassId) (La : la_L) {a0 c0 : Nat} (ha : isTx E La a0) (hc0 : La c0 = some sh_Ch) (mu : la_M) {q n : Nat} (hn : mu a0 1 = nI n) (hk : mu c0 0 = 1) (hq : mu c0 1 = nI q) (h1 : q < n) (h2 : n ≤ 64) (hz : ∀ j, chz (mu (a0 + 1) j)) : cw l y_Tx_perform b_Tx_perform 2 none 2 40 D E La [.ref a0, .ref c0] mu none (tx_rem mu a0 q n) := by
  refine cw_begin R_Tx (by decide) rfl (Nat.le_of_ble_eq_true rfl) ?_
  intro p e s m below meth c ls Z hr hlocks hP hS hl
  have hx := Z.1
  have hb := Z.2.1
  have hK : va_K D cls5 (tyE E) s := Z.2.2.2.2.2
  have hl : lv_has ls 2 [(0, .ref a0), (1, .ref c0)] := hl
  refine lv_aload_n hx hb d_Tx_perform_0 rfl (lv_at hl 1 rfl) ?_
  refine g_i (v := 1) Z kc_Ch hP hc0 rfl 0 (by decide) wl_Tx_15 rfl rfl hk d_Tx_perform_1 ?_
  refine lv_if_ne (tgt := 22) hx hb d_Tx_perform_4 rfl (fun br4 => ?_) (fun br4 => absurd br4 (by decide))
  refine lv_aload_n hx hb d_Tx_perform_22 rfl (lv_at hl 1 rfl) ?_
  refine g_i (v := 1) Z kc_Ch hP hc0 rfl 0 (by decide) wl_Tx_15 rfl rfl hk d_Tx_perform_23 ?_
  refine lv_iconst (v := 1) hx hb d_Tx_perform_26 (by decide) ?_
  refine lv_icmp_ne (tgt := 38) hx hb d_Tx_perform_27 rfl (fun br27 => absurd (rfl) br27) (fun br27 => ?_)
  refine lv_aload_n hx hb d_Tx_perform_30 rfl (lv_at hl 0 rfl) ?_
  refine lv_aload_n hx hb d_Tx_perform_31 rfl (lv_at hl 1 rfl) ?_
  refine g_i (v := (nI q)) Z kc_Ch hP hc0 rfl 1 (by decide) wl_Tx_21 rfl rfl hq d_Tx_perform_32 ?_
  refine cw_V Z kv_Tx_32 (c_Tx_remove l D E La ha mu hn h1 h2 hz) hP hS (fun _ h => h) (la_recv hK hP kc_Tx ha.1 rfl) [] rfl rfl hl.1 (Nat.le_of_ble_eq_true rfl) ⟨by decide, by decide⟩ ⟨Nat.le_refl _, Nat.le_refl _⟩ d_Tx_perform_35 (fun H locs hP hkp hS => ?_)
  exact W.vret hx hb hr (fun t ht hW => ⟨rfl, by rw [ht]; exact cvm hP (rfl), hS.F ht⟩) hS.2.2 d_Tx_perform_38
set_option maxHeartbeats 4000000 in
set_option maxRecDepth 100000 in
theorem c_Tx_perform_2 (l : Launch) (D : va_G) (E : Nat → ClassId) (La : la_L) {a0 c0 : Nat} (ha : isTx E La a0) (hc0 : La c0 = some sh_Ch) (mu : la_M) {q n : Nat} (hn : mu a0 1 = nI n) (hk : mu c0 0 = 2) (hz : ∀ j, chz (mu (a0 + 1) j)) : cw l y_Tx_perform b_Tx_perform 2 none 2 40 D E La [.ref a0, .ref c0] mu none mu := by
  refine cw_begin R_Tx (by decide) rfl (Nat.le_of_ble_eq_true rfl) ?_
  intro p e s m below meth c ls Z hr hlocks hP hS hl
  have hx := Z.1
  have hb := Z.2.1
  have hK : va_K D cls5 (tyE E) s := Z.2.2.2.2.2
  have hl : lv_has ls 2 [(0, .ref a0), (1, .ref c0)] := hl
  refine lv_aload_n hx hb d_Tx_perform_0 rfl (lv_at hl 1 rfl) ?_
  refine g_i (v := 2) Z kc_Ch hP hc0 rfl 0 (by decide) wl_Tx_15 rfl rfl hk d_Tx_perform_1 ?_
  refine lv_if_ne (tgt := 22) hx hb d_Tx_perform_4 rfl (fun br4 => ?_) (fun br4 => absurd br4 (by decide))
  refine lv_aload_n hx hb d_Tx_perform_22 rfl (lv_at hl 1 rfl) ?_
  refine g_i (v := 2) Z kc_Ch hP hc0 rfl 0 (by decide) wl_Tx_15 rfl rfl hk d_Tx_perform_23 ?_
  refine lv_iconst (v := 1) hx hb d_Tx_perform_26 (by decide) ?_
  refine lv_icmp_ne (tgt := 38) hx hb d_Tx_perform_27 rfl (fun br27 => ?_) (fun br27 => absurd br27 (by decide))
  exact W.vret hx hb hr (fun t ht hW => ⟨rfl, by rw [ht]; exact cvm hP (rfl), hS.F ht⟩) hS.2.2 d_Tx_perform_38
/-- perform: a change of kind k at place q, valid on a text of n letters -/
theorem c_Tx_perform (l : Launch) (D : va_G) (E : Nat → ClassId) (La : la_L) {a0 c0 : Nat} (ha : isTx E La a0) (hc0 : La c0 = some sh_Ch) (mu : la_M) {k q n : Nat} (hn : mu a0 1 = nI n) (hk3 : k ≤ 2) (hk : mu c0 0 = nI k) (hq : mu c0 1 = nI q) (h0 : k = 0 → q ≤ n ∧ n < 64) (h1 : k = 1 → q < n) (h2 : n ≤ 64) (hx0 : chz (mu c0 2)) (hz : ∀ j, chz (mu (a0 + 1) j)) :
    cw l y_Tx_perform b_Tx_perform 2 none 2 40 D E La [.ref a0, .ref c0] mu none (tx_do mu a0 k q n (mu c0 2)) := by
  rcases (show k = 0 ∨ k = 1 ∨ k = 2 by omega) with rfl | rfl | rfl
  · exact c_Tx_perform_0 l D E La ha hc0 mu hn hk hq (h0 rfl).1 (h0 rfl).2 hx0 hz
  · exact c_Tx_perform_1 l D E La ha hc0 mu hn hk hq (h1 rfl) h2 hz
  · exact c_Tx_perform_2 (q := 0) l D E La ha hc0 mu hn hk hz
set_option maxHeartbeats 4000000 in
set_option maxRecDepth 100000 in
theorem c_Tx_isSameAs_n (l : Launch) (D : va_G) (E : Nat → ClassId) (La : la_L) {a0 b0 : Nat} (ha : isTx E La a0) (hb0 : isTx E La b0) (mu : la_M) {n n1 : Nat} (hn : mu a0 1 = nI n) (hn1 : mu b0 1 = nI n1) (h64 : n ≤ 64) (h641 : n1 ≤ 64) (hne : n ≠ n1) : cr l y_Tx_isSameAs b_Tx_isSameAs 3 (some .boolean) 0 0 D E La [.ref a0, .ref b0] mu (some (.int 0)) := by
  refine cr_begin R_Tx (by decide) rfl (Nat.le_of_ble_eq_true rfl) ?_
  intro p e s m below meth c ls Z hr hlocks hP hl
  have hx := Z.1
  have hb := Z.2.1
  have hK : va_K D cls5 (tyE E) s := Z.2.2.2.2.2
  have hl : lv_has ls 3 [(0, .ref a0), (1, .ref b0)] := hl
  refine lv_aload_n hx hb d_Tx_isSameAs_0 rfl (lv_at hl 0 rfl) ?_
  refine g_i (v := (nI n)) Z kc_Tx hP ha.1 rfl 1 (by decide) wl_Tx_36 rfl rfl hn d_Tx_isSameAs_1 ?_
  refine lv_aload_n hx hb d_Tx_isSameAs_4 rfl (lv_at hl 1 rfl) ?_
  refine g_i (v := (nI n1)) Z kc_Tx hP hb0.1 rfl 1 (by decide) wl_Tx_36 rfl rfl hn1 d_Tx_isSameAs_5 ?_
  refine lv_icmp_eq (tgt := 13) hx hb d_Tx_isSameAs_8 rfl (fun br8 => absurd br8 (fun h => hne ((nI_eq (by omega) (by omega)).mp h))) (fun br8 => ?_)
  refine lv_iconst (v := 0) hx hb d_Tx_isSameAs_11 (by decide) ?_
  exact W.zret hx hb hr (by decide) (fun t ht hW => ⟨rfl, ht⟩) (fun q h => by cases h) d_Tx_isSameAs_12
set_option maxHeartbeats 4000000 in
set_option maxRecDepth 100000 in
theorem c_Tx_isSameAs_y (l : Launch) (D : va_G) (E : Nat → ClassId) (La : la_L) {a0 b0 : Nat} (ha : isTx E La a0) (hb0 : isTx E La b0) (mu : la_M) {n n1 : Nat} (hn : mu a0 1 = nI n) (hn1 : mu b0 1 = nI n1) (h64 : n ≤ 64) (h641 : n1 ≤ 64) (he : n = n1) (heq : ∀ i, i < n → mu (a0 + 1) i = mu (b0 + 1) i) : cr l y_Tx_isSameAs b_Tx_isSameAs 3 (some .boolean) 0 0 D E La [.ref a0, .ref b0] mu (some (.int 1)) := by
  refine cr_begin R_Tx (by decide) rfl (Nat.le_of_ble_eq_true rfl) ?_
  intro p e s m below meth c ls Z hr hlocks hP hl
  have hx := Z.1
  have hb := Z.2.1
  have hK : va_K D cls5 (tyE E) s := Z.2.2.2.2.2
  have hl : lv_has ls 3 [(0, .ref a0), (1, .ref b0)] := hl
  have loop : ∀ (t i : Nat) (ls : Array Slot), i + t = n → lv_has ls 3 [(2, .int (nI i)), (0, .ref a0), (1, .ref b0)] → W p l e (rmm 0 0) s m ([.ref a0, .ref b0] : List Value).toArray below meth c s.heap [] 0 0 (MQ below (cr_Q (some (.int 1))) ([.ref a0, .ref b0] : List Value).toArray s 0 0 (fun _ => False)) (F0 m 15 ls []) := by
    intro t
    induction t with
    | zero =>
      intro i ls hi hl
      refine lv_iload_n hx hb d_Tx_isSameAs_15 rfl (lv_at hl 0 rfl) ?_
      refine lv_aload_n hx hb d_Tx_isSameAs_16 rfl (lv_at hl 1 rfl) ?_
      refine g_i (v := (nI n)) Z kc_Tx hP ha.1 rfl 1 (by decide) wl_Tx_36 rfl rfl hn d_Tx_isSameAs_17 ?_
      refine lv_icmp_ge (tgt := 46) hx hb d_Tx_isSameAs_20 rfl (fun br20 => ?_) (fun br20 => absurd (nI_le (by omega) (by omega)) br20)
      refine lv_iconst (v := 1) hx hb d_Tx_isSameAs_46 (by decide) ?_
      exact W.zret hx hb hr (by decide) (fun t ht hW => ⟨rfl, ht⟩) (fun q h => by cases h) d_Tx_isSameAs_47
    | succ t ih =>
      intro i ls hi hl
      refine lv_iload_n hx hb d_Tx_isSameAs_15 rfl (lv_at hl 0 rfl) ?_
      refine lv_aload_n hx hb d_Tx_isSameAs_16 rfl (lv_at hl 1 rfl) ?_
      refine g_i (v := (nI n)) Z kc_Tx hP ha.1 rfl 1 (by decide) wl_Tx_36 rfl rfl hn d_Tx_isSameAs_17 ?_
      refine lv_icmp_ge (tgt := 46) hx hb d_Tx_isSameAs_20 rfl (fun br20 => absurd br20 (nI_ge (by omega) (by omega))) (fun br20 => ?_)
      refine lv_aload_n hx hb d_Tx_isSameAs_23 rfl (lv_at hl 1 rfl) ?_
      refine g_f (v := .ref (a0 + 1)) Z kc_Tx hP ha.1 rfl 0 (by decide) wl_Tx_9 rfl rfl d_Tx_isSameAs_24 ?_
      refine lv_iload_n hx hb d_Tx_isSameAs_27 rfl (lv_at hl 0 rfl) ?_
      refine la_cald hx hb hK hP 1 ha.2 rfl rfl i rfl (by omega) (by decide) d_Tx_isSameAs_28 ?_
      refine lv_aload_n hx hb d_Tx_isSameAs_29 rfl (lv_at hl 2 rfl) ?_
      refine g_f (v := .ref (b0 + 1)) Z kc_Tx hP hb0.1 rfl 0 (by decide) wl_Tx_9 rfl rfl d_Tx_isSameAs_30 ?_
      refine lv_iload_n hx hb d_Tx_isSameAs_33 rfl (lv_at hl 0 rfl) ?_
      refine la_cald hx hb hK hP 1 hb0.2 rfl rfl i rfl (by omega) (by decide) d_Tx_isSameAs_34 ?_
      refine lv_icmp_eq (tgt := 40) hx hb d_Tx_isSameAs_35 rfl (fun br35 => ?_) (fun br35 => absurd (heq i (by omega)) br35)
      refine lv_iinc (k := 0) (v := (nI (i + 1))) hx hb d_Tx_isSameAs_40 hl rfl (nI_1 i) (by decide) rfl (fun ls hl => ?_)
      have hl : lv_has ls 3 [(2, .int (nI (i + 1))), (0, .ref a0), (1, .ref b0)] := hl
      refine lv_goto (tgt := 15) hx hb d_Tx_isSameAs_43 rfl ?_
      exact ih (i + 1) ls (by omega) hl
  refine lv_aload_n hx hb d_Tx_isSameAs_0 rfl (lv_at hl 0 rfl) ?_
  refine g_i (v := (nI n)) Z kc_Tx hP ha.1 rfl 1 (by decide) wl_Tx_36 rfl rfl hn d_Tx_isSameAs_1 ?_
  refine lv_aload_n hx hb d_Tx_isSameAs_4 rfl (lv_at hl 1 rfl) ?_
  refine g_i (v := (nI n1)) Z kc_Tx hP hb0.1 rfl 1 (by decide) wl_Tx_36 rfl rfl hn1 d_Tx_isSameAs_5 ?_
  refine lv_icmp_eq (tgt := 13) hx hb d_Tx_isSameAs_8 rfl (fun br8 => ?_) (fun br8 => absurd (by rw [he]) br8)
  refine lv_iconst (v := 0) hx hb d_Tx_isSameAs_13 (by decide) ?_
  refine lv_istore_n hx hb d_Tx_isSameAs_14 rfl hl (by decide) rfl (fun ls hl => ?_)
  have hl : lv_has ls 3 [(2, .int 0), (0, .ref a0), (1, .ref b0)] := hl
  exact loop n 0 ls (by omega) hl
set_option maxHeartbeats 4000000 in
set_option maxRecDepth 100000 in
theorem c_Tx_isSameAs_d (l : Launch) (D : va_G) (E : Nat → ClassId) (La : la_L) {a0 b0 : Nat} (ha : isTx E La a0) (hb0 : isTx E La b0) (mu : la_M) {n n1 : Nat} (hn : mu a0 1 = nI n) (hn1 : mu b0 1 = nI n1) (h64 : n ≤ 64) (h641 : n1 ≤ 64) (he : n = n1) (k : Nat) (hk : k < n) (heq : ∀ i, i < k → mu (a0 + 1) i = mu (b0 + 1) i) (hd : mu (a0 + 1) k ≠ mu (b0 + 1) k) : cr l y_Tx_isSameAs b_Tx_isSameAs 3 (some .boolean) 0 0 D E La [.ref a0, .ref b0] mu (some (.int 0)) := by
  refine cr_begin R_Tx (by decide) rfl (Nat.le_of_ble_eq_true rfl) ?_
  intro p e s m below meth c ls Z hr hlocks hP hl
  have hx := Z.1
  have hb := Z.2.1
  have hK : va_K D cls5 (tyE E) s := Z.2.2.2.2.2
  have hl : lv_has ls 3 [(0, .ref a0), (1, .ref b0)] := hl
  have loop : ∀ (t i : Nat) (ls : Array Slot), i + t = k → lv_has ls 3 [(2, .int (nI i)), (0, .ref a0), (1, .ref b0)] → W p l e (rmm 0 0) s m ([.ref a0, .ref b0] : List Value).toArray below meth c s.heap [] 0 0 (MQ below (cr_Q (some (.int 0))) ([.ref a0, .ref b0] : List Value).toArray s 0 0 (fun _ => False)) (F0 m 15 ls []) := by
    intro t
    induction t with
    | zero =>
      intro i ls hi hl
      have hik : i = k := by omega
      subst hik
      refine lv_iload_n hx hb d_Tx_isSameAs_15 rfl (lv_at hl 0 rfl) ?_
      refine lv_aload_n hx hb d_Tx_isSameAs_16 rfl (lv_at hl 1 rfl) ?_
      refine g_i (v := (nI n)) Z kc_Tx hP ha.1 rfl 1 (by decide) wl_Tx_36 rfl rfl hn d_Tx_isSameAs_17 ?_
      refine lv_icmp_ge (tgt := 46) hx hb d_Tx_isSameAs_20 rfl (fun br20 => absurd br20 (nI_ge hk (by omega))) (fun br20 => ?_)
      refine lv_aload_n hx hb d_Tx_isSameAs_23 rfl (lv_at hl 1 rfl) ?_
      refine g_f (v := .ref (a0 + 1)) Z kc_Tx hP ha.1 rfl 0 (by decide) wl_Tx_9 rfl rfl d_Tx_isSameAs_24 ?_
      refine lv_iload_n hx hb d_Tx_isSameAs_27 rfl (lv_at hl 0 rfl) ?_
      refine la_cald hx hb hK hP 1 ha.2 rfl rfl i rfl (by omega) (by decide) d_Tx_isSameAs_28 ?_
      refine lv_aload_n hx hb d_Tx_isSameAs_29 rfl (lv_at hl 2 rfl) ?_
      refine g_f (v := .ref (b0 + 1)) Z kc_Tx hP hb0.1 rfl 0 (by decide) wl_Tx_9 rfl rfl d_Tx_isSameAs_30 ?_
      refine lv_iload_n hx hb d_Tx_isSameAs_33 rfl (lv_at hl 0 rfl) ?_
      refine la_cald hx hb hK hP 1 hb0.2 rfl rfl i rfl (by omega) (by decide) d_Tx_isSameAs_34 ?_
      refine lv_icmp_eq (tgt := 40) hx hb d_Tx_isSameAs_35 rfl (fun br35 => absurd br35 (hd)) (fun br35 => ?_)
      refine lv_iconst (v := 0) hx hb d_Tx_isSameAs_38 (by decide) ?_
      exact W.zret hx hb hr (by decide) (fun t ht hW => ⟨rfl, ht⟩) (fun q h => by cases h) d_Tx_isSameAs_39
    | succ t ih =>
      intro i ls hi hl
      refine lv_iload_n hx hb d_Tx_isSameAs_15 rfl (lv_at hl 0 rfl) ?_
      refine lv_aload_n hx hb d_Tx_isSameAs_16 rfl (lv_at hl 1 rfl) ?_
      refine g_i (v := (nI n)) Z kc_Tx hP ha.1 rfl 1 (by decide) wl_Tx_36 rfl rfl hn d_Tx_isSameAs_17 ?_
      refine lv_icmp_ge (tgt := 46) hx hb d_Tx_isSameAs_20 rfl (fun br20 => absurd br20 (nI_ge (by omega) (by omega))) (fun br20 => ?_)
      refine lv_aload_n hx hb d_Tx_isSameAs_23 rfl (lv_at hl 1 rfl) ?_
      refine g_f (v := .ref (a0 + 1)) Z kc_Tx hP ha.1 rfl 0 (by decide) wl_Tx_9 rfl rfl d_Tx_isSameAs_24 ?_
      refine lv_iload_n hx hb d_Tx_isSameAs_27 rfl (lv_at hl 0 rfl) ?_
      refine la_cald hx hb hK hP 1 ha.2 rfl rfl i rfl (by omega) (by decide) d_Tx_isSameAs_28 ?_
      refine lv_aload_n hx hb d_Tx_isSameAs_29 rfl (lv_at hl 2 rfl) ?_
      refine g_f (v := .ref (b0 + 1)) Z kc_Tx hP hb0.1 rfl 0 (by decide) wl_Tx_9 rfl rfl d_Tx_isSameAs_30 ?_
      refine lv_iload_n hx hb d_Tx_isSameAs_33 rfl (lv_at hl 0 rfl) ?_
      refine la_cald hx hb hK hP 1 hb0.2 rfl rfl i rfl (by omega) (by decide) d_Tx_isSameAs_34 ?_
      refine lv_icmp_eq (tgt := 40) hx hb d_Tx_isSameAs_35 rfl (fun br35 => ?_) (fun br35 => absurd (heq i (by omega)) br35)
      refine lv_iinc (k := 0) (v := (nI (i + 1))) hx hb d_Tx_isSameAs_40 hl rfl (nI_1 i) (by decide) rfl (fun ls hl => ?_)
      have hl : lv_has ls 3 [(2, .int (nI (i + 1))), (0, .ref a0), (1, .ref b0)] := hl
      refine lv_goto (tgt := 15) hx hb d_Tx_isSameAs_43 rfl ?_
      exact ih (i + 1) ls (by omega) hl
  refine lv_aload_n hx hb d_Tx_isSameAs_0 rfl (lv_at hl 0 rfl) ?_
  refine g_i (v := (nI n)) Z kc_Tx hP ha.1 rfl 1 (by decide) wl_Tx_36 rfl rfl hn d_Tx_isSameAs_1 ?_
  refine lv_aload_n hx hb d_Tx_isSameAs_4 rfl (lv_at hl 1 rfl) ?_
  refine g_i (v := (nI n1)) Z kc_Tx hP hb0.1 rfl 1 (by decide) wl_Tx_36 rfl rfl hn1 d_Tx_isSameAs_5 ?_
  refine lv_icmp_eq (tgt := 13) hx hb d_Tx_isSameAs_8 rfl (fun br8 => ?_) (fun br8 => absurd (by rw [he]) br8)
  refine lv_iconst (v := 0) hx hb d_Tx_isSameAs_13 (by decide) ?_
  refine lv_istore_n hx hb d_Tx_isSameAs_14 rfl hl (by decide) rfl (fun ls hl => ?_)
  have hl : lv_has ls 3 [(2, .int 0), (0, .ref a0), (1, .ref b0)] := hl
  exact loop k 0 ls (by omega) hl
end
section
/-! Math.floorMod, Math.max; EditRelay$Way at w0 with room r: messages w0 + 1, opens w0 + 2, heards w0 + 3, then its changes (written by wip/whole/p12.py) -/
theorem xor_nn {a b : Nat} (ha : a < 2 ^ 31) (hb : b < 2 ^ 31) : 0 ≤ nI a ^^^ nI b := by
  have h : nI a ^^^ nI b = nI (a ^^^ b) := by
    apply Int32.toBitVec_inj.1
    show BitVec.ofNat 32 a ^^^ BitVec.ofNat 32 b = BitVec.ofNat 32 (a ^^^ b)
    apply BitVec.eq_of_getLsbD_eq
    intro i hi
    simp [hi]
  rw [h]
  exact nI_pos' (Nat.xor_lt_two_pow ha hb)
theorem ch_copy_n {mu : la_M} {d s q : Nat} (h : q ≠ d) : ch_copy mu d s q = mu q := by
  unfold ch_copy
  rw [la_up_n h, la_up_n h, la_up_n h, la_up_n h]
theorem la_up_id (mu : la_M) (a k : Nat) : la_up mu a k (mu a k) = mu := by
  funext q
  unfold la_up
  by_cases h : q = a
  · subst h
    rw [la_set_s]
    funext j
    by_cases hj : j = k
    · subst hj
      exact if_pos rfl
    · exact if_neg hj
  · rw [la_set_n h]
theorem ch_copy_id (mu : la_M) (a : Nat) : ch_copy mu a a = mu := by
  unfold ch_copy
  rw [la_up_id, la_up_id, la_up_id, la_up_id]
theorem ch_copy_s (mu : la_M) (d s : Nat) : ch_copy mu d s s = mu s := by
  by_cases h : s = d
  · subst h
    rw [ch_copy_id]
  · exact ch_copy_n h
theorem ch_ins_n {mu : la_M} {h q : Nat} {a b : Int32} (hq : q ≠ h) : ch_ins mu h a b q = mu q := by
  unfold ch_ins
  split
  · exact la_up_n hq
  · rfl
theorem ch_del_n {mu : la_M} {h q : Nat} {a : Int32} (hq : q ≠ h) : ch_del mu h a q = mu q := by
  unfold ch_del
  split
  · exact la_up_n hq
  · split
    · rw [la_up_n hq, la_up_n hq]
    · rfl
theorem ch_fit_n {mu : la_M} {h q : Nat} {k a b : Int32} (hq : q ≠ h) : ch_fit mu h k a b q = mu q := by
  unfold ch_fit
  split
  · rfl
  · split
    · exact ch_ins_n hq
    · split
      · exact ch_del_n hq
      · rfl
theorem ch_both_n {mu : la_M} {a b q : Nat} (ha : q ≠ a) (hb : q ≠ b) : ch_both mu a b q = mu q := by
  unfold ch_both
  rw [ch_fit_n hb, ch_fit_n ha]
def isWy (E : Nat → ClassId) (La : la_L) (w0 r : Nat) : Prop := La w0 = some (sh_Wy r (w0 + 1) (w0 + 2) (w0 + 3)) ∧ La (w0 + 1) = some (sh_R (E 5) r (fun k => w0 + 4 + 2 * k)) ∧ La (w0 + 2) = some (sh_R (E 5) r (fun k => w0 + 5 + 2 * k)) ∧ La (w0 + 3) = some (sh_I E r) ∧ (∀ k, k < r → La (w0 + 4 + 2 * k) = some sh_Ch ∧ La (w0 + 5 + 2 * k) = some sh_Ch) ∧ 0 < r ∧ r ≤ 24
def wy_send (mu : la_M) (w0 r c0 n : Nat) (x : Int32) : la_M := la_up (la_up (ch_copy (ch_copy mu (w0 + 4 + 2 * (n % r)) c0) (w0 + 5 + 2 * (n % r)) c0) (w0 + 3) (n % r) x) w0 4 (nI (n + 1))
def wy_fit (mu : la_M) (w0 r c0 k : Nat) : Nat → la_M
  | 0 => mu
  | t + 1 => ch_both (wy_fit mu w0 r c0 k t) c0 (w0 + 5 + 2 * ((k + t) % r))
theorem wy_fit_n {mu : la_M} {w0 r c0 k q : Nat} (hc : q ≠ c0) (ho : ∀ j, q ≠ w0 + 5 + 2 * j) : ∀ t, wy_fit mu w0 r c0 k t q = mu q := by
  intro t
  induction t with
  | zero => rfl
  | succ t ih =>
    show ch_both _ _ _ q = _
    rw [ch_both_n hc (ho _)]
    exact ih
set_option maxHeartbeats 4000000 in
set_option maxRecDepth 100000 in
theorem c_Ma_floorMod (l : Launch) (D : va_G) (E : Nat → ClassId) (La : la_L) (mu : la_M) {n r : Nat} (hn : n < 2 ^ 31) (h0 : 0 < r) (hr0 : r < 2 ^ 31) : cr l y_Ma_floorMod b_Ma_floorMod 3 (some .int) 0 0 D E La [.int (nI n), .int (nI r)] mu (some (.int (nI (n % r)))) := by
  refine cr_beginF R_Ma (by decide +kernel) rfl (Nat.le_of_ble_eq_true rfl) ?_
  intro p e s m below meth c ls Z hr hlocks hP hl
  have hx := Z.1
  have hb := Z.2.1
  have hK : va_K D cls5 (tyE E) s := Z.2.2.2.2.2
  have hl : lv_has ls 3 [(0, .int (nI n)), (1, .int (nI r))] := hl
  refine lv_iload_n hx hb d_Ma_floorMod_0 rfl (lv_at hl 0 rfl) ?_
  refine lv_iload_n hx hb d_Ma_floorMod_1 rfl (lv_at hl 1 rfl) ?_
  refine lv_irem hx hb d_Ma_floorMod_2 (nI_ne0 h0 hr0) ?_
  rw [pk_rem hn h0 hr0]
  refine lv_istore_n hx hb d_Ma_floorMod_3 rfl hl (by decide) rfl (fun ls hl => ?_)
  have hl : lv_has ls 3 [(2, .int (nI (n % r))), (0, .int (nI n)), (1, .int (nI r))] := hl
  refine lv_iload_n hx hb d_Ma_floorMod_4 rfl (lv_at hl 1 rfl) ?_
  refine lv_iload_n hx hb d_Ma_floorMod_5 rfl (lv_at hl 2 rfl) ?_
  refine lv_ixor hx hb d_Ma_floorMod_6 ?_
  refine lv_if_ge (tgt := 18) hx hb d_Ma_floorMod_7 rfl (fun br7 => ?_) (fun br7 => absurd (xor_nn hn hr0) br7)
  refine lv_iload_n hx hb d_Ma_floorMod_18 rfl (lv_at hl 0 rfl) ?_
  exact W.iret hx hb hr (fun t ht hW => ⟨rfl, ht⟩) (fun q h => by cases h) d_Ma_floorMod_19
set_option maxHeartbeats 4000000 in
set_option maxRecDepth 100000 in
theorem c_Ma_max (l : Launch) (D : va_G) (E : Nat → ClassId) (La : la_L) (mu : la_M) {a b : Nat} (ha : a < 2 ^ 31) (hb0 : b < 2 ^ 31) : cr l y_Ma_max b_Ma_max 2 (some .int) 0 0 D E La [.int (nI a), .int (nI b)] mu (some (.int (nI (max a b)))) := by
  refine cr_beginF R_Ma (by decide +kernel) rfl (Nat.le_of_ble_eq_true rfl) ?_
  intro p e s m below meth c ls Z hr hlocks hP hl
  have hx := Z.1
  have hb := Z.2.1
  have hK : va_K D cls5 (tyE E) s := Z.2.2.2.2.2
  have hl : lv_has ls 2 [(0, .int (nI a)), (1, .int (nI b))] := hl
  refine lv_iload_n hx hb d_Ma_max_0 rfl (lv_at hl 0 rfl) ?_
  refine lv_iload_n hx hb d_Ma_max_1 rfl (lv_at hl 1 rfl) ?_
  refine lv_icmp_lt (tgt := 9) hx hb d_Ma_max_2 rfl (fun br2 => ?_) (fun br2 => ?_)
  · skip
    refine lv_iload_n hx hb d_Ma_max_9 rfl (lv_at hl 1 rfl) ?_
    exact W.iret hx hb hr (fun t ht hW => ⟨by rw [Nat.max_eq_right (Nat.le_of_lt ((nI_ltI ha hb0).mp br2))], ht⟩) (fun q h => by cases h) d_Ma_max_10
  · skip
    refine lv_iload_n hx hb d_Ma_max_5 rfl (lv_at hl 0 rfl) ?_
    refine lv_goto (tgt := 10) hx hb d_Ma_max_6 rfl ?_
    exact W.iret hx hb hr (fun t ht hW => ⟨by rw [Nat.max_eq_left (Nat.le_of_not_lt (fun h9 => br2 ((nI_ltI ha hb0).mpr h9)))], ht⟩) (fun q h => by cases h) d_Ma_max_10
set_option maxHeartbeats 4000000 in
set_option maxRecDepth 100000 in
theorem c_Wy_slotOf (l : Launch) (D : va_G) (E : Nat → ClassId) (La : la_L) {w0 r : Nat} (hw : isWy E La w0 r) (mu : la_M) {n : Nat} (hn : n < 2 ^ 31) : cr l y_Wy_slotOf b_Wy_slotOf 2 (some .int) 1 22 D E La [.ref w0, .int (nI n)] mu (some (.int (nI (n % r)))) := by
  refine cr_begin R_Wy (by decide) rfl (Nat.le_of_ble_eq_true rfl) ?_
  intro p e s m below meth c ls Z hr hlocks hP hl
  have hx := Z.1
  have hb := Z.2.1
  have hK : va_K D cls5 (tyE E) s := Z.2.2.2.2.2
  have hl : lv_has ls 2 [(0, .ref w0), (1, .int (nI n))] := hl
  refine lv_iload_n hx hb d_Wy_slotOf_0 rfl (lv_at hl 1 rfl) ?_
  refine lv_aload_n hx hb d_Wy_slotOf_1 rfl (lv_at hl 0 rfl) ?_
  refine g_f (v := .int (nI r)) Z kc_Wy hP hw.1 rfl 0 (by decide) wl_Wy_7 rfl rfl d_Wy_slotOf_2 ?_
  refine cr_S Z ks_Wy_62 (c_Ma_floorMod l D E La mu hn hw.2.2.2.2.2.1 (Nat.lt_of_le_of_lt hw.2.2.2.2.2.2 (by decide))) hP [] rfl rfl hl.1 (Nat.le_of_ble_eq_true rfl) ⟨by decide, by decide⟩ ⟨Nat.le_refl _, Nat.le_refl _⟩ d_Wy_slotOf_5 ?_
  exact W.iret hx hb hr (fun t ht hW => ⟨rfl, ht⟩) (fun q h => by cases h) d_Wy_slotOf_8
set_option maxHeartbeats 4000000 in
set_option maxRecDepth 100000 in
theorem c_Wy_waitingCount (l : Launch) (D : va_G) (E : Nat → ClassId) (La : la_L) {w0 r : Nat} (hw : isWy E La w0 r) (mu : la_M) {a b : Nat} (h4 : mu w0 4 = nI a) (h5 : mu w0 6 = nI b) (hab : b ≤ a) : cr l y_Wy_waitingCount b_Wy_waitingCount 1 (some .int) 0 0 D E La [.ref w0] mu (some (.int (nI (a - b)))) := by
  refine cr_begin R_Wy (by decide) rfl (Nat.le_of_ble_eq_true rfl) ?_
  intro p e s m below meth c ls Z hr hlocks hP hl
  have hx := Z.1
  have hb := Z.2.1
  have hK : va_K D cls5 (tyE E) s := Z.2.2.2.2.2
  have hl : lv_has ls 1 [(0, .ref w0)] := hl
  refine lv_aload_n hx hb d_Wy_waitingCount_0 rfl (lv_at hl 0 rfl) ?_
  refine g_i (v := (nI a)) Z kc_Wy hP hw.1 rfl 4 (by decide) wl_Wy_27 rfl rfl h4 d_Wy_waitingCount_1 ?_
  refine lv_aload_n hx hb d_Wy_waitingCount_4 rfl (lv_at hl 0 rfl) ?_
  refine g_i (v := (nI b)) Z kc_Wy hP hw.1 rfl 6 (by decide) wl_Wy_30 rfl rfl h5 d_Wy_waitingCount_5 ?_
  refine lv_isub hx hb d_Wy_waitingCount_8 ?_
  exact W.iret hx hb hr (fun t ht hW => ⟨by rw [pk_sub hab], ht⟩) (fun q h => by cases h) d_Wy_waitingCount_9
set_option maxHeartbeats 4000000 in
set_option maxRecDepth 100000 in
theorem c_Wy_openCount (l : Launch) (D : va_G) (E : Nat → ClassId) (La : la_L) {w0 r : Nat} (hw : isWy E La w0 r) (mu : la_M) {a b : Nat} (h4 : mu w0 4 = nI a) (h5 : mu w0 5 = nI b) (hab : b ≤ a) : cr l y_Wy_openCount b_Wy_openCount 1 (some .int) 0 0 D E La [.ref w0] mu (some (.int (nI (a - b)))) := by
  refine cr_begin R_Wy (by decide) rfl (Nat.le_of_ble_eq_true rfl) ?_
  intro p e s m below meth c ls Z hr hlocks hP hl
  have hx := Z.1
  have hb := Z.2.1
  have hK : va_K D cls5 (tyE E) s := Z.2.2.2.2.2
  have hl : lv_has ls 1 [(0, .ref w0)] := hl
  refine lv_aload_n hx hb d_Wy_openCount_0 rfl (lv_at hl 0 rfl) ?_
  refine g_i (v := (nI a)) Z kc_Wy hP hw.1 rfl 4 (by decide) wl_Wy_27 rfl rfl h4 d_Wy_openCount_1 ?_
  refine lv_aload_n hx hb d_Wy_openCount_4 rfl (lv_at hl 0 rfl) ?_
  refine g_i (v := (nI b)) Z kc_Wy hP hw.1 rfl 5 (by decide) wl_Wy_33 rfl rfl h5 d_Wy_openCount_5 ?_
  refine lv_isub hx hb d_Wy_openCount_8 ?_
  exact W.iret hx hb hr (fun t ht hW => ⟨by rw [pk_sub hab], ht⟩) (fun q h => by cases h) d_Wy_openCount_9
set_option maxHeartbeats 4000000 in
set_option maxRecDepth 100000 in
theorem c_Wy_isFull_t (l : Launch) (D : va_G) (E : Nat → ClassId) (La : la_L) {w0 r : Nat} (hw : isWy E La w0 r) (mu : la_M) {a b : Nat} (h4 : mu w0 4 = nI a) (h5 : mu w0 5 = nI b) (hab : b ≤ a) (ha : a < 2 ^ 31) (hf : r ≤ a - b) : cr l y_Wy_isFull b_Wy_isFull 1 (some .boolean) 1 20 D E La [.ref w0] mu (some (.int 1)) := by
  refine cr_begin R_Wy (by decide) rfl (Nat.le_of_ble_eq_true rfl) ?_
  intro p e s m below meth c ls Z hr hlocks hP hl
  have hx := Z.1
  have hb := Z.2.1
  have hK : va_K D cls5 (tyE E) s := Z.2.2.2.2.2
  have hl : lv_has ls 1 [(0, .ref w0)] := hl
  refine lv_aload_n hx hb d_Wy_isFull_0 rfl (lv_at hl 0 rfl) ?_
  refine cr_V Z kv_Wy_36 (c_Wy_openCount l D E La hw mu h4 h5 hab) hP (la_recv hK hP kc_Wy hw.1 rfl) [] rfl rfl hl.1 (Nat.le_of_ble_eq_true rfl) ⟨by decide, by decide⟩ ⟨Nat.le_refl _, Nat.le_refl _⟩ d_Wy_isFull_1 ?_
  refine lv_aload_n hx hb d_Wy_isFull_4 rfl (lv_at hl 0 rfl) ?_
  refine g_f (v := .int (nI r)) Z kc_Wy hP hw.1 rfl 0 (by decide) wl_Wy_7 rfl rfl d_Wy_isFull_5 ?_
  refine lv_icmp_lt (tgt := 15) hx hb d_Wy_isFull_8 rfl (fun br8 => absurd br8 (nI_nlt hf (by omega))) (fun br8 => ?_)
  refine lv_iconst (v := 1) hx hb d_Wy_isFull_11 (by decide) ?_
  refine lv_goto (tgt := 16) hx hb d_Wy_isFull_12 rfl ?_
  exact W.zret hx hb hr (by decide) (fun t ht hW => ⟨rfl, ht⟩) (fun q h => by cases h) d_Wy_isFull_16
set_option maxHeartbeats 4000000 in
set_option maxRecDepth 100000 in
theorem c_Wy_isFull_f (l : Launch) (D : va_G) (E : Nat → ClassId) (La : la_L) {w0 r : Nat} (hw : isWy E La w0 r) (mu : la_M) {a b : Nat} (h4 : mu w0 4 = nI a) (h5 : mu w0 5 = nI b) (hab : b ≤ a) (ha : a < 2 ^ 31) (hf : a - b < r) : cr l y_Wy_isFull b_Wy_isFull 1 (some .boolean) 1 20 D E La [.ref w0] mu (some (.int 0)) := by
  refine cr_begin R_Wy (by decide) rfl (Nat.le_of_ble_eq_true rfl) ?_
  intro p e s m below meth c ls Z hr hlocks hP hl
  have hx := Z.1
  have hb := Z.2.1
  have hK : va_K D cls5 (tyE E) s := Z.2.2.2.2.2
  have hl : lv_has ls 1 [(0, .ref w0)] := hl
  refine lv_aload_n hx hb d_Wy_isFull_0 rfl (lv_at hl 0 rfl) ?_
  refine cr_V Z kv_Wy_36 (c_Wy_openCount l D E La hw mu h4 h5 hab) hP (la_recv hK hP kc_Wy hw.1 rfl) [] rfl rfl hl.1 (Nat.le_of_ble_eq_true rfl) ⟨by decide, by decide⟩ ⟨Nat.le_refl _, Nat.le_refl _⟩ d_Wy_isFull_1 ?_
  refine lv_aload_n hx hb d_Wy_isFull_4 rfl (lv_at hl 0 rfl) ?_
  refine g_f (v := .int (nI r)) Z kc_Wy hP hw.1 rfl 0 (by decide) wl_Wy_7 rfl rfl d_Wy_isFull_5 ?_
  refine lv_icmp_lt (tgt := 15) hx hb d_Wy_isFull_8 rfl (fun br8 => ?_) (fun br8 => absurd (nI_lt hf (Nat.lt_of_le_of_lt hw.2.2.2.2.2.2 (by decide))) br8)
  refine lv_iconst (v := 0) hx hb d_Wy_isFull_15 (by decide) ?_
  exact W.zret hx hb hr (by decide) (fun t ht hW => ⟨rfl, ht⟩) (fun q h => by cases h) d_Wy_isFull_16
set_option maxHeartbeats 4000000 in
set_option maxRecDepth 100000 in
theorem c_Wy_openChange (l : Launch) (D : va_G) (E : Nat → ClassId) (La : la_L) {w0 r : Nat} (hw : isWy E La w0 r) (mu : la_M) {k i0 : Nat} (h5 : mu w0 5 = nI k) (hk : k + i0 < 2 ^ 31) : cr l y_Wy_openChange b_Wy_openChange 2 (some (.object "EditRelay$Change")) 2 43 D E La [.ref w0, .int (nI i0)] mu (some (.ref (w0 + 5 + 2 * ((k + i0) % r)))) := by
  refine cr_begin R_Wy (by decide) rfl (Nat.le_of_ble_eq_true rfl) ?_
  intro p e s m below meth c ls Z hr hlocks hP hl
  have hx := Z.1
  have hb := Z.2.1
  have hK : va_K D cls5 (tyE E) s := Z.2.2.2.2.2
  have hl : lv_has ls 2 [(0, .ref w0), (1, .int (nI i0))] := hl
  refine lv_aload_n hx hb d_Wy_openChange_0 rfl (lv_at hl 0 rfl) ?_
  refine g_f (v := .ref (w0 + 2)) Z kc_Wy hP hw.1 rfl 2 (by decide) wl_Wy_19 rfl rfl d_Wy_openChange_1 ?_
  refine lv_aload_n hx hb d_Wy_openChange_4 rfl (lv_at hl 0 rfl) ?_
  refine lv_aload_n hx hb d_Wy_openChange_5 rfl (lv_at hl 0 rfl) ?_
  refine g_i (v := (nI k)) Z kc_Wy hP hw.1 rfl 5 (by decide) wl_Wy_33 rfl rfl h5 d_Wy_openChange_6 ?_
  refine lv_iload_n hx hb d_Wy_openChange_9 rfl (lv_at hl 1 rfl) ?_
  refine lv_iadd hx hb d_Wy_openChange_10 ?_
  rw [nI_add]
  refine cr_V Z kv_Wy_40 (c_Wy_slotOf l D E La hw mu hk) hP (la_recv hK hP kc_Wy hw.1 rfl) [.ref (w0 + 2)] rfl rfl hl.1 (Nat.le_of_ble_eq_true rfl) ⟨by decide, by decide⟩ ⟨Nat.le_refl _, Nat.le_refl _⟩ d_Wy_openChange_11 ?_
  refine la_aald (F := (fun k => w0 + 5 + 2 * k)) hx hb hK hP 5 hw.2.2.1 rfl rfl ((k + i0) % r) rfl (Nat.mod_lt _ hw.2.2.2.2.2.1) (Nat.lt_of_le_of_lt hw.2.2.2.2.2.2 (by decide)) d_Wy_openChange_14 ?_
  exact W.aret hx hb hr (Or.inl ⟨_, rfl⟩) (Or.inr ⟨_, rfl⟩) (fun t ht hW => ⟨rfl, ht⟩) (fun q h => by cases h) d_Wy_openChange_15
set_option maxHeartbeats 4000000 in
set_option maxRecDepth 100000 in
theorem c_Wy_oldestChange (l : Launch) (D : va_G) (E : Nat → ClassId) (La : la_L) {w0 r : Nat} (hw : isWy E La w0 r) (mu : la_M) {g : Nat} (h6 : mu w0 6 = nI g) (hg : g < 2 ^ 31) : cr l y_Wy_oldestChange b_Wy_oldestChange 1 (some (.object "EditRelay$Change")) 2 43 D E La [.ref w0] mu (some (.ref (w0 + 4 + 2 * (g % r)))) := by
  refine cr_begin R_Wy (by decide) rfl (Nat.le_of_ble_eq_true rfl) ?_
  intro p e s m below meth c ls Z hr hlocks hP hl
  have hx := Z.1
  have hb := Z.2.1
  have hK : va_K D cls5 (tyE E) s := Z.2.2.2.2.2
  have hl : lv_has ls 1 [(0, .ref w0)] := hl
  refine lv_aload_n hx hb d_Wy_oldestChange_0 rfl (lv_at hl 0 rfl) ?_
  refine g_f (v := .ref (w0 + 1)) Z kc_Wy hP hw.1 rfl 1 (by decide) wl_Wy_15 rfl rfl d_Wy_oldestChange_1 ?_
  refine lv_aload_n hx hb d_Wy_oldestChange_4 rfl (lv_at hl 0 rfl) ?_
  refine lv_aload_n hx hb d_Wy_oldestChange_5 rfl (lv_at hl 0 rfl) ?_
  refine g_i (v := (nI g)) Z kc_Wy hP hw.1 rfl 6 (by decide) wl_Wy_30 rfl rfl h6 d_Wy_oldestChange_6 ?_
  refine cr_V Z kv_Wy_40 (c_Wy_slotOf l D E La hw mu hg) hP (la_recv hK hP kc_Wy hw.1 rfl) [.ref (w0 + 1)] rfl rfl hl.1 (Nat.le_of_ble_eq_true rfl) ⟨by decide, by decide⟩ ⟨Nat.le_refl _, Nat.le_refl _⟩ d_Wy_oldestChange_9 ?_
  refine la_aald (F := (fun k => w0 + 4 + 2 * k)) hx hb hK hP 5 hw.2.1 rfl rfl (g % r) rfl (Nat.mod_lt _ hw.2.2.2.2.2.1) (Nat.lt_of_le_of_lt hw.2.2.2.2.2.2 (by decide)) d_Wy_oldestChange_12 ?_
  exact W.aret hx hb hr (Or.inl ⟨_, rfl⟩) (Or.inr ⟨_, rfl⟩) (fun t ht hW => ⟨rfl, ht⟩) (fun q h => by cases h) d_Wy_oldestChange_13
set_option maxHeartbeats 4000000 in
set_option maxRecDepth 100000 in
theorem c_Wy_oldestHeard (l : Launch) (D : va_G) (E : Nat → ClassId) (La : la_L) {w0 r : Nat} (hw : isWy E La w0 r) (mu : la_M) {g : Nat} (h6 : mu w0 6 = nI g) (hg : g < 2 ^ 31) : cr l y_Wy_oldestHeard b_Wy_oldestHeard 1 (some .int) 2 43 D E La [.ref w0] mu (some (.int (mu (w0 + 3) (g % r)))) := by
  refine cr_begin R_Wy (by decide) rfl (Nat.le_of_ble_eq_true rfl) ?_
  intro p e s m below meth c ls Z hr hlocks hP hl
  have hx := Z.1
  have hb := Z.2.1
  have hK : va_K D cls5 (tyE E) s := Z.2.2.2.2.2
  have hl : lv_has ls 1 [(0, .ref w0)] := hl
  refine lv_aload_n hx hb d_Wy_oldestHeard_0 rfl (lv_at hl 0 rfl) ?_
  refine g_f (v := .ref (w0 + 3)) Z kc_Wy hP hw.1 rfl 3 (by decide) wl_Wy_22 rfl rfl d_Wy_oldestHeard_1 ?_
  refine lv_aload_n hx hb d_Wy_oldestHeard_4 rfl (lv_at hl 0 rfl) ?_
  refine lv_aload_n hx hb d_Wy_oldestHeard_5 rfl (lv_at hl 0 rfl) ?_
  refine g_i (v := (nI g)) Z kc_Wy hP hw.1 rfl 6 (by decide) wl_Wy_30 rfl rfl h6 d_Wy_oldestHeard_6 ?_
  refine cr_V Z kv_Wy_40 (c_Wy_slotOf l D E La hw mu hg) hP (la_recv hK hP kc_Wy hw.1 rfl) [.ref (w0 + 3)] rfl rfl hl.1 (Nat.le_of_ble_eq_true rfl) ⟨by decide, by decide⟩ ⟨Nat.le_refl _, Nat.le_refl _⟩ d_Wy_oldestHeard_9 ?_
  refine la_iald hx hb hK hP 0 hw.2.2.2.1 rfl rfl (g % r) rfl (Nat.mod_lt _ hw.2.2.2.2.2.1) (Nat.lt_of_le_of_lt hw.2.2.2.2.2.2 (by decide)) d_Wy_oldestHeard_12 ?_
  exact W.iret hx hb hr (fun t ht hW => ⟨rfl, ht⟩) (fun q h => by cases h) d_Wy_oldestHeard_13
set_option maxHeartbeats 4000000 in
set_option maxRecDepth 100000 in
theorem c_Wy_forget (l : Launch) (D : va_G) (E : Nat → ClassId) (La : la_L) {w0 r : Nat} (hw : isWy E La w0 r) (mu : la_M) {k f0 : Nat} (h5 : mu w0 5 = nI k) (hk : k < 2 ^ 31) (hf : f0 < 2 ^ 31) : cw l y_Wy_forget b_Wy_forget 2 none 1 21 D E La [.ref w0, .int (nI f0)] mu none (la_up mu w0 5 (nI (max k f0))) := by
  refine cw_begin R_Wy (by decide) rfl (Nat.le_of_ble_eq_true rfl) ?_
  intro p e s m below meth c ls Z hr hlocks hP hS hl
  have hx := Z.1
  have hb := Z.2.1
  have hK : va_K D cls5 (tyE E) s := Z.2.2.2.2.2
  have hl : lv_has ls 2 [(0, .ref w0), (1, .int (nI f0))] := hl
  refine lv_aload_n hx hb d_Wy_forget_0 rfl (lv_at hl 0 rfl) ?_
  refine lv_aload_n hx hb d_Wy_forget_1 rfl (lv_at hl 0 rfl) ?_
  refine g_i (v := (nI k)) Z kc_Wy hP hw.1 rfl 5 (by decide) wl_Wy_33 rfl rfl h5 d_Wy_forget_2 ?_
  refine lv_iload_n hx hb d_Wy_forget_5 rfl (lv_at hl 1 rfl) ?_
  refine cr_S Z ks_Wy_48 (c_Ma_max l D E La mu hk hf) hP [.ref w0] rfl rfl hl.1 (Nat.le_of_ble_eq_true rfl) ⟨by decide, by decide⟩ ⟨Nat.le_refl _, Nat.le_refl _⟩ d_Wy_forget_6 ?_
  refine p_f Z kc_Wy hP hS hw.1 rfl 5 (by decide) wl_Wy_33 rfl rfl ⟨rfl, rfl⟩ (Nat.le_of_ble_eq_true rfl) rfl d_Wy_forget_9 (fun H locs hP hS => ?_)
  exact W.vret hx hb hr (fun t ht hW => ⟨rfl, by rw [ht]; exact cvm hP (rfl), hS.F ht⟩) hS.2.2 d_Wy_forget_12
set_option maxHeartbeats 4000000 in
set_option maxRecDepth 100000 in
theorem c_Wy_send (l : Launch) (D : va_G) (E : Nat → ClassId) (La : la_L) {w0 r : Nat} (hw : isWy E La w0 r) (mu : la_M) {c0 n : Nat} (hc0 : La c0 = some sh_Ch) (h4 : mu w0 4 = nI n) (hn : n < 2 ^ 31) (hz : chz (mu c0 2)) (x : Int32) : cw l y_Wy_send b_Wy_send 4 none 2 43 D E La [.ref w0, .ref c0, .int x] mu none (wy_send mu w0 r c0 n x) := by
  refine cw_begin R_Wy (by decide) rfl (Nat.le_of_ble_eq_true rfl) ?_
  intro p e s m below meth c ls Z hr hlocks hP hS hl
  have hx := Z.1
  have hb := Z.2.1
  have hK : va_K D cls5 (tyE E) s := Z.2.2.2.2.2
  have hl : lv_has ls 4 [(0, .ref w0), (1, .ref c0), (2, .int x)] := hl
  have e4 : (ch_copy (ch_copy mu (w0 + 4 + 2 * (n % r)) c0) (w0 + 5 + 2 * (n % r)) c0) w0 4 = nI n := by rw [ch_copy_n (by omega), ch_copy_n (by omega)]; exact h4
  have ez : chz ((ch_copy mu (w0 + 4 + 2 * (n % r)) c0) c0 2) := by rw [ch_copy_s]; exact hz
  refine lv_aload_n hx hb d_Wy_send_0 rfl (lv_at hl 0 rfl) ?_
  refine lv_aload_n hx hb d_Wy_send_1 rfl (lv_at hl 0 rfl) ?_
  refine g_i (v := (nI n)) Z kc_Wy hP hw.1 rfl 4 (by decide) wl_Wy_27 rfl rfl h4 d_Wy_send_2 ?_
  refine cr_V Z kv_Wy_40 (c_Wy_slotOf l D E La hw mu hn) hP (la_recv hK hP kc_Wy hw.1 rfl) [] rfl rfl hl.1 (Nat.le_of_ble_eq_true rfl) ⟨by decide, by decide⟩ ⟨Nat.le_refl _, Nat.le_refl _⟩ d_Wy_send_5 ?_
  refine lv_istore_n hx hb d_Wy_send_8 rfl hl (by decide) rfl (fun ls hl => ?_)
  have hl : lv_has ls 4 [(3, .int (nI (n % r))), (0, .ref w0), (1, .ref c0), (2, .int x)] := hl
  refine lv_aload_n hx hb d_Wy_send_9 rfl (lv_at hl 1 rfl) ?_
  refine g_f (v := .ref (w0 + 1)) Z kc_Wy hP hw.1 rfl 1 (by decide) wl_Wy_15 rfl rfl d_Wy_send_10 ?_
  refine lv_iload_n hx hb d_Wy_send_13 rfl (lv_at hl 0 rfl) ?_
  refine la_aald (F := (fun k => w0 + 4 + 2 * k)) hx hb hK hP 5 hw.2.1 rfl rfl (n % r) rfl (Nat.mod_lt _ hw.2.2.2.2.2.1) (Nat.lt_of_le_of_lt hw.2.2.2.2.2.2 (by decide)) d_Wy_send_14 ?_
  refine lv_aload_n hx hb d_Wy_send_15 rfl (lv_at hl 2 rfl) ?_
  refine cw_V Z kv_Wy_44 (c_Ch_copyFrom l D E La (hw.2.2.2.2.1 _ (Nat.mod_lt _ hw.2.2.2.2.2.1)).1 hc0 mu hz) hP hS (fun _ h => h) (la_recv hK hP kc_Ch (hw.2.2.2.2.1 _ (Nat.mod_lt _ hw.2.2.2.2.2.1)).1 rfl) [] rfl rfl hl.1 (Nat.le_of_ble_eq_true rfl) ⟨by decide, by decide⟩ ⟨Nat.le_refl _, Nat.le_refl _⟩ d_Wy_send_16 (fun H locs hP hkp hS => ?_)
  refine lv_aload_n hx hb d_Wy_send_19 rfl (lv_at hl 1 rfl) ?_
  refine g_f (v := .ref (w0 + 2)) Z kc_Wy hP hw.1 rfl 2 (by decide) wl_Wy_19 rfl rfl d_Wy_send_20 ?_
  refine lv_iload_n hx hb d_Wy_send_23 rfl (lv_at hl 0 rfl) ?_
  refine la_aald (F := (fun k => w0 + 5 + 2 * k)) hx hb hK hP 5 hw.2.2.1 rfl rfl (n % r) rfl (Nat.mod_lt _ hw.2.2.2.2.2.1) (Nat.lt_of_le_of_lt hw.2.2.2.2.2.2 (by decide)) d_Wy_send_24 ?_
  refine lv_aload_n hx hb d_Wy_send_25 rfl (lv_at hl 2 rfl) ?_
  refine cw_V Z kv_Wy_44 (c_Ch_copyFrom l D E La (hw.2.2.2.2.1 _ (Nat.mod_lt _ hw.2.2.2.2.2.1)).2 hc0 (ch_copy mu (w0 + 4 + 2 * (n % r)) c0) ez) hP hS (fun _ h => h) (la_recv hK hP kc_Ch (hw.2.2.2.2.1 _ (Nat.mod_lt _ hw.2.2.2.2.2.1)).2 rfl) [] rfl rfl hl.1 (Nat.le_of_ble_eq_true rfl) ⟨by decide, by decide⟩ ⟨Nat.le_refl _, Nat.le_refl _⟩ d_Wy_send_26 (fun H locs hP hkp hS => ?_)
  refine lv_aload_n hx hb d_Wy_send_29 rfl (lv_at hl 1 rfl) ?_
  refine g_f (v := .ref (w0 + 3)) Z kc_Wy hP hw.1 rfl 3 (by decide) wl_Wy_22 rfl rfl d_Wy_send_30 ?_
  refine lv_iload_n hx hb d_Wy_send_33 rfl (lv_at hl 0 rfl) ?_
  refine lv_iload_n hx hb d_Wy_send_34 rfl (lv_at hl 3 rfl) ?_
  refine la_iast hx hb hK hP hS 0 hw.2.2.2.1 (fun _ => rfl) rfl (n % r) rfl (Nat.mod_lt _ hw.2.2.2.2.2.1) (Nat.lt_of_le_of_lt hw.2.2.2.2.2.2 (by decide)) d_Wy_send_35 (fun H locs hP hS => ?_)
  refine lv_aload_n hx hb d_Wy_send_36 rfl (lv_at hl 1 rfl) ?_
  refine lv_dup hx hb d_Wy_send_37 rfl ?_
  refine g_i (v := (nI n)) Z kc_Wy hP hw.1 rfl 4 (by decide) wl_Wy_27 rfl rfl ((congrFun (la_up_n (Nat.ne_of_lt (by omega))) 4).trans e4) d_Wy_send_38 ?_
  refine lv_iconst (v := 1) hx hb d_Wy_send_41 (by decide) ?_
  refine lv_iadd hx hb d_Wy_send_42 ?_
  refine p_f Z kc_Wy hP hS hw.1 rfl 4 (by decide) wl_Wy_27 rfl rfl ⟨rfl, rfl⟩ (Nat.le_of_ble_eq_true rfl) rfl d_Wy_send_43 (fun H locs hP hS => ?_)
  exact W.vret hx hb hr (fun t ht hW => ⟨rfl, by rw [ht]; exact cvm hP (by simp only [wy_send, nI_1]), hS.F ht⟩) hS.2.2 d_Wy_send_46
set_option maxHeartbeats 4000000 in
set_option maxRecDepth 100000 in
theorem c_Wy_fitOpenChanges (l : Launch) (D : va_G) (E : Nat → ClassId) (La : la_L) {w0 r : Nat} (hw : isWy E La w0 r) (mu : la_M) {c0 a k : Nat} (hc0 : La c0 = some sh_Ch) (hcw : w0 ≠ c0) (h4 : mu w0 4 = nI a) (h5 : mu w0 5 = nI k) (hka : k ≤ a) (ha : a < 2 ^ 31) : cw l y_Wy_fitOpenChanges b_Wy_fitOpenChanges 4 none 3 69 D E La [.ref w0, .ref c0] mu none (wy_fit mu w0 r c0 k (a - k)) := by
  refine cw_begin R_Wy (by decide) rfl (Nat.le_of_ble_eq_true rfl) ?_
  intro p e s m below meth c ls Z hr hlocks hP hS hl
  have hx := Z.1
  have hb := Z.2.1
  have hK : va_K D cls5 (tyE E) s := Z.2.2.2.2.2
  have hl : lv_has ls 4 [(0, .ref w0), (1, .ref c0)] := hl
  have e5 : ∀ i, wy_fit mu w0 r c0 k i w0 5 = nI k := fun i => by rw [wy_fit_n hcw (fun j => by omega)]; exact h5
  have loop : ∀ (t i : Nat) (H : Heap) (locs : List Loc) (ls : Array Slot), i + t = a - k → la_P D cls5 La (wy_fit mu w0 r c0 k i) H → va_S (la_A La) s.heap H locs → lv_has ls 4 [(3, .int (nI i)), (2, .int (nI (a - k))), (0, .ref w0), (1, .ref c0)] → W p l e (rmm 3 69) s m ([.ref w0, .ref c0] : List Value).toArray below meth c H locs 0 0 (MQ below (cw_Q none (la_P D cls5 La (wy_fit mu w0 r c0 k (a - k))) (la_A La)) ([.ref w0, .ref c0] : List Value).toArray s 0 0 (la_A La)) (F0 m 7 ls []) := by
    intro t
    induction t with
    | zero =>
      intro i H locs ls hi hP hS hl
      have hia : i = a - k := by omega
      subst hia
      refine lv_iload_n hx hb d_Wy_fitOpenChanges_7 rfl (lv_at hl 0 rfl) ?_
      refine lv_iload_n hx hb d_Wy_fitOpenChanges_8 rfl (lv_at hl 1 rfl) ?_
      refine lv_icmp_ge (tgt := 27) hx hb d_Wy_fitOpenChanges_9 rfl (fun br9 => ?_) (fun br9 => absurd (nI_le (Nat.le_refl _) (by omega)) br9)
      exact W.vret hx hb hr (fun t ht hW => ⟨rfl, by rw [ht]; exact cvm hP (rfl), hS.F ht⟩) hS.2.2 d_Wy_fitOpenChanges_27
    | succ t ih =>
      intro i H locs ls hi hP hS hl
      refine lv_iload_n hx hb d_Wy_fitOpenChanges_7 rfl (lv_at hl 0 rfl) ?_
      refine lv_iload_n hx hb d_Wy_fitOpenChanges_8 rfl (lv_at hl 1 rfl) ?_
      refine lv_icmp_ge (tgt := 27) hx hb d_Wy_fitOpenChanges_9 rfl (fun br9 => absurd br9 (nI_ge (by omega) (by omega))) (fun br9 => ?_)
      refine lv_aload_n hx hb d_Wy_fitOpenChanges_12 rfl (lv_at hl 3 rfl) ?_
      refine lv_aload_n hx hb d_Wy_fitOpenChanges_13 rfl (lv_at hl 2 rfl) ?_
      refine lv_iload_n hx hb d_Wy_fitOpenChanges_14 rfl (lv_at hl 0 rfl) ?_
      refine cr_V Z kv_Wy_54 (c_Wy_openChange l D E La hw (wy_fit mu w0 r c0 k i) (e5 i) (by omega)) hP (la_recv hK hP kc_Wy hw.1 rfl) [.ref c0] rfl rfl hl.1 (Nat.le_of_ble_eq_true rfl) ⟨by decide, by decide⟩ ⟨Nat.le_refl _, Nat.le_refl _⟩ d_Wy_fitOpenChanges_15 ?_
      refine cw_S Z ks_Wy_58 (c_Ch_fitToEachOther l D E La hc0 (hw.2.2.2.2.1 _ (Nat.mod_lt _ hw.2.2.2.2.2.1)).2 (wy_fit mu w0 r c0 k i)) hP hS (fun _ h => h) [] rfl rfl hl.1 (Nat.le_of_ble_eq_true rfl) ⟨by decide, by decide⟩ ⟨Nat.le_refl _, Nat.le_refl _⟩ d_Wy_fitOpenChanges_18 (fun H locs hP hkp hS => ?_)
      refine lv_iinc (k := 0) (v := (nI (i + 1))) hx hb d_Wy_fitOpenChanges_21 hl rfl (nI_1 i) (by decide) rfl (fun ls hl => ?_)
      have hl : lv_has ls 4 [(3, .int (nI (i + 1))), (2, .int (nI (a - k))), (0, .ref w0), (1, .ref c0)] := hl
      refine lv_goto (tgt := 7) hx hb d_Wy_fitOpenChanges_24 rfl ?_
      exact ih (i + 1) H locs ls (by omega) hP hS hl
  refine lv_aload_n hx hb d_Wy_fitOpenChanges_0 rfl (lv_at hl 0 rfl) ?_
  refine cr_V Z kv_Wy_36 (c_Wy_openCount l D E La hw mu h4 h5 hka) hP (la_recv hK hP kc_Wy hw.1 rfl) [] rfl rfl hl.1 (Nat.le_of_ble_eq_true rfl) ⟨by decide, by decide⟩ ⟨Nat.le_refl _, Nat.le_refl _⟩ d_Wy_fitOpenChanges_1 ?_
  refine lv_istore_n hx hb d_Wy_fitOpenChanges_4 rfl hl (by decide) rfl (fun ls hl => ?_)
  have hl : lv_has ls 4 [(2, .int (nI (a - k))), (0, .ref w0), (1, .ref c0)] := hl
  refine lv_iconst (v := 0) hx hb d_Wy_fitOpenChanges_5 (by decide) ?_
  refine lv_istore_n hx hb d_Wy_fitOpenChanges_6 rfl hl (by decide) rfl (fun ls hl => ?_)
  have hl : lv_has ls 4 [(3, .int 0), (2, .int (nI (a - k))), (0, .ref w0), (1, .ref c0)] := hl
  exact loop (a - k) 0 s.heap [] ls (by omega) hP hS hl
end
section
/-! EditRelay at b0: texts b0 + 1, ups b0 + 10, downs b0 + 11, made b0 + 276 (written by wip/whole/p13.py) -/
def isEr (E : Nat → ClassId) (La : la_L) (b0 : Nat) : Prop := La b0 = some (sh_Er (b0 + 1) (b0 + 10) (b0 + 11) (b0 + 276)) ∧ La (b0 + 1) = some (sh_R (E 3) 4 (fun k => b0 + 2 + 2 * k)) ∧ La (b0 + 10) = some (sh_R (E 4) 3 (fun k => b0 + 12 + 88 * k)) ∧ La (b0 + 11) = some (sh_R (E 4) 3 (fun k => b0 + 48 + 88 * k)) ∧ La (b0 + 276) = some sh_Ch ∧ (∀ k, k < 4 → isTx E La (b0 + 2 + 2 * k)) ∧ (∀ k, k < 3 → isWy E La (b0 + 12 + 88 * k) 16) ∧ (∀ k, k < 3 → isWy E La (b0 + 48 + 88 * k) 24)
theorem tx_do_n {mu : la_M} {a0 k q n z : Nat} {x : Int32} (h1 : z ≠ a0) (h2 : z ≠ a0 + 1) : tx_do mu a0 k q n x z = mu z := by
  unfold tx_do
  split
  · unfold tx_put
    rw [la_up_n h1, la_up_n h2, la_set_n h2]
  · split
    · unfold tx_rem
      rw [la_up_n h1, la_set_n h2]
    · rfl
def er_mk (mu : la_M) (c0 : Nat) (k q : Nat) (x : Int32) (o : Nat) : la_M := la_up (la_up (la_up (la_up mu c0 0 (nI k)) c0 1 (nI q)) c0 2 x) c0 3 (nI o)
theorem er_mk_n {mu : la_M} {c0 k q o z : Nat} {x : Int32} (h : z ≠ c0) : er_mk mu c0 k q x o z = mu z := by
  unfold er_mk
  rw [la_up_n h, la_up_n h, la_up_n h, la_up_n h]
/-- makeChange of client k + 1: its text has n letters, its up way has sent a -/
def er_make (mu : la_M) (b0 k kd q n a : Nat) (x : Int32) : la_M := wy_send (tx_do (er_mk mu (b0 + 276) kd q x (k + 1)) (b0 + 2 + 2 * (k + 1)) kd q n x) (b0 + 12 + 88 * k) 16 (b0 + 276) a (mu (b0 + 48 + 88 * k) 6)
/-- receive: from way wf (room rf, got g, heard h), back way wb (room rb, sent a, known k), text at a0 of n letters; the change comes out as kind kd, place q -/
def er_fit (mu : la_M) (wf rf wb rb g h a k : Nat) : la_M := wy_fit (la_up mu wb 5 (nI (max k h))) wb rb (wf + 4 + 2 * (g % rf)) (max k h) (a - max k h)
def er_recv (mu : la_M) (a0 wf rf wb rb g h a k kd q n : Nat) : la_M := la_up (tx_do (er_fit mu wf rf wb rb g h a k) a0 kd q n (er_fit mu wf rf wb rb g h a k (wf + 4 + 2 * (g % rf)) 2)) wf 6 (nI (g + 1))
set_option maxHeartbeats 4000000 in
set_option maxRecDepth 100000 in
theorem c_Er_way_u (l : Launch) (D : va_G) (E : Nat → ClassId) (La : la_L) {b0 : Nat} (he : isEr E La b0) (mu : la_M) {k : Nat} (hk : k < 3) {u : Int32} (hu : ¬ u = 0) : cr l y_Er_way b_Er_way 3 (some (.object "EditRelay$Way")) 0 0 D E La [.ref b0, .int (nI (k + 1)), .int u] mu (some (.ref (b0 + 12 + 88 * k))) := by
  refine cr_begin R_Er (by decide) rfl (Nat.le_of_ble_eq_true rfl) ?_
  intro p e s m below meth c ls Z hr hlocks hP hl
  have hx := Z.1
  have hb := Z.2.1
  have hK : va_K D cls5 (tyE E) s := Z.2.2.2.2.2
  have hl : lv_has ls 3 [(0, .ref b0), (1, .int (nI (k + 1))), (2, .int u)] := hl
  refine lv_iload_n hx hb d_Er_way_0 rfl (lv_at hl 2 rfl) ?_
  refine lv_if_eq (tgt := 15) hx hb d_Er_way_1 rfl (fun br1 => absurd br1 (hu)) (fun br1 => ?_)
  refine lv_aload_n hx hb d_Er_way_4 rfl (lv_at hl 0 rfl) ?_
  refine g_f (v := .ref (b0 + 10)) Z kc_Er hP he.1 rfl 1 (by decide) wl_Er_18 rfl rfl d_Er_way_5 ?_
  refine lv_iload_n hx hb d_Er_way_8 rfl (lv_at hl 1 rfl) ?_
  refine lv_iconst (v := 1) hx hb d_Er_way_9 (by decide) ?_
  refine lv_isub hx hb d_Er_way_10 ?_
  rw [nI_pred]
  refine la_aald (F := (fun k => b0 + 12 + 88 * k)) hx hb hK hP 4 he.2.2.1 rfl rfl k rfl hk (by decide) d_Er_way_11 ?_
  refine lv_goto (tgt := 23) hx hb d_Er_way_12 rfl ?_
  exact W.aret hx hb hr (Or.inl ⟨_, rfl⟩) (Or.inr ⟨_, rfl⟩) (fun t ht hW => ⟨rfl, ht⟩) (fun q h => by cases h) d_Er_way_23
set_option maxHeartbeats 4000000 in
set_option maxRecDepth 100000 in
theorem c_Er_way_d (l : Launch) (D : va_G) (E : Nat → ClassId) (La : la_L) {b0 : Nat} (he : isEr E La b0) (mu : la_M) {k : Nat} (hk : k < 3) {u : Int32} (hu : u = 0) : cr l y_Er_way b_Er_way 3 (some (.object "EditRelay$Way")) 0 0 D E La [.ref b0, .int (nI (k + 1)), .int u] mu (some (.ref (b0 + 48 + 88 * k))) := by
  refine cr_begin R_Er (by decide) rfl (Nat.le_of_ble_eq_true rfl) ?_
  intro p e s m below meth c ls Z hr hlocks hP hl
  have hx := Z.1
  have hb := Z.2.1
  have hK : va_K D cls5 (tyE E) s := Z.2.2.2.2.2
  have hl : lv_has ls 3 [(0, .ref b0), (1, .int (nI (k + 1))), (2, .int u)] := hl
  refine lv_iload_n hx hb d_Er_way_0 rfl (lv_at hl 2 rfl) ?_
  refine lv_if_eq (tgt := 15) hx hb d_Er_way_1 rfl (fun br1 => ?_) (fun br1 => absurd (hu) br1)
  refine lv_aload_n hx hb d_Er_way_15 rfl (lv_at hl 0 rfl) ?_
  refine g_f (v := .ref (b0 + 11)) Z kc_Er hP he.1 rfl 2 (by decide) wl_Er_22 rfl rfl d_Er_way_16 ?_
  refine lv_iload_n hx hb d_Er_way_19 rfl (lv_at hl 1 rfl) ?_
  refine lv_iconst (v := 1) hx hb d_Er_way_20 (by decide) ?_
  refine lv_isub hx hb d_Er_way_21 ?_
  rw [nI_pred]
  refine la_aald (F := (fun k => b0 + 48 + 88 * k)) hx hb hK hP 4 he.2.2.2.1 rfl rfl k rfl hk (by decide) d_Er_way_22 ?_
  exact W.aret hx hb hr (Or.inl ⟨_, rfl⟩) (Or.inr ⟨_, rfl⟩) (fun t ht hW => ⟨rfl, ht⟩) (fun q h => by cases h) d_Er_way_23
set_option maxHeartbeats 4000000 in
set_option maxRecDepth 100000 in
theorem c_Er_checkClient (l : Launch) (D : va_G) (E : Nat → ClassId) (La : la_L) (mu : la_M) {k : Nat} (hk : k < 3) : cr l y_Er_checkClient b_Er_checkClient 1 none 0 0 D E La [.int (nI (k + 1))] mu none := by
  refine cr_begin R_Er (by decide) rfl (Nat.le_of_ble_eq_true rfl) ?_
  intro p e s m below meth c ls Z hr hlocks hP hl
  have hx := Z.1
  have hb := Z.2.1
  have hK : va_K D cls5 (tyE E) s := Z.2.2.2.2.2
  have hl : lv_has ls 1 [(0, .int (nI (k + 1)))] := hl
  refine lv_iload_n hx hb d_Er_checkClient_0 rfl (lv_at hl 0 rfl) ?_
  refine lv_iconst (v := 1) hx hb d_Er_checkClient_1 (by decide) ?_
  refine lv_icmp_lt (tgt := 10) hx hb d_Er_checkClient_2 rfl (fun br2 => absurd br2 (nI_nlt (b := 1) (by omega) (by omega))) (fun br2 => ?_)
  refine lv_iload_n hx hb d_Er_checkClient_5 rfl (lv_at hl 0 rfl) ?_
  refine lv_iconst (v := 3) hx hb d_Er_checkClient_6 (by decide) ?_
  refine lv_icmp_le (tgt := 20) hx hb d_Er_checkClient_7 rfl (fun br7 => ?_) (fun br7 => absurd (nI_le (b := 3) (by omega) (by decide)) br7)
  exact W.vret hx hb hr (fun t ht hW => ⟨rfl, ht⟩) (fun q h => by cases h) d_Er_checkClient_20
set_option maxHeartbeats 4000000 in
set_option maxRecDepth 100000 in
theorem c_Er_checkSite (l : Launch) (D : va_G) (E : Nat → ClassId) (La : la_L) (mu : la_M) {k : Nat} (hk : k < 4) : cr l y_Er_checkSite b_Er_checkSite 1 none 0 0 D E La [.int (nI k)] mu none := by
  refine cr_begin R_Er (by decide) rfl (Nat.le_of_ble_eq_true rfl) ?_
  intro p e s m below meth c ls Z hr hlocks hP hl
  have hx := Z.1
  have hb := Z.2.1
  have hK : va_K D cls5 (tyE E) s := Z.2.2.2.2.2
  have hl : lv_has ls 1 [(0, .int (nI k))] := hl
  refine lv_iload_n hx hb d_Er_checkSite_0 rfl (lv_at hl 0 rfl) ?_
  refine lv_if_lt (tgt := 9) hx hb d_Er_checkSite_1 rfl (fun br1 => absurd br1 (nI_pos (by omega))) (fun br1 => ?_)
  refine lv_iload_n hx hb d_Er_checkSite_4 rfl (lv_at hl 0 rfl) ?_
  refine lv_iconst (v := 3) hx hb d_Er_checkSite_5 (by decide) ?_
  refine lv_icmp_le (tgt := 19) hx hb d_Er_checkSite_6 rfl (fun br6 => ?_) (fun br6 => absurd (nI_le (b := 3) (by omega) (by decide)) br6)
  exact W.vret hx hb hr (fun t ht hW => ⟨rfl, ht⟩) (fun q h => by cases h) d_Er_checkSite_19
set_option maxHeartbeats 4000000 in
set_option maxRecDepth 100000 in
theorem c_Er_checkHasLetter (l : Launch) (D : va_G) (E : Nat → ClassId) (La : la_L) {a0 : Nat} (ha : isTx E La a0) (mu : la_M) {q n : Nat} (hn : mu a0 1 = nI n) (hq : q < n) (hn3 : n < 2 ^ 31) : cr l y_Er_checkHasLetter b_Er_checkHasLetter 2 none 0 0 D E La [.ref a0, .int (nI q)] mu none := by
  refine cr_begin R_Er (by decide) rfl (Nat.le_of_ble_eq_true rfl) ?_
  intro p e s m below meth c ls Z hr hlocks hP hl
  have hx := Z.1
  have hb := Z.2.1
  have hK : va_K D cls5 (tyE E) s := Z.2.2.2.2.2
  have hl : lv_has ls 2 [(0, .ref a0), (1, .int (nI q))] := hl
  refine lv_iload_n hx hb d_Er_checkHasLetter_0 rfl (lv_at hl 1 rfl) ?_
  refine lv_if_lt (tgt := 12) hx hb d_Er_checkHasLetter_1 rfl (fun br1 => absurd br1 (nI_pos (by omega))) (fun br1 => ?_)
  refine lv_iload_n hx hb d_Er_checkHasLetter_4 rfl (lv_at hl 1 rfl) ?_
  refine lv_aload_n hx hb d_Er_checkHasLetter_5 rfl (lv_at hl 0 rfl) ?_
  refine g_i (v := (nI n)) Z kc_Tx hP ha.1 rfl 1 (by decide) wl_Er_45 rfl rfl hn d_Er_checkHasLetter_6 ?_
  refine lv_icmp_lt (tgt := 22) hx hb d_Er_checkHasLetter_9 rfl (fun br9 => ?_) (fun br9 => absurd (nI_lt hq hn3) br9)
  exact W.vret hx hb hr (fun t ht hW => ⟨rfl, ht⟩) (fun q h => by cases h) d_Er_checkHasLetter_22
set_option maxHeartbeats 4000000 in
set_option maxRecDepth 100000 in
theorem c_Er_checkSomeWaits (l : Launch) (D : va_G) (E : Nat → ClassId) (La : la_L) {w0 r : Nat} (hw : isWy E La w0 r) (mu : la_M) {a b : Nat} (h4 : mu w0 4 = nI a) (h6 : mu w0 6 = nI b) (hab : b < a) (ha : a < 2 ^ 31) : cr l y_Er_checkSomeWaits b_Er_checkSomeWaits 1 none 1 20 D E La [.ref w0] mu none := by
  refine cr_begin R_Er (by decide) rfl (Nat.le_of_ble_eq_true rfl) ?_
  intro p e s m below meth c ls Z hr hlocks hP hl
  have hx := Z.1
  have hb := Z.2.1
  have hK : va_K D cls5 (tyE E) s := Z.2.2.2.2.2
  have hl : lv_has ls 1 [(0, .ref w0)] := hl
  refine lv_aload_n hx hb d_Er_checkSomeWaits_0 rfl (lv_at hl 0 rfl) ?_
  refine cr_V Z kv_Er_102 (c_Wy_waitingCount l D E La hw mu h4 h6 (Nat.le_of_lt hab)) hP (la_recv hK hP kc_Wy hw.1 rfl) [] rfl rfl hl.1 (Nat.le_of_ble_eq_true rfl) ⟨by decide, by decide⟩ ⟨Nat.le_refl _, Nat.le_refl _⟩ d_Er_checkSomeWaits_1 ?_
  refine lv_if_ne (tgt := 17) hx hb d_Er_checkSomeWaits_4 rfl (fun br4 => ?_) (fun br4 => absurd br4 (nI_ne0 (by omega) (by omega)))
  exact W.vret hx hb hr (fun t ht hW => ⟨rfl, ht⟩) (fun q h => by cases h) d_Er_checkSomeWaits_17
set_option maxHeartbeats 4000000 in
set_option maxRecDepth 100000 in
theorem c_Er_checkMayMakeChange (l : Launch) (D : va_G) (E : Nat → ClassId) (La : la_L) {b0 : Nat} (he : isEr E La b0) (mu : la_M) {k : Nat} (hk : k < 3) {a b : Nat} (h4 : mu (b0 + 12 + 88 * k) 4 = nI a) (h5 : mu (b0 + 12 + 88 * k) 5 = nI b) (hab : b ≤ a) (ha : a < 2 ^ 31) (hf : a - b < 16) : cr l y_Er_checkMayMakeChange b_Er_checkMayMakeChange 2 none 2 40 D E La [.ref b0, .int (nI (k + 1))] mu none := by
  refine cr_begin R_Er (by decide) rfl (Nat.le_of_ble_eq_true rfl) ?_
  intro p e s m below meth c ls Z hr hlocks hP hl
  have hx := Z.1
  have hb := Z.2.1
  have hK : va_K D cls5 (tyE E) s := Z.2.2.2.2.2
  have hl : lv_has ls 2 [(0, .ref b0), (1, .int (nI (k + 1)))] := hl
  refine lv_aload_n hx hb d_Er_checkMayMakeChange_0 rfl (lv_at hl 0 rfl) ?_
  refine lv_iload_n hx hb d_Er_checkMayMakeChange_1 rfl (lv_at hl 1 rfl) ?_
  refine lv_iconst (v := 1) hx hb d_Er_checkMayMakeChange_2 (by decide) ?_
  refine cr_V Z kv_Er_74 (c_Er_way_u l D E La he mu hk (u := 1) (by decide)) hP (la_recv hK hP kc_Er he.1 rfl) [] rfl rfl hl.1 (Nat.le_of_ble_eq_true rfl) ⟨by decide, by decide⟩ ⟨Nat.le_refl _, Nat.le_refl _⟩ d_Er_checkMayMakeChange_3 ?_
  refine cr_V Z kv_Er_82 (c_Wy_isFull_f l D E La (he.2.2.2.2.2.2.1 k hk) mu h4 h5 hab ha hf) hP (la_recv hK hP kc_Wy (he.2.2.2.2.2.2.1 k hk).1 rfl) [] rfl rfl hl.1 (Nat.le_of_ble_eq_true rfl) ⟨by decide, by decide⟩ ⟨Nat.le_refl _, Nat.le_refl _⟩ d_Er_checkMayMakeChange_6 ?_
  refine lv_if_eq (tgt := 22) hx hb d_Er_checkMayMakeChange_9 rfl (fun br9 => ?_) (fun br9 => absurd (rfl) br9)
  exact W.vret hx hb hr (fun t ht hW => ⟨rfl, ht⟩) (fun q h => by cases h) d_Er_checkMayMakeChange_22
set_option maxHeartbeats 4000000 in
set_option maxRecDepth 100000 in
theorem c_Er_makeChange (l : Launch) (D : va_G) (E : Nat → ClassId) (La : la_L) {b0 : Nat} (he : isEr E La b0) (mu : la_M) {k : Nat} (hk : k < 3) {kd q n a : Nat} {x : Int32} (hn : mu (b0 + 2 + 2 * (k + 1)) 1 = nI n) (hk3 : kd ≤ 2) (h0 : kd = 0 → q ≤ n ∧ n < 64) (h1 : kd = 1 → q < n) (h2 : n ≤ 64) (hx0 : chz x) (hz : ∀ j, chz (mu ((b0 + 2 + 2 * (k + 1)) + 1) j)) (h4 : mu (b0 + 12 + 88 * k) 4 = nI a) (ha : a < 2 ^ 31) : cw l y_Er_makeChange b_Er_makeChange 5 none 3 66 D E La [.ref b0, .int (nI (k + 1)), .int (nI kd), .int (nI q), .int x] mu none (er_make mu b0 k kd q n a x) := by
  refine cw_begin R_Er (by decide) rfl (Nat.le_of_ble_eq_true rfl) ?_
  intro p e s m below meth c ls Z hr hlocks hP hS hl
  have hx := Z.1
  have hb := Z.2.1
  have hK : va_K D cls5 (tyE E) s := Z.2.2.2.2.2
  have hl : lv_has ls 5 [(0, .ref b0), (1, .int (nI (k + 1))), (2, .int (nI kd)), (3, .int (nI q)), (4, .int x)] := hl
  have f0 : (er_mk mu (b0 + 276) kd q x (k + 1)) (b0 + 276) 0 = nI kd := by simp [er_mk, la_up_s, la_up_k]
  have f1 : (er_mk mu (b0 + 276) kd q x (k + 1)) (b0 + 276) 1 = nI q := by simp [er_mk, la_up_s, la_up_k]
  have f2 : (er_mk mu (b0 + 276) kd q x (k + 1)) (b0 + 276) 2 = x := by simp [er_mk, la_up_s, la_up_k]
  have fn : (er_mk mu (b0 + 276) kd q x (k + 1)) (b0 + 2 + 2 * (k + 1)) 1 = nI n := by rw [er_mk_n (by omega)]; exact hn
  have fz : ∀ j, chz ((er_mk mu (b0 + 276) kd q x (k + 1)) ((b0 + 2 + 2 * (k + 1)) + 1) j) := fun j => by rw [er_mk_n (by omega)]; exact hz j
  have hM := c_Tx_perform l D E La (he.2.2.2.2.2.1 (k + 1) (by omega)) he.2.2.2.2.1 (er_mk mu (b0 + 276) kd q x (k + 1)) (k := kd) (q := q) (n := n) fn hk3 f0 f1 h0 h1 h2 (by rw [f2]; exact hx0) fz
  rw [f2] at hM
  have g6 : (tx_do (er_mk mu (b0 + 276) kd q x (k + 1)) (b0 + 2 + 2 * (k + 1)) kd q n x) (b0 + 48 + 88 * k) 6 = mu (b0 + 48 + 88 * k) 6 := by rw [tx_do_n (by omega) (by omega), er_mk_n (by omega)]
  have g4 : (tx_do (er_mk mu (b0 + 276) kd q x (k + 1)) (b0 + 2 + 2 * (k + 1)) kd q n x) (b0 + 12 + 88 * k) 4 = nI a := by rw [tx_do_n (by omega) (by omega), er_mk_n (by omega)]; exact h4
  have gz : chz ((tx_do (er_mk mu (b0 + 276) kd q x (k + 1)) (b0 + 2 + 2 * (k + 1)) kd q n x) (b0 + 276) 2) := by rw [tx_do_n (by omega) (by omega), f2]; exact hx0
  refine lv_aload_n hx hb d_Er_makeChange_0 rfl (lv_at hl 0 rfl) ?_
  refine g_f (v := .ref (b0 + 276)) Z kc_Er hP he.1 rfl 3 (by decide) wl_Er_31 rfl rfl d_Er_makeChange_1 ?_
  refine lv_iload_n hx hb d_Er_makeChange_4 rfl (lv_at hl 2 rfl) ?_
  refine p_f Z kc_Ch hP hS he.2.2.2.2.1 rfl 0 (by decide) wl_Er_99 rfl rfl ⟨rfl, rfl⟩ (Nat.le_of_ble_eq_true rfl) rfl d_Er_makeChange_5 (fun H locs hP hS => ?_)
  refine lv_aload_n hx hb d_Er_makeChange_8 rfl (lv_at hl 0 rfl) ?_
  refine g_f (v := .ref (b0 + 276)) Z kc_Er hP he.1 rfl 3 (by decide) wl_Er_31 rfl rfl d_Er_makeChange_9 ?_
  refine lv_iload_n hx hb d_Er_makeChange_12 rfl (lv_at hl 3 rfl) ?_
  refine p_f Z kc_Ch hP hS he.2.2.2.2.1 rfl 1 (by decide) wl_Er_115 rfl rfl ⟨rfl, rfl⟩ (Nat.le_of_ble_eq_true rfl) rfl d_Er_makeChange_13 (fun H locs hP hS => ?_)
  refine lv_aload_n hx hb d_Er_makeChange_16 rfl (lv_at hl 0 rfl) ?_
  refine g_f (v := .ref (b0 + 276)) Z kc_Er hP he.1 rfl 3 (by decide) wl_Er_31 rfl rfl d_Er_makeChange_17 ?_
  refine lv_iload hx hb d_Er_makeChange_20 (lv_at hl 4 rfl) ?_
  refine p_f Z kc_Ch hP hS he.2.2.2.2.1 rfl 2 (by decide) wl_Er_141 rfl rfl hx0 (Nat.le_of_ble_eq_true rfl) rfl d_Er_makeChange_22 (fun H locs hP hS => ?_)
  refine lv_aload_n hx hb d_Er_makeChange_25 rfl (lv_at hl 0 rfl) ?_
  refine g_f (v := .ref (b0 + 276)) Z kc_Er hP he.1 rfl 3 (by decide) wl_Er_31 rfl rfl d_Er_makeChange_26 ?_
  refine lv_iload_n hx hb d_Er_makeChange_29 rfl (lv_at hl 1 rfl) ?_
  refine p_f Z kc_Ch hP hS he.2.2.2.2.1 rfl 3 (by decide) wl_Er_118 rfl rfl ⟨rfl, rfl⟩ (Nat.le_of_ble_eq_true rfl) rfl d_Er_makeChange_30 (fun H locs hP hS => ?_)
  refine lv_aload_n hx hb d_Er_makeChange_33 rfl (lv_at hl 0 rfl) ?_
  refine g_f (v := .ref (b0 + 1)) Z kc_Er hP he.1 rfl 0 (by decide) wl_Er_11 rfl rfl d_Er_makeChange_34 ?_
  refine lv_iload_n hx hb d_Er_makeChange_37 rfl (lv_at hl 1 rfl) ?_
  refine la_aald (F := (fun k => b0 + 2 + 2 * k)) hx hb hK hP 3 he.2.1 rfl rfl (k + 1) rfl (by omega) (by decide) d_Er_makeChange_38 ?_
  refine lv_aload_n hx hb d_Er_makeChange_39 rfl (lv_at hl 0 rfl) ?_
  refine g_f (v := .ref (b0 + 276)) Z kc_Er hP he.1 rfl 3 (by decide) wl_Er_31 rfl rfl d_Er_makeChange_40 ?_
  refine cw_V Z kv_Er_145 (hM) hP hS (fun _ h => h) (la_recv hK hP kc_Tx (he.2.2.2.2.2.1 (k + 1) (by omega)).1 rfl) [] rfl rfl hl.1 (Nat.le_of_ble_eq_true rfl) ⟨by decide, by decide⟩ ⟨Nat.le_refl _, Nat.le_refl _⟩ d_Er_makeChange_43 (fun H locs hP hkp hS => ?_)
  refine lv_aload_n hx hb d_Er_makeChange_46 rfl (lv_at hl 0 rfl) ?_
  refine lv_iload_n hx hb d_Er_makeChange_47 rfl (lv_at hl 1 rfl) ?_
  refine lv_iconst (v := 1) hx hb d_Er_makeChange_48 (by decide) ?_
  refine cr_V Z kv_Er_74 (c_Er_way_u l D E La he (tx_do (er_mk mu (b0 + 276) kd q x (k + 1)) (b0 + 2 + 2 * (k + 1)) kd q n x) hk (u := 1) (by decide)) hP (la_recv hK hP kc_Er he.1 rfl) [] rfl rfl hl.1 (Nat.le_of_ble_eq_true rfl) ⟨by decide, by decide⟩ ⟨Nat.le_refl _, Nat.le_refl _⟩ d_Er_makeChange_49 ?_
  refine lv_aload_n hx hb d_Er_makeChange_52 rfl (lv_at hl 0 rfl) ?_
  refine g_f (v := .ref (b0 + 276)) Z kc_Er hP he.1 rfl 3 (by decide) wl_Er_31 rfl rfl d_Er_makeChange_53 ?_
  refine lv_aload_n hx hb d_Er_makeChange_56 rfl (lv_at hl 0 rfl) ?_
  refine lv_iload_n hx hb d_Er_makeChange_57 rfl (lv_at hl 1 rfl) ?_
  refine lv_iconst (v := 0) hx hb d_Er_makeChange_58 (by decide) ?_
  refine cr_V Z kv_Er_74 (c_Er_way_d l D E La he (tx_do (er_mk mu (b0 + 276) kd q x (k + 1)) (b0 + 2 + 2 * (k + 1)) kd q n x) hk (u := 0) rfl) hP (la_recv hK hP kc_Er he.1 rfl) [.ref (b0 + 276), .ref (b0 + 12 + 88 * k)] rfl rfl hl.1 (Nat.le_of_ble_eq_true rfl) ⟨by decide, by decide⟩ ⟨Nat.le_refl _, Nat.le_refl _⟩ d_Er_makeChange_59 ?_
  refine g_i (v := (mu (b0 + 48 + 88 * k) 6)) Z kc_Wy hP (he.2.2.2.2.2.2.2 k hk).1 rfl 6 (by decide) wl_Er_92 rfl rfl g6 d_Er_makeChange_62 ?_
  refine cw_V Z kv_Er_95 (c_Wy_send l D E La (he.2.2.2.2.2.2.1 k hk) (tx_do (er_mk mu (b0 + 276) kd q x (k + 1)) (b0 + 2 + 2 * (k + 1)) kd q n x) he.2.2.2.2.1 g4 ha gz (mu (b0 + 48 + 88 * k) 6)) hP hS (fun _ h => h) (la_recv hK hP kc_Wy (he.2.2.2.2.2.2.1 k hk).1 rfl) [] rfl rfl hl.1 (Nat.le_of_ble_eq_true rfl) ⟨by decide, by decide⟩ ⟨Nat.le_refl _, Nat.le_refl _⟩ d_Er_makeChange_65 (fun H locs hP hkp hS => ?_)
  exact W.vret hx hb hr (fun t ht hW => ⟨rfl, by rw [ht]; exact cvm hP (rfl), hS.F ht⟩) hS.2.2 d_Er_makeChange_68
set_option maxHeartbeats 4000000 in
set_option maxRecDepth 100000 in
theorem c_Er_receive (l : Launch) (D : va_G) (E : Nat → ClassId) (La : la_L) {b0 : Nat} (he : isEr E La b0) (mu : la_M) {j0 wf rf wb rb g h0 a k0 kd q n : Nat} (hj : j0 < 4) (hwf : isWy E La wf rf) (hwb : isWy E La wb rb) (hg : mu wf 6 = nI g) (hg3 : g < 2 ^ 30) (hh : mu (wf + 3) (g % rf) = nI h0) (hh3 : h0 < 2 ^ 31) (h4 : mu wb 4 = nI a) (ha : a < 2 ^ 31) (h5 : mu wb 5 = nI k0) (hk0 : k0 < 2 ^ 31) (hka : max k0 h0 ≤ a) (hcb : wb ≠ (wf + 4 + 2 * (g % rf))) (hfb : wf ≠ wb) (hft : wf ≠ (b0 + 2 + 2 * j0) ∧ wf ≠ (b0 + 2 + 2 * j0) + 1) (hfo : ∀ j, wf ≠ wb + 5 + 2 * j) (hn : (er_fit mu wf rf wb rb g h0 a k0) (b0 + 2 + 2 * j0) 1 = nI n) (hk3 : kd ≤ 2) (hkd : (er_fit mu wf rf wb rb g h0 a k0) (wf + 4 + 2 * (g % rf)) 0 = nI kd) (hq : (er_fit mu wf rf wb rb g h0 a k0) (wf + 4 + 2 * (g % rf)) 1 = nI q) (h0k : kd = 0 → q ≤ n ∧ n < 64) (h1k : kd = 1 → q < n) (h2 : n ≤ 64) (hx0 : chz ((er_fit mu wf rf wb rb g h0 a k0) (wf + 4 + 2 * (g % rf)) 2)) (hz : ∀ j, chz ((er_fit mu wf rf wb rb g h0 a k0) ((b0 + 2 + 2 * j0) + 1) j)) : cw l y_Er_receive b_Er_receive 5 (some (.object "EditRelay$Change")) 4 92 D E La [.ref b0, .int (nI j0), .ref wf, .ref wb] mu (some (.ref (wf + 4 + 2 * (g % rf)))) (er_recv mu (b0 + 2 + 2 * j0) wf rf wb rb g h0 a k0 kd q n) := by
  refine cw_begin R_Er (by decide) rfl (Nat.le_of_ble_eq_true rfl) ?_
  intro p e s m below meth c ls Z hr hlocks hP hS hl
  have hx := Z.1
  have hb := Z.2.1
  have hK : va_K D cls5 (tyE E) s := Z.2.2.2.2.2
  have hl : lv_has ls 5 [(0, .ref b0), (1, .int (nI j0)), (2, .ref wf), (3, .ref wb)] := hl
  have e6 : (tx_do (er_fit mu wf rf wb rb g h0 a k0) (b0 + 2 + 2 * j0) kd q n ((er_fit mu wf rf wb rb g h0 a k0) (wf + 4 + 2 * (g % rf)) 2)) wf 6 = nI g := by
    rw [tx_do_n hft.1 hft.2]
    unfold er_fit
    rw [wy_fit_n (by omega) hfo, la_up_n hfb]
    exact hg
  have e4 : (la_up mu wb 5 (nI (max k0 h0))) wb 4 = nI a := by rw [la_up_k (by decide)]; exact h4
  have e5 : (la_up mu wb 5 (nI (max k0 h0))) wb 5 = nI (max k0 h0) := la_up_s
  refine lv_aload_n hx hb d_Er_receive_0 rfl (lv_at hl 2 rfl) ?_
  refine cr_V Z kv_Er_149 (c_Wy_oldestChange l D E La hwf mu hg (by omega)) hP (la_recv hK hP kc_Wy hwf.1 rfl) [] rfl rfl hl.1 (Nat.le_of_ble_eq_true rfl) ⟨by decide, by decide⟩ ⟨Nat.le_refl _, Nat.le_refl _⟩ d_Er_receive_1 ?_
  refine lv_astore hx hb d_Er_receive_4 hl (by decide) rfl (fun ls hl => ?_)
  have hl : lv_has ls 5 [(4, .ref (wf + 4 + 2 * (g % rf))), (0, .ref b0), (1, .int (nI j0)), (2, .ref wf), (3, .ref wb)] := hl
  refine lv_aload_n hx hb d_Er_receive_6 rfl (lv_at hl 4 rfl) ?_
  refine lv_aload_n hx hb d_Er_receive_7 rfl (lv_at hl 3 rfl) ?_
  refine cr_V Z kv_Er_153 (c_Wy_oldestHeard l D E La hwf mu hg (by omega)) hP (la_recv hK hP kc_Wy hwf.1 rfl) [.ref wb] rfl rfl hl.1 (Nat.le_of_ble_eq_true rfl) ⟨by decide, by decide⟩ ⟨Nat.le_refl _, Nat.le_refl _⟩ d_Er_receive_8 ?_
  rw [hh]
  refine cw_V Z kv_Er_156 (c_Wy_forget l D E La hwb mu h5 hk0 hh3) hP hS (fun _ h => h) (la_recv hK hP kc_Wy hwb.1 rfl) [] rfl rfl hl.1 (Nat.le_of_ble_eq_true rfl) ⟨by decide, by decide⟩ ⟨Nat.le_refl _, Nat.le_refl _⟩ d_Er_receive_11 (fun H locs hP hkp hS => ?_)
  refine lv_aload_n hx hb d_Er_receive_14 rfl (lv_at hl 4 rfl) ?_
  refine lv_aload hx hb d_Er_receive_15 (lv_at hl 0 rfl) ?_
  refine cw_V Z kv_Er_159 (c_Wy_fitOpenChanges l D E La hwb (la_up mu wb 5 (nI (max k0 h0))) (hwf.2.2.2.2.1 _ (Nat.mod_lt _ hwf.2.2.2.2.2.1)).1 hcb e4 e5 hka ha) hP hS (fun _ h => h) (la_recv hK hP kc_Wy hwb.1 rfl) [] rfl rfl hl.1 (Nat.le_of_ble_eq_true rfl) ⟨by decide, by decide⟩ ⟨Nat.le_refl _, Nat.le_refl _⟩ d_Er_receive_17 (fun H locs hP hkp hS => ?_)
  refine lv_aload_n hx hb d_Er_receive_20 rfl (lv_at hl 1 rfl) ?_
  refine g_f (v := .ref (b0 + 1)) Z kc_Er hP he.1 rfl 0 (by decide) wl_Er_11 rfl rfl d_Er_receive_21 ?_
  refine lv_iload_n hx hb d_Er_receive_24 rfl (lv_at hl 2 rfl) ?_
  refine la_aald (F := (fun k => b0 + 2 + 2 * k)) hx hb hK hP 3 he.2.1 rfl rfl j0 rfl hj (by decide) d_Er_receive_25 ?_
  refine lv_aload hx hb d_Er_receive_26 (lv_at hl 0 rfl) ?_
  refine cw_V Z kv_Er_145 (c_Tx_perform l D E La (he.2.2.2.2.2.1 j0 hj) (hwf.2.2.2.2.1 _ (Nat.mod_lt _ hwf.2.2.2.2.2.1)).1 (er_fit mu wf rf wb rb g h0 a k0) hn hk3 hkd hq h0k h1k h2 hx0 hz) hP hS (fun _ h => h) (la_recv hK hP kc_Tx (he.2.2.2.2.2.1 j0 hj).1 rfl) [] rfl rfl hl.1 (Nat.le_of_ble_eq_true rfl) ⟨by decide, by decide⟩ ⟨Nat.le_refl _, Nat.le_refl _⟩ d_Er_receive_28 (fun H locs hP hkp hS => ?_)
  refine lv_aload_n hx hb d_Er_receive_31 rfl (lv_at hl 3 rfl) ?_
  refine lv_dup hx hb d_Er_receive_32 rfl ?_
  refine g_i (v := (nI g)) Z kc_Wy hP hwf.1 rfl 6 (by decide) wl_Er_92 rfl rfl e6 d_Er_receive_33 ?_
  refine lv_iconst (v := 1) hx hb d_Er_receive_36 (by decide) ?_
  refine lv_iadd hx hb d_Er_receive_37 ?_
  refine p_f Z kc_Wy hP hS hwf.1 rfl 6 (by decide) wl_Er_92 rfl rfl ⟨rfl, rfl⟩ (Nat.le_of_ble_eq_true rfl) rfl d_Er_receive_38 (fun H locs hP hS => ?_)
  refine lv_aload hx hb d_Er_receive_41 (lv_at hl 0 rfl) ?_
  exact W.aret hx hb hr (Or.inl ⟨_, rfl⟩) (Or.inr ⟨_, rfl⟩) (fun t ht hW => ⟨rfl, by rw [ht]; exact cvm hP (by simp only [er_recv, nI_1]), hS.F ht⟩) hS.2.2 d_Er_receive_43
end
section
/-! EditRelay's public methods where they return (written by wip/whole/p14.py) -/
theorem wy_send_n {mu : la_M} {w0 r c0 n z : Nat} {x : Int32} (h1 : z ≠ w0) (h2 : z ≠ w0 + 3) (h3 : z ≠ w0 + 4 + 2 * (n % r)) (h4 : z ≠ w0 + 5 + 2 * (n % r)) : wy_send mu w0 r c0 n x z = mu z := by
  unfold wy_send
  rw [la_up_n h1, la_up_n h2, ch_copy_n h4, ch_copy_n h3]
theorem tx_do_1 {mu : la_M} {a0 k q n : Nat} {x : Int32} (hn : mu a0 1 = nI n) : tx_do mu a0 k q n x a0 1 = nI (if k = 0 then n + 1 else if k = 1 then n - 1 else n) := by
  unfold tx_do
  by_cases h0 : k = 0
  · rw [if_pos h0, if_pos h0]
    exact la_up_s
  · rw [if_neg h0, if_neg h0]
    by_cases h1 : k = 1
    · rw [if_pos h1, if_pos h1]
      exact la_up_s
    · rw [if_neg h1, if_neg h1]
      exact hn
set_option maxHeartbeats 4000000 in
set_option maxRecDepth 100000 in
theorem c_Er_insert (l : Launch) (D : va_G) (E : Nat → ClassId) (La : la_L) {b0 : Nat} (he : isEr E La b0) (mu : la_M) {k : Nat} (hk : k < 3) {q n a b : Nat} {x : Int32} (hx1 : ¬ x < 32) (hx2 : x ≤ 126) (hx0 : chz x) (hn : mu (b0 + 2 + 2 * (k + 1)) 1 = nI n) (hq : q ≤ n) (hn40 : n < 40) (hz : ∀ j, chz (mu ((b0 + 2 + 2 * (k + 1)) + 1) j)) (h4 : mu (b0 + 12 + 88 * k) 4 = nI a) (h5 : mu (b0 + 12 + 88 * k) 5 = nI b) (hab : b ≤ a) (ha : a < 2 ^ 31) (hf : a - b < 16) : cw l y_Er_insert b_Er_insert 5 (some .int) 4 90 D E La [.ref b0, .int (nI (k + 1)), .int (nI q), .int x] mu (some (.int (nI (n + 1)))) (er_make mu b0 k 0 q n a x) := by
  refine cw_begin R_Er (by decide) rfl (Nat.le_of_ble_eq_true rfl) ?_
  intro p e s m below meth c ls Z hr hlocks hP hS hl
  have hx := Z.1
  have hb := Z.2.1
  have hK : va_K D cls5 (tyE E) s := Z.2.2.2.2.2
  have hl : lv_has ls 5 [(0, .ref b0), (1, .int (nI (k + 1))), (2, .int (nI q)), (3, .int x)] := hl
  have g1 : (er_make mu b0 k 0 q n a x) (b0 + 2 + 2 * (k + 1)) 1 = nI (n + 1) := by
    have hm := Nat.mod_lt a (show 0 < 16 by decide)
    unfold er_make
    rw [wy_send_n (by omega) (by omega) (by omega) (by omega)]
    exact tx_do_1 (k := 0) (by rw [er_mk_n (by omega)]; exact hn)
  refine lv_iload_n hx hb d_Er_insert_0 rfl (lv_at hl 1 rfl) ?_
  refine cr_S Z ks_Er_35 (c_Er_checkClient l D E La mu hk) hP [] rfl rfl hl.1 (Nat.le_of_ble_eq_true rfl) ⟨by decide, by decide⟩ ⟨Nat.le_refl _, Nat.le_refl _⟩ d_Er_insert_1 ?_
  refine lv_iload_n hx hb d_Er_insert_4 rfl (lv_at hl 3 rfl) ?_
  refine lv_bipush (v := 32) hx hb d_Er_insert_5 (by decide) ?_
  refine lv_icmp_lt (tgt := 16) hx hb d_Er_insert_7 rfl (fun br7 => absurd br7 (hx1)) (fun br7 => ?_)
  refine lv_iload_n hx hb d_Er_insert_10 rfl (lv_at hl 3 rfl) ?_
  refine lv_bipush (v := 126) hx hb d_Er_insert_11 (by decide) ?_
  refine lv_icmp_le (tgt := 26) hx hb d_Er_insert_13 rfl (fun br13 => ?_) (fun br13 => absurd (hx2) br13)
  refine lv_aload_n hx hb d_Er_insert_26 rfl (lv_at hl 0 rfl) ?_
  refine g_f (v := .ref (b0 + 1)) Z kc_Er hP he.1 rfl 0 (by decide) wl_Er_11 rfl rfl d_Er_insert_27 ?_
  refine lv_iload_n hx hb d_Er_insert_30 rfl (lv_at hl 1 rfl) ?_
  refine la_aald (F := (fun k => b0 + 2 + 2 * k)) hx hb hK hP 3 he.2.1 rfl rfl (k + 1) rfl (by omega) (by decide) d_Er_insert_31 ?_
  refine lv_astore hx hb d_Er_insert_32 hl (by decide) rfl (fun ls hl => ?_)
  have hl : lv_has ls 5 [(4, .ref (b0 + 2 + 2 * (k + 1))), (0, .ref b0), (1, .int (nI (k + 1))), (2, .int (nI q)), (3, .int x)] := hl
  refine lv_iload_n hx hb d_Er_insert_34 rfl (lv_at hl 3 rfl) ?_
  refine lv_if_lt (tgt := 47) hx hb d_Er_insert_35 rfl (fun br35 => absurd br35 (nI_pos (by omega))) (fun br35 => ?_)
  refine lv_iload_n hx hb d_Er_insert_38 rfl (lv_at hl 3 rfl) ?_
  refine lv_aload hx hb d_Er_insert_39 (lv_at hl 0 rfl) ?_
  refine g_i (v := (nI n)) Z kc_Tx hP (he.2.2.2.2.2.1 (k + 1) (by omega)).1 rfl 1 (by decide) wl_Er_45 rfl rfl hn d_Er_insert_41 ?_
  refine lv_icmp_le (tgt := 57) hx hb d_Er_insert_44 rfl (fun br44 => ?_) (fun br44 => absurd (nI_le hq (by omega)) br44)
  refine lv_aload hx hb d_Er_insert_57 (lv_at hl 0 rfl) ?_
  refine g_i (v := (nI n)) Z kc_Tx hP (he.2.2.2.2.2.1 (k + 1) (by omega)).1 rfl 1 (by decide) wl_Er_45 rfl rfl hn d_Er_insert_59 ?_
  refine lv_bipush (v := 40) hx hb d_Er_insert_62 (by decide) ?_
  refine lv_icmp_lt (tgt := 77) hx hb d_Er_insert_64 rfl (fun br64 => ?_) (fun br64 => absurd (nI_lt (b := 40) hn40 (by decide)) br64)
  refine lv_aload_n hx hb d_Er_insert_77 rfl (lv_at hl 1 rfl) ?_
  refine lv_iload_n hx hb d_Er_insert_78 rfl (lv_at hl 2 rfl) ?_
  refine cr_V Z kv_Er_59 (c_Er_checkMayMakeChange l D E La he mu hk h4 h5 hab ha hf) hP (la_recv hK hP kc_Er he.1 rfl) [] rfl rfl hl.1 (Nat.le_of_ble_eq_true rfl) ⟨by decide, by decide⟩ ⟨Nat.le_refl _, Nat.le_refl _⟩ d_Er_insert_79 ?_
  refine lv_aload_n hx hb d_Er_insert_82 rfl (lv_at hl 1 rfl) ?_
  refine lv_iload_n hx hb d_Er_insert_83 rfl (lv_at hl 2 rfl) ?_
  refine lv_iconst (v := 0) hx hb d_Er_insert_84 (by decide) ?_
  refine lv_iload_n hx hb d_Er_insert_85 rfl (lv_at hl 3 rfl) ?_
  refine lv_iload_n hx hb d_Er_insert_86 rfl (lv_at hl 4 rfl) ?_
  refine cw_V Z kv_Er_62 (c_Er_makeChange l D E La he mu hk (kd := 0) (q := q) hn (by decide) (fun _ => ⟨hq, by omega⟩) (fun h => by omega) (by omega) hx0 hz h4 ha) hP hS (fun _ h => h) (la_recv hK hP kc_Er he.1 rfl) [] rfl rfl hl.1 (Nat.le_of_ble_eq_true rfl) ⟨by decide, by decide⟩ ⟨Nat.le_refl _, Nat.le_refl _⟩ d_Er_insert_87 (fun H locs hP hkp hS => ?_)
  refine lv_aload hx hb d_Er_insert_90 (lv_at hl 0 rfl) ?_
  refine g_i (v := (nI (n + 1))) Z kc_Tx hP (he.2.2.2.2.2.1 (k + 1) (by omega)).1 rfl 1 (by decide) wl_Er_45 rfl rfl g1 d_Er_insert_92 ?_
  exact W.iret hx hb hr (fun t ht hW => ⟨rfl, by rw [ht]; exact cvm hP (rfl), hS.F ht⟩) hS.2.2 d_Er_insert_95
set_option maxHeartbeats 4000000 in
set_option maxRecDepth 100000 in
theorem c_Er_delete (l : Launch) (D : va_G) (E : Nat → ClassId) (La : la_L) {b0 : Nat} (he : isEr E La b0) (mu : la_M) {k : Nat} (hk : k < 3) {q n a b : Nat} (hn : mu (b0 + 2 + 2 * (k + 1)) 1 = nI n) (hq : q < n) (hn64 : n ≤ 64) (hz : ∀ j, chz (mu ((b0 + 2 + 2 * (k + 1)) + 1) j)) (h4 : mu (b0 + 12 + 88 * k) 4 = nI a) (h5 : mu (b0 + 12 + 88 * k) 5 = nI b) (hab : b ≤ a) (ha : a < 2 ^ 31) (hf : a - b < 16) : cw l y_Er_delete b_Er_delete 5 (some .int) 4 90 D E La [.ref b0, .int (nI (k + 1)), .int (nI q)] mu (some (.int (mu ((b0 + 2 + 2 * (k + 1)) + 1) q))) (er_make mu b0 k 1 q n a (mu ((b0 + 2 + 2 * (k + 1)) + 1) q)) := by
  refine cw_begin R_Er (by decide) rfl (Nat.le_of_ble_eq_true rfl) ?_
  intro p e s m below meth c ls Z hr hlocks hP hS hl
  have hx := Z.1
  have hb := Z.2.1
  have hK : va_K D cls5 (tyE E) s := Z.2.2.2.2.2
  have hl : lv_has ls 5 [(0, .ref b0), (1, .int (nI (k + 1))), (2, .int (nI q))] := hl
  refine lv_iload_n hx hb d_Er_delete_0 rfl (lv_at hl 1 rfl) ?_
  refine cr_S Z ks_Er_35 (c_Er_checkClient l D E La mu hk) hP [] rfl rfl hl.1 (Nat.le_of_ble_eq_true rfl) ⟨by decide, by decide⟩ ⟨Nat.le_refl _, Nat.le_refl _⟩ d_Er_delete_1 ?_
  refine lv_aload_n hx hb d_Er_delete_4 rfl (lv_at hl 0 rfl) ?_
  refine g_f (v := .ref (b0 + 1)) Z kc_Er hP he.1 rfl 0 (by decide) wl_Er_11 rfl rfl d_Er_delete_5 ?_
  refine lv_iload_n hx hb d_Er_delete_8 rfl (lv_at hl 1 rfl) ?_
  refine la_aald (F := (fun k => b0 + 2 + 2 * k)) hx hb hK hP 3 he.2.1 rfl rfl (k + 1) rfl (by omega) (by decide) d_Er_delete_9 ?_
  refine lv_astore_n hx hb d_Er_delete_10 rfl hl (by decide) rfl (fun ls hl => ?_)
  have hl : lv_has ls 5 [(3, .ref (b0 + 2 + 2 * (k + 1))), (0, .ref b0), (1, .int (nI (k + 1))), (2, .int (nI q))] := hl
  refine lv_aload_n hx hb d_Er_delete_11 rfl (lv_at hl 0 rfl) ?_
  refine lv_iload_n hx hb d_Er_delete_12 rfl (lv_at hl 3 rfl) ?_
  refine cr_S Z ks_Er_66 (c_Er_checkHasLetter l D E La (he.2.2.2.2.2.1 (k + 1) (by omega)) mu hn hq (by omega)) hP [] rfl rfl hl.1 (Nat.le_of_ble_eq_true rfl) ⟨by decide, by decide⟩ ⟨Nat.le_refl _, Nat.le_refl _⟩ d_Er_delete_13 ?_
  refine lv_aload_n hx hb d_Er_delete_16 rfl (lv_at hl 1 rfl) ?_
  refine lv_iload_n hx hb d_Er_delete_17 rfl (lv_at hl 2 rfl) ?_
  refine cr_V Z kv_Er_59 (c_Er_checkMayMakeChange l D E La he mu hk h4 h5 hab ha hf) hP (la_recv hK hP kc_Er he.1 rfl) [] rfl rfl hl.1 (Nat.le_of_ble_eq_true rfl) ⟨by decide, by decide⟩ ⟨Nat.le_refl _, Nat.le_refl _⟩ d_Er_delete_18 ?_
  refine lv_aload_n hx hb d_Er_delete_21 rfl (lv_at hl 0 rfl) ?_
  refine g_f (v := .ref ((b0 + 2 + 2 * (k + 1)) + 1)) Z kc_Tx hP (he.2.2.2.2.2.1 (k + 1) (by omega)).1 rfl 0 (by decide) wl_Er_70 rfl rfl d_Er_delete_22 ?_
  refine lv_iload_n hx hb d_Er_delete_25 rfl (lv_at hl 3 rfl) ?_
  refine la_cald hx hb hK hP 1 (he.2.2.2.2.2.1 (k + 1) (by omega)).2 rfl rfl q rfl (by omega) (by decide) d_Er_delete_26 ?_
  refine lv_istore hx hb d_Er_delete_27 hl (by decide) rfl (fun ls hl => ?_)
  have hl : lv_has ls 5 [(4, .int (mu ((b0 + 2 + 2 * (k + 1)) + 1) q)), (3, .ref (b0 + 2 + 2 * (k + 1))), (0, .ref b0), (1, .int (nI (k + 1))), (2, .int (nI q))] := hl
  refine lv_aload_n hx hb d_Er_delete_29 rfl (lv_at hl 2 rfl) ?_
  refine lv_iload_n hx hb d_Er_delete_30 rfl (lv_at hl 3 rfl) ?_
  refine lv_iconst (v := 1) hx hb d_Er_delete_31 (by decide) ?_
  refine lv_iload_n hx hb d_Er_delete_32 rfl (lv_at hl 4 rfl) ?_
  refine lv_iload hx hb d_Er_delete_33 (lv_at hl 0 rfl) ?_
  refine cw_V Z kv_Er_62 (c_Er_makeChange l D E La he mu hk (kd := 1) (q := q) hn (by decide) (fun h => by omega) (fun _ => hq) hn64 (hz q) hz h4 ha) hP hS (fun _ h => h) (la_recv hK hP kc_Er he.1 rfl) [] rfl rfl hl.1 (Nat.le_of_ble_eq_true rfl) ⟨by decide, by decide⟩ ⟨Nat.le_refl _, Nat.le_refl _⟩ d_Er_delete_35 (fun H locs hP hkp hS => ?_)
  refine lv_iload hx hb d_Er_delete_38 (lv_at hl 0 rfl) ?_
  exact W.iret hx hb hr (fun t ht hW => ⟨rfl, by rw [ht]; exact cvm hP (rfl), hS.F ht⟩) hS.2.2 d_Er_delete_40
set_option maxHeartbeats 4000000 in
set_option maxRecDepth 100000 in
theorem c_Er_nod (l : Launch) (D : va_G) (E : Nat → ClassId) (La : la_L) {b0 : Nat} (he : isEr E La b0) (mu : la_M) {k : Nat} (hk : k < 3) {n a b : Nat} (hn : mu (b0 + 2 + 2 * (k + 1)) 1 = nI n) (hn64 : n ≤ 64) (hz : ∀ j, chz (mu ((b0 + 2 + 2 * (k + 1)) + 1) j)) (h4 : mu (b0 + 12 + 88 * k) 4 = nI a) (h5 : mu (b0 + 12 + 88 * k) 5 = nI b) (hab : b ≤ a) (ha : a < 2 ^ 31) (hf : a - b < 16) : cw l y_Er_nod b_Er_nod 2 none 4 90 D E La [.ref b0, .int (nI (k + 1))] mu none (er_make mu b0 k 2 0 n a 32) := by
  refine cw_begin R_Er (by decide) rfl (Nat.le_of_ble_eq_true rfl) ?_
  intro p e s m below meth c ls Z hr hlocks hP hS hl
  have hx := Z.1
  have hb := Z.2.1
  have hK : va_K D cls5 (tyE E) s := Z.2.2.2.2.2
  have hl : lv_has ls 2 [(0, .ref b0), (1, .int (nI (k + 1)))] := hl
  refine lv_iload_n hx hb d_Er_nod_0 rfl (lv_at hl 1 rfl) ?_
  refine cr_S Z ks_Er_35 (c_Er_checkClient l D E La mu hk) hP [] rfl rfl hl.1 (Nat.le_of_ble_eq_true rfl) ⟨by decide, by decide⟩ ⟨Nat.le_refl _, Nat.le_refl _⟩ d_Er_nod_1 ?_
  refine lv_aload_n hx hb d_Er_nod_4 rfl (lv_at hl 0 rfl) ?_
  refine lv_iload_n hx hb d_Er_nod_5 rfl (lv_at hl 1 rfl) ?_
  refine cr_V Z kv_Er_59 (c_Er_checkMayMakeChange l D E La he mu hk h4 h5 hab ha hf) hP (la_recv hK hP kc_Er he.1 rfl) [] rfl rfl hl.1 (Nat.le_of_ble_eq_true rfl) ⟨by decide, by decide⟩ ⟨Nat.le_refl _, Nat.le_refl _⟩ d_Er_nod_6 ?_
  refine lv_aload_n hx hb d_Er_nod_9 rfl (lv_at hl 0 rfl) ?_
  refine lv_iload_n hx hb d_Er_nod_10 rfl (lv_at hl 1 rfl) ?_
  refine lv_iconst (v := 2) hx hb d_Er_nod_11 (by decide) ?_
  refine lv_iconst (v := 0) hx hb d_Er_nod_12 (by decide) ?_
  refine lv_bipush (v := 32) hx hb d_Er_nod_13 (by decide) ?_
  refine cw_V Z kv_Er_62 (c_Er_makeChange l D E La he mu hk (kd := 2) (q := 0) (x := 32) hn (by decide) (fun h => by omega) (fun h => by omega) hn64 ⟨by decide, by decide⟩ hz h4 ha) hP hS (fun _ h => h) (la_recv hK hP kc_Er he.1 rfl) [] rfl rfl hl.1 (Nat.le_of_ble_eq_true rfl) ⟨by decide, by decide⟩ ⟨Nat.le_refl _, Nat.le_refl _⟩ d_Er_nod_15 (fun H locs hP hkp hS => ?_)
  exact W.vret hx hb hr (fun t ht hW => ⟨rfl, by rw [ht]; exact cvm hP (rfl), hS.F ht⟩) hS.2.2 d_Er_nod_18
set_option maxHeartbeats 4000000 in
set_option maxRecDepth 100000 in
theorem c_Er_pull (l : Launch) (D : va_G) (E : Nat → ClassId) (La : la_L) {b0 : Nat} (he : isEr E La b0) (mu : la_M) {k : Nat} (hk : k < 3) {mu1 : la_M} {c0 a g : Nat} (hc0 : La c0 = some sh_Ch) (h4 : mu (b0 + 48 + 88 * k) 4 = nI a) (h6 : mu (b0 + 48 + 88 * k) 6 = nI g) (hga : g < a) (ha : a < 2 ^ 31) (hR : cw l y_Er_receive b_Er_receive 5 (some (.object "EditRelay$Change")) 4 92 D E La [.ref b0, .int (nI (k + 1)), .ref (b0 + 48 + 88 * k), .ref (b0 + 12 + 88 * k)] mu (some (.ref c0)) mu1) : cw l y_Er_pull b_Er_pull 2 (some .int) 5 116 D E La [.ref b0, .int (nI (k + 1))] mu (some (.int (mu1 c0 0))) mu1 := by
  refine cw_begin R_Er (by decide) rfl (Nat.le_of_ble_eq_true rfl) ?_
  intro p e s m below meth c ls Z hr hlocks hP hS hl
  have hx := Z.1
  have hb := Z.2.1
  have hK : va_K D cls5 (tyE E) s := Z.2.2.2.2.2
  have hl : lv_has ls 2 [(0, .ref b0), (1, .int (nI (k + 1)))] := hl
  refine lv_iload_n hx hb d_Er_pull_0 rfl (lv_at hl 1 rfl) ?_
  refine cr_S Z ks_Er_35 (c_Er_checkClient l D E La mu hk) hP [] rfl rfl hl.1 (Nat.le_of_ble_eq_true rfl) ⟨by decide, by decide⟩ ⟨Nat.le_refl _, Nat.le_refl _⟩ d_Er_pull_1 ?_
  refine lv_aload_n hx hb d_Er_pull_4 rfl (lv_at hl 0 rfl) ?_
  refine lv_iload_n hx hb d_Er_pull_5 rfl (lv_at hl 1 rfl) ?_
  refine lv_iconst (v := 0) hx hb d_Er_pull_6 (by decide) ?_
  refine cr_V Z kv_Er_74 (c_Er_way_d l D E La he mu hk (u := 0) rfl) hP (la_recv hK hP kc_Er he.1 rfl) [] rfl rfl hl.1 (Nat.le_of_ble_eq_true rfl) ⟨by decide, by decide⟩ ⟨Nat.le_refl _, Nat.le_refl _⟩ d_Er_pull_7 ?_
  refine cr_S Z ks_Er_78 (c_Er_checkSomeWaits l D E La (he.2.2.2.2.2.2.2 k hk) mu h4 h6 hga ha) hP [] rfl rfl hl.1 (Nat.le_of_ble_eq_true rfl) ⟨by decide, by decide⟩ ⟨Nat.le_refl _, Nat.le_refl _⟩ d_Er_pull_10 ?_
  refine lv_aload_n hx hb d_Er_pull_13 rfl (lv_at hl 0 rfl) ?_
  refine lv_iload_n hx hb d_Er_pull_14 rfl (lv_at hl 1 rfl) ?_
  refine lv_aload_n hx hb d_Er_pull_15 rfl (lv_at hl 0 rfl) ?_
  refine lv_iload_n hx hb d_Er_pull_16 rfl (lv_at hl 1 rfl) ?_
  refine lv_iconst (v := 0) hx hb d_Er_pull_17 (by decide) ?_
  refine cr_V Z kv_Er_74 (c_Er_way_d l D E La he mu hk (u := 0) rfl) hP (la_recv hK hP kc_Er he.1 rfl) [.int (nI (k + 1)), .ref b0] rfl rfl hl.1 (Nat.le_of_ble_eq_true rfl) ⟨by decide, by decide⟩ ⟨Nat.le_refl _, Nat.le_refl _⟩ d_Er_pull_18 ?_
  refine lv_aload_n hx hb d_Er_pull_21 rfl (lv_at hl 0 rfl) ?_
  refine lv_iload_n hx hb d_Er_pull_22 rfl (lv_at hl 1 rfl) ?_
  refine lv_iconst (v := 1) hx hb d_Er_pull_23 (by decide) ?_
  refine cr_V Z kv_Er_74 (c_Er_way_u l D E La he mu hk (u := 1) (by decide)) hP (la_recv hK hP kc_Er he.1 rfl) [.ref (b0 + 48 + 88 * k), .int (nI (k + 1)), .ref b0] rfl rfl hl.1 (Nat.le_of_ble_eq_true rfl) ⟨by decide, by decide⟩ ⟨Nat.le_refl _, Nat.le_refl _⟩ d_Er_pull_24 ?_
  refine cw_V Z kv_Er_88 (hR) hP hS (fun _ h => h) (la_recv hK hP kc_Er he.1 rfl) [] rfl rfl hl.1 (Nat.le_of_ble_eq_true rfl) ⟨by decide, by decide⟩ ⟨Nat.le_refl _, Nat.le_refl _⟩ d_Er_pull_27 (fun H locs hP hkp hS => ?_)
  refine g_f Z kc_Ch hP hc0 rfl 0 (by decide) wl_Er_99 rfl rfl d_Er_pull_30 ?_
  exact W.iret hx hb hr (fun t ht hW => ⟨rfl, by rw [ht]; exact cvm hP (rfl), hS.F ht⟩) hS.2.2 d_Er_pull_33
set_option maxHeartbeats 4000000 in
set_option maxRecDepth 100000 in
theorem c_Er_push_0 (l : Launch) (D : va_G) (E : Nat → ClassId) (La : la_L) {b0 : Nat} (he : isEr E La b0) (mu : la_M) {mu1 : la_M} {g a : Nat} (h4 : mu (b0 + 12 + 88 * 0) 4 = nI a) (h6 : mu (b0 + 12 + 88 * 0) 6 = nI g) (hga : g < a) (ha : a < 2 ^ 31) (hR : cw l y_Er_receive b_Er_receive 5 (some (.object "EditRelay$Change")) 4 92 D E La [.ref b0, .int (nI 0), .ref (b0 + 12 + 88 * 0), .ref (b0 + 48 + 88 * 0)] mu (some (.ref (b0 + 12 + 88 * 0 + 4 + 2 * (g % 16)))) mu1) (hz : chz (mu1 (b0 + 12 + 88 * 0 + 4 + 2 * (g % 16)) 2)) {av1 bv1 : Nat} {xv1 : Int32} (p4_1 : mu (b0 + 48 + 88 * 1) 4 = nI av1) (p5_1 : mu (b0 + 48 + 88 * 1) 5 = nI bv1) (pab_1 : bv1 ≤ av1) (pa_1 : av1 < 2 ^ 31) (pf_1 : av1 - bv1 < 24) (q4_1 : mu1 (b0 + 48 + 88 * 1) 4 = nI av1) (q6_1 : mu1 (b0 + 12 + 88 * 1) 6 = xv1) {av2 bv2 : Nat} {xv2 : Int32} (p4_2 : mu (b0 + 48 + 88 * 2) 4 = nI av2) (p5_2 : mu (b0 + 48 + 88 * 2) 5 = nI bv2) (pab_2 : bv2 ≤ av2) (pa_2 : av2 < 2 ^ 31) (pf_2 : av2 - bv2 < 24) (q4_2 : mu1 (b0 + 48 + 88 * 2) 4 = nI av2) (q6_2 : mu1 (b0 + 12 + 88 * 2) 6 = xv2)  : cw l y_Er_push b_Er_push 4 (some .int) 5 116 D E La [.ref b0, .int 1] mu (some (.int (mu1 (b0 + 12 + 88 * 0 + 4 + 2 * (g % 16)) 0))) (wy_send (wy_send mu1 (b0 + 48 + 88 * 1) 24 (b0 + 12 + 88 * 0 + 4 + 2 * (g % 16)) av1 xv1) (b0 + 48 + 88 * 2) 24 (b0 + 12 + 88 * 0 + 4 + 2 * (g % 16)) av2 xv2) := by
  refine cw_begin R_Er (by decide) rfl (Nat.le_of_ble_eq_true rfl) ?_
  intro p e s m below meth c ls Z hr hlocks hP hS hl
  have hx := Z.1
  have hb := Z.2.1
  have hK : va_K D cls5 (tyE E) s := Z.2.2.2.2.2
  have hl : lv_has ls 4 [(0, .ref b0), (1, .int 1)] := hl
  have m0 := Nat.mod_lt av1 (show 0 < 24 by decide)
  have m1 := Nat.mod_lt av2 (show 0 < 24 by decide)
  have mg := Nat.mod_lt g (show 0 < 16 by decide)
  have r4 : (wy_send mu1 (b0 + 48 + 88 * 1) 24 (b0 + 12 + 88 * 0 + 4 + 2 * (g % 16)) av1 xv1) (b0 + 48 + 88 * 2) 4 = nI av2 := by rw [wy_send_n (by omega) (by omega) (by omega) (by omega)]; exact q4_2
  have r6 : (wy_send mu1 (b0 + 48 + 88 * 1) 24 (b0 + 12 + 88 * 0 + 4 + 2 * (g % 16)) av1 xv1) (b0 + 12 + 88 * 2) 6 = xv2 := by rw [wy_send_n (by omega) (by omega) (by omega) (by omega)]; exact q6_2
  have rz : chz ((wy_send mu1 (b0 + 48 + 88 * 1) 24 (b0 + 12 + 88 * 0 + 4 + 2 * (g % 16)) av1 xv1) (b0 + 12 + 88 * 0 + 4 + 2 * (g % 16)) 2) := by rw [wy_send_n (by omega) (by omega) (by omega) (by omega)]; exact hz
  have r0 : (wy_send (wy_send mu1 (b0 + 48 + 88 * 1) 24 (b0 + 12 + 88 * 0 + 4 + 2 * (g % 16)) av1 xv1) (b0 + 48 + 88 * 2) 24 (b0 + 12 + 88 * 0 + 4 + 2 * (g % 16)) av2 xv2) (b0 + 12 + 88 * 0 + 4 + 2 * (g % 16)) 0 = mu1 (b0 + 12 + 88 * 0 + 4 + 2 * (g % 16)) 0 := by rw [wy_send_n (by omega) (by omega) (by omega) (by omega), wy_send_n (by omega) (by omega) (by omega) (by omega)]
  refine lv_iload_n hx hb d_Er_push_0 rfl (lv_at hl 1 rfl) ?_
  refine cr_S Z ks_Er_35 (c_Er_checkClient l D E La mu (k := 0) (by decide)) hP [] rfl rfl hl.1 (Nat.le_of_ble_eq_true rfl) ⟨by decide, by decide⟩ ⟨Nat.le_refl _, Nat.le_refl _⟩ d_Er_push_1 ?_
  refine lv_aload_n hx hb d_Er_push_4 rfl (lv_at hl 0 rfl) ?_
  refine lv_iload_n hx hb d_Er_push_5 rfl (lv_at hl 1 rfl) ?_
  refine lv_iconst (v := 1) hx hb d_Er_push_6 (by decide) ?_
  refine cr_V Z kv_Er_74 (c_Er_way_u l D E La he mu (k := 0) (by decide) (u := 1) (by decide)) hP (la_recv hK hP kc_Er he.1 rfl) [] rfl rfl hl.1 (Nat.le_of_ble_eq_true rfl) ⟨by decide, by decide⟩ ⟨Nat.le_refl _, Nat.le_refl _⟩ d_Er_push_7 ?_
  refine cr_S Z ks_Er_78 (c_Er_checkSomeWaits l D E La (he.2.2.2.2.2.2.1 0 (by decide)) mu h4 h6 hga ha) hP [] rfl rfl hl.1 (Nat.le_of_ble_eq_true rfl) ⟨by decide, by decide⟩ ⟨Nat.le_refl _, Nat.le_refl _⟩ d_Er_push_10 ?_
  refine lv_iconst (v := 1) hx hb d_Er_push_13 (by decide) ?_
  refine lv_istore_n hx hb d_Er_push_14 rfl hl (by decide) rfl (fun ls hl => ?_)
  have hl : lv_has ls 4 [(2, .int 1), (0, .ref b0), (1, .int 1)] := hl
  refine lv_iload_n hx hb d_Er_push_15 rfl (lv_at hl 0 rfl) ?_
  refine lv_iconst (v := 3) hx hb d_Er_push_16 (by decide) ?_
  refine lv_icmp_gt (tgt := 53) hx hb d_Er_push_17 rfl (fun br17 => absurd br17 (by decide)) (fun br17 => ?_)
  refine lv_iload_n hx hb d_Er_push_20 rfl (lv_at hl 0 rfl) ?_
  refine lv_iload_n hx hb d_Er_push_21 rfl (lv_at hl 2 rfl) ?_
  refine lv_icmp_eq (tgt := 47) hx hb d_Er_push_22 rfl (fun br22 => ?_) (fun br22 => absurd (rfl) br22)
  refine lv_iinc (k := 0) (v := 2) hx hb d_Er_push_47 hl rfl (by decide) (by decide) rfl (fun ls hl => ?_)
  have hl : lv_has ls 4 [(2, .int 2), (0, .ref b0), (1, .int 1)] := hl
  refine lv_goto (tgt := 15) hx hb d_Er_push_50 rfl ?_
  refine lv_iload_n hx hb d_Er_push_15 rfl (lv_at hl 0 rfl) ?_
  refine lv_iconst (v := 3) hx hb d_Er_push_16 (by decide) ?_
  refine lv_icmp_gt (tgt := 53) hx hb d_Er_push_17 rfl (fun br17 => absurd br17 (by decide)) (fun br17 => ?_)
  refine lv_iload_n hx hb d_Er_push_20 rfl (lv_at hl 0 rfl) ?_
  refine lv_iload_n hx hb d_Er_push_21 rfl (lv_at hl 2 rfl) ?_
  refine lv_icmp_eq (tgt := 47) hx hb d_Er_push_22 rfl (fun br22 => absurd br22 (by decide)) (fun br22 => ?_)
  refine lv_aload_n hx hb d_Er_push_25 rfl (lv_at hl 1 rfl) ?_
  refine lv_iload_n hx hb d_Er_push_26 rfl (lv_at hl 0 rfl) ?_
  refine lv_iconst (v := 0) hx hb d_Er_push_27 (by decide) ?_
  refine cr_V Z kv_Er_74 (c_Er_way_d l D E La he mu (k := 1) (by decide) (u := 0) rfl) hP (la_recv hK hP kc_Er he.1 rfl) [] rfl rfl hl.1 (Nat.le_of_ble_eq_true rfl) ⟨by decide, by decide⟩ ⟨Nat.le_refl _, Nat.le_refl _⟩ d_Er_push_28 ?_
  refine cr_V Z kv_Er_82 (c_Wy_isFull_f l D E La (he.2.2.2.2.2.2.2 1 (by decide)) mu p4_1 p5_1 pab_1 pa_1 pf_1) hP (la_recv hK hP kc_Wy (he.2.2.2.2.2.2.2 1 (by decide)).1 rfl) [] rfl rfl hl.1 (Nat.le_of_ble_eq_true rfl) ⟨by decide, by decide⟩ ⟨Nat.le_refl _, Nat.le_refl _⟩ d_Er_push_31 ?_
  refine lv_if_eq (tgt := 47) hx hb d_Er_push_34 rfl (fun br34 => ?_) (fun br34 => absurd (rfl) br34)
  refine lv_iinc (k := 0) (v := 3) hx hb d_Er_push_47 hl rfl (by decide) (by decide) rfl (fun ls hl => ?_)
  have hl : lv_has ls 4 [(2, .int 3), (0, .ref b0), (1, .int 1)] := hl
  refine lv_goto (tgt := 15) hx hb d_Er_push_50 rfl ?_
  refine lv_iload_n hx hb d_Er_push_15 rfl (lv_at hl 0 rfl) ?_
  refine lv_iconst (v := 3) hx hb d_Er_push_16 (by decide) ?_
  refine lv_icmp_gt (tgt := 53) hx hb d_Er_push_17 rfl (fun br17 => absurd br17 (by decide)) (fun br17 => ?_)
  refine lv_iload_n hx hb d_Er_push_20 rfl (lv_at hl 0 rfl) ?_
  refine lv_iload_n hx hb d_Er_push_21 rfl (lv_at hl 2 rfl) ?_
  refine lv_icmp_eq (tgt := 47) hx hb d_Er_push_22 rfl (fun br22 => absurd br22 (by decide)) (fun br22 => ?_)
  refine lv_aload_n hx hb d_Er_push_25 rfl (lv_at hl 1 rfl) ?_
  refine lv_iload_n hx hb d_Er_push_26 rfl (lv_at hl 0 rfl) ?_
  refine lv_iconst (v := 0) hx hb d_Er_push_27 (by decide) ?_
  refine cr_V Z kv_Er_74 (c_Er_way_d l D E La he mu (k := 2) (by decide) (u := 0) rfl) hP (la_recv hK hP kc_Er he.1 rfl) [] rfl rfl hl.1 (Nat.le_of_ble_eq_true rfl) ⟨by decide, by decide⟩ ⟨Nat.le_refl _, Nat.le_refl _⟩ d_Er_push_28 ?_
  refine cr_V Z kv_Er_82 (c_Wy_isFull_f l D E La (he.2.2.2.2.2.2.2 2 (by decide)) mu p4_2 p5_2 pab_2 pa_2 pf_2) hP (la_recv hK hP kc_Wy (he.2.2.2.2.2.2.2 2 (by decide)).1 rfl) [] rfl rfl hl.1 (Nat.le_of_ble_eq_true rfl) ⟨by decide, by decide⟩ ⟨Nat.le_refl _, Nat.le_refl _⟩ d_Er_push_31 ?_
  refine lv_if_eq (tgt := 47) hx hb d_Er_push_34 rfl (fun br34 => ?_) (fun br34 => absurd (rfl) br34)
  refine lv_iinc (k := 0) (v := 4) hx hb d_Er_push_47 hl rfl (by decide) (by decide) rfl (fun ls hl => ?_)
  have hl : lv_has ls 4 [(2, .int 4), (0, .ref b0), (1, .int 1)] := hl
  refine lv_goto (tgt := 15) hx hb d_Er_push_50 rfl ?_
  refine lv_iload_n hx hb d_Er_push_15 rfl (lv_at hl 0 rfl) ?_
  refine lv_iconst (v := 3) hx hb d_Er_push_16 (by decide) ?_
  refine lv_icmp_gt (tgt := 53) hx hb d_Er_push_17 rfl (fun br17 => ?_) (fun br17 => absurd (by decide) br17)
  refine lv_aload_n hx hb d_Er_push_53 rfl (lv_at hl 1 rfl) ?_
  refine lv_iconst (v := 0) hx hb d_Er_push_54 (by decide) ?_
  refine lv_aload_n hx hb d_Er_push_55 rfl (lv_at hl 1 rfl) ?_
  refine lv_iload_n hx hb d_Er_push_56 rfl (lv_at hl 2 rfl) ?_
  refine lv_iconst (v := 1) hx hb d_Er_push_57 (by decide) ?_
  refine cr_V Z kv_Er_74 (c_Er_way_u l D E La he mu (k := 0) (by decide) (u := 1) (by decide)) hP (la_recv hK hP kc_Er he.1 rfl) [.int 0, .ref b0] rfl rfl hl.1 (Nat.le_of_ble_eq_true rfl) ⟨by decide, by decide⟩ ⟨Nat.le_refl _, Nat.le_refl _⟩ d_Er_push_58 ?_
  refine lv_aload_n hx hb d_Er_push_61 rfl (lv_at hl 1 rfl) ?_
  refine lv_iload_n hx hb d_Er_push_62 rfl (lv_at hl 2 rfl) ?_
  refine lv_iconst (v := 0) hx hb d_Er_push_63 (by decide) ?_
  refine cr_V Z kv_Er_74 (c_Er_way_d l D E La he mu (k := 0) (by decide) (u := 0) rfl) hP (la_recv hK hP kc_Er he.1 rfl) [.ref (b0 + 12 + 88 * 0), .int 0, .ref b0] rfl rfl hl.1 (Nat.le_of_ble_eq_true rfl) ⟨by decide, by decide⟩ ⟨Nat.le_refl _, Nat.le_refl _⟩ d_Er_push_64 ?_
  refine cw_V Z kv_Er_88 (hR) hP hS (fun _ h => h) (la_recv hK hP kc_Er he.1 rfl) [] rfl rfl hl.1 (Nat.le_of_ble_eq_true rfl) ⟨by decide, by decide⟩ ⟨Nat.le_refl _, Nat.le_refl _⟩ d_Er_push_67 (fun H locs hP hkp hS => ?_)
  refine lv_astore_n hx hb d_Er_push_70 rfl hl (by decide) rfl (fun ls hl => ?_)
  have hl : lv_has ls 4 [(2, .ref (b0 + 12 + 88 * 0 + 4 + 2 * (g % 16))), (0, .ref b0), (1, .int 1)] := hl
  refine lv_iconst (v := 1) hx hb d_Er_push_71 (by decide) ?_
  refine lv_istore_n hx hb d_Er_push_72 rfl hl (by decide) rfl (fun ls hl => ?_)
  have hl : lv_has ls 4 [(3, .int 1), (2, .ref (b0 + 12 + 88 * 0 + 4 + 2 * (g % 16))), (0, .ref b0), (1, .int 1)] := hl
  refine lv_iload_n hx hb d_Er_push_73 rfl (lv_at hl 0 rfl) ?_
  refine lv_iconst (v := 3) hx hb d_Er_push_74 (by decide) ?_
  refine lv_icmp_gt (tgt := 108) hx hb d_Er_push_75 rfl (fun br75 => absurd br75 (by decide)) (fun br75 => ?_)
  refine lv_iload_n hx hb d_Er_push_78 rfl (lv_at hl 0 rfl) ?_
  refine lv_iload_n hx hb d_Er_push_79 rfl (lv_at hl 3 rfl) ?_
  refine lv_icmp_eq (tgt := 102) hx hb d_Er_push_80 rfl (fun br80 => ?_) (fun br80 => absurd (rfl) br80)
  refine lv_iinc (k := 0) (v := 2) hx hb d_Er_push_102 hl rfl (by decide) (by decide) rfl (fun ls hl => ?_)
  have hl : lv_has ls 4 [(3, .int 2), (2, .ref (b0 + 12 + 88 * 0 + 4 + 2 * (g % 16))), (0, .ref b0), (1, .int 1)] := hl
  refine lv_goto (tgt := 73) hx hb d_Er_push_105 rfl ?_
  refine lv_iload_n hx hb d_Er_push_73 rfl (lv_at hl 0 rfl) ?_
  refine lv_iconst (v := 3) hx hb d_Er_push_74 (by decide) ?_
  refine lv_icmp_gt (tgt := 108) hx hb d_Er_push_75 rfl (fun br75 => absurd br75 (by decide)) (fun br75 => ?_)
  refine lv_iload_n hx hb d_Er_push_78 rfl (lv_at hl 0 rfl) ?_
  refine lv_iload_n hx hb d_Er_push_79 rfl (lv_at hl 3 rfl) ?_
  refine lv_icmp_eq (tgt := 102) hx hb d_Er_push_80 rfl (fun br80 => absurd br80 (by decide)) (fun br80 => ?_)
  refine lv_aload_n hx hb d_Er_push_83 rfl (lv_at hl 2 rfl) ?_
  refine lv_iload_n hx hb d_Er_push_84 rfl (lv_at hl 0 rfl) ?_
  refine lv_iconst (v := 0) hx hb d_Er_push_85 (by decide) ?_
  refine cr_V Z kv_Er_74 (c_Er_way_d l D E La he mu1 (k := 1) (by decide) (u := 0) rfl) hP (la_recv hK hP kc_Er he.1 rfl) [] rfl rfl hl.1 (Nat.le_of_ble_eq_true rfl) ⟨by decide, by decide⟩ ⟨Nat.le_refl _, Nat.le_refl _⟩ d_Er_push_86 ?_
  refine lv_aload_n hx hb d_Er_push_89 rfl (lv_at hl 1 rfl) ?_
  refine lv_aload_n hx hb d_Er_push_90 rfl (lv_at hl 2 rfl) ?_
  refine lv_iload_n hx hb d_Er_push_91 rfl (lv_at hl 0 rfl) ?_
  refine lv_iconst (v := 1) hx hb d_Er_push_92 (by decide) ?_
  refine cr_V Z kv_Er_74 (c_Er_way_u l D E La he mu1 (k := 1) (by decide) (u := 1) (by decide)) hP (la_recv hK hP kc_Er he.1 rfl) [.ref (b0 + 12 + 88 * 0 + 4 + 2 * (g % 16)), .ref (b0 + 48 + 88 * 1)] rfl rfl hl.1 (Nat.le_of_ble_eq_true rfl) ⟨by decide, by decide⟩ ⟨Nat.le_refl _, Nat.le_refl _⟩ d_Er_push_93 ?_
  refine g_i (v := xv1) Z kc_Wy hP (he.2.2.2.2.2.2.1 1 (by decide)).1 rfl 6 (by decide) wl_Er_92 rfl rfl q6_1 d_Er_push_96 ?_
  refine cw_V Z kv_Er_95 (c_Wy_send l D E La (he.2.2.2.2.2.2.2 1 (by decide)) mu1 ((he.2.2.2.2.2.2.1 0 (by decide)).2.2.2.2.1 _ (Nat.mod_lt _ (by decide))).1 q4_1 pa_1 hz xv1) hP hS (fun _ h => h) (la_recv hK hP kc_Wy (he.2.2.2.2.2.2.2 1 (by decide)).1 rfl) [] rfl rfl hl.1 (Nat.le_of_ble_eq_true rfl) ⟨by decide, by decide⟩ ⟨Nat.le_refl _, Nat.le_refl _⟩ d_Er_push_99 (fun H locs hP hkp hS => ?_)
  refine lv_iinc (k := 0) (v := 3) hx hb d_Er_push_102 hl rfl (by decide) (by decide) rfl (fun ls hl => ?_)
  have hl : lv_has ls 4 [(3, .int 3), (2, .ref (b0 + 12 + 88 * 0 + 4 + 2 * (g % 16))), (0, .ref b0), (1, .int 1)] := hl
  refine lv_goto (tgt := 73) hx hb d_Er_push_105 rfl ?_
  refine lv_iload_n hx hb d_Er_push_73 rfl (lv_at hl 0 rfl) ?_
  refine lv_iconst (v := 3) hx hb d_Er_push_74 (by decide) ?_
  refine lv_icmp_gt (tgt := 108) hx hb d_Er_push_75 rfl (fun br75 => absurd br75 (by decide)) (fun br75 => ?_)
  refine lv_iload_n hx hb d_Er_push_78 rfl (lv_at hl 0 rfl) ?_
  refine lv_iload_n hx hb d_Er_push_79 rfl (lv_at hl 3 rfl) ?_
  refine lv_icmp_eq (tgt := 102) hx hb d_Er_push_80 rfl (fun br80 => absurd br80 (by decide)) (fun br80 => ?_)
  refine lv_aload_n hx hb d_Er_push_83 rfl (lv_at hl 2 rfl) ?_
  refine lv_iload_n hx hb d_Er_push_84 rfl (lv_at hl 0 rfl) ?_
  refine lv_iconst (v := 0) hx hb d_Er_push_85 (by decide) ?_
  refine cr_V Z kv_Er_74 (c_Er_way_d l D E La he (wy_send mu1 (b0 + 48 + 88 * 1) 24 (b0 + 12 + 88 * 0 + 4 + 2 * (g % 16)) av1 xv1) (k := 2) (by decide) (u := 0) rfl) hP (la_recv hK hP kc_Er he.1 rfl) [] rfl rfl hl.1 (Nat.le_of_ble_eq_true rfl) ⟨by decide, by decide⟩ ⟨Nat.le_refl _, Nat.le_refl _⟩ d_Er_push_86 ?_
  refine lv_aload_n hx hb d_Er_push_89 rfl (lv_at hl 1 rfl) ?_
  refine lv_aload_n hx hb d_Er_push_90 rfl (lv_at hl 2 rfl) ?_
  refine lv_iload_n hx hb d_Er_push_91 rfl (lv_at hl 0 rfl) ?_
  refine lv_iconst (v := 1) hx hb d_Er_push_92 (by decide) ?_
  refine cr_V Z kv_Er_74 (c_Er_way_u l D E La he (wy_send mu1 (b0 + 48 + 88 * 1) 24 (b0 + 12 + 88 * 0 + 4 + 2 * (g % 16)) av1 xv1) (k := 2) (by decide) (u := 1) (by decide)) hP (la_recv hK hP kc_Er he.1 rfl) [.ref (b0 + 12 + 88 * 0 + 4 + 2 * (g % 16)), .ref (b0 + 48 + 88 * 2)] rfl rfl hl.1 (Nat.le_of_ble_eq_true rfl) ⟨by decide, by decide⟩ ⟨Nat.le_refl _, Nat.le_refl _⟩ d_Er_push_93 ?_
  refine g_i (v := xv2) Z kc_Wy hP (he.2.2.2.2.2.2.1 2 (by decide)).1 rfl 6 (by decide) wl_Er_92 rfl rfl r6 d_Er_push_96 ?_
  refine cw_V Z kv_Er_95 (c_Wy_send l D E La (he.2.2.2.2.2.2.2 2 (by decide)) (wy_send mu1 (b0 + 48 + 88 * 1) 24 (b0 + 12 + 88 * 0 + 4 + 2 * (g % 16)) av1 xv1) ((he.2.2.2.2.2.2.1 0 (by decide)).2.2.2.2.1 _ (Nat.mod_lt _ (by decide))).1 r4 pa_2 rz xv2) hP hS (fun _ h => h) (la_recv hK hP kc_Wy (he.2.2.2.2.2.2.2 2 (by decide)).1 rfl) [] rfl rfl hl.1 (Nat.le_of_ble_eq_true rfl) ⟨by decide, by decide⟩ ⟨Nat.le_refl _, Nat.le_refl _⟩ d_Er_push_99 (fun H locs hP hkp hS => ?_)
  refine lv_iinc (k := 0) (v := 4) hx hb d_Er_push_102 hl rfl (by decide) (by decide) rfl (fun ls hl => ?_)
  have hl : lv_has ls 4 [(3, .int 4), (2, .ref (b0 + 12 + 88 * 0 + 4 + 2 * (g % 16))), (0, .ref b0), (1, .int 1)] := hl
  refine lv_goto (tgt := 73) hx hb d_Er_push_105 rfl ?_
  refine lv_iload_n hx hb d_Er_push_73 rfl (lv_at hl 0 rfl) ?_
  refine lv_iconst (v := 3) hx hb d_Er_push_74 (by decide) ?_
  refine lv_icmp_gt (tgt := 108) hx hb d_Er_push_75 rfl (fun br75 => ?_) (fun br75 => absurd (by decide) br75)
  refine lv_aload_n hx hb d_Er_push_108 rfl (lv_at hl 1 rfl) ?_
  refine g_i (v := (mu1 (b0 + 12 + 88 * 0 + 4 + 2 * (g % 16)) 0)) Z kc_Ch hP ((he.2.2.2.2.2.2.1 0 (by decide)).2.2.2.2.1 _ (Nat.mod_lt _ (by decide))).1 rfl 0 (by decide) wl_Er_99 rfl rfl r0 d_Er_push_109 ?_
  exact W.iret hx hb hr (fun t ht hW => ⟨rfl, by rw [ht]; exact cvm hP (rfl), hS.F ht⟩) hS.2.2 d_Er_push_112
set_option maxHeartbeats 4000000 in
set_option maxRecDepth 100000 in
theorem c_Er_push_1 (l : Launch) (D : va_G) (E : Nat → ClassId) (La : la_L) {b0 : Nat} (he : isEr E La b0) (mu : la_M) {mu1 : la_M} {g a : Nat} (h4 : mu (b0 + 12 + 88 * 1) 4 = nI a) (h6 : mu (b0 + 12 + 88 * 1) 6 = nI g) (hga : g < a) (ha : a < 2 ^ 31) (hR : cw l y_Er_receive b_Er_receive 5 (some (.object "EditRelay$Change")) 4 92 D E La [.ref b0, .int (nI 0), .ref (b0 + 12 + 88 * 1), .ref (b0 + 48 + 88 * 1)] mu (some (.ref (b0 + 12 + 88 * 1 + 4 + 2 * (g % 16)))) mu1) (hz : chz (mu1 (b0 + 12 + 88 * 1 + 4 + 2 * (g % 16)) 2)) {av0 bv0 : Nat} {xv0 : Int32} (p4_0 : mu (b0 + 48 + 88 * 0) 4 = nI av0) (p5_0 : mu (b0 + 48 + 88 * 0) 5 = nI bv0) (pab_0 : bv0 ≤ av0) (pa_0 : av0 < 2 ^ 31) (pf_0 : av0 - bv0 < 24) (q4_0 : mu1 (b0 + 48 + 88 * 0) 4 = nI av0) (q6_0 : mu1 (b0 + 12 + 88 * 0) 6 = xv0) {av2 bv2 : Nat} {xv2 : Int32} (p4_2 : mu (b0 + 48 + 88 * 2) 4 = nI av2) (p5_2 : mu (b0 + 48 + 88 * 2) 5 = nI bv2) (pab_2 : bv2 ≤ av2) (pa_2 : av2 < 2 ^ 31) (pf_2 : av2 - bv2 < 24) (q4_2 : mu1 (b0 + 48 + 88 * 2) 4 = nI av2) (q6_2 : mu1 (b0 + 12 + 88 * 2) 6 = xv2)  : cw l y_Er_push b_Er_push 4 (some .int) 5 116 D E La [.ref b0, .int 2] mu (some (.int (mu1 (b0 + 12 + 88 * 1 + 4 + 2 * (g % 16)) 0))) (wy_send (wy_send mu1 (b0 + 48 + 88 * 0) 24 (b0 + 12 + 88 * 1 + 4 + 2 * (g % 16)) av0 xv0) (b0 + 48 + 88 * 2) 24 (b0 + 12 + 88 * 1 + 4 + 2 * (g % 16)) av2 xv2) := by
  refine cw_begin R_Er (by decide) rfl (Nat.le_of_ble_eq_true rfl) ?_
  intro p e s m below meth c ls Z hr hlocks hP hS hl
  have hx := Z.1
  have hb := Z.2.1
  have hK : va_K D cls5 (tyE E) s := Z.2.2.2.2.2
  have hl : lv_has ls 4 [(0, .ref b0), (1, .int 2)] := hl
  have m0 := Nat.mod_lt av0 (show 0 < 24 by decide)
  have m1 := Nat.mod_lt av2 (show 0 < 24 by decide)
  have mg := Nat.mod_lt g (show 0 < 16 by decide)
  have r4 : (wy_send mu1 (b0 + 48 + 88 * 0) 24 (b0 + 12 + 88 * 1 + 4 + 2 * (g % 16)) av0 xv0) (b0 + 48 + 88 * 2) 4 = nI av2 := by rw [wy_send_n (by omega) (by omega) (by omega) (by omega)]; exact q4_2
  have r6 : (wy_send mu1 (b0 + 48 + 88 * 0) 24 (b0 + 12 + 88 * 1 + 4 + 2 * (g % 16)) av0 xv0) (b0 + 12 + 88 * 2) 6 = xv2 := by rw [wy_send_n (by omega) (by omega) (by omega) (by omega)]; exact q6_2
  have rz : chz ((wy_send mu1 (b0 + 48 + 88 * 0) 24 (b0 + 12 + 88 * 1 + 4 + 2 * (g % 16)) av0 xv0) (b0 + 12 + 88 * 1 + 4 + 2 * (g % 16)) 2) := by rw [wy_send_n (by omega) (by omega) (by omega) (by omega)]; exact hz
  have r0 : (wy_send (wy_send mu1 (b0 + 48 + 88 * 0) 24 (b0 + 12 + 88 * 1 + 4 + 2 * (g % 16)) av0 xv0) (b0 + 48 + 88 * 2) 24 (b0 + 12 + 88 * 1 + 4 + 2 * (g % 16)) av2 xv2) (b0 + 12 + 88 * 1 + 4 + 2 * (g % 16)) 0 = mu1 (b0 + 12 + 88 * 1 + 4 + 2 * (g % 16)) 0 := by rw [wy_send_n (by omega) (by omega) (by omega) (by omega), wy_send_n (by omega) (by omega) (by omega) (by omega)]
  refine lv_iload_n hx hb d_Er_push_0 rfl (lv_at hl 1 rfl) ?_
  refine cr_S Z ks_Er_35 (c_Er_checkClient l D E La mu (k := 1) (by decide)) hP [] rfl rfl hl.1 (Nat.le_of_ble_eq_true rfl) ⟨by decide, by decide⟩ ⟨Nat.le_refl _, Nat.le_refl _⟩ d_Er_push_1 ?_
  refine lv_aload_n hx hb d_Er_push_4 rfl (lv_at hl 0 rfl) ?_
  refine lv_iload_n hx hb d_Er_push_5 rfl (lv_at hl 1 rfl) ?_
  refine lv_iconst (v := 1) hx hb d_Er_push_6 (by decide) ?_
  refine cr_V Z kv_Er_74 (c_Er_way_u l D E La he mu (k := 1) (by decide) (u := 1) (by decide)) hP (la_recv hK hP kc_Er he.1 rfl) [] rfl rfl hl.1 (Nat.le_of_ble_eq_true rfl) ⟨by decide, by decide⟩ ⟨Nat.le_refl _, Nat.le_refl _⟩ d_Er_push_7 ?_
  refine cr_S Z ks_Er_78 (c_Er_checkSomeWaits l D E La (he.2.2.2.2.2.2.1 1 (by decide)) mu h4 h6 hga ha) hP [] rfl rfl hl.1 (Nat.le_of_ble_eq_true rfl) ⟨by decide, by decide⟩ ⟨Nat.le_refl _, Nat.le_refl _⟩ d_Er_push_10 ?_
  refine lv_iconst (v := 1) hx hb d_Er_push_13 (by decide) ?_
  refine lv_istore_n hx hb d_Er_push_14 rfl hl (by decide) rfl (fun ls hl => ?_)
  have hl : lv_has ls 4 [(2, .int 1), (0, .ref b0), (1, .int 2)] := hl
  refine lv_iload_n hx hb d_Er_push_15 rfl (lv_at hl 0 rfl) ?_
  refine lv_iconst (v := 3) hx hb d_Er_push_16 (by decide) ?_
  refine lv_icmp_gt (tgt := 53) hx hb d_Er_push_17 rfl (fun br17 => absurd br17 (by decide)) (fun br17 => ?_)
  refine lv_iload_n hx hb d_Er_push_20 rfl (lv_at hl 0 rfl) ?_
  refine lv_iload_n hx hb d_Er_push_21 rfl (lv_at hl 2 rfl) ?_
  refine lv_icmp_eq (tgt := 47) hx hb d_Er_push_22 rfl (fun br22 => absurd br22 (by decide)) (fun br22 => ?_)
  refine lv_aload_n hx hb d_Er_push_25 rfl (lv_at hl 1 rfl) ?_
  refine lv_iload_n hx hb d_Er_push_26 rfl (lv_at hl 0 rfl) ?_
  refine lv_iconst (v := 0) hx hb d_Er_push_27 (by decide) ?_
  refine cr_V Z kv_Er_74 (c_Er_way_d l D E La he mu (k := 0) (by decide) (u := 0) rfl) hP (la_recv hK hP kc_Er he.1 rfl) [] rfl rfl hl.1 (Nat.le_of_ble_eq_true rfl) ⟨by decide, by decide⟩ ⟨Nat.le_refl _, Nat.le_refl _⟩ d_Er_push_28 ?_
  refine cr_V Z kv_Er_82 (c_Wy_isFull_f l D E La (he.2.2.2.2.2.2.2 0 (by decide)) mu p4_0 p5_0 pab_0 pa_0 pf_0) hP (la_recv hK hP kc_Wy (he.2.2.2.2.2.2.2 0 (by decide)).1 rfl) [] rfl rfl hl.1 (Nat.le_of_ble_eq_true rfl) ⟨by decide, by decide⟩ ⟨Nat.le_refl _, Nat.le_refl _⟩ d_Er_push_31 ?_
  refine lv_if_eq (tgt := 47) hx hb d_Er_push_34 rfl (fun br34 => ?_) (fun br34 => absurd (rfl) br34)
  refine lv_iinc (k := 0) (v := 2) hx hb d_Er_push_47 hl rfl (by decide) (by decide) rfl (fun ls hl => ?_)
  have hl : lv_has ls 4 [(2, .int 2), (0, .ref b0), (1, .int 2)] := hl
  refine lv_goto (tgt := 15) hx hb d_Er_push_50 rfl ?_
  refine lv_iload_n hx hb d_Er_push_15 rfl (lv_at hl 0 rfl) ?_
  refine lv_iconst (v := 3) hx hb d_Er_push_16 (by decide) ?_
  refine lv_icmp_gt (tgt := 53) hx hb d_Er_push_17 rfl (fun br17 => absurd br17 (by decide)) (fun br17 => ?_)
  refine lv_iload_n hx hb d_Er_push_20 rfl (lv_at hl 0 rfl) ?_
  refine lv_iload_n hx hb d_Er_push_21 rfl (lv_at hl 2 rfl) ?_
  refine lv_icmp_eq (tgt := 47) hx hb d_Er_push_22 rfl (fun br22 => ?_) (fun br22 => absurd (rfl) br22)
  refine lv_iinc (k := 0) (v := 3) hx hb d_Er_push_47 hl rfl (by decide) (by decide) rfl (fun ls hl => ?_)
  have hl : lv_has ls 4 [(2, .int 3), (0, .ref b0), (1, .int 2)] := hl
  refine lv_goto (tgt := 15) hx hb d_Er_push_50 rfl ?_
  refine lv_iload_n hx hb d_Er_push_15 rfl (lv_at hl 0 rfl) ?_
  refine lv_iconst (v := 3) hx hb d_Er_push_16 (by decide) ?_
  refine lv_icmp_gt (tgt := 53) hx hb d_Er_push_17 rfl (fun br17 => absurd br17 (by decide)) (fun br17 => ?_)
  refine lv_iload_n hx hb d_Er_push_20 rfl (lv_at hl 0 rfl) ?_
  refine lv_iload_n hx hb d_Er_push_21 rfl (lv_at hl 2 rfl) ?_
  refine lv_icmp_eq (tgt := 47) hx hb d_Er_push_22 rfl (fun br22 => absurd br22 (by decide)) (fun br22 => ?_)
  refine lv_aload_n hx hb d_Er_push_25 rfl (lv_at hl 1 rfl) ?_
  refine lv_iload_n hx hb d_Er_push_26 rfl (lv_at hl 0 rfl) ?_
  refine lv_iconst (v := 0) hx hb d_Er_push_27 (by decide) ?_
  refine cr_V Z kv_Er_74 (c_Er_way_d l D E La he mu (k := 2) (by decide) (u := 0) rfl) hP (la_recv hK hP kc_Er he.1 rfl) [] rfl rfl hl.1 (Nat.le_of_ble_eq_true rfl) ⟨by decide, by decide⟩ ⟨Nat.le_refl _, Nat.le_refl _⟩ d_Er_push_28 ?_
  refine cr_V Z kv_Er_82 (c_Wy_isFull_f l D E La (he.2.2.2.2.2.2.2 2 (by decide)) mu p4_2 p5_2 pab_2 pa_2 pf_2) hP (la_recv hK hP kc_Wy (he.2.2.2.2.2.2.2 2 (by decide)).1 rfl) [] rfl rfl hl.1 (Nat.le_of_ble_eq_true rfl) ⟨by decide, by decide⟩ ⟨Nat.le_refl _, Nat.le_refl _⟩ d_Er_push_31 ?_
  refine lv_if_eq (tgt := 47) hx hb d_Er_push_34 rfl (fun br34 => ?_) (fun br34 => absurd (rfl) br34)
  refine lv_iinc (k := 0) (v := 4) hx hb d_Er_push_47 hl rfl (by decide) (by decide) rfl (fun ls hl => ?_)
  have hl : lv_has ls 4 [(2, .int 4), (0, .ref b0), (1, .int 2)] := hl
  refine lv_goto (tgt := 15) hx hb d_Er_push_50 rfl ?_
  refine lv_iload_n hx hb d_Er_push_15 rfl (lv_at hl 0 rfl) ?_
  refine lv_iconst (v := 3) hx hb d_Er_push_16 (by decide) ?_
  refine lv_icmp_gt (tgt := 53) hx hb d_Er_push_17 rfl (fun br17 => ?_) (fun br17 => absurd (by decide) br17)
  refine lv_aload_n hx hb d_Er_push_53 rfl (lv_at hl 1 rfl) ?_
  refine lv_iconst (v := 0) hx hb d_Er_push_54 (by decide) ?_
  refine lv_aload_n hx hb d_Er_push_55 rfl (lv_at hl 1 rfl) ?_
  refine lv_iload_n hx hb d_Er_push_56 rfl (lv_at hl 2 rfl) ?_
  refine lv_iconst (v := 1) hx hb d_Er_push_57 (by decide) ?_
  refine cr_V Z kv_Er_74 (c_Er_way_u l D E La he mu (k := 1) (by decide) (u := 1) (by decide)) hP (la_recv hK hP kc_Er he.1 rfl) [.int 0, .ref b0] rfl rfl hl.1 (Nat.le_of_ble_eq_true rfl) ⟨by decide, by decide⟩ ⟨Nat.le_refl _, Nat.le_refl _⟩ d_Er_push_58 ?_
  refine lv_aload_n hx hb d_Er_push_61 rfl (lv_at hl 1 rfl) ?_
  refine lv_iload_n hx hb d_Er_push_62 rfl (lv_at hl 2 rfl) ?_
  refine lv_iconst (v := 0) hx hb d_Er_push_63 (by decide) ?_
  refine cr_V Z kv_Er_74 (c_Er_way_d l D E La he mu (k := 1) (by decide) (u := 0) rfl) hP (la_recv hK hP kc_Er he.1 rfl) [.ref (b0 + 12 + 88 * 1), .int 0, .ref b0] rfl rfl hl.1 (Nat.le_of_ble_eq_true rfl) ⟨by decide, by decide⟩ ⟨Nat.le_refl _, Nat.le_refl _⟩ d_Er_push_64 ?_
  refine cw_V Z kv_Er_88 (hR) hP hS (fun _ h => h) (la_recv hK hP kc_Er he.1 rfl) [] rfl rfl hl.1 (Nat.le_of_ble_eq_true rfl) ⟨by decide, by decide⟩ ⟨Nat.le_refl _, Nat.le_refl _⟩ d_Er_push_67 (fun H locs hP hkp hS => ?_)
  refine lv_astore_n hx hb d_Er_push_70 rfl hl (by decide) rfl (fun ls hl => ?_)
  have hl : lv_has ls 4 [(2, .ref (b0 + 12 + 88 * 1 + 4 + 2 * (g % 16))), (0, .ref b0), (1, .int 2)] := hl
  refine lv_iconst (v := 1) hx hb d_Er_push_71 (by decide) ?_
  refine lv_istore_n hx hb d_Er_push_72 rfl hl (by decide) rfl (fun ls hl => ?_)
  have hl : lv_has ls 4 [(3, .int 1), (2, .ref (b0 + 12 + 88 * 1 + 4 + 2 * (g % 16))), (0, .ref b0), (1, .int 2)] := hl
  refine lv_iload_n hx hb d_Er_push_73 rfl (lv_at hl 0 rfl) ?_
  refine lv_iconst (v := 3) hx hb d_Er_push_74 (by decide) ?_
  refine lv_icmp_gt (tgt := 108) hx hb d_Er_push_75 rfl (fun br75 => absurd br75 (by decide)) (fun br75 => ?_)
  refine lv_iload_n hx hb d_Er_push_78 rfl (lv_at hl 0 rfl) ?_
  refine lv_iload_n hx hb d_Er_push_79 rfl (lv_at hl 3 rfl) ?_
  refine lv_icmp_eq (tgt := 102) hx hb d_Er_push_80 rfl (fun br80 => absurd br80 (by decide)) (fun br80 => ?_)
  refine lv_aload_n hx hb d_Er_push_83 rfl (lv_at hl 2 rfl) ?_
  refine lv_iload_n hx hb d_Er_push_84 rfl (lv_at hl 0 rfl) ?_
  refine lv_iconst (v := 0) hx hb d_Er_push_85 (by decide) ?_
  refine cr_V Z kv_Er_74 (c_Er_way_d l D E La he mu1 (k := 0) (by decide) (u := 0) rfl) hP (la_recv hK hP kc_Er he.1 rfl) [] rfl rfl hl.1 (Nat.le_of_ble_eq_true rfl) ⟨by decide, by decide⟩ ⟨Nat.le_refl _, Nat.le_refl _⟩ d_Er_push_86 ?_
  refine lv_aload_n hx hb d_Er_push_89 rfl (lv_at hl 1 rfl) ?_
  refine lv_aload_n hx hb d_Er_push_90 rfl (lv_at hl 2 rfl) ?_
  refine lv_iload_n hx hb d_Er_push_91 rfl (lv_at hl 0 rfl) ?_
  refine lv_iconst (v := 1) hx hb d_Er_push_92 (by decide) ?_
  refine cr_V Z kv_Er_74 (c_Er_way_u l D E La he mu1 (k := 0) (by decide) (u := 1) (by decide)) hP (la_recv hK hP kc_Er he.1 rfl) [.ref (b0 + 12 + 88 * 1 + 4 + 2 * (g % 16)), .ref (b0 + 48 + 88 * 0)] rfl rfl hl.1 (Nat.le_of_ble_eq_true rfl) ⟨by decide, by decide⟩ ⟨Nat.le_refl _, Nat.le_refl _⟩ d_Er_push_93 ?_
  refine g_i (v := xv0) Z kc_Wy hP (he.2.2.2.2.2.2.1 0 (by decide)).1 rfl 6 (by decide) wl_Er_92 rfl rfl q6_0 d_Er_push_96 ?_
  refine cw_V Z kv_Er_95 (c_Wy_send l D E La (he.2.2.2.2.2.2.2 0 (by decide)) mu1 ((he.2.2.2.2.2.2.1 1 (by decide)).2.2.2.2.1 _ (Nat.mod_lt _ (by decide))).1 q4_0 pa_0 hz xv0) hP hS (fun _ h => h) (la_recv hK hP kc_Wy (he.2.2.2.2.2.2.2 0 (by decide)).1 rfl) [] rfl rfl hl.1 (Nat.le_of_ble_eq_true rfl) ⟨by decide, by decide⟩ ⟨Nat.le_refl _, Nat.le_refl _⟩ d_Er_push_99 (fun H locs hP hkp hS => ?_)
  refine lv_iinc (k := 0) (v := 2) hx hb d_Er_push_102 hl rfl (by decide) (by decide) rfl (fun ls hl => ?_)
  have hl : lv_has ls 4 [(3, .int 2), (2, .ref (b0 + 12 + 88 * 1 + 4 + 2 * (g % 16))), (0, .ref b0), (1, .int 2)] := hl
  refine lv_goto (tgt := 73) hx hb d_Er_push_105 rfl ?_
  refine lv_iload_n hx hb d_Er_push_73 rfl (lv_at hl 0 rfl) ?_
  refine lv_iconst (v := 3) hx hb d_Er_push_74 (by decide) ?_
  refine lv_icmp_gt (tgt := 108) hx hb d_Er_push_75 rfl (fun br75 => absurd br75 (by decide)) (fun br75 => ?_)
  refine lv_iload_n hx hb d_Er_push_78 rfl (lv_at hl 0 rfl) ?_
  refine lv_iload_n hx hb d_Er_push_79 rfl (lv_at hl 3 rfl) ?_
  refine lv_icmp_eq (tgt := 102) hx hb d_Er_push_80 rfl (fun br80 => ?_) (fun br80 => absurd (rfl) br80)
  refine lv_iinc (k := 0) (v := 3) hx hb d_Er_push_102 hl rfl (by decide) (by decide) rfl (fun ls hl => ?_)
  have hl : lv_has ls 4 [(3, .int 3), (2, .ref (b0 + 12 + 88 * 1 + 4 + 2 * (g % 16))), (0, .ref b0), (1, .int 2)] := hl
  refine lv_goto (tgt := 73) hx hb d_Er_push_105 rfl ?_
  refine lv_iload_n hx hb d_Er_push_73 rfl (lv_at hl 0 rfl) ?_
  refine lv_iconst (v := 3) hx hb d_Er_push_74 (by decide) ?_
  refine lv_icmp_gt (tgt := 108) hx hb d_Er_push_75 rfl (fun br75 => absurd br75 (by decide)) (fun br75 => ?_)
  refine lv_iload_n hx hb d_Er_push_78 rfl (lv_at hl 0 rfl) ?_
  refine lv_iload_n hx hb d_Er_push_79 rfl (lv_at hl 3 rfl) ?_
  refine lv_icmp_eq (tgt := 102) hx hb d_Er_push_80 rfl (fun br80 => absurd br80 (by decide)) (fun br80 => ?_)
  refine lv_aload_n hx hb d_Er_push_83 rfl (lv_at hl 2 rfl) ?_
  refine lv_iload_n hx hb d_Er_push_84 rfl (lv_at hl 0 rfl) ?_
  refine lv_iconst (v := 0) hx hb d_Er_push_85 (by decide) ?_
  refine cr_V Z kv_Er_74 (c_Er_way_d l D E La he (wy_send mu1 (b0 + 48 + 88 * 0) 24 (b0 + 12 + 88 * 1 + 4 + 2 * (g % 16)) av0 xv0) (k := 2) (by decide) (u := 0) rfl) hP (la_recv hK hP kc_Er he.1 rfl) [] rfl rfl hl.1 (Nat.le_of_ble_eq_true rfl) ⟨by decide, by decide⟩ ⟨Nat.le_refl _, Nat.le_refl _⟩ d_Er_push_86 ?_
  refine lv_aload_n hx hb d_Er_push_89 rfl (lv_at hl 1 rfl) ?_
  refine lv_aload_n hx hb d_Er_push_90 rfl (lv_at hl 2 rfl) ?_
  refine lv_iload_n hx hb d_Er_push_91 rfl (lv_at hl 0 rfl) ?_
  refine lv_iconst (v := 1) hx hb d_Er_push_92 (by decide) ?_
  refine cr_V Z kv_Er_74 (c_Er_way_u l D E La he (wy_send mu1 (b0 + 48 + 88 * 0) 24 (b0 + 12 + 88 * 1 + 4 + 2 * (g % 16)) av0 xv0) (k := 2) (by decide) (u := 1) (by decide)) hP (la_recv hK hP kc_Er he.1 rfl) [.ref (b0 + 12 + 88 * 1 + 4 + 2 * (g % 16)), .ref (b0 + 48 + 88 * 2)] rfl rfl hl.1 (Nat.le_of_ble_eq_true rfl) ⟨by decide, by decide⟩ ⟨Nat.le_refl _, Nat.le_refl _⟩ d_Er_push_93 ?_
  refine g_i (v := xv2) Z kc_Wy hP (he.2.2.2.2.2.2.1 2 (by decide)).1 rfl 6 (by decide) wl_Er_92 rfl rfl r6 d_Er_push_96 ?_
  refine cw_V Z kv_Er_95 (c_Wy_send l D E La (he.2.2.2.2.2.2.2 2 (by decide)) (wy_send mu1 (b0 + 48 + 88 * 0) 24 (b0 + 12 + 88 * 1 + 4 + 2 * (g % 16)) av0 xv0) ((he.2.2.2.2.2.2.1 1 (by decide)).2.2.2.2.1 _ (Nat.mod_lt _ (by decide))).1 r4 pa_2 rz xv2) hP hS (fun _ h => h) (la_recv hK hP kc_Wy (he.2.2.2.2.2.2.2 2 (by decide)).1 rfl) [] rfl rfl hl.1 (Nat.le_of_ble_eq_true rfl) ⟨by decide, by decide⟩ ⟨Nat.le_refl _, Nat.le_refl _⟩ d_Er_push_99 (fun H locs hP hkp hS => ?_)
  refine lv_iinc (k := 0) (v := 4) hx hb d_Er_push_102 hl rfl (by decide) (by decide) rfl (fun ls hl => ?_)
  have hl : lv_has ls 4 [(3, .int 4), (2, .ref (b0 + 12 + 88 * 1 + 4 + 2 * (g % 16))), (0, .ref b0), (1, .int 2)] := hl
  refine lv_goto (tgt := 73) hx hb d_Er_push_105 rfl ?_
  refine lv_iload_n hx hb d_Er_push_73 rfl (lv_at hl 0 rfl) ?_
  refine lv_iconst (v := 3) hx hb d_Er_push_74 (by decide) ?_
  refine lv_icmp_gt (tgt := 108) hx hb d_Er_push_75 rfl (fun br75 => ?_) (fun br75 => absurd (by decide) br75)
  refine lv_aload_n hx hb d_Er_push_108 rfl (lv_at hl 1 rfl) ?_
  refine g_i (v := (mu1 (b0 + 12 + 88 * 1 + 4 + 2 * (g % 16)) 0)) Z kc_Ch hP ((he.2.2.2.2.2.2.1 1 (by decide)).2.2.2.2.1 _ (Nat.mod_lt _ (by decide))).1 rfl 0 (by decide) wl_Er_99 rfl rfl r0 d_Er_push_109 ?_
  exact W.iret hx hb hr (fun t ht hW => ⟨rfl, by rw [ht]; exact cvm hP (rfl), hS.F ht⟩) hS.2.2 d_Er_push_112
set_option maxHeartbeats 4000000 in
set_option maxRecDepth 100000 in
theorem c_Er_push_2 (l : Launch) (D : va_G) (E : Nat → ClassId) (La : la_L) {b0 : Nat} (he : isEr E La b0) (mu : la_M) {mu1 : la_M} {g a : Nat} (h4 : mu (b0 + 12 + 88 * 2) 4 = nI a) (h6 : mu (b0 + 12 + 88 * 2) 6 = nI g) (hga : g < a) (ha : a < 2 ^ 31) (hR : cw l y_Er_receive b_Er_receive 5 (some (.object "EditRelay$Change")) 4 92 D E La [.ref b0, .int (nI 0), .ref (b0 + 12 + 88 * 2), .ref (b0 + 48 + 88 * 2)] mu (some (.ref (b0 + 12 + 88 * 2 + 4 + 2 * (g % 16)))) mu1) (hz : chz (mu1 (b0 + 12 + 88 * 2 + 4 + 2 * (g % 16)) 2)) {av0 bv0 : Nat} {xv0 : Int32} (p4_0 : mu (b0 + 48 + 88 * 0) 4 = nI av0) (p5_0 : mu (b0 + 48 + 88 * 0) 5 = nI bv0) (pab_0 : bv0 ≤ av0) (pa_0 : av0 < 2 ^ 31) (pf_0 : av0 - bv0 < 24) (q4_0 : mu1 (b0 + 48 + 88 * 0) 4 = nI av0) (q6_0 : mu1 (b0 + 12 + 88 * 0) 6 = xv0) {av1 bv1 : Nat} {xv1 : Int32} (p4_1 : mu (b0 + 48 + 88 * 1) 4 = nI av1) (p5_1 : mu (b0 + 48 + 88 * 1) 5 = nI bv1) (pab_1 : bv1 ≤ av1) (pa_1 : av1 < 2 ^ 31) (pf_1 : av1 - bv1 < 24) (q4_1 : mu1 (b0 + 48 + 88 * 1) 4 = nI av1) (q6_1 : mu1 (b0 + 12 + 88 * 1) 6 = xv1)  : cw l y_Er_push b_Er_push 4 (some .int) 5 116 D E La [.ref b0, .int 3] mu (some (.int (mu1 (b0 + 12 + 88 * 2 + 4 + 2 * (g % 16)) 0))) (wy_send (wy_send mu1 (b0 + 48 + 88 * 0) 24 (b0 + 12 + 88 * 2 + 4 + 2 * (g % 16)) av0 xv0) (b0 + 48 + 88 * 1) 24 (b0 + 12 + 88 * 2 + 4 + 2 * (g % 16)) av1 xv1) := by
  refine cw_begin R_Er (by decide) rfl (Nat.le_of_ble_eq_true rfl) ?_
  intro p e s m below meth c ls Z hr hlocks hP hS hl
  have hx := Z.1
  have hb := Z.2.1
  have hK : va_K D cls5 (tyE E) s := Z.2.2.2.2.2
  have hl : lv_has ls 4 [(0, .ref b0), (1, .int 3)] := hl
  have m0 := Nat.mod_lt av0 (show 0 < 24 by decide)
  have m1 := Nat.mod_lt av1 (show 0 < 24 by decide)
  have mg := Nat.mod_lt g (show 0 < 16 by decide)
  have r4 : (wy_send mu1 (b0 + 48 + 88 * 0) 24 (b0 + 12 + 88 * 2 + 4 + 2 * (g % 16)) av0 xv0) (b0 + 48 + 88 * 1) 4 = nI av1 := by rw [wy_send_n (by omega) (by omega) (by omega) (by omega)]; exact q4_1
  have r6 : (wy_send mu1 (b0 + 48 + 88 * 0) 24 (b0 + 12 + 88 * 2 + 4 + 2 * (g % 16)) av0 xv0) (b0 + 12 + 88 * 1) 6 = xv1 := by rw [wy_send_n (by omega) (by omega) (by omega) (by omega)]; exact q6_1
  have rz : chz ((wy_send mu1 (b0 + 48 + 88 * 0) 24 (b0 + 12 + 88 * 2 + 4 + 2 * (g % 16)) av0 xv0) (b0 + 12 + 88 * 2 + 4 + 2 * (g % 16)) 2) := by rw [wy_send_n (by omega) (by omega) (by omega) (by omega)]; exact hz
  have r0 : (wy_send (wy_send mu1 (b0 + 48 + 88 * 0) 24 (b0 + 12 + 88 * 2 + 4 + 2 * (g % 16)) av0 xv0) (b0 + 48 + 88 * 1) 24 (b0 + 12 + 88 * 2 + 4 + 2 * (g % 16)) av1 xv1) (b0 + 12 + 88 * 2 + 4 + 2 * (g % 16)) 0 = mu1 (b0 + 12 + 88 * 2 + 4 + 2 * (g % 16)) 0 := by rw [wy_send_n (by omega) (by omega) (by omega) (by omega), wy_send_n (by omega) (by omega) (by omega) (by omega)]
  refine lv_iload_n hx hb d_Er_push_0 rfl (lv_at hl 1 rfl) ?_
  refine cr_S Z ks_Er_35 (c_Er_checkClient l D E La mu (k := 2) (by decide)) hP [] rfl rfl hl.1 (Nat.le_of_ble_eq_true rfl) ⟨by decide, by decide⟩ ⟨Nat.le_refl _, Nat.le_refl _⟩ d_Er_push_1 ?_
  refine lv_aload_n hx hb d_Er_push_4 rfl (lv_at hl 0 rfl) ?_
  refine lv_iload_n hx hb d_Er_push_5 rfl (lv_at hl 1 rfl) ?_
  refine lv_iconst (v := 1) hx hb d_Er_push_6 (by decide) ?_
  refine cr_V Z kv_Er_74 (c_Er_way_u l D E La he mu (k := 2) (by decide) (u := 1) (by decide)) hP (la_recv hK hP kc_Er he.1 rfl) [] rfl rfl hl.1 (Nat.le_of_ble_eq_true rfl) ⟨by decide, by decide⟩ ⟨Nat.le_refl _, Nat.le_refl _⟩ d_Er_push_7 ?_
  refine cr_S Z ks_Er_78 (c_Er_checkSomeWaits l D E La (he.2.2.2.2.2.2.1 2 (by decide)) mu h4 h6 hga ha) hP [] rfl rfl hl.1 (Nat.le_of_ble_eq_true rfl) ⟨by decide, by decide⟩ ⟨Nat.le_refl _, Nat.le_refl _⟩ d_Er_push_10 ?_
  refine lv_iconst (v := 1) hx hb d_Er_push_13 (by decide) ?_
  refine lv_istore_n hx hb d_Er_push_14 rfl hl (by decide) rfl (fun ls hl => ?_)
  have hl : lv_has ls 4 [(2, .int 1), (0, .ref b0), (1, .int 3)] := hl
  refine lv_iload_n hx hb d_Er_push_15 rfl (lv_at hl 0 rfl) ?_
  refine lv_iconst (v := 3) hx hb d_Er_push_16 (by decide) ?_
  refine lv_icmp_gt (tgt := 53) hx hb d_Er_push_17 rfl (fun br17 => absurd br17 (by decide)) (fun br17 => ?_)
  refine lv_iload_n hx hb d_Er_push_20 rfl (lv_at hl 0 rfl) ?_
  refine lv_iload_n hx hb d_Er_push_21 rfl (lv_at hl 2 rfl) ?_
  refine lv_icmp_eq (tgt := 47) hx hb d_Er_push_22 rfl (fun br22 => absurd br22 (by decide)) (fun br22 => ?_)
  refine lv_aload_n hx hb d_Er_push_25 rfl (lv_at hl 1 rfl) ?_
  refine lv_iload_n hx hb d_Er_push_26 rfl (lv_at hl 0 rfl) ?_
  refine lv_iconst (v := 0) hx hb d_Er_push_27 (by decide) ?_
  refine cr_V Z kv_Er_74 (c_Er_way_d l D E La he mu (k := 0) (by decide) (u := 0) rfl) hP (la_recv hK hP kc_Er he.1 rfl) [] rfl rfl hl.1 (Nat.le_of_ble_eq_true rfl) ⟨by decide, by decide⟩ ⟨Nat.le_refl _, Nat.le_refl _⟩ d_Er_push_28 ?_
  refine cr_V Z kv_Er_82 (c_Wy_isFull_f l D E La (he.2.2.2.2.2.2.2 0 (by decide)) mu p4_0 p5_0 pab_0 pa_0 pf_0) hP (la_recv hK hP kc_Wy (he.2.2.2.2.2.2.2 0 (by decide)).1 rfl) [] rfl rfl hl.1 (Nat.le_of_ble_eq_true rfl) ⟨by decide, by decide⟩ ⟨Nat.le_refl _, Nat.le_refl _⟩ d_Er_push_31 ?_
  refine lv_if_eq (tgt := 47) hx hb d_Er_push_34 rfl (fun br34 => ?_) (fun br34 => absurd (rfl) br34)
  refine lv_iinc (k := 0) (v := 2) hx hb d_Er_push_47 hl rfl (by decide) (by decide) rfl (fun ls hl => ?_)
  have hl : lv_has ls 4 [(2, .int 2), (0, .ref b0), (1, .int 3)] := hl
  refine lv_goto (tgt := 15) hx hb d_Er_push_50 rfl ?_
  refine lv_iload_n hx hb d_Er_push_15 rfl (lv_at hl 0 rfl) ?_
  refine lv_iconst (v := 3) hx hb d_Er_push_16 (by decide) ?_
  refine lv_icmp_gt (tgt := 53) hx hb d_Er_push_17 rfl (fun br17 => absurd br17 (by decide)) (fun br17 => ?_)
  refine lv_iload_n hx hb d_Er_push_20 rfl (lv_at hl 0 rfl) ?_
  refine lv_iload_n hx hb d_Er_push_21 rfl (lv_at hl 2 rfl) ?_
  refine lv_icmp_eq (tgt := 47) hx hb d_Er_push_22 rfl (fun br22 => absurd br22 (by decide)) (fun br22 => ?_)
  refine lv_aload_n hx hb d_Er_push_25 rfl (lv_at hl 1 rfl) ?_
  refine lv_iload_n hx hb d_Er_push_26 rfl (lv_at hl 0 rfl) ?_
  refine lv_iconst (v := 0) hx hb d_Er_push_27 (by decide) ?_
  refine cr_V Z kv_Er_74 (c_Er_way_d l D E La he mu (k := 1) (by decide) (u := 0) rfl) hP (la_recv hK hP kc_Er he.1 rfl) [] rfl rfl hl.1 (Nat.le_of_ble_eq_true rfl) ⟨by decide, by decide⟩ ⟨Nat.le_refl _, Nat.le_refl _⟩ d_Er_push_28 ?_
  refine cr_V Z kv_Er_82 (c_Wy_isFull_f l D E La (he.2.2.2.2.2.2.2 1 (by decide)) mu p4_1 p5_1 pab_1 pa_1 pf_1) hP (la_recv hK hP kc_Wy (he.2.2.2.2.2.2.2 1 (by decide)).1 rfl) [] rfl rfl hl.1 (Nat.le_of_ble_eq_true rfl) ⟨by decide, by decide⟩ ⟨Nat.le_refl _, Nat.le_refl _⟩ d_Er_push_31 ?_
  refine lv_if_eq (tgt := 47) hx hb d_Er_push_34 rfl (fun br34 => ?_) (fun br34 => absurd (rfl) br34)
  refine lv_iinc (k := 0) (v := 3) hx hb d_Er_push_47 hl rfl (by decide) (by decide) rfl (fun ls hl => ?_)
  have hl : lv_has ls 4 [(2, .int 3), (0, .ref b0), (1, .int 3)] := hl
  refine lv_goto (tgt := 15) hx hb d_Er_push_50 rfl ?_
  refine lv_iload_n hx hb d_Er_push_15 rfl (lv_at hl 0 rfl) ?_
  refine lv_iconst (v := 3) hx hb d_Er_push_16 (by decide) ?_
  refine lv_icmp_gt (tgt := 53) hx hb d_Er_push_17 rfl (fun br17 => absurd br17 (by decide)) (fun br17 => ?_)
  refine lv_iload_n hx hb d_Er_push_20 rfl (lv_at hl 0 rfl) ?_
  refine lv_iload_n hx hb d_Er_push_21 rfl (lv_at hl 2 rfl) ?_
  refine lv_icmp_eq (tgt := 47) hx hb d_Er_push_22 rfl (fun br22 => ?_) (fun br22 => absurd (rfl) br22)
  refine lv_iinc (k := 0) (v := 4) hx hb d_Er_push_47 hl rfl (by decide) (by decide) rfl (fun ls hl => ?_)
  have hl : lv_has ls 4 [(2, .int 4), (0, .ref b0), (1, .int 3)] := hl
  refine lv_goto (tgt := 15) hx hb d_Er_push_50 rfl ?_
  refine lv_iload_n hx hb d_Er_push_15 rfl (lv_at hl 0 rfl) ?_
  refine lv_iconst (v := 3) hx hb d_Er_push_16 (by decide) ?_
  refine lv_icmp_gt (tgt := 53) hx hb d_Er_push_17 rfl (fun br17 => ?_) (fun br17 => absurd (by decide) br17)
  refine lv_aload_n hx hb d_Er_push_53 rfl (lv_at hl 1 rfl) ?_
  refine lv_iconst (v := 0) hx hb d_Er_push_54 (by decide) ?_
  refine lv_aload_n hx hb d_Er_push_55 rfl (lv_at hl 1 rfl) ?_
  refine lv_iload_n hx hb d_Er_push_56 rfl (lv_at hl 2 rfl) ?_
  refine lv_iconst (v := 1) hx hb d_Er_push_57 (by decide) ?_
  refine cr_V Z kv_Er_74 (c_Er_way_u l D E La he mu (k := 2) (by decide) (u := 1) (by decide)) hP (la_recv hK hP kc_Er he.1 rfl) [.int 0, .ref b0] rfl rfl hl.1 (Nat.le_of_ble_eq_true rfl) ⟨by decide, by decide⟩ ⟨Nat.le_refl _, Nat.le_refl _⟩ d_Er_push_58 ?_
  refine lv_aload_n hx hb d_Er_push_61 rfl (lv_at hl 1 rfl) ?_
  refine lv_iload_n hx hb d_Er_push_62 rfl (lv_at hl 2 rfl) ?_
  refine lv_iconst (v := 0) hx hb d_Er_push_63 (by decide) ?_
  refine cr_V Z kv_Er_74 (c_Er_way_d l D E La he mu (k := 2) (by decide) (u := 0) rfl) hP (la_recv hK hP kc_Er he.1 rfl) [.ref (b0 + 12 + 88 * 2), .int 0, .ref b0] rfl rfl hl.1 (Nat.le_of_ble_eq_true rfl) ⟨by decide, by decide⟩ ⟨Nat.le_refl _, Nat.le_refl _⟩ d_Er_push_64 ?_
  refine cw_V Z kv_Er_88 (hR) hP hS (fun _ h => h) (la_recv hK hP kc_Er he.1 rfl) [] rfl rfl hl.1 (Nat.le_of_ble_eq_true rfl) ⟨by decide, by decide⟩ ⟨Nat.le_refl _, Nat.le_refl _⟩ d_Er_push_67 (fun H locs hP hkp hS => ?_)
  refine lv_astore_n hx hb d_Er_push_70 rfl hl (by decide) rfl (fun ls hl => ?_)
  have hl : lv_has ls 4 [(2, .ref (b0 + 12 + 88 * 2 + 4 + 2 * (g % 16))), (0, .ref b0), (1, .int 3)] := hl
  refine lv_iconst (v := 1) hx hb d_Er_push_71 (by decide) ?_
  refine lv_istore_n hx hb d_Er_push_72 rfl hl (by decide) rfl (fun ls hl => ?_)
  have hl : lv_has ls 4 [(3, .int 1), (2, .ref (b0 + 12 + 88 * 2 + 4 + 2 * (g % 16))), (0, .ref b0), (1, .int 3)] := hl
  refine lv_iload_n hx hb d_Er_push_73 rfl (lv_at hl 0 rfl) ?_
  refine lv_iconst (v := 3) hx hb d_Er_push_74 (by decide) ?_
  refine lv_icmp_gt (tgt := 108) hx hb d_Er_push_75 rfl (fun br75 => absurd br75 (by decide)) (fun br75 => ?_)
  refine lv_iload_n hx hb d_Er_push_78 rfl (lv_at hl 0 rfl) ?_
  refine lv_iload_n hx hb d_Er_push_79 rfl (lv_at hl 3 rfl) ?_
  refine lv_icmp_eq (tgt := 102) hx hb d_Er_push_80 rfl (fun br80 => absurd br80 (by decide)) (fun br80 => ?_)
  refine lv_aload_n hx hb d_Er_push_83 rfl (lv_at hl 2 rfl) ?_
  refine lv_iload_n hx hb d_Er_push_84 rfl (lv_at hl 0 rfl) ?_
  refine lv_iconst (v := 0) hx hb d_Er_push_85 (by decide) ?_
  refine cr_V Z kv_Er_74 (c_Er_way_d l D E La he mu1 (k := 0) (by decide) (u := 0) rfl) hP (la_recv hK hP kc_Er he.1 rfl) [] rfl rfl hl.1 (Nat.le_of_ble_eq_true rfl) ⟨by decide, by decide⟩ ⟨Nat.le_refl _, Nat.le_refl _⟩ d_Er_push_86 ?_
  refine lv_aload_n hx hb d_Er_push_89 rfl (lv_at hl 1 rfl) ?_
  refine lv_aload_n hx hb d_Er_push_90 rfl (lv_at hl 2 rfl) ?_
  refine lv_iload_n hx hb d_Er_push_91 rfl (lv_at hl 0 rfl) ?_
  refine lv_iconst (v := 1) hx hb d_Er_push_92 (by decide) ?_
  refine cr_V Z kv_Er_74 (c_Er_way_u l D E La he mu1 (k := 0) (by decide) (u := 1) (by decide)) hP (la_recv hK hP kc_Er he.1 rfl) [.ref (b0 + 12 + 88 * 2 + 4 + 2 * (g % 16)), .ref (b0 + 48 + 88 * 0)] rfl rfl hl.1 (Nat.le_of_ble_eq_true rfl) ⟨by decide, by decide⟩ ⟨Nat.le_refl _, Nat.le_refl _⟩ d_Er_push_93 ?_
  refine g_i (v := xv0) Z kc_Wy hP (he.2.2.2.2.2.2.1 0 (by decide)).1 rfl 6 (by decide) wl_Er_92 rfl rfl q6_0 d_Er_push_96 ?_
  refine cw_V Z kv_Er_95 (c_Wy_send l D E La (he.2.2.2.2.2.2.2 0 (by decide)) mu1 ((he.2.2.2.2.2.2.1 2 (by decide)).2.2.2.2.1 _ (Nat.mod_lt _ (by decide))).1 q4_0 pa_0 hz xv0) hP hS (fun _ h => h) (la_recv hK hP kc_Wy (he.2.2.2.2.2.2.2 0 (by decide)).1 rfl) [] rfl rfl hl.1 (Nat.le_of_ble_eq_true rfl) ⟨by decide, by decide⟩ ⟨Nat.le_refl _, Nat.le_refl _⟩ d_Er_push_99 (fun H locs hP hkp hS => ?_)
  refine lv_iinc (k := 0) (v := 2) hx hb d_Er_push_102 hl rfl (by decide) (by decide) rfl (fun ls hl => ?_)
  have hl : lv_has ls 4 [(3, .int 2), (2, .ref (b0 + 12 + 88 * 2 + 4 + 2 * (g % 16))), (0, .ref b0), (1, .int 3)] := hl
  refine lv_goto (tgt := 73) hx hb d_Er_push_105 rfl ?_
  refine lv_iload_n hx hb d_Er_push_73 rfl (lv_at hl 0 rfl) ?_
  refine lv_iconst (v := 3) hx hb d_Er_push_74 (by decide) ?_
  refine lv_icmp_gt (tgt := 108) hx hb d_Er_push_75 rfl (fun br75 => absurd br75 (by decide)) (fun br75 => ?_)
  refine lv_iload_n hx hb d_Er_push_78 rfl (lv_at hl 0 rfl) ?_
  refine lv_iload_n hx hb d_Er_push_79 rfl (lv_at hl 3 rfl) ?_
  refine lv_icmp_eq (tgt := 102) hx hb d_Er_push_80 rfl (fun br80 => absurd br80 (by decide)) (fun br80 => ?_)
  refine lv_aload_n hx hb d_Er_push_83 rfl (lv_at hl 2 rfl) ?_
  refine lv_iload_n hx hb d_Er_push_84 rfl (lv_at hl 0 rfl) ?_
  refine lv_iconst (v := 0) hx hb d_Er_push_85 (by decide) ?_
  refine cr_V Z kv_Er_74 (c_Er_way_d l D E La he (wy_send mu1 (b0 + 48 + 88 * 0) 24 (b0 + 12 + 88 * 2 + 4 + 2 * (g % 16)) av0 xv0) (k := 1) (by decide) (u := 0) rfl) hP (la_recv hK hP kc_Er he.1 rfl) [] rfl rfl hl.1 (Nat.le_of_ble_eq_true rfl) ⟨by decide, by decide⟩ ⟨Nat.le_refl _, Nat.le_refl _⟩ d_Er_push_86 ?_
  refine lv_aload_n hx hb d_Er_push_89 rfl (lv_at hl 1 rfl) ?_
  refine lv_aload_n hx hb d_Er_push_90 rfl (lv_at hl 2 rfl) ?_
  refine lv_iload_n hx hb d_Er_push_91 rfl (lv_at hl 0 rfl) ?_
  refine lv_iconst (v := 1) hx hb d_Er_push_92 (by decide) ?_
  refine cr_V Z kv_Er_74 (c_Er_way_u l D E La he (wy_send mu1 (b0 + 48 + 88 * 0) 24 (b0 + 12 + 88 * 2 + 4 + 2 * (g % 16)) av0 xv0) (k := 1) (by decide) (u := 1) (by decide)) hP (la_recv hK hP kc_Er he.1 rfl) [.ref (b0 + 12 + 88 * 2 + 4 + 2 * (g % 16)), .ref (b0 + 48 + 88 * 1)] rfl rfl hl.1 (Nat.le_of_ble_eq_true rfl) ⟨by decide, by decide⟩ ⟨Nat.le_refl _, Nat.le_refl _⟩ d_Er_push_93 ?_
  refine g_i (v := xv1) Z kc_Wy hP (he.2.2.2.2.2.2.1 1 (by decide)).1 rfl 6 (by decide) wl_Er_92 rfl rfl r6 d_Er_push_96 ?_
  refine cw_V Z kv_Er_95 (c_Wy_send l D E La (he.2.2.2.2.2.2.2 1 (by decide)) (wy_send mu1 (b0 + 48 + 88 * 0) 24 (b0 + 12 + 88 * 2 + 4 + 2 * (g % 16)) av0 xv0) ((he.2.2.2.2.2.2.1 2 (by decide)).2.2.2.2.1 _ (Nat.mod_lt _ (by decide))).1 r4 pa_1 rz xv1) hP hS (fun _ h => h) (la_recv hK hP kc_Wy (he.2.2.2.2.2.2.2 1 (by decide)).1 rfl) [] rfl rfl hl.1 (Nat.le_of_ble_eq_true rfl) ⟨by decide, by decide⟩ ⟨Nat.le_refl _, Nat.le_refl _⟩ d_Er_push_99 (fun H locs hP hkp hS => ?_)
  refine lv_iinc (k := 0) (v := 3) hx hb d_Er_push_102 hl rfl (by decide) (by decide) rfl (fun ls hl => ?_)
  have hl : lv_has ls 4 [(3, .int 3), (2, .ref (b0 + 12 + 88 * 2 + 4 + 2 * (g % 16))), (0, .ref b0), (1, .int 3)] := hl
  refine lv_goto (tgt := 73) hx hb d_Er_push_105 rfl ?_
  refine lv_iload_n hx hb d_Er_push_73 rfl (lv_at hl 0 rfl) ?_
  refine lv_iconst (v := 3) hx hb d_Er_push_74 (by decide) ?_
  refine lv_icmp_gt (tgt := 108) hx hb d_Er_push_75 rfl (fun br75 => absurd br75 (by decide)) (fun br75 => ?_)
  refine lv_iload_n hx hb d_Er_push_78 rfl (lv_at hl 0 rfl) ?_
  refine lv_iload_n hx hb d_Er_push_79 rfl (lv_at hl 3 rfl) ?_
  refine lv_icmp_eq (tgt := 102) hx hb d_Er_push_80 rfl (fun br80 => ?_) (fun br80 => absurd (rfl) br80)
  refine lv_iinc (k := 0) (v := 4) hx hb d_Er_push_102 hl rfl (by decide) (by decide) rfl (fun ls hl => ?_)
  have hl : lv_has ls 4 [(3, .int 4), (2, .ref (b0 + 12 + 88 * 2 + 4 + 2 * (g % 16))), (0, .ref b0), (1, .int 3)] := hl
  refine lv_goto (tgt := 73) hx hb d_Er_push_105 rfl ?_
  refine lv_iload_n hx hb d_Er_push_73 rfl (lv_at hl 0 rfl) ?_
  refine lv_iconst (v := 3) hx hb d_Er_push_74 (by decide) ?_
  refine lv_icmp_gt (tgt := 108) hx hb d_Er_push_75 rfl (fun br75 => ?_) (fun br75 => absurd (by decide) br75)
  refine lv_aload_n hx hb d_Er_push_108 rfl (lv_at hl 1 rfl) ?_
  refine g_i (v := (mu1 (b0 + 12 + 88 * 2 + 4 + 2 * (g % 16)) 0)) Z kc_Ch hP ((he.2.2.2.2.2.2.1 2 (by decide)).2.2.2.2.1 _ (Nat.mod_lt _ (by decide))).1 rfl 0 (by decide) wl_Er_99 rfl rfl r0 d_Er_push_109 ?_
  exact W.iret hx hb hr (fun t ht hW => ⟨rfl, by rw [ht]; exact cvm hP (rfl), hS.F ht⟩) hS.2.2 d_Er_push_112
set_option maxHeartbeats 4000000 in
set_option maxRecDepth 100000 in
theorem c_Er_waiting (l : Launch) (D : va_G) (E : Nat → ClassId) (La : la_L) {b0 : Nat} (he : isEr E La b0) (mu : la_M) {k : Nat} (hk : k < 3) {w0 r : Nat} {u : Int32} (hw : isWy E La w0 r) (hway : cr l y_Er_way b_Er_way 3 (some (.object "EditRelay$Way")) 0 0 D E La [.ref b0, .int (nI (k + 1)), .int u] mu (some (.ref w0))) {a b : Nat} (h4 : mu w0 4 = nI a) (h5 : mu w0 6 = nI b) (hab : b ≤ a) : cr l y_Er_waiting b_Er_waiting 3 (some .int) 1 22 D E La [.ref b0, .int (nI (k + 1)), .int u] mu (some (.int (nI (a - b)))) := by
  refine cr_begin R_Er (by decide) rfl (Nat.le_of_ble_eq_true rfl) ?_
  intro p e s m below meth c ls Z hr hlocks hP hl
  have hx := Z.1
  have hb := Z.2.1
  have hK : va_K D cls5 (tyE E) s := Z.2.2.2.2.2
  have hl : lv_has ls 3 [(0, .ref b0), (1, .int (nI (k + 1))), (2, .int u)] := hl
  refine lv_iload_n hx hb d_Er_waiting_0 rfl (lv_at hl 1 rfl) ?_
  refine cr_S Z ks_Er_35 (c_Er_checkClient l D E La mu hk) hP [] rfl rfl hl.1 (Nat.le_of_ble_eq_true rfl) ⟨by decide, by decide⟩ ⟨Nat.le_refl _, Nat.le_refl _⟩ d_Er_waiting_1 ?_
  refine lv_aload_n hx hb d_Er_waiting_4 rfl (lv_at hl 0 rfl) ?_
  refine lv_iload_n hx hb d_Er_waiting_5 rfl (lv_at hl 1 rfl) ?_
  refine lv_iload_n hx hb d_Er_waiting_6 rfl (lv_at hl 2 rfl) ?_
  refine cr_V Z kv_Er_74 (hway) hP (la_recv hK hP kc_Er he.1 rfl) [] rfl rfl hl.1 (Nat.le_of_ble_eq_true rfl) ⟨by decide, by decide⟩ ⟨Nat.le_refl _, Nat.le_refl _⟩ d_Er_waiting_7 ?_
  refine cr_V Z kv_Er_102 (c_Wy_waitingCount l D E La hw mu h4 h5 hab) hP (la_recv hK hP kc_Wy hw.1 rfl) [] rfl rfl hl.1 (Nat.le_of_ble_eq_true rfl) ⟨by decide, by decide⟩ ⟨Nat.le_refl _, Nat.le_refl _⟩ d_Er_waiting_10 ?_
  exact W.iret hx hb hr (fun t ht hW => ⟨rfl, ht⟩) (fun q h => by cases h) d_Er_waiting_13
set_option maxHeartbeats 4000000 in
set_option maxRecDepth 100000 in
theorem c_Er_open (l : Launch) (D : va_G) (E : Nat → ClassId) (La : la_L) {b0 : Nat} (he : isEr E La b0) (mu : la_M) {k : Nat} (hk : k < 3) {w0 r : Nat} {u : Int32} (hw : isWy E La w0 r) (hway : cr l y_Er_way b_Er_way 3 (some (.object "EditRelay$Way")) 0 0 D E La [.ref b0, .int (nI (k + 1)), .int u] mu (some (.ref w0))) {a b : Nat} (h4 : mu w0 4 = nI a) (h5 : mu w0 5 = nI b) (hab : b ≤ a) : cr l y_Er_open b_Er_open 3 (some .int) 1 22 D E La [.ref b0, .int (nI (k + 1)), .int u] mu (some (.int (nI (a - b)))) := by
  refine cr_begin R_Er (by decide) rfl (Nat.le_of_ble_eq_true rfl) ?_
  intro p e s m below meth c ls Z hr hlocks hP hl
  have hx := Z.1
  have hb := Z.2.1
  have hK : va_K D cls5 (tyE E) s := Z.2.2.2.2.2
  have hl : lv_has ls 3 [(0, .ref b0), (1, .int (nI (k + 1))), (2, .int u)] := hl
  refine lv_iload_n hx hb d_Er_open_0 rfl (lv_at hl 1 rfl) ?_
  refine cr_S Z ks_Er_35 (c_Er_checkClient l D E La mu hk) hP [] rfl rfl hl.1 (Nat.le_of_ble_eq_true rfl) ⟨by decide, by decide⟩ ⟨Nat.le_refl _, Nat.le_refl _⟩ d_Er_open_1 ?_
  refine lv_aload_n hx hb d_Er_open_4 rfl (lv_at hl 0 rfl) ?_
  refine lv_iload_n hx hb d_Er_open_5 rfl (lv_at hl 1 rfl) ?_
  refine lv_iload_n hx hb d_Er_open_6 rfl (lv_at hl 2 rfl) ?_
  refine cr_V Z kv_Er_74 (hway) hP (la_recv hK hP kc_Er he.1 rfl) [] rfl rfl hl.1 (Nat.le_of_ble_eq_true rfl) ⟨by decide, by decide⟩ ⟨Nat.le_refl _, Nat.le_refl _⟩ d_Er_open_7 ?_
  refine cr_V Z kv_Er_106 (c_Wy_openCount l D E La hw mu h4 h5 hab) hP (la_recv hK hP kc_Wy hw.1 rfl) [] rfl rfl hl.1 (Nat.le_of_ble_eq_true rfl) ⟨by decide, by decide⟩ ⟨Nat.le_refl _, Nat.le_refl _⟩ d_Er_open_10 ?_
  exact W.iret hx hb hr (fun t ht hW => ⟨rfl, ht⟩) (fun q h => by cases h) d_Er_open_13
set_option maxHeartbeats 4000000 in
set_option maxRecDepth 100000 in
theorem c_Er_got (l : Launch) (D : va_G) (E : Nat → ClassId) (La : la_L) {b0 : Nat} (he : isEr E La b0) (mu : la_M) {k : Nat} (hk : k < 3) {w0 r : Nat} {u : Int32} (hw : isWy E La w0 r) (hway : cr l y_Er_way b_Er_way 3 (some (.object "EditRelay$Way")) 0 0 D E La [.ref b0, .int (nI (k + 1)), .int u] mu (some (.ref w0)))  : cr l y_Er_got b_Er_got 3 (some .int) 1 22 D E La [.ref b0, .int (nI (k + 1)), .int u] mu (some (.int (mu w0 6))) := by
  refine cr_begin R_Er (by decide) rfl (Nat.le_of_ble_eq_true rfl) ?_
  intro p e s m below meth c ls Z hr hlocks hP hl
  have hx := Z.1
  have hb := Z.2.1
  have hK : va_K D cls5 (tyE E) s := Z.2.2.2.2.2
  have hl : lv_has ls 3 [(0, .ref b0), (1, .int (nI (k + 1))), (2, .int u)] := hl
  refine lv_iload_n hx hb d_Er_got_0 rfl (lv_at hl 1 rfl) ?_
  refine cr_S Z ks_Er_35 (c_Er_checkClient l D E La mu hk) hP [] rfl rfl hl.1 (Nat.le_of_ble_eq_true rfl) ⟨by decide, by decide⟩ ⟨Nat.le_refl _, Nat.le_refl _⟩ d_Er_got_1 ?_
  refine lv_aload_n hx hb d_Er_got_4 rfl (lv_at hl 0 rfl) ?_
  refine lv_iload_n hx hb d_Er_got_5 rfl (lv_at hl 1 rfl) ?_
  refine lv_iload_n hx hb d_Er_got_6 rfl (lv_at hl 2 rfl) ?_
  refine cr_V Z kv_Er_74 (hway) hP (la_recv hK hP kc_Er he.1 rfl) [] rfl rfl hl.1 (Nat.le_of_ble_eq_true rfl) ⟨by decide, by decide⟩ ⟨Nat.le_refl _, Nat.le_refl _⟩ d_Er_got_7 ?_
  refine g_f Z kc_Wy hP hw.1 rfl 6 (by decide) wl_Er_92 rfl rfl d_Er_got_10 ?_
  exact W.iret hx hb hr (fun t ht hW => ⟨rfl, ht⟩) (fun q h => by cases h) d_Er_got_13
set_option maxHeartbeats 4000000 in
set_option maxRecDepth 100000 in
theorem c_Er_change (l : Launch) (D : va_G) (E : Nat → ClassId) (La : la_L) {b0 : Nat} (he : isEr E La b0) (mu : la_M) {k : Nat} (hk : k < 3) {w0 r : Nat} {u : Int32} (hw : isWy E La w0 r) (hway : cr l y_Er_way b_Er_way 3 (some (.object "EditRelay$Way")) 0 0 D E La [.ref b0, .int (nI (k + 1)), .int u] mu (some (.ref w0))) {a b i0 : Nat} (h4 : mu w0 4 = nI a) (h5 : mu w0 5 = nI b) (hab : b ≤ a) (ha : a < 2 ^ 31) (hi : i0 < a - b) : cr l y_Er_change b_Er_change 6 (some .int) 3 64 D E La [.ref b0, .int (nI (k + 1)), .int u, .int (nI i0)] mu (some (.int (1000 * mu (w0 + 5 + 2 * ((b + i0) % r)) 0 + 10 * mu (w0 + 5 + 2 * ((b + i0) % r)) 1 + mu (w0 + 5 + 2 * ((b + i0) % r)) 3))) := by
  refine cr_begin R_Er (by decide) rfl (Nat.le_of_ble_eq_true rfl) ?_
  intro p e s m below meth c ls Z hr hlocks hP hl
  have hx := Z.1
  have hb := Z.2.1
  have hK : va_K D cls5 (tyE E) s := Z.2.2.2.2.2
  have hl : lv_has ls 6 [(0, .ref b0), (1, .int (nI (k + 1))), (2, .int u), (3, .int (nI i0))] := hl
  refine lv_iload_n hx hb d_Er_change_0 rfl (lv_at hl 1 rfl) ?_
  refine cr_S Z ks_Er_35 (c_Er_checkClient l D E La mu hk) hP [] rfl rfl hl.1 (Nat.le_of_ble_eq_true rfl) ⟨by decide, by decide⟩ ⟨Nat.le_refl _, Nat.le_refl _⟩ d_Er_change_1 ?_
  refine lv_aload_n hx hb d_Er_change_4 rfl (lv_at hl 0 rfl) ?_
  refine lv_iload_n hx hb d_Er_change_5 rfl (lv_at hl 1 rfl) ?_
  refine lv_iload_n hx hb d_Er_change_6 rfl (lv_at hl 2 rfl) ?_
  refine cr_V Z kv_Er_74 (hway) hP (la_recv hK hP kc_Er he.1 rfl) [] rfl rfl hl.1 (Nat.le_of_ble_eq_true rfl) ⟨by decide, by decide⟩ ⟨Nat.le_refl _, Nat.le_refl _⟩ d_Er_change_7 ?_
  refine lv_astore hx hb d_Er_change_10 hl (by decide) rfl (fun ls hl => ?_)
  have hl : lv_has ls 6 [(4, .ref w0), (0, .ref b0), (1, .int (nI (k + 1))), (2, .int u), (3, .int (nI i0))] := hl
  refine lv_iload_n hx hb d_Er_change_12 rfl (lv_at hl 4 rfl) ?_
  refine lv_if_lt (tgt := 25) hx hb d_Er_change_13 rfl (fun br13 => absurd br13 (nI_pos (by omega))) (fun br13 => ?_)
  refine lv_iload_n hx hb d_Er_change_16 rfl (lv_at hl 4 rfl) ?_
  refine lv_aload hx hb d_Er_change_17 (lv_at hl 0 rfl) ?_
  refine cr_V Z kv_Er_106 (c_Wy_openCount l D E La hw mu h4 h5 hab) hP (la_recv hK hP kc_Wy hw.1 rfl) [.int (nI i0)] rfl rfl hl.1 (Nat.le_of_ble_eq_true rfl) ⟨by decide, by decide⟩ ⟨Nat.le_refl _, Nat.le_refl _⟩ d_Er_change_19 ?_
  refine lv_icmp_lt (tgt := 35) hx hb d_Er_change_22 rfl (fun br22 => ?_) (fun br22 => absurd (nI_lt hi (by omega)) br22)
  refine lv_aload hx hb d_Er_change_35 (lv_at hl 0 rfl) ?_
  refine lv_iload_n hx hb d_Er_change_37 rfl (lv_at hl 4 rfl) ?_
  refine cr_V Z kv_Er_111 (c_Wy_openChange l D E La hw mu h5 (by omega)) hP (la_recv hK hP kc_Wy hw.1 rfl) [] rfl rfl hl.1 (Nat.le_of_ble_eq_true rfl) ⟨by decide, by decide⟩ ⟨Nat.le_refl _, Nat.le_refl _⟩ d_Er_change_38 ?_
  refine lv_astore hx hb d_Er_change_41 hl (by decide) rfl (fun ls hl => ?_)
  have hl : lv_has ls 6 [(5, .ref (w0 + 5 + 2 * ((b + i0) % r))), (4, .ref w0), (0, .ref b0), (1, .int (nI (k + 1))), (2, .int u), (3, .int (nI i0))] := hl
  refine lv_sipush (v := 1000) hx hb d_Er_change_43 (by decide) ?_
  refine lv_aload hx hb d_Er_change_46 (lv_at hl 0 rfl) ?_
  refine g_f Z kc_Ch hP (hw.2.2.2.2.1 _ (Nat.mod_lt _ hw.2.2.2.2.2.1)).2 rfl 0 (by decide) wl_Er_99 rfl rfl d_Er_change_48 ?_
  refine lv_imul hx hb d_Er_change_51 ?_
  refine lv_bipush (v := 10) hx hb d_Er_change_52 (by decide) ?_
  refine lv_aload hx hb d_Er_change_54 (lv_at hl 0 rfl) ?_
  refine g_f Z kc_Ch hP (hw.2.2.2.2.1 _ (Nat.mod_lt _ hw.2.2.2.2.2.1)).2 rfl 1 (by decide) wl_Er_115 rfl rfl d_Er_change_56 ?_
  refine lv_imul hx hb d_Er_change_59 ?_
  refine lv_iadd hx hb d_Er_change_60 ?_
  refine lv_aload hx hb d_Er_change_61 (lv_at hl 0 rfl) ?_
  refine g_f Z kc_Ch hP (hw.2.2.2.2.1 _ (Nat.mod_lt _ hw.2.2.2.2.2.1)).2 rfl 3 (by decide) wl_Er_118 rfl rfl d_Er_change_63 ?_
  refine lv_iadd hx hb d_Er_change_66 ?_
  exact W.iret hx hb hr (fun t ht hW => ⟨rfl, ht⟩) (fun q h => by cases h) d_Er_change_67
set_option maxHeartbeats 4000000 in
set_option maxRecDepth 100000 in
theorem c_Er_size (l : Launch) (D : va_G) (E : Nat → ClassId) (La : la_L) {b0 : Nat} (he : isEr E La b0) (mu : la_M) {j0 : Nat} (hj : j0 < 4) : cr l y_Er_size b_Er_size 2 (some .int) 1 20 D E La [.ref b0, .int (nI j0)] mu (some (.int (mu (b0 + 2 + 2 * j0) 1))) := by
  refine cr_begin R_Er (by decide) rfl (Nat.le_of_ble_eq_true rfl) ?_
  intro p e s m below meth c ls Z hr hlocks hP hl
  have hx := Z.1
  have hb := Z.2.1
  have hK : va_K D cls5 (tyE E) s := Z.2.2.2.2.2
  have hl : lv_has ls 2 [(0, .ref b0), (1, .int (nI j0))] := hl
  refine lv_iload_n hx hb d_Er_size_0 rfl (lv_at hl 1 rfl) ?_
  refine cr_S Z ks_Er_121 (c_Er_checkSite l D E La mu hj) hP [] rfl rfl hl.1 (Nat.le_of_ble_eq_true rfl) ⟨by decide, by decide⟩ ⟨Nat.le_refl _, Nat.le_refl _⟩ d_Er_size_1 ?_
  refine lv_aload_n hx hb d_Er_size_4 rfl (lv_at hl 0 rfl) ?_
  refine g_f (v := .ref (b0 + 1)) Z kc_Er hP he.1 rfl 0 (by decide) wl_Er_11 rfl rfl d_Er_size_5 ?_
  refine lv_iload_n hx hb d_Er_size_8 rfl (lv_at hl 1 rfl) ?_
  refine la_aald (F := (fun k => b0 + 2 + 2 * k)) hx hb hK hP 3 he.2.1 rfl rfl j0 rfl hj (by decide) d_Er_size_9 ?_
  refine g_f Z kc_Tx hP (he.2.2.2.2.2.1 j0 hj).1 rfl 1 (by decide) wl_Er_45 rfl rfl d_Er_size_10 ?_
  exact W.iret hx hb hr (fun t ht hW => ⟨rfl, ht⟩) (fun q h => by cases h) d_Er_size_13
set_option maxHeartbeats 4000000 in
set_option maxRecDepth 100000 in
theorem c_Er_letter (l : Launch) (D : va_G) (E : Nat → ClassId) (La : la_L) {b0 : Nat} (he : isEr E La b0) (mu : la_M) {j0 q n : Nat} (hj : j0 < 4) (hn : mu (b0 + 2 + 2 * j0) 1 = nI n) (hq : q < n) (hn64 : n ≤ 64) : cr l y_Er_letter b_Er_letter 4 (some .int) 1 21 D E La [.ref b0, .int (nI j0), .int (nI q)] mu (some (.int (mu ((b0 + 2 + 2 * j0) + 1) q))) := by
  refine cr_begin R_Er (by decide) rfl (Nat.le_of_ble_eq_true rfl) ?_
  intro p e s m below meth c ls Z hr hlocks hP hl
  have hx := Z.1
  have hb := Z.2.1
  have hK : va_K D cls5 (tyE E) s := Z.2.2.2.2.2
  have hl : lv_has ls 4 [(0, .ref b0), (1, .int (nI j0)), (2, .int (nI q))] := hl
  refine lv_iload_n hx hb d_Er_letter_0 rfl (lv_at hl 1 rfl) ?_
  refine cr_S Z ks_Er_121 (c_Er_checkSite l D E La mu hj) hP [] rfl rfl hl.1 (Nat.le_of_ble_eq_true rfl) ⟨by decide, by decide⟩ ⟨Nat.le_refl _, Nat.le_refl _⟩ d_Er_letter_1 ?_
  refine lv_aload_n hx hb d_Er_letter_4 rfl (lv_at hl 0 rfl) ?_
  refine g_f (v := .ref (b0 + 1)) Z kc_Er hP he.1 rfl 0 (by decide) wl_Er_11 rfl rfl d_Er_letter_5 ?_
  refine lv_iload_n hx hb d_Er_letter_8 rfl (lv_at hl 1 rfl) ?_
  refine la_aald (F := (fun k => b0 + 2 + 2 * k)) hx hb hK hP 3 he.2.1 rfl rfl j0 rfl hj (by decide) d_Er_letter_9 ?_
  refine lv_astore_n hx hb d_Er_letter_10 rfl hl (by decide) rfl (fun ls hl => ?_)
  have hl : lv_has ls 4 [(3, .ref (b0 + 2 + 2 * j0)), (0, .ref b0), (1, .int (nI j0)), (2, .int (nI q))] := hl
  refine lv_aload_n hx hb d_Er_letter_11 rfl (lv_at hl 0 rfl) ?_
  refine lv_iload_n hx hb d_Er_letter_12 rfl (lv_at hl 3 rfl) ?_
  refine cr_S Z ks_Er_66 (c_Er_checkHasLetter l D E La (he.2.2.2.2.2.1 j0 hj) mu hn hq (by omega)) hP [] rfl rfl hl.1 (Nat.le_of_ble_eq_true rfl) ⟨by decide, by decide⟩ ⟨Nat.le_refl _, Nat.le_refl _⟩ d_Er_letter_13 ?_
  refine lv_aload_n hx hb d_Er_letter_16 rfl (lv_at hl 0 rfl) ?_
  refine g_f (v := .ref ((b0 + 2 + 2 * j0) + 1)) Z kc_Tx hP (he.2.2.2.2.2.1 j0 hj).1 rfl 0 (by decide) wl_Er_70 rfl rfl d_Er_letter_17 ?_
  refine lv_iload_n hx hb d_Er_letter_20 rfl (lv_at hl 3 rfl) ?_
  refine la_cald hx hb hK hP 1 (he.2.2.2.2.2.1 j0 hj).2 rfl rfl q rfl (by omega) (by decide) d_Er_letter_21 ?_
  exact W.iret hx hb hr (fun t ht hW => ⟨rfl, ht⟩) (fun q h => by cases h) d_Er_letter_22
set_option maxHeartbeats 4000000 in
set_option maxRecDepth 100000 in
theorem c_Er_alike_y (l : Launch) (D : va_G) (E : Nat → ClassId) (La : la_L) {b0 : Nat} (he : isEr E La b0) (mu : la_M) (s1 : cr l y_Tx_isSameAs b_Tx_isSameAs 3 (some .boolean) 0 0 D E La [.ref (b0 + 2 + 2 * 1), .ref (b0 + 2 + 2 * 0)] mu (some (.int 1))) (s2 : cr l y_Tx_isSameAs b_Tx_isSameAs 3 (some .boolean) 0 0 D E La [.ref (b0 + 2 + 2 * 2), .ref (b0 + 2 + 2 * 0)] mu (some (.int 1))) (s3 : cr l y_Tx_isSameAs b_Tx_isSameAs 3 (some .boolean) 0 0 D E La [.ref (b0 + 2 + 2 * 3), .ref (b0 + 2 + 2 * 0)] mu (some (.int 1))) : cr l y_Er_alike b_Er_alike 2 (some .boolean) 1 22 D E La [.ref b0] mu (some (.int 1)) := by
  refine cr_begin R_Er (by decide) rfl (Nat.le_of_ble_eq_true rfl) ?_
  intro p e s m below meth c ls Z hr hlocks hP hl
  have hx := Z.1
  have hb := Z.2.1
  have hK : va_K D cls5 (tyE E) s := Z.2.2.2.2.2
  have hl : lv_has ls 2 [(0, .ref b0)] := hl
  refine lv_iconst (v := 1) hx hb d_Er_alike_0 (by decide) ?_
  refine lv_istore_n hx hb d_Er_alike_1 rfl hl (by decide) rfl (fun ls hl => ?_)
  have hl : lv_has ls 2 [(1, .int 1), (0, .ref b0)] := hl
  refine lv_iload_n hx hb d_Er_alike_2 rfl (lv_at hl 0 rfl) ?_
  refine lv_iconst (v := 3) hx hb d_Er_alike_3 (by decide) ?_
  refine lv_icmp_gt (tgt := 33) hx hb d_Er_alike_4 rfl (fun br4 => absurd br4 (by decide)) (fun br4 => ?_)
  refine lv_aload_n hx hb d_Er_alike_7 rfl (lv_at hl 1 rfl) ?_
  refine g_f (v := .ref (b0 + 1)) Z kc_Er hP he.1 rfl 0 (by decide) wl_Er_11 rfl rfl d_Er_alike_8 ?_
  refine lv_iload_n hx hb d_Er_alike_11 rfl (lv_at hl 0 rfl) ?_
  refine la_aald (F := (fun k => b0 + 2 + 2 * k)) hx hb hK hP 3 he.2.1 rfl rfl 1 rfl (by decide) (by decide) d_Er_alike_12 ?_
  refine lv_aload_n hx hb d_Er_alike_13 rfl (lv_at hl 1 rfl) ?_
  refine g_f (v := .ref (b0 + 1)) Z kc_Er hP he.1 rfl 0 (by decide) wl_Er_11 rfl rfl d_Er_alike_14 ?_
  refine lv_iconst (v := 0) hx hb d_Er_alike_17 (by decide) ?_
  refine la_aald (F := (fun k => b0 + 2 + 2 * k)) hx hb hK hP 3 he.2.1 rfl rfl 0 rfl (by decide) (by decide) d_Er_alike_18 ?_
  refine cr_V Z kv_Er_124 s1 hP (la_recv hK hP kc_Tx (he.2.2.2.2.2.1 1 (by decide)).1 rfl) [] rfl rfl hl.1 (Nat.le_of_ble_eq_true rfl) ⟨by decide, by decide⟩ ⟨Nat.le_refl _, Nat.le_refl _⟩ d_Er_alike_19 ?_
  refine lv_if_ne (tgt := 27) hx hb d_Er_alike_22 rfl (fun br22 => ?_) (fun br22 => absurd br22 (by decide))
  refine lv_iinc (k := 0) (v := 2) hx hb d_Er_alike_27 hl rfl (by decide) (by decide) rfl (fun ls hl => ?_)
  have hl : lv_has ls 2 [(1, .int 2), (0, .ref b0)] := hl
  refine lv_goto (tgt := 2) hx hb d_Er_alike_30 rfl ?_
  refine lv_iload_n hx hb d_Er_alike_2 rfl (lv_at hl 0 rfl) ?_
  refine lv_iconst (v := 3) hx hb d_Er_alike_3 (by decide) ?_
  refine lv_icmp_gt (tgt := 33) hx hb d_Er_alike_4 rfl (fun br4 => absurd br4 (by decide)) (fun br4 => ?_)
  refine lv_aload_n hx hb d_Er_alike_7 rfl (lv_at hl 1 rfl) ?_
  refine g_f (v := .ref (b0 + 1)) Z kc_Er hP he.1 rfl 0 (by decide) wl_Er_11 rfl rfl d_Er_alike_8 ?_
  refine lv_iload_n hx hb d_Er_alike_11 rfl (lv_at hl 0 rfl) ?_
  refine la_aald (F := (fun k => b0 + 2 + 2 * k)) hx hb hK hP 3 he.2.1 rfl rfl 2 rfl (by decide) (by decide) d_Er_alike_12 ?_
  refine lv_aload_n hx hb d_Er_alike_13 rfl (lv_at hl 1 rfl) ?_
  refine g_f (v := .ref (b0 + 1)) Z kc_Er hP he.1 rfl 0 (by decide) wl_Er_11 rfl rfl d_Er_alike_14 ?_
  refine lv_iconst (v := 0) hx hb d_Er_alike_17 (by decide) ?_
  refine la_aald (F := (fun k => b0 + 2 + 2 * k)) hx hb hK hP 3 he.2.1 rfl rfl 0 rfl (by decide) (by decide) d_Er_alike_18 ?_
  refine cr_V Z kv_Er_124 s2 hP (la_recv hK hP kc_Tx (he.2.2.2.2.2.1 2 (by decide)).1 rfl) [] rfl rfl hl.1 (Nat.le_of_ble_eq_true rfl) ⟨by decide, by decide⟩ ⟨Nat.le_refl _, Nat.le_refl _⟩ d_Er_alike_19 ?_
  refine lv_if_ne (tgt := 27) hx hb d_Er_alike_22 rfl (fun br22 => ?_) (fun br22 => absurd br22 (by decide))
  refine lv_iinc (k := 0) (v := 3) hx hb d_Er_alike_27 hl rfl (by decide) (by decide) rfl (fun ls hl => ?_)
  have hl : lv_has ls 2 [(1, .int 3), (0, .ref b0)] := hl
  refine lv_goto (tgt := 2) hx hb d_Er_alike_30 rfl ?_
  refine lv_iload_n hx hb d_Er_alike_2 rfl (lv_at hl 0 rfl) ?_
  refine lv_iconst (v := 3) hx hb d_Er_alike_3 (by decide) ?_
  refine lv_icmp_gt (tgt := 33) hx hb d_Er_alike_4 rfl (fun br4 => absurd br4 (by decide)) (fun br4 => ?_)
  refine lv_aload_n hx hb d_Er_alike_7 rfl (lv_at hl 1 rfl) ?_
  refine g_f (v := .ref (b0 + 1)) Z kc_Er hP he.1 rfl 0 (by decide) wl_Er_11 rfl rfl d_Er_alike_8 ?_
  refine lv_iload_n hx hb d_Er_alike_11 rfl (lv_at hl 0 rfl) ?_
  refine la_aald (F := (fun k => b0 + 2 + 2 * k)) hx hb hK hP 3 he.2.1 rfl rfl 3 rfl (by decide) (by decide) d_Er_alike_12 ?_
  refine lv_aload_n hx hb d_Er_alike_13 rfl (lv_at hl 1 rfl) ?_
  refine g_f (v := .ref (b0 + 1)) Z kc_Er hP he.1 rfl 0 (by decide) wl_Er_11 rfl rfl d_Er_alike_14 ?_
  refine lv_iconst (v := 0) hx hb d_Er_alike_17 (by decide) ?_
  refine la_aald (F := (fun k => b0 + 2 + 2 * k)) hx hb hK hP 3 he.2.1 rfl rfl 0 rfl (by decide) (by decide) d_Er_alike_18 ?_
  refine cr_V Z kv_Er_124 s3 hP (la_recv hK hP kc_Tx (he.2.2.2.2.2.1 3 (by decide)).1 rfl) [] rfl rfl hl.1 (Nat.le_of_ble_eq_true rfl) ⟨by decide, by decide⟩ ⟨Nat.le_refl _, Nat.le_refl _⟩ d_Er_alike_19 ?_
  refine lv_if_ne (tgt := 27) hx hb d_Er_alike_22 rfl (fun br22 => ?_) (fun br22 => absurd br22 (by decide))
  refine lv_iinc (k := 0) (v := 4) hx hb d_Er_alike_27 hl rfl (by decide) (by decide) rfl (fun ls hl => ?_)
  have hl : lv_has ls 2 [(1, .int 4), (0, .ref b0)] := hl
  refine lv_goto (tgt := 2) hx hb d_Er_alike_30 rfl ?_
  refine lv_iload_n hx hb d_Er_alike_2 rfl (lv_at hl 0 rfl) ?_
  refine lv_iconst (v := 3) hx hb d_Er_alike_3 (by decide) ?_
  refine lv_icmp_gt (tgt := 33) hx hb d_Er_alike_4 rfl (fun br4 => ?_) (fun br4 => absurd (by decide) br4)
  refine lv_iconst (v := 1) hx hb d_Er_alike_33 (by decide) ?_
  exact W.zret hx hb hr (by decide) (fun t ht hW => ⟨rfl, ht⟩) (fun q h => by cases h) d_Er_alike_34
set_option maxHeartbeats 4000000 in
set_option maxRecDepth 100000 in
theorem c_Er_alike_n1 (l : Launch) (D : va_G) (E : Nat → ClassId) (La : la_L) {b0 : Nat} (he : isEr E La b0) (mu : la_M) (s1 : cr l y_Tx_isSameAs b_Tx_isSameAs 3 (some .boolean) 0 0 D E La [.ref (b0 + 2 + 2 * 1), .ref (b0 + 2 + 2 * 0)] mu (some (.int 0))) : cr l y_Er_alike b_Er_alike 2 (some .boolean) 1 22 D E La [.ref b0] mu (some (.int 0)) := by
  refine cr_begin R_Er (by decide) rfl (Nat.le_of_ble_eq_true rfl) ?_
  intro p e s m below meth c ls Z hr hlocks hP hl
  have hx := Z.1
  have hb := Z.2.1
  have hK : va_K D cls5 (tyE E) s := Z.2.2.2.2.2
  have hl : lv_has ls 2 [(0, .ref b0)] := hl
  refine lv_iconst (v := 1) hx hb d_Er_alike_0 (by decide) ?_
  refine lv_istore_n hx hb d_Er_alike_1 rfl hl (by decide) rfl (fun ls hl => ?_)
  have hl : lv_has ls 2 [(1, .int 1), (0, .ref b0)] := hl
  refine lv_iload_n hx hb d_Er_alike_2 rfl (lv_at hl 0 rfl) ?_
  refine lv_iconst (v := 3) hx hb d_Er_alike_3 (by decide) ?_
  refine lv_icmp_gt (tgt := 33) hx hb d_Er_alike_4 rfl (fun br4 => absurd br4 (by decide)) (fun br4 => ?_)
  refine lv_aload_n hx hb d_Er_alike_7 rfl (lv_at hl 1 rfl) ?_
  refine g_f (v := .ref (b0 + 1)) Z kc_Er hP he.1 rfl 0 (by decide) wl_Er_11 rfl rfl d_Er_alike_8 ?_
  refine lv_iload_n hx hb d_Er_alike_11 rfl (lv_at hl 0 rfl) ?_
  refine la_aald (F := (fun k => b0 + 2 + 2 * k)) hx hb hK hP 3 he.2.1 rfl rfl 1 rfl (by decide) (by decide) d_Er_alike_12 ?_
  refine lv_aload_n hx hb d_Er_alike_13 rfl (lv_at hl 1 rfl) ?_
  refine g_f (v := .ref (b0 + 1)) Z kc_Er hP he.1 rfl 0 (by decide) wl_Er_11 rfl rfl d_Er_alike_14 ?_
  refine lv_iconst (v := 0) hx hb d_Er_alike_17 (by decide) ?_
  refine la_aald (F := (fun k => b0 + 2 + 2 * k)) hx hb hK hP 3 he.2.1 rfl rfl 0 rfl (by decide) (by decide) d_Er_alike_18 ?_
  refine cr_V Z kv_Er_124 s1 hP (la_recv hK hP kc_Tx (he.2.2.2.2.2.1 1 (by decide)).1 rfl) [] rfl rfl hl.1 (Nat.le_of_ble_eq_true rfl) ⟨by decide, by decide⟩ ⟨Nat.le_refl _, Nat.le_refl _⟩ d_Er_alike_19 ?_
  refine lv_if_ne (tgt := 27) hx hb d_Er_alike_22 rfl (fun br22 => absurd (rfl) br22) (fun br22 => ?_)
  refine lv_iconst (v := 0) hx hb d_Er_alike_25 (by decide) ?_
  exact W.zret hx hb hr (by decide) (fun t ht hW => ⟨rfl, ht⟩) (fun q h => by cases h) d_Er_alike_26
set_option maxHeartbeats 4000000 in
set_option maxRecDepth 100000 in
theorem c_Er_alike_n2 (l : Launch) (D : va_G) (E : Nat → ClassId) (La : la_L) {b0 : Nat} (he : isEr E La b0) (mu : la_M) (s1 : cr l y_Tx_isSameAs b_Tx_isSameAs 3 (some .boolean) 0 0 D E La [.ref (b0 + 2 + 2 * 1), .ref (b0 + 2 + 2 * 0)] mu (some (.int 1))) (s2 : cr l y_Tx_isSameAs b_Tx_isSameAs 3 (some .boolean) 0 0 D E La [.ref (b0 + 2 + 2 * 2), .ref (b0 + 2 + 2 * 0)] mu (some (.int 0))) : cr l y_Er_alike b_Er_alike 2 (some .boolean) 1 22 D E La [.ref b0] mu (some (.int 0)) := by
  refine cr_begin R_Er (by decide) rfl (Nat.le_of_ble_eq_true rfl) ?_
  intro p e s m below meth c ls Z hr hlocks hP hl
  have hx := Z.1
  have hb := Z.2.1
  have hK : va_K D cls5 (tyE E) s := Z.2.2.2.2.2
  have hl : lv_has ls 2 [(0, .ref b0)] := hl
  refine lv_iconst (v := 1) hx hb d_Er_alike_0 (by decide) ?_
  refine lv_istore_n hx hb d_Er_alike_1 rfl hl (by decide) rfl (fun ls hl => ?_)
  have hl : lv_has ls 2 [(1, .int 1), (0, .ref b0)] := hl
  refine lv_iload_n hx hb d_Er_alike_2 rfl (lv_at hl 0 rfl) ?_
  refine lv_iconst (v := 3) hx hb d_Er_alike_3 (by decide) ?_
  refine lv_icmp_gt (tgt := 33) hx hb d_Er_alike_4 rfl (fun br4 => absurd br4 (by decide)) (fun br4 => ?_)
  refine lv_aload_n hx hb d_Er_alike_7 rfl (lv_at hl 1 rfl) ?_
  refine g_f (v := .ref (b0 + 1)) Z kc_Er hP he.1 rfl 0 (by decide) wl_Er_11 rfl rfl d_Er_alike_8 ?_
  refine lv_iload_n hx hb d_Er_alike_11 rfl (lv_at hl 0 rfl) ?_
  refine la_aald (F := (fun k => b0 + 2 + 2 * k)) hx hb hK hP 3 he.2.1 rfl rfl 1 rfl (by decide) (by decide) d_Er_alike_12 ?_
  refine lv_aload_n hx hb d_Er_alike_13 rfl (lv_at hl 1 rfl) ?_
  refine g_f (v := .ref (b0 + 1)) Z kc_Er hP he.1 rfl 0 (by decide) wl_Er_11 rfl rfl d_Er_alike_14 ?_
  refine lv_iconst (v := 0) hx hb d_Er_alike_17 (by decide) ?_
  refine la_aald (F := (fun k => b0 + 2 + 2 * k)) hx hb hK hP 3 he.2.1 rfl rfl 0 rfl (by decide) (by decide) d_Er_alike_18 ?_
  refine cr_V Z kv_Er_124 s1 hP (la_recv hK hP kc_Tx (he.2.2.2.2.2.1 1 (by decide)).1 rfl) [] rfl rfl hl.1 (Nat.le_of_ble_eq_true rfl) ⟨by decide, by decide⟩ ⟨Nat.le_refl _, Nat.le_refl _⟩ d_Er_alike_19 ?_
  refine lv_if_ne (tgt := 27) hx hb d_Er_alike_22 rfl (fun br22 => ?_) (fun br22 => absurd br22 (by decide))
  refine lv_iinc (k := 0) (v := 2) hx hb d_Er_alike_27 hl rfl (by decide) (by decide) rfl (fun ls hl => ?_)
  have hl : lv_has ls 2 [(1, .int 2), (0, .ref b0)] := hl
  refine lv_goto (tgt := 2) hx hb d_Er_alike_30 rfl ?_
  refine lv_iload_n hx hb d_Er_alike_2 rfl (lv_at hl 0 rfl) ?_
  refine lv_iconst (v := 3) hx hb d_Er_alike_3 (by decide) ?_
  refine lv_icmp_gt (tgt := 33) hx hb d_Er_alike_4 rfl (fun br4 => absurd br4 (by decide)) (fun br4 => ?_)
  refine lv_aload_n hx hb d_Er_alike_7 rfl (lv_at hl 1 rfl) ?_
  refine g_f (v := .ref (b0 + 1)) Z kc_Er hP he.1 rfl 0 (by decide) wl_Er_11 rfl rfl d_Er_alike_8 ?_
  refine lv_iload_n hx hb d_Er_alike_11 rfl (lv_at hl 0 rfl) ?_
  refine la_aald (F := (fun k => b0 + 2 + 2 * k)) hx hb hK hP 3 he.2.1 rfl rfl 2 rfl (by decide) (by decide) d_Er_alike_12 ?_
  refine lv_aload_n hx hb d_Er_alike_13 rfl (lv_at hl 1 rfl) ?_
  refine g_f (v := .ref (b0 + 1)) Z kc_Er hP he.1 rfl 0 (by decide) wl_Er_11 rfl rfl d_Er_alike_14 ?_
  refine lv_iconst (v := 0) hx hb d_Er_alike_17 (by decide) ?_
  refine la_aald (F := (fun k => b0 + 2 + 2 * k)) hx hb hK hP 3 he.2.1 rfl rfl 0 rfl (by decide) (by decide) d_Er_alike_18 ?_
  refine cr_V Z kv_Er_124 s2 hP (la_recv hK hP kc_Tx (he.2.2.2.2.2.1 2 (by decide)).1 rfl) [] rfl rfl hl.1 (Nat.le_of_ble_eq_true rfl) ⟨by decide, by decide⟩ ⟨Nat.le_refl _, Nat.le_refl _⟩ d_Er_alike_19 ?_
  refine lv_if_ne (tgt := 27) hx hb d_Er_alike_22 rfl (fun br22 => absurd (rfl) br22) (fun br22 => ?_)
  refine lv_iconst (v := 0) hx hb d_Er_alike_25 (by decide) ?_
  exact W.zret hx hb hr (by decide) (fun t ht hW => ⟨rfl, ht⟩) (fun q h => by cases h) d_Er_alike_26
set_option maxHeartbeats 4000000 in
set_option maxRecDepth 100000 in
theorem c_Er_alike_n3 (l : Launch) (D : va_G) (E : Nat → ClassId) (La : la_L) {b0 : Nat} (he : isEr E La b0) (mu : la_M) (s1 : cr l y_Tx_isSameAs b_Tx_isSameAs 3 (some .boolean) 0 0 D E La [.ref (b0 + 2 + 2 * 1), .ref (b0 + 2 + 2 * 0)] mu (some (.int 1))) (s2 : cr l y_Tx_isSameAs b_Tx_isSameAs 3 (some .boolean) 0 0 D E La [.ref (b0 + 2 + 2 * 2), .ref (b0 + 2 + 2 * 0)] mu (some (.int 1))) (s3 : cr l y_Tx_isSameAs b_Tx_isSameAs 3 (some .boolean) 0 0 D E La [.ref (b0 + 2 + 2 * 3), .ref (b0 + 2 + 2 * 0)] mu (some (.int 0))) : cr l y_Er_alike b_Er_alike 2 (some .boolean) 1 22 D E La [.ref b0] mu (some (.int 0)) := by
  refine cr_begin R_Er (by decide) rfl (Nat.le_of_ble_eq_true rfl) ?_
  intro p e s m below meth c ls Z hr hlocks hP hl
  have hx := Z.1
  have hb := Z.2.1
  have hK : va_K D cls5 (tyE E) s := Z.2.2.2.2.2
  have hl : lv_has ls 2 [(0, .ref b0)] := hl
  refine lv_iconst (v := 1) hx hb d_Er_alike_0 (by decide) ?_
  refine lv_istore_n hx hb d_Er_alike_1 rfl hl (by decide) rfl (fun ls hl => ?_)
  have hl : lv_has ls 2 [(1, .int 1), (0, .ref b0)] := hl
  refine lv_iload_n hx hb d_Er_alike_2 rfl (lv_at hl 0 rfl) ?_
  refine lv_iconst (v := 3) hx hb d_Er_alike_3 (by decide) ?_
  refine lv_icmp_gt (tgt := 33) hx hb d_Er_alike_4 rfl (fun br4 => absurd br4 (by decide)) (fun br4 => ?_)
  refine lv_aload_n hx hb d_Er_alike_7 rfl (lv_at hl 1 rfl) ?_
  refine g_f (v := .ref (b0 + 1)) Z kc_Er hP he.1 rfl 0 (by decide) wl_Er_11 rfl rfl d_Er_alike_8 ?_
  refine lv_iload_n hx hb d_Er_alike_11 rfl (lv_at hl 0 rfl) ?_
  refine la_aald (F := (fun k => b0 + 2 + 2 * k)) hx hb hK hP 3 he.2.1 rfl rfl 1 rfl (by decide) (by decide) d_Er_alike_12 ?_
  refine lv_aload_n hx hb d_Er_alike_13 rfl (lv_at hl 1 rfl) ?_
  refine g_f (v := .ref (b0 + 1)) Z kc_Er hP he.1 rfl 0 (by decide) wl_Er_11 rfl rfl d_Er_alike_14 ?_
  refine lv_iconst (v := 0) hx hb d_Er_alike_17 (by decide) ?_
  refine la_aald (F := (fun k => b0 + 2 + 2 * k)) hx hb hK hP 3 he.2.1 rfl rfl 0 rfl (by decide) (by decide) d_Er_alike_18 ?_
  refine cr_V Z kv_Er_124 s1 hP (la_recv hK hP kc_Tx (he.2.2.2.2.2.1 1 (by decide)).1 rfl) [] rfl rfl hl.1 (Nat.le_of_ble_eq_true rfl) ⟨by decide, by decide⟩ ⟨Nat.le_refl _, Nat.le_refl _⟩ d_Er_alike_19 ?_
  refine lv_if_ne (tgt := 27) hx hb d_Er_alike_22 rfl (fun br22 => ?_) (fun br22 => absurd br22 (by decide))
  refine lv_iinc (k := 0) (v := 2) hx hb d_Er_alike_27 hl rfl (by decide) (by decide) rfl (fun ls hl => ?_)
  have hl : lv_has ls 2 [(1, .int 2), (0, .ref b0)] := hl
  refine lv_goto (tgt := 2) hx hb d_Er_alike_30 rfl ?_
  refine lv_iload_n hx hb d_Er_alike_2 rfl (lv_at hl 0 rfl) ?_
  refine lv_iconst (v := 3) hx hb d_Er_alike_3 (by decide) ?_
  refine lv_icmp_gt (tgt := 33) hx hb d_Er_alike_4 rfl (fun br4 => absurd br4 (by decide)) (fun br4 => ?_)
  refine lv_aload_n hx hb d_Er_alike_7 rfl (lv_at hl 1 rfl) ?_
  refine g_f (v := .ref (b0 + 1)) Z kc_Er hP he.1 rfl 0 (by decide) wl_Er_11 rfl rfl d_Er_alike_8 ?_
  refine lv_iload_n hx hb d_Er_alike_11 rfl (lv_at hl 0 rfl) ?_
  refine la_aald (F := (fun k => b0 + 2 + 2 * k)) hx hb hK hP 3 he.2.1 rfl rfl 2 rfl (by decide) (by decide) d_Er_alike_12 ?_
  refine lv_aload_n hx hb d_Er_alike_13 rfl (lv_at hl 1 rfl) ?_
  refine g_f (v := .ref (b0 + 1)) Z kc_Er hP he.1 rfl 0 (by decide) wl_Er_11 rfl rfl d_Er_alike_14 ?_
  refine lv_iconst (v := 0) hx hb d_Er_alike_17 (by decide) ?_
  refine la_aald (F := (fun k => b0 + 2 + 2 * k)) hx hb hK hP 3 he.2.1 rfl rfl 0 rfl (by decide) (by decide) d_Er_alike_18 ?_
  refine cr_V Z kv_Er_124 s2 hP (la_recv hK hP kc_Tx (he.2.2.2.2.2.1 2 (by decide)).1 rfl) [] rfl rfl hl.1 (Nat.le_of_ble_eq_true rfl) ⟨by decide, by decide⟩ ⟨Nat.le_refl _, Nat.le_refl _⟩ d_Er_alike_19 ?_
  refine lv_if_ne (tgt := 27) hx hb d_Er_alike_22 rfl (fun br22 => ?_) (fun br22 => absurd br22 (by decide))
  refine lv_iinc (k := 0) (v := 3) hx hb d_Er_alike_27 hl rfl (by decide) (by decide) rfl (fun ls hl => ?_)
  have hl : lv_has ls 2 [(1, .int 3), (0, .ref b0)] := hl
  refine lv_goto (tgt := 2) hx hb d_Er_alike_30 rfl ?_
  refine lv_iload_n hx hb d_Er_alike_2 rfl (lv_at hl 0 rfl) ?_
  refine lv_iconst (v := 3) hx hb d_Er_alike_3 (by decide) ?_
  refine lv_icmp_gt (tgt := 33) hx hb d_Er_alike_4 rfl (fun br4 => absurd br4 (by decide)) (fun br4 => ?_)
  refine lv_aload_n hx hb d_Er_alike_7 rfl (lv_at hl 1 rfl) ?_
  refine g_f (v := .ref (b0 + 1)) Z kc_Er hP he.1 rfl 0 (by decide) wl_Er_11 rfl rfl d_Er_alike_8 ?_
  refine lv_iload_n hx hb d_Er_alike_11 rfl (lv_at hl 0 rfl) ?_
  refine la_aald (F := (fun k => b0 + 2 + 2 * k)) hx hb hK hP 3 he.2.1 rfl rfl 3 rfl (by decide) (by decide) d_Er_alike_12 ?_
  refine lv_aload_n hx hb d_Er_alike_13 rfl (lv_at hl 1 rfl) ?_
  refine g_f (v := .ref (b0 + 1)) Z kc_Er hP he.1 rfl 0 (by decide) wl_Er_11 rfl rfl d_Er_alike_14 ?_
  refine lv_iconst (v := 0) hx hb d_Er_alike_17 (by decide) ?_
  refine la_aald (F := (fun k => b0 + 2 + 2 * k)) hx hb hK hP 3 he.2.1 rfl rfl 0 rfl (by decide) (by decide) d_Er_alike_18 ?_
  refine cr_V Z kv_Er_124 s3 hP (la_recv hK hP kc_Tx (he.2.2.2.2.2.1 3 (by decide)).1 rfl) [] rfl rfl hl.1 (Nat.le_of_ble_eq_true rfl) ⟨by decide, by decide⟩ ⟨Nat.le_refl _, Nat.le_refl _⟩ d_Er_alike_19 ?_
  refine lv_if_ne (tgt := 27) hx hb d_Er_alike_22 rfl (fun br22 => absurd (rfl) br22) (fun br22 => ?_)
  refine lv_iconst (v := 0) hx hb d_Er_alike_25 (by decide) ?_
  exact W.zret hx hb hr (by decide) (fun t ht hW => ⟨rfl, ht⟩) (fun q h => by cases h) d_Er_alike_26
set_option maxHeartbeats 4000000 in
set_option maxRecDepth 100000 in
theorem c_Er_quiet (l : Launch) (D : va_G) (E : Nat → ClassId) (La : la_L) {b0 : Nat} (he : isEr E La b0) (mu : la_M) {sn gt : Nat → Nat} (hq : ∀ j, j < 6 → gt j ≤ sn j ∧ sn j < 2 ^ 31) (hu : ∀ j, j < 3 → mu (b0 + 12 + 88 * j) 4 = nI (sn (2 * j)) ∧ mu (b0 + 12 + 88 * j) 6 = nI (gt (2 * j))) (hd : ∀ j, j < 3 → mu (b0 + 48 + 88 * j) 4 = nI (sn (2 * j + 1)) ∧ mu (b0 + 48 + 88 * j) 6 = nI (gt (2 * j + 1))) : cr l y_Er_quiet b_Er_quiet 2 (some .boolean) 1 22 D E La [.ref b0] mu (some (.int (if (sn 0 - gt 0) + (sn 1 - gt 1) + (sn 2 - gt 2) + (sn 3 - gt 3) + (sn 4 - gt 4) + (sn 5 - gt 5) = 0 then 1 else 0))) := by
  refine cr_begin R_Er (by decide) rfl (Nat.le_of_ble_eq_true rfl) ?_
  intro p e s m below meth c ls Z hr hlocks hP hl
  have hx := Z.1
  have hb := Z.2.1
  have hK : va_K D cls5 (tyE E) s := Z.2.2.2.2.2
  have hl : lv_has ls 2 [(0, .ref b0)] := hl
  refine lv_iconst (v := 1) hx hb d_Er_quiet_0 (by decide) ?_
  refine lv_istore_n hx hb d_Er_quiet_1 rfl hl (by decide) rfl (fun ls hl => ?_)
  have hl : lv_has ls 2 [(1, .int 1), (0, .ref b0)] := hl
  refine lv_iload_n hx hb d_Er_quiet_2 rfl (lv_at hl 0 rfl) ?_
  refine lv_iconst (v := 3) hx hb d_Er_quiet_3 (by decide) ?_
  refine lv_icmp_gt (tgt := 39) hx hb d_Er_quiet_4 rfl (fun br4 => absurd br4 (by decide)) (fun br4 => ?_)
  refine lv_aload_n hx hb d_Er_quiet_7 rfl (lv_at hl 1 rfl) ?_
  refine lv_iload_n hx hb d_Er_quiet_8 rfl (lv_at hl 0 rfl) ?_
  refine lv_iconst (v := 1) hx hb d_Er_quiet_9 (by decide) ?_
  refine cr_V Z kv_Er_74 (c_Er_way_u l D E La he mu (k := 0) (by decide) (u := 1) (by decide)) hP (la_recv hK hP kc_Er he.1 rfl) [] rfl rfl hl.1 (Nat.le_of_ble_eq_true rfl) ⟨by decide, by decide⟩ ⟨Nat.le_refl _, Nat.le_refl _⟩ d_Er_quiet_10 ?_
  refine cr_V Z kv_Er_102 (c_Wy_waitingCount l D E La (he.2.2.2.2.2.2.1 0 (by decide)) mu (a := sn 0) (b := gt 0) (hu 0 (by decide)).1 (hu 0 (by decide)).2 (hq 0 (by decide)).1) hP (la_recv hK hP kc_Wy (he.2.2.2.2.2.2.1 0 (by decide)).1 rfl) [] rfl rfl hl.1 (Nat.le_of_ble_eq_true rfl) ⟨by decide, by decide⟩ ⟨Nat.le_refl _, Nat.le_refl _⟩ d_Er_quiet_13 ?_
  refine lv_if_gt (tgt := 31) hx hb d_Er_quiet_16 rfl (fun br16 => ?_) (fun br16 => ?_)
  · skip
    have f0 := br16
    refine lv_iconst (v := 0) hx hb d_Er_quiet_31 (by decide) ?_
    have hnot : ¬ (sn 0 - gt 0) + (sn 1 - gt 1) + (sn 2 - gt 2) + (sn 3 - gt 3) + (sn 4 - gt 4) + (sn 5 - gt 5) = 0 := by
      intro h9
      have z : sn 0 - gt 0 = 0 := by omega
      rw [z] at f0
      exact absurd f0 (by decide)
    exact W.zret hx hb hr (by decide) (fun t ht hW => ⟨by rw [if_neg hnot], ht⟩) (fun q h => by cases h) d_Er_quiet_32
  · skip
    have f0 := br16
    refine lv_aload_n hx hb d_Er_quiet_19 rfl (lv_at hl 1 rfl) ?_
    refine lv_iload_n hx hb d_Er_quiet_20 rfl (lv_at hl 0 rfl) ?_
    refine lv_iconst (v := 0) hx hb d_Er_quiet_21 (by decide) ?_
    refine cr_V Z kv_Er_74 (c_Er_way_d l D E La he mu (k := 0) (by decide) (u := 0) rfl) hP (la_recv hK hP kc_Er he.1 rfl) [] rfl rfl hl.1 (Nat.le_of_ble_eq_true rfl) ⟨by decide, by decide⟩ ⟨Nat.le_refl _, Nat.le_refl _⟩ d_Er_quiet_22 ?_
    refine cr_V Z kv_Er_102 (c_Wy_waitingCount l D E La (he.2.2.2.2.2.2.2 0 (by decide)) mu (a := sn 1) (b := gt 1) (hd 0 (by decide)).1 (hd 0 (by decide)).2 (hq 1 (by decide)).1) hP (la_recv hK hP kc_Wy (he.2.2.2.2.2.2.2 0 (by decide)).1 rfl) [] rfl rfl hl.1 (Nat.le_of_ble_eq_true rfl) ⟨by decide, by decide⟩ ⟨Nat.le_refl _, Nat.le_refl _⟩ d_Er_quiet_25 ?_
    refine lv_if_le (tgt := 33) hx hb d_Er_quiet_28 rfl (fun br28 => ?_) (fun br28 => ?_)
    · skip
      have f1 := (Int32.not_lt.mpr br28)
      refine lv_iinc (k := 0) (v := 2) hx hb d_Er_quiet_33 hl rfl (by decide) (by decide) rfl (fun ls hl => ?_)
      have hl : lv_has ls 2 [(1, .int 2), (0, .ref b0)] := hl
      refine lv_goto (tgt := 2) hx hb d_Er_quiet_36 rfl ?_
      refine lv_iload_n hx hb d_Er_quiet_2 rfl (lv_at hl 0 rfl) ?_
      refine lv_iconst (v := 3) hx hb d_Er_quiet_3 (by decide) ?_
      refine lv_icmp_gt (tgt := 39) hx hb d_Er_quiet_4 rfl (fun br4 => absurd br4 (by decide)) (fun br4 => ?_)
      refine lv_aload_n hx hb d_Er_quiet_7 rfl (lv_at hl 1 rfl) ?_
      refine lv_iload_n hx hb d_Er_quiet_8 rfl (lv_at hl 0 rfl) ?_
      refine lv_iconst (v := 1) hx hb d_Er_quiet_9 (by decide) ?_
      refine cr_V Z kv_Er_74 (c_Er_way_u l D E La he mu (k := 1) (by decide) (u := 1) (by decide)) hP (la_recv hK hP kc_Er he.1 rfl) [] rfl rfl hl.1 (Nat.le_of_ble_eq_true rfl) ⟨by decide, by decide⟩ ⟨Nat.le_refl _, Nat.le_refl _⟩ d_Er_quiet_10 ?_
      refine cr_V Z kv_Er_102 (c_Wy_waitingCount l D E La (he.2.2.2.2.2.2.1 1 (by decide)) mu (a := sn 2) (b := gt 2) (hu 1 (by decide)).1 (hu 1 (by decide)).2 (hq 2 (by decide)).1) hP (la_recv hK hP kc_Wy (he.2.2.2.2.2.2.1 1 (by decide)).1 rfl) [] rfl rfl hl.1 (Nat.le_of_ble_eq_true rfl) ⟨by decide, by decide⟩ ⟨Nat.le_refl _, Nat.le_refl _⟩ d_Er_quiet_13 ?_
      refine lv_if_gt (tgt := 31) hx hb d_Er_quiet_16 rfl (fun br16 => ?_) (fun br16 => ?_)
      · skip
        have f2 := br16
        refine lv_iconst (v := 0) hx hb d_Er_quiet_31 (by decide) ?_
        have hnot : ¬ (sn 0 - gt 0) + (sn 1 - gt 1) + (sn 2 - gt 2) + (sn 3 - gt 3) + (sn 4 - gt 4) + (sn 5 - gt 5) = 0 := by
          intro h9
          have z : sn 2 - gt 2 = 0 := by omega
          rw [z] at f2
          exact absurd f2 (by decide)
        exact W.zret hx hb hr (by decide) (fun t ht hW => ⟨by rw [if_neg hnot], ht⟩) (fun q h => by cases h) d_Er_quiet_32
      · skip
        have f2 := br16
        refine lv_aload_n hx hb d_Er_quiet_19 rfl (lv_at hl 1 rfl) ?_
        refine lv_iload_n hx hb d_Er_quiet_20 rfl (lv_at hl 0 rfl) ?_
        refine lv_iconst (v := 0) hx hb d_Er_quiet_21 (by decide) ?_
        refine cr_V Z kv_Er_74 (c_Er_way_d l D E La he mu (k := 1) (by decide) (u := 0) rfl) hP (la_recv hK hP kc_Er he.1 rfl) [] rfl rfl hl.1 (Nat.le_of_ble_eq_true rfl) ⟨by decide, by decide⟩ ⟨Nat.le_refl _, Nat.le_refl _⟩ d_Er_quiet_22 ?_
        refine cr_V Z kv_Er_102 (c_Wy_waitingCount l D E La (he.2.2.2.2.2.2.2 1 (by decide)) mu (a := sn 3) (b := gt 3) (hd 1 (by decide)).1 (hd 1 (by decide)).2 (hq 3 (by decide)).1) hP (la_recv hK hP kc_Wy (he.2.2.2.2.2.2.2 1 (by decide)).1 rfl) [] rfl rfl hl.1 (Nat.le_of_ble_eq_true rfl) ⟨by decide, by decide⟩ ⟨Nat.le_refl _, Nat.le_refl _⟩ d_Er_quiet_25 ?_
        refine lv_if_le (tgt := 33) hx hb d_Er_quiet_28 rfl (fun br28 => ?_) (fun br28 => ?_)
        · skip
          have f3 := (Int32.not_lt.mpr br28)
          refine lv_iinc (k := 0) (v := 3) hx hb d_Er_quiet_33 hl rfl (by decide) (by decide) rfl (fun ls hl => ?_)
          have hl : lv_has ls 2 [(1, .int 3), (0, .ref b0)] := hl
          refine lv_goto (tgt := 2) hx hb d_Er_quiet_36 rfl ?_
          refine lv_iload_n hx hb d_Er_quiet_2 rfl (lv_at hl 0 rfl) ?_
          refine lv_iconst (v := 3) hx hb d_Er_quiet_3 (by decide) ?_
          refine lv_icmp_gt (tgt := 39) hx hb d_Er_quiet_4 rfl (fun br4 => absurd br4 (by decide)) (fun br4 => ?_)
          refine lv_aload_n hx hb d_Er_quiet_7 rfl (lv_at hl 1 rfl) ?_
          refine lv_iload_n hx hb d_Er_quiet_8 rfl (lv_at hl 0 rfl) ?_
          refine lv_iconst (v := 1) hx hb d_Er_quiet_9 (by decide) ?_
          refine cr_V Z kv_Er_74 (c_Er_way_u l D E La he mu (k := 2) (by decide) (u := 1) (by decide)) hP (la_recv hK hP kc_Er he.1 rfl) [] rfl rfl hl.1 (Nat.le_of_ble_eq_true rfl) ⟨by decide, by decide⟩ ⟨Nat.le_refl _, Nat.le_refl _⟩ d_Er_quiet_10 ?_
          refine cr_V Z kv_Er_102 (c_Wy_waitingCount l D E La (he.2.2.2.2.2.2.1 2 (by decide)) mu (a := sn 4) (b := gt 4) (hu 2 (by decide)).1 (hu 2 (by decide)).2 (hq 4 (by decide)).1) hP (la_recv hK hP kc_Wy (he.2.2.2.2.2.2.1 2 (by decide)).1 rfl) [] rfl rfl hl.1 (Nat.le_of_ble_eq_true rfl) ⟨by decide, by decide⟩ ⟨Nat.le_refl _, Nat.le_refl _⟩ d_Er_quiet_13 ?_
          refine lv_if_gt (tgt := 31) hx hb d_Er_quiet_16 rfl (fun br16 => ?_) (fun br16 => ?_)
          · skip
            have f4 := br16
            refine lv_iconst (v := 0) hx hb d_Er_quiet_31 (by decide) ?_
            have hnot : ¬ (sn 0 - gt 0) + (sn 1 - gt 1) + (sn 2 - gt 2) + (sn 3 - gt 3) + (sn 4 - gt 4) + (sn 5 - gt 5) = 0 := by
              intro h9
              have z : sn 4 - gt 4 = 0 := by omega
              rw [z] at f4
              exact absurd f4 (by decide)
            exact W.zret hx hb hr (by decide) (fun t ht hW => ⟨by rw [if_neg hnot], ht⟩) (fun q h => by cases h) d_Er_quiet_32
          · skip
            have f4 := br16
            refine lv_aload_n hx hb d_Er_quiet_19 rfl (lv_at hl 1 rfl) ?_
            refine lv_iload_n hx hb d_Er_quiet_20 rfl (lv_at hl 0 rfl) ?_
            refine lv_iconst (v := 0) hx hb d_Er_quiet_21 (by decide) ?_
            refine cr_V Z kv_Er_74 (c_Er_way_d l D E La he mu (k := 2) (by decide) (u := 0) rfl) hP (la_recv hK hP kc_Er he.1 rfl) [] rfl rfl hl.1 (Nat.le_of_ble_eq_true rfl) ⟨by decide, by decide⟩ ⟨Nat.le_refl _, Nat.le_refl _⟩ d_Er_quiet_22 ?_
            refine cr_V Z kv_Er_102 (c_Wy_waitingCount l D E La (he.2.2.2.2.2.2.2 2 (by decide)) mu (a := sn 5) (b := gt 5) (hd 2 (by decide)).1 (hd 2 (by decide)).2 (hq 5 (by decide)).1) hP (la_recv hK hP kc_Wy (he.2.2.2.2.2.2.2 2 (by decide)).1 rfl) [] rfl rfl hl.1 (Nat.le_of_ble_eq_true rfl) ⟨by decide, by decide⟩ ⟨Nat.le_refl _, Nat.le_refl _⟩ d_Er_quiet_25 ?_
            refine lv_if_le (tgt := 33) hx hb d_Er_quiet_28 rfl (fun br28 => ?_) (fun br28 => ?_)
            · skip
              have f5 := (Int32.not_lt.mpr br28)
              refine lv_iinc (k := 0) (v := 4) hx hb d_Er_quiet_33 hl rfl (by decide) (by decide) rfl (fun ls hl => ?_)
              have hl : lv_has ls 2 [(1, .int 4), (0, .ref b0)] := hl
              refine lv_goto (tgt := 2) hx hb d_Er_quiet_36 rfl ?_
              refine lv_iload_n hx hb d_Er_quiet_2 rfl (lv_at hl 0 rfl) ?_
              refine lv_iconst (v := 3) hx hb d_Er_quiet_3 (by decide) ?_
              refine lv_icmp_gt (tgt := 39) hx hb d_Er_quiet_4 rfl (fun br4 => ?_) (fun br4 => absurd (by decide) br4)
              refine lv_iconst (v := 1) hx hb d_Er_quiet_39 (by decide) ?_
              have z0 : sn 0 - gt 0 = 0 := Nat.eq_zero_of_not_pos (fun h9 => f0 (nI_lt (a := 0) h9 (Nat.lt_of_le_of_lt (Nat.sub_le _ _) (hq 0 (by decide)).2)))
              have z1 : sn 1 - gt 1 = 0 := Nat.eq_zero_of_not_pos (fun h9 => f1 (nI_lt (a := 0) h9 (Nat.lt_of_le_of_lt (Nat.sub_le _ _) (hq 1 (by decide)).2)))
              have z2 : sn 2 - gt 2 = 0 := Nat.eq_zero_of_not_pos (fun h9 => f2 (nI_lt (a := 0) h9 (Nat.lt_of_le_of_lt (Nat.sub_le _ _) (hq 2 (by decide)).2)))
              have z3 : sn 3 - gt 3 = 0 := Nat.eq_zero_of_not_pos (fun h9 => f3 (nI_lt (a := 0) h9 (Nat.lt_of_le_of_lt (Nat.sub_le _ _) (hq 3 (by decide)).2)))
              have z4 : sn 4 - gt 4 = 0 := Nat.eq_zero_of_not_pos (fun h9 => f4 (nI_lt (a := 0) h9 (Nat.lt_of_le_of_lt (Nat.sub_le _ _) (hq 4 (by decide)).2)))
              have z5 : sn 5 - gt 5 = 0 := Nat.eq_zero_of_not_pos (fun h9 => f5 (nI_lt (a := 0) h9 (Nat.lt_of_le_of_lt (Nat.sub_le _ _) (hq 5 (by decide)).2)))
              exact W.zret hx hb hr (by decide) (fun t ht hW => ⟨by rw [if_pos (by omega)], ht⟩) (fun q h => by cases h) d_Er_quiet_40
            · skip
              have f5 := (Int32.not_le.mp br28)
              refine lv_iconst (v := 0) hx hb d_Er_quiet_31 (by decide) ?_
              have hnot : ¬ (sn 0 - gt 0) + (sn 1 - gt 1) + (sn 2 - gt 2) + (sn 3 - gt 3) + (sn 4 - gt 4) + (sn 5 - gt 5) = 0 := by
                intro h9
                have z : sn 5 - gt 5 = 0 := by omega
                rw [z] at f5
                exact absurd f5 (by decide)
              exact W.zret hx hb hr (by decide) (fun t ht hW => ⟨by rw [if_neg hnot], ht⟩) (fun q h => by cases h) d_Er_quiet_32
        · skip
          have f3 := (Int32.not_le.mp br28)
          refine lv_iconst (v := 0) hx hb d_Er_quiet_31 (by decide) ?_
          have hnot : ¬ (sn 0 - gt 0) + (sn 1 - gt 1) + (sn 2 - gt 2) + (sn 3 - gt 3) + (sn 4 - gt 4) + (sn 5 - gt 5) = 0 := by
            intro h9
            have z : sn 3 - gt 3 = 0 := by omega
            rw [z] at f3
            exact absurd f3 (by decide)
          exact W.zret hx hb hr (by decide) (fun t ht hW => ⟨by rw [if_neg hnot], ht⟩) (fun q h => by cases h) d_Er_quiet_32
    · skip
      have f1 := (Int32.not_le.mp br28)
      refine lv_iconst (v := 0) hx hb d_Er_quiet_31 (by decide) ?_
      have hnot : ¬ (sn 0 - gt 0) + (sn 1 - gt 1) + (sn 2 - gt 2) + (sn 3 - gt 3) + (sn 4 - gt 4) + (sn 5 - gt 5) = 0 := by
        intro h9
        have z : sn 1 - gt 1 = 0 := by omega
        rw [z] at f1
        exact absurd f1 (by decide)
      exact W.zret hx hb hr (by decide) (fun t ht hW => ⟨by rw [if_neg hnot], ht⟩) (fun q h => by cases h) d_Er_quiet_32
end
section
/-! The reference at m0, its arrays at m0 + 1 .. m0 + 15 in the order of its fields (written by wip/whole/p15.py) -/
def isMo (E : Nat → ClassId) (La : la_L) (m0 : Nat) : Prop := La m0 = some (sh_Mo m0) ∧ La (m0 + 1) = some (sh_I E 4) ∧ La (m0 + 2) = some (sh_C E 800) ∧ La (m0 + 3) = some (sh_I E 6) ∧ La (m0 + 4) = some (sh_I E 6) ∧ La (m0 + 5) = some (sh_I E 6) ∧ La (m0 + 6) = some (sh_I E 240) ∧ La (m0 + 7) = some (sh_I E 240) ∧ La (m0 + 8) = some (sh_I E 240) ∧ La (m0 + 9) = some (sh_I E 240) ∧ La (m0 + 10) = some (sh_I E 240) ∧ La (m0 + 11) = some (sh_I E 6) ∧ La (m0 + 12) = some (sh_I E 240) ∧ La (m0 + 13) = some (sh_I E 240) ∧ La (m0 + 14) = some (sh_I E 240) ∧ La (m0 + 15) = some (sh_I E 240)
def md_fit (k p0 o k2 q o2 : Int32) : Int32 := if k = 0 ∧ k2 = 0 then (if q < p0 ∨ (q = p0 ∧ o2 < o) then p0 + 1 else p0) else if k = 0 ∧ k2 = 1 then (if q < p0 then p0 - 1 else p0) else if k = 1 ∧ k2 = 0 then (if p0 < q then p0 else p0 + 1) else if k = 1 ∧ k2 = 1 then (if q = p0 then -1 else if q < p0 then p0 - 1 else p0) else p0
def bk (L : Nat) : Nat := if L % 2 = 0 then L + 1 else L - 1
theorem bk_lt {L : Nat} (h : L < 6) : bk L < 6 := by
  unfold bk
  split <;> omega
theorem la_up_set {mu : la_M} {a k : Nat} {g : Nat → Int32} {v : Int32} : la_up (la_set mu a g) a k v = la_set mu a (upd g k v) := by
  funext q
  unfold la_up
  rw [la_set_s]
  by_cases h : q = a
  · subst h
    rw [la_set_s, la_set_s]
  · rw [la_set_n h, la_set_n h, la_set_n h]
theorem la_set_id (mu : la_M) (a : Nat) : la_set mu a (mu a) = mu := by
  funext q
  by_cases h : q = a
  · subst h
    rw [la_set_s]
  · rw [la_set_n h]
theorem cpy_0 (f : Nat → Int32) (a b : Nat) : va_cpy f f a b 0 = f := by
  funext j
  exact pk_cpy_out (by omega)
/-- one step of a shift to the right -/
theorem cpy_r (f : Nat → Int32) {K n : Nat} (h : 0 < K) : upd (va_cpy f f K (K + 1) n) K (f (K - 1)) = va_cpy f f (K - 1) K (n + 1) := by
  funext j
  by_cases hj : j = K
  · subst hj
    rw [pk_us, pk_cpy_in (by omega) (by omega)]
    congr 1
    omega
  · rw [pk_un hj]
    by_cases h1 : K + 1 ≤ j ∧ j < K + 1 + n
    · rw [pk_cpy_in h1.1 h1.2, pk_cpy_in (by omega) (by omega)]
      congr 1
      omega
    · rw [pk_cpy_out (by omega), pk_cpy_out (by omega)]
/-- one step of a shift to the left -/
theorem cpy_l (f : Nat → Int32) (K n : Nat) : upd (va_cpy f f (K + 1) K n) (K + n) (f (K + n + 1)) = va_cpy f f (K + 1) K (n + 1) := by
  funext j
  by_cases hj : j = K + n
  · subst hj
    rw [pk_us, pk_cpy_in (by omega) (by omega)]
    congr 1
    omega
  · rw [pk_un hj]
    by_cases h1 : K ≤ j ∧ j < K + n
    · rw [pk_cpy_in h1.1 h1.2, pk_cpy_in (by omega) (by omega)]
    · rw [pk_cpy_out (by omega), pk_cpy_out (by omega)]
theorem i2c_n {c : Nat} (h : c < 65536) : ((nI c).toUInt32 % 65536).toInt32 = nI c := by
  rw [pk_char, pk_tn (by omega), Nat.mod_eq_of_lt h]
theorem chz_n {c : Nat} (h : c < 65536) : chz (nI c) := pk_charN h
def md_app (mu : la_M) (m0 j kd q n cx : Nat) : la_M :=
  if kd = 0 then la_up (la_up (la_set mu (m0 + 2) (va_cpy (mu (m0 + 2)) (mu (m0 + 2)) (200 * j + q) (200 * j + q + 1) (n - q))) (m0 + 2) (200 * j + q) (nI cx)) (m0 + 1) j (nI (n + 1))
  else if kd = 1 then la_set (la_up mu (m0 + 1) j (nI (n - 1))) (m0 + 2) (va_cpy (mu (m0 + 2)) (mu (m0 + 2)) (200 * j + q + 1) (200 * j + q) (n - 1 - q)) else mu
def md_send (mu : la_M) (m0 L w o t : Nat) : la_M :=
  la_up (la_up (la_up (la_up (la_up (la_up (la_up (la_up (la_up (la_up (la_up (la_up mu (m0 + 6) (40 * L + w) (mu m0 16)) (m0 + 7) (40 * L + w) (mu m0 17)) (m0 + 8) (40 * L + w) (mu m0 18)) (m0 + 9) (40 * L + w) (mu m0 19)) (m0 + 10) (40 * L + w) (mu (m0 + 4) (bk L))) (m0 + 5) L (nI (w + 1))) (m0 + 12) (40 * L + o) (mu m0 16)) (m0 + 13) (40 * L + o) (mu m0 17)) (m0 + 14) (40 * L + o) (mu m0 18)) (m0 + 15) (40 * L + o) (mu m0 19)) (m0 + 11) L (nI (o + 1))) (m0 + 3) L (nI (t + 1))
def md_beg (mu : la_M) (m0 kd q : Nat) (x : Int32) (o : Nat) : la_M := la_up (la_up (la_up (la_up mu m0 16 (nI kd)) m0 17 (nI q)) m0 18 x) m0 19 (nI o)
set_option maxHeartbeats 4000000 in
set_option maxRecDepth 100000 in
theorem c_Mo_thrown (l : Launch) (D : va_G) (E : Nat → ClassId) (La : la_L) {m0 : Nat} (hm : isMo E La m0) (mu : la_M)  : cr l y_Mo_thrown b_Mo_thrown 1 (some .int) 0 0 D E La [.ref m0] mu (some (.int (mu m0 0))) := by
  refine cr_begin R_Mo (by decide) rfl (Nat.le_of_ble_eq_true rfl) ?_
  intro p e s m below meth c ls Z hr hlocks hP hl
  have hx := Z.1
  have hb := Z.2.1
  have hK : va_K D cls5 (tyE E) s := Z.2.2.2.2.2
  have hl : lv_has ls 1 [(0, .ref m0)] := hl
  refine lv_aload_n hx hb d_Mo_thrown_0 rfl (lv_at hl 0 rfl) ?_
  refine g_f Z kc_Mo hP hm.1 rfl 0 (by decide) wl_Mo_56 rfl rfl d_Mo_thrown_1 ?_
  exact W.iret hx hb hr (fun t ht hW => ⟨rfl, ht⟩) (fun q h => by cases h) d_Mo_thrown_4
set_option maxHeartbeats 4000000 in
set_option maxRecDepth 100000 in
theorem c_Mo_isClient_y (l : Launch) (D : va_G) (E : Nat → ClassId) (La : la_L) (mu : la_M) {k : Nat} (hk : k < 3) : cr l y_Mo_isClient b_Mo_isClient 1 (some .boolean) 0 0 D E La [.int (nI (k + 1))] mu (some (.int 1)) := by
  refine cr_begin R_Mo (by decide) rfl (Nat.le_of_ble_eq_true rfl) ?_
  intro p e s m below meth c ls Z hr hlocks hP hl
  have hx := Z.1
  have hb := Z.2.1
  have hK : va_K D cls5 (tyE E) s := Z.2.2.2.2.2
  have hl : lv_has ls 1 [(0, .int (nI (k + 1)))] := hl
  refine lv_iload_n hx hb d_Mo_isClient_0 rfl (lv_at hl 0 rfl) ?_
  refine lv_iconst (v := 1) hx hb d_Mo_isClient_1 (by decide) ?_
  refine lv_icmp_lt (tgt := 14) hx hb d_Mo_isClient_2 rfl (fun br2 => absurd br2 (nI_nlt (b := 1) (by omega) (by omega))) (fun br2 => ?_)
  refine lv_iload_n hx hb d_Mo_isClient_5 rfl (lv_at hl 0 rfl) ?_
  refine lv_iconst (v := 3) hx hb d_Mo_isClient_6 (by decide) ?_
  refine lv_icmp_gt (tgt := 14) hx hb d_Mo_isClient_7 rfl (fun br7 => absurd br7 (nI_nlt (a := 3) (by omega) (by decide))) (fun br7 => ?_)
  refine lv_iconst (v := 1) hx hb d_Mo_isClient_10 (by decide) ?_
  refine lv_goto (tgt := 15) hx hb d_Mo_isClient_11 rfl ?_
  exact W.zret hx hb hr (by decide) (fun t ht hW => ⟨rfl, ht⟩) (fun q h => by cases h) d_Mo_isClient_15
set_option maxHeartbeats 4000000 in
set_option maxRecDepth 100000 in
theorem c_Mo_isClient_n (l : Launch) (D : va_G) (E : Nat → ClassId) (La : la_L) (mu : la_M) {cl : Int32} (hc : cl < 1 ∨ 3 < cl) : cr l y_Mo_isClient b_Mo_isClient 1 (some .boolean) 0 0 D E La [.int cl] mu (some (.int 0)) := by
  refine cr_begin R_Mo (by decide) rfl (Nat.le_of_ble_eq_true rfl) ?_
  intro p e s m below meth c ls Z hr hlocks hP hl
  have hx := Z.1
  have hb := Z.2.1
  have hK : va_K D cls5 (tyE E) s := Z.2.2.2.2.2
  have hl : lv_has ls 1 [(0, .int cl)] := hl
  refine lv_iload_n hx hb d_Mo_isClient_0 rfl (lv_at hl 0 rfl) ?_
  refine lv_iconst (v := 1) hx hb d_Mo_isClient_1 (by decide) ?_
  refine lv_icmp_lt (tgt := 14) hx hb d_Mo_isClient_2 rfl (fun br2 => ?_) (fun br2 => ?_)
  · skip
    refine lv_iconst (v := 0) hx hb d_Mo_isClient_14 (by decide) ?_
    exact W.zret hx hb hr (by decide) (fun t ht hW => ⟨rfl, ht⟩) (fun q h => by cases h) d_Mo_isClient_15
  · skip
    refine lv_iload_n hx hb d_Mo_isClient_5 rfl (lv_at hl 0 rfl) ?_
    refine lv_iconst (v := 3) hx hb d_Mo_isClient_6 (by decide) ?_
    refine lv_icmp_gt (tgt := 14) hx hb d_Mo_isClient_7 rfl (fun br7 => ?_) (fun br7 => absurd (hc.resolve_left br2) br7)
    refine lv_iconst (v := 0) hx hb d_Mo_isClient_14 (by decide) ?_
    exact W.zret hx hb hr (by decide) (fun t ht hW => ⟨rfl, ht⟩) (fun q h => by cases h) d_Mo_isClient_15
set_option maxHeartbeats 4000000 in
set_option maxRecDepth 100000 in
theorem c_Mo_isSite_y (l : Launch) (D : va_G) (E : Nat → ClassId) (La : la_L) (mu : la_M) {k : Nat} (hk : k < 4) : cr l y_Mo_isSite b_Mo_isSite 1 (some .boolean) 0 0 D E La [.int (nI k)] mu (some (.int 1)) := by
  refine cr_begin R_Mo (by decide) rfl (Nat.le_of_ble_eq_true rfl) ?_
  intro p e s m below meth c ls Z hr hlocks hP hl
  have hx := Z.1
  have hb := Z.2.1
  have hK : va_K D cls5 (tyE E) s := Z.2.2.2.2.2
  have hl : lv_has ls 1 [(0, .int (nI k))] := hl
  refine lv_iload_n hx hb d_Mo_isSite_0 rfl (lv_at hl 0 rfl) ?_
  refine lv_if_lt (tgt := 13) hx hb d_Mo_isSite_1 rfl (fun br1 => absurd br1 (nI_pos (by omega))) (fun br1 => ?_)
  refine lv_iload_n hx hb d_Mo_isSite_4 rfl (lv_at hl 0 rfl) ?_
  refine lv_iconst (v := 3) hx hb d_Mo_isSite_5 (by decide) ?_
  refine lv_icmp_gt (tgt := 13) hx hb d_Mo_isSite_6 rfl (fun br6 => absurd br6 (nI_nlt (a := 3) (by omega) (by decide))) (fun br6 => ?_)
  refine lv_iconst (v := 1) hx hb d_Mo_isSite_9 (by decide) ?_
  refine lv_goto (tgt := 14) hx hb d_Mo_isSite_10 rfl ?_
  exact W.zret hx hb hr (by decide) (fun t ht hW => ⟨rfl, ht⟩) (fun q h => by cases h) d_Mo_isSite_14
set_option maxHeartbeats 4000000 in
set_option maxRecDepth 100000 in
theorem c_Mo_isSite_n (l : Launch) (D : va_G) (E : Nat → ClassId) (La : la_L) (mu : la_M) {cl : Int32} (hc : cl < 0 ∨ 3 < cl) : cr l y_Mo_isSite b_Mo_isSite 1 (some .boolean) 0 0 D E La [.int cl] mu (some (.int 0)) := by
  refine cr_begin R_Mo (by decide) rfl (Nat.le_of_ble_eq_true rfl) ?_
  intro p e s m below meth c ls Z hr hlocks hP hl
  have hx := Z.1
  have hb := Z.2.1
  have hK : va_K D cls5 (tyE E) s := Z.2.2.2.2.2
  have hl : lv_has ls 1 [(0, .int cl)] := hl
  refine lv_iload_n hx hb d_Mo_isSite_0 rfl (lv_at hl 0 rfl) ?_
  refine lv_if_lt (tgt := 13) hx hb d_Mo_isSite_1 rfl (fun br1 => ?_) (fun br1 => ?_)
  · skip
    refine lv_iconst (v := 0) hx hb d_Mo_isSite_13 (by decide) ?_
    exact W.zret hx hb hr (by decide) (fun t ht hW => ⟨rfl, ht⟩) (fun q h => by cases h) d_Mo_isSite_14
  · skip
    refine lv_iload_n hx hb d_Mo_isSite_4 rfl (lv_at hl 0 rfl) ?_
    refine lv_iconst (v := 3) hx hb d_Mo_isSite_5 (by decide) ?_
    refine lv_icmp_gt (tgt := 13) hx hb d_Mo_isSite_6 rfl (fun br6 => ?_) (fun br6 => absurd (hc.resolve_left br1) br6)
    refine lv_iconst (v := 0) hx hb d_Mo_isSite_13 (by decide) ?_
    exact W.zret hx hb hr (by decide) (fun t ht hW => ⟨rfl, ht⟩) (fun q h => by cases h) d_Mo_isSite_14
set_option maxHeartbeats 4000000 in
set_option maxRecDepth 100000 in
theorem c_Mo_line_u (l : Launch) (D : va_G) (E : Nat → ClassId) (La : la_L) (mu : la_M) {k : Nat} {u : Int32} (hu : ¬ u = 0) : cr l y_Mo_line b_Mo_line 2 (some .int) 0 0 D E La [.int (nI (k + 1)), .int u] mu (some (.int (nI (2 * k)))) := by
  refine cr_begin R_Mo (by decide) rfl (Nat.le_of_ble_eq_true rfl) ?_
  intro p e s m below meth c ls Z hr hlocks hP hl
  have hx := Z.1
  have hb := Z.2.1
  have hK : va_K D cls5 (tyE E) s := Z.2.2.2.2.2
  have hl : lv_has ls 2 [(0, .int (nI (k + 1))), (1, .int u)] := hl
  refine lv_iconst (v := 2) hx hb d_Mo_line_0 (by decide) ?_
  refine lv_iload_n hx hb d_Mo_line_1 rfl (lv_at hl 0 rfl) ?_
  refine lv_imul hx hb d_Mo_line_2 ?_
  rw [show (2 : Int32) * nI (k + 1) = nI (2 * (k + 1)) from pk_mul 2 (k + 1)]
  refine lv_iload_n hx hb d_Mo_line_3 rfl (lv_at hl 1 rfl) ?_
  refine lv_if_eq (tgt := 11) hx hb d_Mo_line_4 rfl (fun br4 => absurd br4 (hu)) (fun br4 => ?_)
  refine lv_iconst (v := 2) hx hb d_Mo_line_7 (by decide) ?_
  refine lv_goto (tgt := 12) hx hb d_Mo_line_8 rfl ?_
  refine lv_isub hx hb d_Mo_line_12 ?_
  exact W.iret hx hb hr (fun t ht hW => ⟨by rw [show nI (2 * (k + 1)) - 2 = nI (2 * (k + 1) - 2) from pk_sub (b := 2) (by omega), show 2 * (k + 1) - 2 = (2 * k) by omega], ht⟩) (fun q h => by cases h) d_Mo_line_13
set_option maxHeartbeats 4000000 in
set_option maxRecDepth 100000 in
theorem c_Mo_line_d (l : Launch) (D : va_G) (E : Nat → ClassId) (La : la_L) (mu : la_M) {k : Nat} {u : Int32} (hu : u = 0) : cr l y_Mo_line b_Mo_line 2 (some .int) 0 0 D E La [.int (nI (k + 1)), .int u] mu (some (.int (nI (2 * k + 1)))) := by
  refine cr_begin R_Mo (by decide) rfl (Nat.le_of_ble_eq_true rfl) ?_
  intro p e s m below meth c ls Z hr hlocks hP hl
  have hx := Z.1
  have hb := Z.2.1
  have hK : va_K D cls5 (tyE E) s := Z.2.2.2.2.2
  have hl : lv_has ls 2 [(0, .int (nI (k + 1))), (1, .int u)] := hl
  refine lv_iconst (v := 2) hx hb d_Mo_line_0 (by decide) ?_
  refine lv_iload_n hx hb d_Mo_line_1 rfl (lv_at hl 0 rfl) ?_
  refine lv_imul hx hb d_Mo_line_2 ?_
  rw [show (2 : Int32) * nI (k + 1) = nI (2 * (k + 1)) from pk_mul 2 (k + 1)]
  refine lv_iload_n hx hb d_Mo_line_3 rfl (lv_at hl 1 rfl) ?_
  refine lv_if_eq (tgt := 11) hx hb d_Mo_line_4 rfl (fun br4 => ?_) (fun br4 => absurd (hu) br4)
  refine lv_iconst (v := 1) hx hb d_Mo_line_11 (by decide) ?_
  refine lv_isub hx hb d_Mo_line_12 ?_
  exact W.iret hx hb hr (fun t ht hW => ⟨by rw [show nI (2 * (k + 1)) - 1 = nI (2 * (k + 1) - 1) from pk_sub (b := 1) (by omega), show 2 * (k + 1) - 1 = (2 * k + 1) by omega], ht⟩) (fun q h => by cases h) d_Mo_line_13
set_option maxHeartbeats 4000000 in
set_option maxRecDepth 100000 in
theorem c_Mo_back (l : Launch) (D : va_G) (E : Nat → ClassId) (La : la_L) (mu : la_M) {L : Nat} (hL : L < 6) : cr l y_Mo_back b_Mo_back 1 (some .int) 0 0 D E La [.int (nI L)] mu (some (.int (nI (bk L)))) := by
  refine cr_begin R_Mo (by decide) rfl (Nat.le_of_ble_eq_true rfl) ?_
  intro p e s m below meth c ls Z hr hlocks hP hl
  have hx := Z.1
  have hb := Z.2.1
  have hK : va_K D cls5 (tyE E) s := Z.2.2.2.2.2
  have hl : lv_has ls 1 [(0, .int (nI L))] := hl
  refine lv_iload_n hx hb d_Mo_back_0 rfl (lv_at hl 0 rfl) ?_
  refine lv_iconst (v := 2) hx hb d_Mo_back_1 (by decide) ?_
  refine lv_irem hx hb d_Mo_back_2 (by decide) ?_
  rw [show nI L - nI L / 2 * 2 = nI (L % 2) from pk_rem (d := 2) (by omega) (by decide) (by decide)]
  refine lv_if_ne (tgt := 12) hx hb d_Mo_back_3 rfl (fun br3 => ?_) (fun br3 => ?_)
  · skip
    refine lv_iload_n hx hb d_Mo_back_12 rfl (lv_at hl 0 rfl) ?_
    refine lv_iconst (v := 1) hx hb d_Mo_back_13 (by decide) ?_
    refine lv_isub hx hb d_Mo_back_14 ?_
    have e2 : ¬ L % 2 = 0 := fun h9 => br3 (by rw [h9]; rfl)
    exact W.iret hx hb hr (fun t ht hW => ⟨by rw [nI_s1 (by omega)]; unfold bk; rw [if_neg e2], ht⟩) (fun q h => by cases h) d_Mo_back_15
  · skip
    refine lv_iload_n hx hb d_Mo_back_6 rfl (lv_at hl 0 rfl) ?_
    refine lv_iconst (v := 1) hx hb d_Mo_back_7 (by decide) ?_
    refine lv_iadd hx hb d_Mo_back_8 ?_
    refine lv_goto (tgt := 15) hx hb d_Mo_back_9 rfl ?_
    have e2 : L % 2 = 0 := (nI_eq (b := 0) (by omega) (by decide)).mp br3
    exact W.iret hx hb hr (fun t ht hW => ⟨by rw [nI_1]; unfold bk; rw [if_pos e2], ht⟩) (fun q h => by cases h) d_Mo_back_15
set_option maxHeartbeats 4000000 in
set_option maxRecDepth 100000 in
theorem c_Mo_fitted (l : Launch) (D : va_G) (E : Nat → ClassId) (La : la_L) (mu : la_M) (k p0 o k2 q o2 : Int32) : cr l y_Mo_fitted b_Mo_fitted 6 (some .int) 0 0 D E La [.int k, .int p0, .int o, .int k2, .int q, .int o2] mu (some (.int (md_fit k p0 o k2 q o2))) := by
  refine cr_begin R_Mo (by decide) rfl (Nat.le_of_ble_eq_true rfl) ?_
  intro p e s m below meth c ls Z hr hlocks hP hl
  have hx := Z.1
  have hb := Z.2.1
  have hK : va_K D cls5 (tyE E) s := Z.2.2.2.2.2
  have hl : lv_has ls 6 [(0, .int k), (1, .int p0), (2, .int o), (3, .int k2), (4, .int q), (5, .int o2)] := hl
  refine lv_iload_n hx hb d_Mo_fitted_0 rfl (lv_at hl 0 rfl) ?_
  refine lv_if_ne (tgt := 34) hx hb d_Mo_fitted_1 rfl (fun br1 => ?_) (fun br1 => ?_)
  · skip
    refine lv_iload_n hx hb d_Mo_fitted_34 rfl (lv_at hl 0 rfl) ?_
    refine lv_if_ne (tgt := 57) hx hb d_Mo_fitted_35 rfl (fun br35 => ?_) (fun br35 => absurd br35 (br1))
    refine lv_iload_n hx hb d_Mo_fitted_57 rfl (lv_at hl 0 rfl) ?_
    refine lv_iconst (v := 1) hx hb d_Mo_fitted_58 (by decide) ?_
    refine lv_icmp_ne (tgt := 80) hx hb d_Mo_fitted_59 rfl (fun br59 => ?_) (fun br59 => ?_)
    · skip
      refine lv_iload_n hx hb d_Mo_fitted_80 rfl (lv_at hl 0 rfl) ?_
      refine lv_iconst (v := 1) hx hb d_Mo_fitted_81 (by decide) ?_
      refine lv_icmp_ne (tgt := 114) hx hb d_Mo_fitted_82 rfl (fun br82 => ?_) (fun br82 => absurd br82 (br59))
      refine lv_iload_n hx hb d_Mo_fitted_114 rfl (lv_at hl 1 rfl) ?_
      exact W.iret hx hb hr (fun t ht hW => ⟨by simp [md_fit, br1, br35, br59, br82], ht⟩) (fun q h => by cases h) d_Mo_fitted_115
    · skip
      refine lv_iload_n hx hb d_Mo_fitted_62 rfl (lv_at hl 3 rfl) ?_
      refine lv_if_ne (tgt := 80) hx hb d_Mo_fitted_63 rfl (fun br63 => ?_) (fun br63 => ?_)
      · skip
        refine lv_iload_n hx hb d_Mo_fitted_80 rfl (lv_at hl 0 rfl) ?_
        refine lv_iconst (v := 1) hx hb d_Mo_fitted_81 (by decide) ?_
        refine lv_icmp_ne (tgt := 114) hx hb d_Mo_fitted_82 rfl (fun br82 => absurd (br59) br82) (fun br82 => ?_)
        refine lv_iload_n hx hb d_Mo_fitted_85 rfl (lv_at hl 3 rfl) ?_
        refine lv_iconst (v := 1) hx hb d_Mo_fitted_86 (by decide) ?_
        refine lv_icmp_ne (tgt := 114) hx hb d_Mo_fitted_87 rfl (fun br87 => ?_) (fun br87 => ?_)
        · skip
          refine lv_iload_n hx hb d_Mo_fitted_114 rfl (lv_at hl 1 rfl) ?_
          exact W.iret hx hb hr (fun t ht hW => ⟨by simp [md_fit, br1, br35, br59, br63, br82, br87], ht⟩) (fun q h => by cases h) d_Mo_fitted_115
        · skip
          refine lv_iload hx hb d_Mo_fitted_90 (lv_at hl 4 rfl) ?_
          refine lv_iload_n hx hb d_Mo_fitted_92 rfl (lv_at hl 1 rfl) ?_
          refine lv_icmp_ne (tgt := 100) hx hb d_Mo_fitted_93 rfl (fun br93 => ?_) (fun br93 => ?_)
          · skip
            refine lv_iload hx hb d_Mo_fitted_100 (lv_at hl 4 rfl) ?_
            refine lv_iload_n hx hb d_Mo_fitted_102 rfl (lv_at hl 1 rfl) ?_
            refine lv_icmp_ge (tgt := 112) hx hb d_Mo_fitted_103 rfl (fun br103 => ?_) (fun br103 => ?_)
            · skip
              refine lv_iload_n hx hb d_Mo_fitted_112 rfl (lv_at hl 1 rfl) ?_
              exact W.iret hx hb hr (fun t ht hW => ⟨by simp [md_fit, br1, br35, br59, br63, br82, br87, br93, (Int32.not_lt.mpr br103)], ht⟩) (fun q h => by cases h) d_Mo_fitted_113
            · skip
              refine lv_iload_n hx hb d_Mo_fitted_106 rfl (lv_at hl 1 rfl) ?_
              refine lv_iconst (v := 1) hx hb d_Mo_fitted_107 (by decide) ?_
              refine lv_isub hx hb d_Mo_fitted_108 ?_
              refine lv_goto (tgt := 113) hx hb d_Mo_fitted_109 rfl ?_
              exact W.iret hx hb hr (fun t ht hW => ⟨by simp [md_fit, br1, br35, br59, br63, br82, br87, br93, (Int32.not_le.mp br103)], ht⟩) (fun q h => by cases h) d_Mo_fitted_113
          · skip
            refine lv_iconst (v := (-1)) hx hb d_Mo_fitted_96 (by decide) ?_
            refine lv_goto (tgt := 113) hx hb d_Mo_fitted_97 rfl ?_
            exact W.iret hx hb hr (fun t ht hW => ⟨by simp [md_fit, br1, br35, br59, br63, br82, br87, br93], ht⟩) (fun q h => by cases h) d_Mo_fitted_113
      · skip
        refine lv_iload hx hb d_Mo_fitted_66 (lv_at hl 4 rfl) ?_
        refine lv_iload_n hx hb d_Mo_fitted_68 rfl (lv_at hl 1 rfl) ?_
        refine lv_icmp_gt (tgt := 78) hx hb d_Mo_fitted_69 rfl (fun br69 => ?_) (fun br69 => ?_)
        · skip
          refine lv_iload_n hx hb d_Mo_fitted_78 rfl (lv_at hl 1 rfl) ?_
          exact W.iret hx hb hr (fun t ht hW => ⟨by simp [md_fit, br1, br35, br59, br63, br69], ht⟩) (fun q h => by cases h) d_Mo_fitted_79
        · skip
          refine lv_iload_n hx hb d_Mo_fitted_72 rfl (lv_at hl 1 rfl) ?_
          refine lv_iconst (v := 1) hx hb d_Mo_fitted_73 (by decide) ?_
          refine lv_iadd hx hb d_Mo_fitted_74 ?_
          refine lv_goto (tgt := 79) hx hb d_Mo_fitted_75 rfl ?_
          exact W.iret hx hb hr (fun t ht hW => ⟨by simp [md_fit, br1, br35, br59, br63, br69], ht⟩) (fun q h => by cases h) d_Mo_fitted_79
  · skip
    refine lv_iload_n hx hb d_Mo_fitted_4 rfl (lv_at hl 3 rfl) ?_
    refine lv_if_ne (tgt := 34) hx hb d_Mo_fitted_5 rfl (fun br5 => ?_) (fun br5 => ?_)
    · skip
      refine lv_iload_n hx hb d_Mo_fitted_34 rfl (lv_at hl 0 rfl) ?_
      refine lv_if_ne (tgt := 57) hx hb d_Mo_fitted_35 rfl (fun br35 => absurd (br1) br35) (fun br35 => ?_)
      refine lv_iload_n hx hb d_Mo_fitted_38 rfl (lv_at hl 3 rfl) ?_
      refine lv_iconst (v := 1) hx hb d_Mo_fitted_39 (by decide) ?_
      refine lv_icmp_ne (tgt := 57) hx hb d_Mo_fitted_40 rfl (fun br40 => ?_) (fun br40 => ?_)
      · skip
        refine lv_iload_n hx hb d_Mo_fitted_57 rfl (lv_at hl 0 rfl) ?_
        refine lv_iconst (v := 1) hx hb d_Mo_fitted_58 (by decide) ?_
        refine lv_icmp_ne (tgt := 80) hx hb d_Mo_fitted_59 rfl (fun br59 => ?_) (fun br59 => absurd br59 (fun h9 => absurd (h9.symm.trans br1) (by decide)))
        refine lv_iload_n hx hb d_Mo_fitted_80 rfl (lv_at hl 0 rfl) ?_
        refine lv_iconst (v := 1) hx hb d_Mo_fitted_81 (by decide) ?_
        refine lv_icmp_ne (tgt := 114) hx hb d_Mo_fitted_82 rfl (fun br82 => ?_) (fun br82 => absurd br82 (fun h9 => absurd (h9.symm.trans br1) (by decide)))
        refine lv_iload_n hx hb d_Mo_fitted_114 rfl (lv_at hl 1 rfl) ?_
        exact W.iret hx hb hr (fun t ht hW => ⟨by simp [md_fit, br1, br5, br35, br40, br59, br82], ht⟩) (fun q h => by cases h) d_Mo_fitted_115
      · skip
        refine lv_iload hx hb d_Mo_fitted_43 (lv_at hl 4 rfl) ?_
        refine lv_iload_n hx hb d_Mo_fitted_45 rfl (lv_at hl 1 rfl) ?_
        refine lv_icmp_ge (tgt := 55) hx hb d_Mo_fitted_46 rfl (fun br46 => ?_) (fun br46 => ?_)
        · skip
          refine lv_iload_n hx hb d_Mo_fitted_55 rfl (lv_at hl 1 rfl) ?_
          exact W.iret hx hb hr (fun t ht hW => ⟨by simp [md_fit, br1, br5, br35, br40, (Int32.not_lt.mpr br46)], ht⟩) (fun q h => by cases h) d_Mo_fitted_56
        · skip
          refine lv_iload_n hx hb d_Mo_fitted_49 rfl (lv_at hl 1 rfl) ?_
          refine lv_iconst (v := 1) hx hb d_Mo_fitted_50 (by decide) ?_
          refine lv_isub hx hb d_Mo_fitted_51 ?_
          refine lv_goto (tgt := 56) hx hb d_Mo_fitted_52 rfl ?_
          exact W.iret hx hb hr (fun t ht hW => ⟨by simp [md_fit, br1, br5, br35, br40, (Int32.not_le.mp br46)], ht⟩) (fun q h => by cases h) d_Mo_fitted_56
    · skip
      refine lv_iload hx hb d_Mo_fitted_8 (lv_at hl 4 rfl) ?_
      refine lv_iload_n hx hb d_Mo_fitted_10 rfl (lv_at hl 1 rfl) ?_
      refine lv_icmp_lt (tgt := 26) hx hb d_Mo_fitted_11 rfl (fun br11 => ?_) (fun br11 => ?_)
      · skip
        refine lv_iload_n hx hb d_Mo_fitted_26 rfl (lv_at hl 1 rfl) ?_
        refine lv_iconst (v := 1) hx hb d_Mo_fitted_27 (by decide) ?_
        refine lv_iadd hx hb d_Mo_fitted_28 ?_
        refine lv_goto (tgt := 33) hx hb d_Mo_fitted_29 rfl ?_
        exact W.iret hx hb hr (fun t ht hW => ⟨by simp [md_fit, br1, br5, br11], ht⟩) (fun q h => by cases h) d_Mo_fitted_33
      · skip
        refine lv_iload hx hb d_Mo_fitted_14 (lv_at hl 4 rfl) ?_
        refine lv_iload_n hx hb d_Mo_fitted_16 rfl (lv_at hl 1 rfl) ?_
        refine lv_icmp_ne (tgt := 32) hx hb d_Mo_fitted_17 rfl (fun br17 => ?_) (fun br17 => ?_)
        · skip
          refine lv_iload_n hx hb d_Mo_fitted_32 rfl (lv_at hl 1 rfl) ?_
          exact W.iret hx hb hr (fun t ht hW => ⟨by simp [md_fit, br1, br5, br11, br17], ht⟩) (fun q h => by cases h) d_Mo_fitted_33
        · skip
          refine lv_iload hx hb d_Mo_fitted_20 (lv_at hl 5 rfl) ?_
          refine lv_iload_n hx hb d_Mo_fitted_22 rfl (lv_at hl 2 rfl) ?_
          refine lv_icmp_ge (tgt := 32) hx hb d_Mo_fitted_23 rfl (fun br23 => ?_) (fun br23 => ?_)
          · skip
            refine lv_iload_n hx hb d_Mo_fitted_32 rfl (lv_at hl 1 rfl) ?_
            exact W.iret hx hb hr (fun t ht hW => ⟨by simp [md_fit, br1, br5, br11, br17, (Int32.not_lt.mpr br23)], ht⟩) (fun q h => by cases h) d_Mo_fitted_33
          · skip
            refine lv_iload_n hx hb d_Mo_fitted_26 rfl (lv_at hl 1 rfl) ?_
            refine lv_iconst (v := 1) hx hb d_Mo_fitted_27 (by decide) ?_
            refine lv_iadd hx hb d_Mo_fitted_28 ?_
            refine lv_goto (tgt := 33) hx hb d_Mo_fitted_29 rfl ?_
            exact W.iret hx hb hr (fun t ht hW => ⟨by simp [md_fit, br1, br5, br11, br17, (Int32.not_le.mp br23)], ht⟩) (fun q h => by cases h) d_Mo_fitted_33
set_option maxHeartbeats 4000000 in
set_option maxRecDepth 100000 in
theorem c_Mo_apply_0 (l : Launch) (D : va_G) (E : Nat → ClassId) (La : la_L) {m0 : Nat} (hm : isMo E La m0) (mu : la_M) {j kd q n cx : Nat} (hj : j < 4) (hk : mu m0 16 = nI kd) (hq : mu m0 17 = nI q) (hx0 : mu m0 18 = nI cx) (hcx : cx < 65536) (hn : mu (m0 + 1) j = nI n) (h2 : n ≤ 64) (hz : ∀ i, chz (mu (m0 + 2) i)) (hk0 : kd = 0) (h1 : q ≤ n) : cw l y_Mo_apply b_Mo_apply 4 none 0 0 D E La [.ref m0, .int (nI j)] mu none (md_app mu m0 j 0 q n cx) := by
  refine cw_begin R_Mo (by decide) rfl (Nat.le_of_ble_eq_true rfl) ?_
  intro p e s m below meth c ls Z hr hlocks hP hS hl
  have hx := Z.1
  have hb := Z.2.1
  have hK : va_K D cls5 (tyE E) s := Z.2.2.2.2.2
  have hl : lv_has ls 4 [(0, .ref m0), (1, .int (nI j))] := hl
  have hk : mu m0 16 = 0 := by rw [hk, hk0]; rfl
  have loop : ∀ (t K : Nat) (H : Heap) (locs : List Loc) (ls : Array Slot), K = 200 * j + q + t → K ≤ 200 * j + n → la_P D cls5 La (la_set mu (m0 + 2) (va_cpy (mu (m0 + 2)) (mu (m0 + 2)) K (K + 1) (200 * j + n - K))) H → va_S (la_A La) s.heap H locs → lv_has ls 4 [(3, .int (nI K)), (2, .int (nI (200 * j))), (0, .ref m0), (1, .int (nI j))] → W p l e (rmm 0 0) s m ([.ref m0, .int (nI j)] : List Value).toArray below meth c H locs 0 0 (MQ below (cw_Q none (la_P D cls5 La (md_app mu m0 j 0 q n cx)) (la_A La)) ([.ref m0, .int (nI j)] : List Value).toArray s 0 0 (la_A La)) (F0 m 22 ls []) := by
    intro t
    induction t with
    | zero =>
      intro K H locs ls hK1 hK2 hP hS hl
      have hKq : K = 200 * j + q := by omega
      subst hKq
      refine lv_iload_n hx hb d_Mo_apply_22 rfl (lv_at hl 0 rfl) ?_
      refine lv_iload_n hx hb d_Mo_apply_23 rfl (lv_at hl 1 rfl) ?_
      refine lv_aload_n hx hb d_Mo_apply_24 rfl (lv_at hl 2 rfl) ?_
      refine g_i (v := (nI q)) Z kc_Mo hP hm.1 rfl 17 (by decide) wl_Mo_63 rfl rfl ((congrFun (la_set_n (by omega)) 17).trans hq) d_Mo_apply_25 ?_
      refine lv_iadd hx hb d_Mo_apply_28 ?_
      rw [nI_add]
      refine lv_icmp_le (tgt := 52) hx hb d_Mo_apply_29 rfl (fun br29 => ?_) (fun br29 => absurd (nI_le (Nat.le_refl _) (by omega)) br29)
      refine lv_aload_n hx hb d_Mo_apply_52 rfl (lv_at hl 2 rfl) ?_
      refine g_f (v := .ref (m0 + 2)) Z kc_Mo hP hm.1 rfl 2 (by decide) wl_Mo_13 rfl rfl d_Mo_apply_53 ?_
      refine lv_iload_n hx hb d_Mo_apply_56 rfl (lv_at hl 1 rfl) ?_
      refine lv_aload_n hx hb d_Mo_apply_57 rfl (lv_at hl 2 rfl) ?_
      refine g_i (v := (nI q)) Z kc_Mo hP hm.1 rfl 17 (by decide) wl_Mo_63 rfl rfl ((congrFun (la_set_n (by omega)) 17).trans hq) d_Mo_apply_58 ?_
      refine lv_iadd hx hb d_Mo_apply_61 ?_
      rw [nI_add]
      refine lv_aload_n hx hb d_Mo_apply_62 rfl (lv_at hl 2 rfl) ?_
      refine g_i (v := (nI cx)) Z kc_Mo hP hm.1 rfl 18 (by decide) wl_Mo_66 rfl rfl ((congrFun (la_set_n (by omega)) 18).trans hx0) d_Mo_apply_63 ?_
      refine lv_i2c hx hb d_Mo_apply_66 rfl ?_
      rw [i2c_n hcx]
      refine la_cast hx hb hK hP hS 1 hm.2.2.1 (fun _ => rfl) rfl (chz.nar (chz_n hcx)) (200 * j + q) rfl (by omega) (by decide) d_Mo_apply_67 (fun H locs hP hS => ?_)
      refine lv_aload_n hx hb d_Mo_apply_68 rfl (lv_at hl 2 rfl) ?_
      refine g_f (v := .ref (m0 + 1)) Z kc_Mo hP hm.1 rfl 1 (by decide) wl_Mo_7 rfl rfl d_Mo_apply_69 ?_
      refine lv_iload_n hx hb d_Mo_apply_72 rfl (lv_at hl 3 rfl) ?_
      refine lv_dup2_11 hx hb d_Mo_apply_73 rfl rfl ?_
      refine la_ialdv (v := (nI n)) hx hb hK hP 0 hm.2.1 rfl rfl j rfl hj (by decide) (((congrFun (la_up_n (by omega)) j).trans (congrFun (la_set_n (by omega)) j)).trans hn) d_Mo_apply_74 ?_
      refine lv_iconst (v := 1) hx hb d_Mo_apply_75 (by decide) ?_
      refine lv_iadd hx hb d_Mo_apply_76 ?_
      refine la_iast hx hb hK hP hS 0 hm.2.1 (fun _ => rfl) rfl j rfl hj (by decide) d_Mo_apply_77 (fun H locs hP hS => ?_)
      refine lv_goto (tgt := 138) hx hb d_Mo_apply_78 rfl ?_
      exact W.vret hx hb hr (fun t ht hW => ⟨rfl, by rw [ht]; exact cvm hP (by rw [nI_1]; unfold md_app; rw [if_pos rfl, show 200 * j + n - (200 * j + q) = n - q by omega]), hS.F ht⟩) hS.2.2 d_Mo_apply_138
    | succ t ih =>
      intro K H locs ls hK1 hK2 hP hS hl
      have ev : ((la_set mu (m0 + 2) (va_cpy (mu (m0 + 2)) (mu (m0 + 2)) K (K + 1) (200 * j + n - K))) (m0 + 2) (K - 1)) = mu (m0 + 2) (K - 1) := by rw [la_set_s, pk_cpy_out (by omega)]
      refine lv_iload_n hx hb d_Mo_apply_22 rfl (lv_at hl 0 rfl) ?_
      refine lv_iload_n hx hb d_Mo_apply_23 rfl (lv_at hl 1 rfl) ?_
      refine lv_aload_n hx hb d_Mo_apply_24 rfl (lv_at hl 2 rfl) ?_
      refine g_i (v := (nI q)) Z kc_Mo hP hm.1 rfl 17 (by decide) wl_Mo_63 rfl rfl ((congrFun (la_set_n (by omega)) 17).trans hq) d_Mo_apply_25 ?_
      refine lv_iadd hx hb d_Mo_apply_28 ?_
      rw [nI_add]
      refine lv_icmp_le (tgt := 52) hx hb d_Mo_apply_29 rfl (fun br29 => absurd br29 (nI_ge (by omega) (by omega))) (fun br29 => ?_)
      refine lv_aload_n hx hb d_Mo_apply_32 rfl (lv_at hl 2 rfl) ?_
      refine g_f (v := .ref (m0 + 2)) Z kc_Mo hP hm.1 rfl 2 (by decide) wl_Mo_13 rfl rfl d_Mo_apply_33 ?_
      refine lv_iload_n hx hb d_Mo_apply_36 rfl (lv_at hl 0 rfl) ?_
      refine lv_aload_n hx hb d_Mo_apply_37 rfl (lv_at hl 2 rfl) ?_
      refine g_f (v := .ref (m0 + 2)) Z kc_Mo hP hm.1 rfl 2 (by decide) wl_Mo_13 rfl rfl d_Mo_apply_38 ?_
      refine lv_iload_n hx hb d_Mo_apply_41 rfl (lv_at hl 0 rfl) ?_
      refine lv_iconst (v := 1) hx hb d_Mo_apply_42 (by decide) ?_
      refine lv_isub hx hb d_Mo_apply_43 ?_
      rw [nI_s1 (by omega)]
      refine la_caldv (v := (mu (m0 + 2) (K - 1))) hx hb hK hP 1 hm.2.2.1 rfl rfl (K - 1) rfl (by omega) (by decide) ev d_Mo_apply_44 ?_
      refine la_cast hx hb hK hP hS 1 hm.2.2.1 (fun _ => rfl) rfl (chz.nar (hz _)) K rfl (by omega) (by decide) d_Mo_apply_45 (fun H locs hP hS => ?_)
      refine lv_iinc (k := 0) (v := (nI (K - 1))) hx hb d_Mo_apply_46 hl rfl (by rw [← sb_m1 (by omega)]; rfl) (by decide) rfl (fun ls hl => ?_)
      have hl : lv_has ls 4 [(3, .int (nI (K - 1))), (2, .int (nI (200 * j))), (0, .ref m0), (1, .int (nI j))] := hl
      refine lv_goto (tgt := 22) hx hb d_Mo_apply_49 rfl ?_
      exact ih (K - 1) H locs ls (by omega) (by omega) (cvm hP (by rw [la_up_set, cpy_r _ (by omega), show K - 1 + 1 = K by omega, show 200 * j + n - (K - 1) = 200 * j + n - K + 1 by omega])) hS hl
  refine lv_sipush (v := 200) hx hb d_Mo_apply_0 (by decide) ?_
  refine lv_iload_n hx hb d_Mo_apply_3 rfl (lv_at hl 1 rfl) ?_
  refine lv_imul hx hb d_Mo_apply_4 ?_
  rw [show (200 : Int32) * nI j = nI (200 * j) from pk_mul 200 j]
  refine lv_istore_n hx hb d_Mo_apply_5 rfl hl (by decide) rfl (fun ls hl => ?_)
  have hl : lv_has ls 4 [(2, .int (nI (200 * j))), (0, .ref m0), (1, .int (nI j))] := hl
  refine lv_aload_n hx hb d_Mo_apply_6 rfl (lv_at hl 1 rfl) ?_
  refine g_i (v := 0) Z kc_Mo hP hm.1 rfl 16 (by decide) wl_Mo_60 rfl rfl hk d_Mo_apply_7 ?_
  refine lv_if_ne (tgt := 81) hx hb d_Mo_apply_10 rfl (fun br10 => absurd (rfl) br10) (fun br10 => ?_)
  refine lv_iload_n hx hb d_Mo_apply_13 rfl (lv_at hl 0 rfl) ?_
  refine lv_aload_n hx hb d_Mo_apply_14 rfl (lv_at hl 1 rfl) ?_
  refine g_f (v := .ref (m0 + 1)) Z kc_Mo hP hm.1 rfl 1 (by decide) wl_Mo_7 rfl rfl d_Mo_apply_15 ?_
  refine lv_iload_n hx hb d_Mo_apply_18 rfl (lv_at hl 2 rfl) ?_
  refine la_ialdv (v := (nI n)) hx hb hK hP 0 hm.2.1 rfl rfl j rfl hj (by decide) hn d_Mo_apply_19 ?_
  refine lv_iadd hx hb d_Mo_apply_20 ?_
  rw [nI_add]
  refine lv_istore_n hx hb d_Mo_apply_21 rfl hl (by decide) rfl (fun ls hl => ?_)
  have hl : lv_has ls 4 [(3, .int (nI (200 * j + n))), (2, .int (nI (200 * j))), (0, .ref m0), (1, .int (nI j))] := hl
  exact loop (n - q) (200 * j + n) s.heap [] ls (by omega) (by omega) (cvm hP (by rw [Nat.sub_self, cpy_0, la_set_id])) hS hl
set_option maxHeartbeats 4000000 in
set_option maxRecDepth 100000 in
theorem c_Mo_apply_1 (l : Launch) (D : va_G) (E : Nat → ClassId) (La : la_L) {m0 : Nat} (hm : isMo E La m0) (mu : la_M) {j kd q n cx : Nat} (hj : j < 4) (hk : mu m0 16 = nI kd) (hq : mu m0 17 = nI q) (hx0 : mu m0 18 = nI cx) (hcx : cx < 65536) (hn : mu (m0 + 1) j = nI n) (h2 : n ≤ 64) (hz : ∀ i, chz (mu (m0 + 2) i)) (hk0 : kd = 1) (h1 : q < n) : cw l y_Mo_apply b_Mo_apply 4 none 0 0 D E La [.ref m0, .int (nI j)] mu none (md_app mu m0 j 1 q n cx) := by
  refine cw_begin R_Mo (by decide) rfl (Nat.le_of_ble_eq_true rfl) ?_
  intro p e s m below meth c ls Z hr hlocks hP hS hl
  have hx := Z.1
  have hb := Z.2.1
  have hK : va_K D cls5 (tyE E) s := Z.2.2.2.2.2
  have hl : lv_has ls 4 [(0, .ref m0), (1, .int (nI j))] := hl
  have hk : mu m0 16 = 1 := by rw [hk, hk0]; rfl
  have loop : ∀ (t i : Nat) (H : Heap) (locs : List Loc) (ls : Array Slot), i + t = n - 1 - q → la_P D cls5 La (la_set (la_up mu (m0 + 1) j (nI (n - 1))) (m0 + 2) (va_cpy (mu (m0 + 2)) (mu (m0 + 2)) (200 * j + q + 1) (200 * j + q) i)) H → va_S (la_A La) s.heap H locs → lv_has ls 4 [(3, .int (nI (200 * j + q + i))), (2, .int (nI (200 * j))), (0, .ref m0), (1, .int (nI j))] → W p l e (rmm 0 0) s m ([.ref m0, .int (nI j)] : List Value).toArray below meth c H locs 0 0 (MQ below (cw_Q none (la_P D cls5 La (md_app mu m0 j 1 q n cx)) (la_A La)) ([.ref m0, .int (nI j)] : List Value).toArray s 0 0 (la_A La)) (F0 m 106 ls []) := by
    intro t
    induction t with
    | zero =>
      intro i H locs ls hi hP hS hl
      have hia : i = n - 1 - q := by omega
      subst hia
      refine lv_iload_n hx hb d_Mo_apply_106 rfl (lv_at hl 0 rfl) ?_
      refine lv_iload_n hx hb d_Mo_apply_107 rfl (lv_at hl 1 rfl) ?_
      refine lv_aload_n hx hb d_Mo_apply_108 rfl (lv_at hl 2 rfl) ?_
      refine g_f (v := .ref (m0 + 1)) Z kc_Mo hP hm.1 rfl 1 (by decide) wl_Mo_7 rfl rfl d_Mo_apply_109 ?_
      refine lv_iload_n hx hb d_Mo_apply_112 rfl (lv_at hl 3 rfl) ?_
      refine la_ialdv (v := (nI (n - 1))) hx hb hK hP 0 hm.2.1 rfl rfl j rfl hj (by decide) ((congrFun (la_set_n (by omega)) j).trans la_up_s) d_Mo_apply_113 ?_
      refine lv_iadd hx hb d_Mo_apply_114 ?_
      rw [nI_add]
      refine lv_icmp_ge (tgt := 138) hx hb d_Mo_apply_115 rfl (fun br115 => ?_) (fun br115 => absurd (nI_le (by omega) (by omega)) br115)
      exact W.vret hx hb hr (fun t ht hW => ⟨rfl, by rw [ht]; exact cvm hP (by unfold md_app; rw [if_neg (by decide), if_pos rfl]), hS.F ht⟩) hS.2.2 d_Mo_apply_138
    | succ t ih =>
      intro i H locs ls hi hP hS hl
      have ev : ((la_set (la_up mu (m0 + 1) j (nI (n - 1))) (m0 + 2) (va_cpy (mu (m0 + 2)) (mu (m0 + 2)) (200 * j + q + 1) (200 * j + q) i)) (m0 + 2) (200 * j + q + i + 1)) = mu (m0 + 2) (200 * j + q + i + 1) := by rw [la_set_s, pk_cpy_out (by omega)]
      refine lv_iload_n hx hb d_Mo_apply_106 rfl (lv_at hl 0 rfl) ?_
      refine lv_iload_n hx hb d_Mo_apply_107 rfl (lv_at hl 1 rfl) ?_
      refine lv_aload_n hx hb d_Mo_apply_108 rfl (lv_at hl 2 rfl) ?_
      refine g_f (v := .ref (m0 + 1)) Z kc_Mo hP hm.1 rfl 1 (by decide) wl_Mo_7 rfl rfl d_Mo_apply_109 ?_
      refine lv_iload_n hx hb d_Mo_apply_112 rfl (lv_at hl 3 rfl) ?_
      refine la_ialdv (v := (nI (n - 1))) hx hb hK hP 0 hm.2.1 rfl rfl j rfl hj (by decide) ((congrFun (la_set_n (by omega)) j).trans la_up_s) d_Mo_apply_113 ?_
      refine lv_iadd hx hb d_Mo_apply_114 ?_
      rw [nI_add]
      refine lv_icmp_ge (tgt := 138) hx hb d_Mo_apply_115 rfl (fun br115 => absurd br115 (nI_ge (by omega) (by omega))) (fun br115 => ?_)
      refine lv_aload_n hx hb d_Mo_apply_118 rfl (lv_at hl 2 rfl) ?_
      refine g_f (v := .ref (m0 + 2)) Z kc_Mo hP hm.1 rfl 2 (by decide) wl_Mo_13 rfl rfl d_Mo_apply_119 ?_
      refine lv_iload_n hx hb d_Mo_apply_122 rfl (lv_at hl 0 rfl) ?_
      refine lv_aload_n hx hb d_Mo_apply_123 rfl (lv_at hl 2 rfl) ?_
      refine g_f (v := .ref (m0 + 2)) Z kc_Mo hP hm.1 rfl 2 (by decide) wl_Mo_13 rfl rfl d_Mo_apply_124 ?_
      refine lv_iload_n hx hb d_Mo_apply_127 rfl (lv_at hl 0 rfl) ?_
      refine lv_iconst (v := 1) hx hb d_Mo_apply_128 (by decide) ?_
      refine lv_iadd hx hb d_Mo_apply_129 ?_
      rw [nI_1]
      refine la_caldv (v := (mu (m0 + 2) (200 * j + q + i + 1))) hx hb hK hP 1 hm.2.2.1 rfl rfl (200 * j + q + i + 1) rfl (by omega) (by decide) ev d_Mo_apply_130 ?_
      refine la_cast hx hb hK hP hS 1 hm.2.2.1 (fun _ => rfl) rfl (chz.nar (hz _)) (200 * j + q + i) rfl (by omega) (by decide) d_Mo_apply_131 (fun H locs hP hS => ?_)
      refine lv_iinc (k := 0) (v := (nI (200 * j + q + (i + 1)))) hx hb d_Mo_apply_132 hl rfl (nI_1 _) (by decide) rfl (fun ls hl => ?_)
      have hl : lv_has ls 4 [(3, .int (nI (200 * j + q + (i + 1)))), (2, .int (nI (200 * j))), (0, .ref m0), (1, .int (nI j))] := hl
      refine lv_goto (tgt := 106) hx hb d_Mo_apply_135 rfl ?_
      exact ih (i + 1) H locs ls (by omega) (cvm hP (by rw [la_up_set, cpy_l])) hS hl
  refine lv_sipush (v := 200) hx hb d_Mo_apply_0 (by decide) ?_
  refine lv_iload_n hx hb d_Mo_apply_3 rfl (lv_at hl 1 rfl) ?_
  refine lv_imul hx hb d_Mo_apply_4 ?_
  rw [show (200 : Int32) * nI j = nI (200 * j) from pk_mul 200 j]
  refine lv_istore_n hx hb d_Mo_apply_5 rfl hl (by decide) rfl (fun ls hl => ?_)
  have hl : lv_has ls 4 [(2, .int (nI (200 * j))), (0, .ref m0), (1, .int (nI j))] := hl
  refine lv_aload_n hx hb d_Mo_apply_6 rfl (lv_at hl 1 rfl) ?_
  refine g_i (v := 1) Z kc_Mo hP hm.1 rfl 16 (by decide) wl_Mo_60 rfl rfl hk d_Mo_apply_7 ?_
  refine lv_if_ne (tgt := 81) hx hb d_Mo_apply_10 rfl (fun br10 => ?_) (fun br10 => absurd br10 (by decide))
  refine lv_aload_n hx hb d_Mo_apply_81 rfl (lv_at hl 1 rfl) ?_
  refine g_i (v := 1) Z kc_Mo hP hm.1 rfl 16 (by decide) wl_Mo_60 rfl rfl hk d_Mo_apply_82 ?_
  refine lv_iconst (v := 1) hx hb d_Mo_apply_85 (by decide) ?_
  refine lv_icmp_ne (tgt := 138) hx hb d_Mo_apply_86 rfl (fun br86 => absurd (rfl) br86) (fun br86 => ?_)
  refine lv_aload_n hx hb d_Mo_apply_89 rfl (lv_at hl 1 rfl) ?_
  refine g_f (v := .ref (m0 + 1)) Z kc_Mo hP hm.1 rfl 1 (by decide) wl_Mo_7 rfl rfl d_Mo_apply_90 ?_
  refine lv_iload_n hx hb d_Mo_apply_93 rfl (lv_at hl 2 rfl) ?_
  refine lv_dup2_11 hx hb d_Mo_apply_94 rfl rfl ?_
  refine la_ialdv (v := (nI n)) hx hb hK hP 0 hm.2.1 rfl rfl j rfl hj (by decide) hn d_Mo_apply_95 ?_
  refine lv_iconst (v := 1) hx hb d_Mo_apply_96 (by decide) ?_
  refine lv_isub hx hb d_Mo_apply_97 ?_
  rw [nI_s1 (by omega)]
  refine la_iast hx hb hK hP hS 0 hm.2.1 (fun _ => rfl) rfl j rfl hj (by decide) d_Mo_apply_98 (fun H locs hP hS => ?_)
  refine lv_iload_n hx hb d_Mo_apply_99 rfl (lv_at hl 0 rfl) ?_
  refine lv_aload_n hx hb d_Mo_apply_100 rfl (lv_at hl 1 rfl) ?_
  refine g_i (v := (nI q)) Z kc_Mo hP hm.1 rfl 17 (by decide) wl_Mo_63 rfl rfl ((congrFun (la_up_n (by omega)) 17).trans hq) d_Mo_apply_101 ?_
  refine lv_iadd hx hb d_Mo_apply_104 ?_
  rw [nI_add]
  refine lv_istore_n hx hb d_Mo_apply_105 rfl hl (by decide) rfl (fun ls hl => ?_)
  have hl : lv_has ls 4 [(3, .int (nI (200 * j + q))), (2, .int (nI (200 * j))), (0, .ref m0), (1, .int (nI j))] := hl
  exact loop (n - 1 - q) 0 H locs ls (by omega) (cvm hP (by rw [cpy_0, show (mu (m0 + 2)) = la_up mu (m0 + 1) j (nI (n - 1)) (m0 + 2) from (la_up_n (by omega)).symm, la_set_id])) hS hl
set_option maxHeartbeats 4000000 in
set_option maxRecDepth 100000 in
theorem c_Mo_apply_2 (l : Launch) (D : va_G) (E : Nat → ClassId) (La : la_L) {m0 : Nat} (hm : isMo E La m0) (mu : la_M) {j kd q n cx : Nat} (hj : j < 4) (hk : mu m0 16 = nI kd) (hq : mu m0 17 = nI q) (hx0 : mu m0 18 = nI cx) (hcx : cx < 65536) (hn : mu (m0 + 1) j = nI n) (h2 : n ≤ 64) (hz : ∀ i, chz (mu (m0 + 2) i)) (hk0 : kd = 2) : cw l y_Mo_apply b_Mo_apply 4 none 0 0 D E La [.ref m0, .int (nI j)] mu none (md_app mu m0 j 2 q n cx) := by
  refine cw_begin R_Mo (by decide) rfl (Nat.le_of_ble_eq_true rfl) ?_
  intro p e s m below meth c ls Z hr hlocks hP hS hl
  have hx := Z.1
  have hb := Z.2.1
  have hK : va_K D cls5 (tyE E) s := Z.2.2.2.2.2
  have hl : lv_has ls 4 [(0, .ref m0), (1, .int (nI j))] := hl
  have hk : mu m0 16 = 2 := by rw [hk, hk0]; rfl
  refine lv_sipush (v := 200) hx hb d_Mo_apply_0 (by decide) ?_
  refine lv_iload_n hx hb d_Mo_apply_3 rfl (lv_at hl 1 rfl) ?_
  refine lv_imul hx hb d_Mo_apply_4 ?_
  rw [show (200 : Int32) * nI j = nI (200 * j) from pk_mul 200 j]
  refine lv_istore_n hx hb d_Mo_apply_5 rfl hl (by decide) rfl (fun ls hl => ?_)
  have hl : lv_has ls 4 [(2, .int (nI (200 * j))), (0, .ref m0), (1, .int (nI j))] := hl
  refine lv_aload_n hx hb d_Mo_apply_6 rfl (lv_at hl 1 rfl) ?_
  refine g_i (v := 2) Z kc_Mo hP hm.1 rfl 16 (by decide) wl_Mo_60 rfl rfl hk d_Mo_apply_7 ?_
  refine lv_if_ne (tgt := 81) hx hb d_Mo_apply_10 rfl (fun br10 => ?_) (fun br10 => absurd br10 (by decide))
  refine lv_aload_n hx hb d_Mo_apply_81 rfl (lv_at hl 1 rfl) ?_
  refine g_i (v := 2) Z kc_Mo hP hm.1 rfl 16 (by decide) wl_Mo_60 rfl rfl hk d_Mo_apply_82 ?_
  refine lv_iconst (v := 1) hx hb d_Mo_apply_85 (by decide) ?_
  refine lv_icmp_ne (tgt := 138) hx hb d_Mo_apply_86 rfl (fun br86 => ?_) (fun br86 => absurd br86 (by decide))
  exact W.vret hx hb hr (fun t ht hW => ⟨rfl, by rw [ht]; exact cvm hP (by unfold md_app; rw [if_neg (by decide), if_neg (by decide)]), hS.F ht⟩) hS.2.2 d_Mo_apply_138
theorem c_Mo_apply (l : Launch) (D : va_G) (E : Nat → ClassId) (La : la_L) {m0 : Nat} (hm : isMo E La m0) (mu : la_M) {j kd q n cx : Nat} (hj : j < 4) (hk : mu m0 16 = nI kd) (hq : mu m0 17 = nI q) (hx0 : mu m0 18 = nI cx) (hcx : cx < 65536) (hn : mu (m0 + 1) j = nI n) (h2 : n ≤ 64) (hz : ∀ i, chz (mu (m0 + 2) i)) (hk3 : kd ≤ 2) (h0 : kd = 0 → q ≤ n) (h1 : kd = 1 → q < n) : cw l y_Mo_apply b_Mo_apply 4 none 0 0 D E La [.ref m0, .int (nI j)] mu none (md_app mu m0 j kd q n cx) := by
  rcases (show kd = 0 ∨ kd = 1 ∨ kd = 2 by omega) with rfl | rfl | rfl
  · exact c_Mo_apply_0 l D E La hm mu hj hk hq hx0 hcx hn h2 hz rfl (h0 rfl)
  · exact c_Mo_apply_1 l D E La hm mu hj hk hq hx0 hcx hn h2 hz rfl (h1 rfl)
  · exact c_Mo_apply_2 l D E La hm mu hj hk hq hx0 hcx hn h2 hz rfl
set_option maxHeartbeats 4000000 in
set_option maxRecDepth 100000 in
theorem c_Mo_send (l : Launch) (D : va_G) (E : Nat → ClassId) (La : la_L) {m0 : Nat} (hm : isMo E La m0) (mu : la_M) {L w0 o0 t0 : Nat} (hL : L < 6) (hw : mu (m0 + 5) L = nI w0) (hw4 : w0 < 40) (ho : mu (m0 + 11) L = nI o0) (ho4 : o0 < 40) (ht : mu (m0 + 3) L = nI t0) : cw l y_Mo_send b_Mo_send 4 none 1 20 D E La [.ref m0, .int (nI L)] mu none (md_send mu m0 L w0 o0 t0) := by
  refine cw_begin R_Mo (by decide) rfl (Nat.le_of_ble_eq_true rfl) ?_
  intro p e s m below meth c ls Z hr hlocks hP hS hl
  have hx := Z.1
  have hb := Z.2.1
  have hK : va_K D cls5 (tyE E) s := Z.2.2.2.2.2
  have hl : lv_has ls 4 [(0, .ref m0), (1, .int (nI L))] := hl
  refine lv_bipush (v := 40) hx hb d_Mo_send_0 (by decide) ?_
  refine lv_iload_n hx hb d_Mo_send_2 rfl (lv_at hl 1 rfl) ?_
  refine lv_imul hx hb d_Mo_send_3 ?_
  rw [show (40 : Int32) * nI L = nI (40 * L) from pk_mul 40 L]
  refine lv_aload_n hx hb d_Mo_send_4 rfl (lv_at hl 0 rfl) ?_
  refine g_f (v := .ref (m0 + 5)) Z kc_Mo hP hm.1 rfl 5 (by decide) wl_Mo_23 rfl rfl d_Mo_send_5 ?_
  refine lv_iload_n hx hb d_Mo_send_8 rfl (lv_at hl 1 rfl) ?_
  refine la_ialdv (v := (nI w0)) hx hb hK hP 0 hm.2.2.2.2.2.1 rfl rfl L rfl hL (by decide) hw d_Mo_send_9 ?_
  refine lv_iadd hx hb d_Mo_send_10 ?_
  rw [nI_add]
  refine lv_istore_n hx hb d_Mo_send_11 rfl hl (by decide) rfl (fun ls hl => ?_)
  have hl : lv_has ls 4 [(2, .int (nI (40 * L + w0))), (0, .ref m0), (1, .int (nI L))] := hl
  refine lv_aload_n hx hb d_Mo_send_12 rfl (lv_at hl 1 rfl) ?_
  refine g_f (v := .ref (m0 + 6)) Z kc_Mo hP hm.1 rfl 6 (by decide) wl_Mo_26 rfl rfl d_Mo_send_13 ?_
  refine lv_iload_n hx hb d_Mo_send_16 rfl (lv_at hl 0 rfl) ?_
  refine lv_aload_n hx hb d_Mo_send_17 rfl (lv_at hl 1 rfl) ?_
  refine g_f Z kc_Mo hP hm.1 rfl 16 (by decide) wl_Mo_60 rfl rfl d_Mo_send_18 ?_
  refine la_iast hx hb hK hP hS 0 hm.2.2.2.2.2.2.1 (fun _ => rfl) rfl (40 * L + w0) rfl (by omega) (by decide) d_Mo_send_21 (fun H locs hP hS => ?_)
  refine lv_aload_n hx hb d_Mo_send_22 rfl (lv_at hl 1 rfl) ?_
  refine g_f (v := .ref (m0 + 7)) Z kc_Mo hP hm.1 rfl 7 (by decide) wl_Mo_29 rfl rfl d_Mo_send_23 ?_
  refine lv_iload_n hx hb d_Mo_send_26 rfl (lv_at hl 0 rfl) ?_
  refine lv_aload_n hx hb d_Mo_send_27 rfl (lv_at hl 1 rfl) ?_
  refine g_i (v := (mu m0 17)) Z kc_Mo hP hm.1 rfl 17 (by decide) wl_Mo_63 rfl rfl (congrFun (la_up_n (by omega)) 17) d_Mo_send_28 ?_
  refine la_iast hx hb hK hP hS 0 hm.2.2.2.2.2.2.2.1 (fun _ => rfl) rfl (40 * L + w0) rfl (by omega) (by decide) d_Mo_send_31 (fun H locs hP hS => ?_)
  refine lv_aload_n hx hb d_Mo_send_32 rfl (lv_at hl 1 rfl) ?_
  refine g_f (v := .ref (m0 + 8)) Z kc_Mo hP hm.1 rfl 8 (by decide) wl_Mo_32 rfl rfl d_Mo_send_33 ?_
  refine lv_iload_n hx hb d_Mo_send_36 rfl (lv_at hl 0 rfl) ?_
  refine lv_aload_n hx hb d_Mo_send_37 rfl (lv_at hl 1 rfl) ?_
  refine g_i (v := (mu m0 18)) Z kc_Mo hP hm.1 rfl 18 (by decide) wl_Mo_66 rfl rfl ((congrFun (la_up_n (by omega)) 18).trans (congrFun (la_up_n (by omega)) 18)) d_Mo_send_38 ?_
  refine la_iast hx hb hK hP hS 0 hm.2.2.2.2.2.2.2.2.1 (fun _ => rfl) rfl (40 * L + w0) rfl (by omega) (by decide) d_Mo_send_41 (fun H locs hP hS => ?_)
  refine lv_aload_n hx hb d_Mo_send_42 rfl (lv_at hl 1 rfl) ?_
  refine g_f (v := .ref (m0 + 9)) Z kc_Mo hP hm.1 rfl 9 (by decide) wl_Mo_35 rfl rfl d_Mo_send_43 ?_
  refine lv_iload_n hx hb d_Mo_send_46 rfl (lv_at hl 0 rfl) ?_
  refine lv_aload_n hx hb d_Mo_send_47 rfl (lv_at hl 1 rfl) ?_
  refine g_i (v := (mu m0 19)) Z kc_Mo hP hm.1 rfl 19 (by decide) wl_Mo_69 rfl rfl ((congrFun (la_up_n (by omega)) 19).trans ((congrFun (la_up_n (by omega)) 19).trans (congrFun (la_up_n (by omega)) 19))) d_Mo_send_48 ?_
  refine la_iast hx hb hK hP hS 0 hm.2.2.2.2.2.2.2.2.2.1 (fun _ => rfl) rfl (40 * L + w0) rfl (by omega) (by decide) d_Mo_send_51 (fun H locs hP hS => ?_)
  refine lv_aload_n hx hb d_Mo_send_52 rfl (lv_at hl 1 rfl) ?_
  refine g_f (v := .ref (m0 + 10)) Z kc_Mo hP hm.1 rfl 10 (by decide) wl_Mo_38 rfl rfl d_Mo_send_53 ?_
  refine lv_iload_n hx hb d_Mo_send_56 rfl (lv_at hl 0 rfl) ?_
  refine lv_aload_n hx hb d_Mo_send_57 rfl (lv_at hl 1 rfl) ?_
  refine g_f (v := .ref (m0 + 4)) Z kc_Mo hP hm.1 rfl 4 (by decide) wl_Mo_20 rfl rfl d_Mo_send_58 ?_
  refine lv_iload_n hx hb d_Mo_send_61 rfl (lv_at hl 2 rfl) ?_
  refine cr_S Z ks_Mo_72 (c_Mo_back l D E La (la_up (la_up (la_up (la_up mu (m0 + 6) (40 * L + w0) (mu m0 16)) (m0 + 7) (40 * L + w0) (mu m0 17)) (m0 + 8) (40 * L + w0) (mu m0 18)) (m0 + 9) (40 * L + w0) (mu m0 19)) hL) hP [.ref (m0 + 4), .int (nI (40 * L + w0)), .ref (m0 + 10)] rfl rfl hl.1 (Nat.le_of_ble_eq_true rfl) ⟨by decide, by decide⟩ ⟨Nat.le_refl _, Nat.le_refl _⟩ d_Mo_send_62 ?_
  refine la_ialdv (v := (mu (m0 + 4) (bk L))) hx hb hK hP 0 hm.2.2.2.2.1 rfl rfl (bk L) rfl (bk_lt hL) (by decide) ((congrFun (la_up_n (by omega)) (bk L)).trans ((congrFun (la_up_n (by omega)) (bk L)).trans ((congrFun (la_up_n (by omega)) (bk L)).trans (congrFun (la_up_n (by omega)) (bk L))))) d_Mo_send_65 ?_
  refine la_iast hx hb hK hP hS 0 hm.2.2.2.2.2.2.2.2.2.2.1 (fun _ => rfl) rfl (40 * L + w0) rfl (by omega) (by decide) d_Mo_send_66 (fun H locs hP hS => ?_)
  refine lv_aload_n hx hb d_Mo_send_67 rfl (lv_at hl 1 rfl) ?_
  refine g_f (v := .ref (m0 + 5)) Z kc_Mo hP hm.1 rfl 5 (by decide) wl_Mo_23 rfl rfl d_Mo_send_68 ?_
  refine lv_iload_n hx hb d_Mo_send_71 rfl (lv_at hl 2 rfl) ?_
  refine lv_dup2_11 hx hb d_Mo_send_72 rfl rfl ?_
  refine la_ialdv (v := (nI w0)) hx hb hK hP 0 hm.2.2.2.2.2.1 rfl rfl L rfl hL (by decide) (((congrFun (la_up_n (by omega)) L).trans ((congrFun (la_up_n (by omega)) L).trans ((congrFun (la_up_n (by omega)) L).trans ((congrFun (la_up_n (by omega)) L).trans (congrFun (la_up_n (by omega)) L))))).trans hw) d_Mo_send_73 ?_
  refine lv_iconst (v := 1) hx hb d_Mo_send_74 (by decide) ?_
  refine lv_iadd hx hb d_Mo_send_75 ?_
  rw [nI_1]
  refine la_iast hx hb hK hP hS 0 hm.2.2.2.2.2.1 (fun _ => rfl) rfl L rfl hL (by decide) d_Mo_send_76 (fun H locs hP hS => ?_)
  refine lv_bipush (v := 40) hx hb d_Mo_send_77 (by decide) ?_
  refine lv_iload_n hx hb d_Mo_send_79 rfl (lv_at hl 2 rfl) ?_
  refine lv_imul hx hb d_Mo_send_80 ?_
  rw [show (40 : Int32) * nI L = nI (40 * L) from pk_mul 40 L]
  refine lv_aload_n hx hb d_Mo_send_81 rfl (lv_at hl 1 rfl) ?_
  refine g_f (v := .ref (m0 + 11)) Z kc_Mo hP hm.1 rfl 11 (by decide) wl_Mo_41 rfl rfl d_Mo_send_82 ?_
  refine lv_iload_n hx hb d_Mo_send_85 rfl (lv_at hl 2 rfl) ?_
  refine la_ialdv (v := (nI o0)) hx hb hK hP 0 hm.2.2.2.2.2.2.2.2.2.2.2.1 rfl rfl L rfl hL (by decide) (((congrFun (la_up_n (by omega)) L).trans ((congrFun (la_up_n (by omega)) L).trans ((congrFun (la_up_n (by omega)) L).trans ((congrFun (la_up_n (by omega)) L).trans ((congrFun (la_up_n (by omega)) L).trans (congrFun (la_up_n (by omega)) L)))))).trans ho) d_Mo_send_86 ?_
  refine lv_iadd hx hb d_Mo_send_87 ?_
  rw [nI_add]
  refine lv_istore_n hx hb d_Mo_send_88 rfl hl (by decide) rfl (fun ls hl => ?_)
  have hl : lv_has ls 4 [(3, .int (nI (40 * L + o0))), (2, .int (nI (40 * L + w0))), (0, .ref m0), (1, .int (nI L))] := hl
  refine lv_aload_n hx hb d_Mo_send_89 rfl (lv_at hl 2 rfl) ?_
  refine g_f (v := .ref (m0 + 12)) Z kc_Mo hP hm.1 rfl 12 (by decide) wl_Mo_44 rfl rfl d_Mo_send_90 ?_
  refine lv_iload_n hx hb d_Mo_send_93 rfl (lv_at hl 0 rfl) ?_
  refine lv_aload_n hx hb d_Mo_send_94 rfl (lv_at hl 2 rfl) ?_
  refine g_i (v := (mu m0 16)) Z kc_Mo hP hm.1 rfl 16 (by decide) wl_Mo_60 rfl rfl ((congrFun (la_up_n (by omega)) 16).trans ((congrFun (la_up_n (by omega)) 16).trans ((congrFun (la_up_n (by omega)) 16).trans ((congrFun (la_up_n (by omega)) 16).trans ((congrFun (la_up_n (by omega)) 16).trans (congrFun (la_up_n (by omega)) 16)))))) d_Mo_send_95 ?_
  refine la_iast hx hb hK hP hS 0 hm.2.2.2.2.2.2.2.2.2.2.2.2.1 (fun _ => rfl) rfl (40 * L + o0) rfl (by omega) (by decide) d_Mo_send_98 (fun H locs hP hS => ?_)
  refine lv_aload_n hx hb d_Mo_send_99 rfl (lv_at hl 2 rfl) ?_
  refine g_f (v := .ref (m0 + 13)) Z kc_Mo hP hm.1 rfl 13 (by decide) wl_Mo_47 rfl rfl d_Mo_send_100 ?_
  refine lv_iload_n hx hb d_Mo_send_103 rfl (lv_at hl 0 rfl) ?_
  refine lv_aload_n hx hb d_Mo_send_104 rfl (lv_at hl 2 rfl) ?_
  refine g_i (v := (mu m0 17)) Z kc_Mo hP hm.1 rfl 17 (by decide) wl_Mo_63 rfl rfl ((congrFun (la_up_n (by omega)) 17).trans ((congrFun (la_up_n (by omega)) 17).trans ((congrFun (la_up_n (by omega)) 17).trans ((congrFun (la_up_n (by omega)) 17).trans ((congrFun (la_up_n (by omega)) 17).trans ((congrFun (la_up_n (by omega)) 17).trans (congrFun (la_up_n (by omega)) 17))))))) d_Mo_send_105 ?_
  refine la_iast hx hb hK hP hS 0 hm.2.2.2.2.2.2.2.2.2.2.2.2.2.1 (fun _ => rfl) rfl (40 * L + o0) rfl (by omega) (by decide) d_Mo_send_108 (fun H locs hP hS => ?_)
  refine lv_aload_n hx hb d_Mo_send_109 rfl (lv_at hl 2 rfl) ?_
  refine g_f (v := .ref (m0 + 14)) Z kc_Mo hP hm.1 rfl 14 (by decide) wl_Mo_50 rfl rfl d_Mo_send_110 ?_
  refine lv_iload_n hx hb d_Mo_send_113 rfl (lv_at hl 0 rfl) ?_
  refine lv_aload_n hx hb d_Mo_send_114 rfl (lv_at hl 2 rfl) ?_
  refine g_i (v := (mu m0 18)) Z kc_Mo hP hm.1 rfl 18 (by decide) wl_Mo_66 rfl rfl ((congrFun (la_up_n (by omega)) 18).trans ((congrFun (la_up_n (by omega)) 18).trans ((congrFun (la_up_n (by omega)) 18).trans ((congrFun (la_up_n (by omega)) 18).trans ((congrFun (la_up_n (by omega)) 18).trans ((congrFun (la_up_n (by omega)) 18).trans ((congrFun (la_up_n (by omega)) 18).trans (congrFun (la_up_n (by omega)) 18)))))))) d_Mo_send_115 ?_
  refine la_iast hx hb hK hP hS 0 hm.2.2.2.2.2.2.2.2.2.2.2.2.2.2.1 (fun _ => rfl) rfl (40 * L + o0) rfl (by omega) (by decide) d_Mo_send_118 (fun H locs hP hS => ?_)
  refine lv_aload_n hx hb d_Mo_send_119 rfl (lv_at hl 2 rfl) ?_
  refine g_f (v := .ref (m0 + 15)) Z kc_Mo hP hm.1 rfl 15 (by decide) wl_Mo_53 rfl rfl d_Mo_send_120 ?_
  refine lv_iload_n hx hb d_Mo_send_123 rfl (lv_at hl 0 rfl) ?_
  refine lv_aload_n hx hb d_Mo_send_124 rfl (lv_at hl 2 rfl) ?_
  refine g_i (v := (mu m0 19)) Z kc_Mo hP hm.1 rfl 19 (by decide) wl_Mo_69 rfl rfl ((congrFun (la_up_n (by omega)) 19).trans ((congrFun (la_up_n (by omega)) 19).trans ((congrFun (la_up_n (by omega)) 19).trans ((congrFun (la_up_n (by omega)) 19).trans ((congrFun (la_up_n (by omega)) 19).trans ((congrFun (la_up_n (by omega)) 19).trans ((congrFun (la_up_n (by omega)) 19).trans ((congrFun (la_up_n (by omega)) 19).trans (congrFun (la_up_n (by omega)) 19))))))))) d_Mo_send_125 ?_
  refine la_iast hx hb hK hP hS 0 hm.2.2.2.2.2.2.2.2.2.2.2.2.2.2.2 (fun _ => rfl) rfl (40 * L + o0) rfl (by omega) (by decide) d_Mo_send_128 (fun H locs hP hS => ?_)
  refine lv_aload_n hx hb d_Mo_send_129 rfl (lv_at hl 2 rfl) ?_
  refine g_f (v := .ref (m0 + 11)) Z kc_Mo hP hm.1 rfl 11 (by decide) wl_Mo_41 rfl rfl d_Mo_send_130 ?_
  refine lv_iload_n hx hb d_Mo_send_133 rfl (lv_at hl 3 rfl) ?_
  refine lv_dup2_11 hx hb d_Mo_send_134 rfl rfl ?_
  refine la_ialdv (v := (nI o0)) hx hb hK hP 0 hm.2.2.2.2.2.2.2.2.2.2.2.1 rfl rfl L rfl hL (by decide) (((congrFun (la_up_n (by omega)) L).trans ((congrFun (la_up_n (by omega)) L).trans ((congrFun (la_up_n (by omega)) L).trans ((congrFun (la_up_n (by omega)) L).trans ((congrFun (la_up_n (by omega)) L).trans ((congrFun (la_up_n (by omega)) L).trans ((congrFun (la_up_n (by omega)) L).trans ((congrFun (la_up_n (by omega)) L).trans ((congrFun (la_up_n (by omega)) L).trans (congrFun (la_up_n (by omega)) L)))))))))).trans ho) d_Mo_send_135 ?_
  refine lv_iconst (v := 1) hx hb d_Mo_send_136 (by decide) ?_
  refine lv_iadd hx hb d_Mo_send_137 ?_
  rw [nI_1]
  refine la_iast hx hb hK hP hS 0 hm.2.2.2.2.2.2.2.2.2.2.2.1 (fun _ => rfl) rfl L rfl hL (by decide) d_Mo_send_138 (fun H locs hP hS => ?_)
  refine lv_aload_n hx hb d_Mo_send_139 rfl (lv_at hl 2 rfl) ?_
  refine g_f (v := .ref (m0 + 3)) Z kc_Mo hP hm.1 rfl 3 (by decide) wl_Mo_17 rfl rfl d_Mo_send_140 ?_
  refine lv_iload_n hx hb d_Mo_send_143 rfl (lv_at hl 3 rfl) ?_
  refine lv_dup2_11 hx hb d_Mo_send_144 rfl rfl ?_
  refine la_ialdv (v := (nI t0)) hx hb hK hP 0 hm.2.2.2.1 rfl rfl L rfl hL (by decide) (((congrFun (la_up_n (by omega)) L).trans ((congrFun (la_up_n (by omega)) L).trans ((congrFun (la_up_n (by omega)) L).trans ((congrFun (la_up_n (by omega)) L).trans ((congrFun (la_up_n (by omega)) L).trans ((congrFun (la_up_n (by omega)) L).trans ((congrFun (la_up_n (by omega)) L).trans ((congrFun (la_up_n (by omega)) L).trans ((congrFun (la_up_n (by omega)) L).trans ((congrFun (la_up_n (by omega)) L).trans (congrFun (la_up_n (by omega)) L))))))))))).trans ht) d_Mo_send_145 ?_
  refine lv_iconst (v := 1) hx hb d_Mo_send_146 (by decide) ?_
  refine lv_iadd hx hb d_Mo_send_147 ?_
  rw [nI_1]
  refine la_iast hx hb hK hP hS 0 hm.2.2.2.1 (fun _ => rfl) rfl L rfl hL (by decide) d_Mo_send_148 (fun H locs hP hS => ?_)
  exact W.vret hx hb hr (fun t ht hW => ⟨rfl, by rw [ht]; exact cvm hP (rfl), hS.F ht⟩) hS.2.2 d_Mo_send_149
end
section
/-! The reference: forget, get (written by wip/whole/p16.py) -/
theorem la_up_at {mu : la_M} {a k : Nat} {v : Int32} : la_up mu a k v a = upd (mu a) k v := la_set_s
def md_sh4 (mu : la_M) (m0 b i : Nat) : la_M := la_set (la_set (la_set (la_set mu (m0 + 12) (va_cpy (mu (m0 + 12)) (mu (m0 + 12)) (40 * b + 1) (40 * b) i)) (m0 + 13) (va_cpy (mu (m0 + 13)) (mu (m0 + 13)) (40 * b + 1) (40 * b) i)) (m0 + 14) (va_cpy (mu (m0 + 14)) (mu (m0 + 14)) (40 * b + 1) (40 * b) i)) (m0 + 15) (va_cpy (mu (m0 + 15)) (mu (m0 + 15)) (40 * b + 1) (40 * b) i)
theorem md_sh4_12 {mu : la_M} {m0 b i : Nat} : md_sh4 mu m0 b i (m0 + 12) = va_cpy (mu (m0 + 12)) (mu (m0 + 12)) (40 * b + 1) (40 * b) i := by
  unfold md_sh4
  rw [la_set_n (by omega), la_set_n (by omega), la_set_n (by omega), la_set_s]
theorem md_sh4_13 {mu : la_M} {m0 b i : Nat} : md_sh4 mu m0 b i (m0 + 13) = va_cpy (mu (m0 + 13)) (mu (m0 + 13)) (40 * b + 1) (40 * b) i := by
  unfold md_sh4
  rw [la_set_n (by omega), la_set_n (by omega), la_set_s]
theorem md_sh4_14 {mu : la_M} {m0 b i : Nat} : md_sh4 mu m0 b i (m0 + 14) = va_cpy (mu (m0 + 14)) (mu (m0 + 14)) (40 * b + 1) (40 * b) i := by
  unfold md_sh4
  rw [la_set_n (by omega), la_set_s]
theorem md_sh4_15 {mu : la_M} {m0 b i : Nat} : md_sh4 mu m0 b i (m0 + 15) = va_cpy (mu (m0 + 15)) (mu (m0 + 15)) (40 * b + 1) (40 * b) i := by
  unfold md_sh4
  rw [la_set_s]
theorem md_sh4_n {mu : la_M} {m0 b i z : Nat} (h12 : z ≠ m0 + 12) (h13 : z ≠ m0 + 13) (h14 : z ≠ m0 + 14) (h15 : z ≠ m0 + 15) : md_sh4 mu m0 b i z = mu z := by
  unfold md_sh4
  rw [la_set_n h15, la_set_n h14, la_set_n h13, la_set_n h12]
theorem md_sh4_0 (mu : la_M) (m0 b : Nat) : md_sh4 mu m0 b 0 = mu := by
  unfold md_sh4
  rw [cpy_0, cpy_0, cpy_0, cpy_0, la_set_id, la_set_id, la_set_id, la_set_id]
theorem md_sh4_s (mu : la_M) (m0 b i : Nat) : (la_up (la_up (la_up (la_up (md_sh4 mu m0 b i) (m0 + 12) (40 * b + i) (mu (m0 + 12) (40 * b + i + 1))) (m0 + 13) (40 * b + i) (mu (m0 + 13) (40 * b + i + 1))) (m0 + 14) (40 * b + i) (mu (m0 + 14) (40 * b + i + 1))) (m0 + 15) (40 * b + i) (mu (m0 + 15) (40 * b + i + 1))) = md_sh4 mu m0 b (i + 1) := by
  funext z
  by_cases h12 : z = m0 + 12
  · rw [h12, la_up_n (by omega), la_up_n (by omega), la_up_n (by omega), la_up_at, md_sh4_12, cpy_l, md_sh4_12]
  · skip
    by_cases h13 : z = m0 + 13
    · rw [h13, la_up_n (by omega), la_up_n (by omega), la_up_at, la_up_n (by omega), md_sh4_13, cpy_l, md_sh4_13]
    · skip
      by_cases h14 : z = m0 + 14
      · rw [h14, la_up_n (by omega), la_up_at, la_up_n (by omega), la_up_n (by omega), md_sh4_14, cpy_l, md_sh4_14]
      · skip
        by_cases h15 : z = m0 + 15
        · rw [h15, la_up_at, la_up_n (by omega), la_up_n (by omega), la_up_n (by omega), md_sh4_15, cpy_l, md_sh4_15]
        · rw [la_up_n h15, la_up_n h14, la_up_n h13, la_up_n h12, md_sh4_n h12 h13 h14 h15, md_sh4_n h12 h13 h14 h15]
def md_sh5 (mu : la_M) (m0 b i : Nat) : la_M := la_set (la_set (la_set (la_set (la_set mu (m0 + 6) (va_cpy (mu (m0 + 6)) (mu (m0 + 6)) (40 * b + 1) (40 * b) i)) (m0 + 7) (va_cpy (mu (m0 + 7)) (mu (m0 + 7)) (40 * b + 1) (40 * b) i)) (m0 + 8) (va_cpy (mu (m0 + 8)) (mu (m0 + 8)) (40 * b + 1) (40 * b) i)) (m0 + 9) (va_cpy (mu (m0 + 9)) (mu (m0 + 9)) (40 * b + 1) (40 * b) i)) (m0 + 10) (va_cpy (mu (m0 + 10)) (mu (m0 + 10)) (40 * b + 1) (40 * b) i)
theorem md_sh5_6 {mu : la_M} {m0 b i : Nat} : md_sh5 mu m0 b i (m0 + 6) = va_cpy (mu (m0 + 6)) (mu (m0 + 6)) (40 * b + 1) (40 * b) i := by
  unfold md_sh5
  rw [la_set_n (by omega), la_set_n (by omega), la_set_n (by omega), la_set_n (by omega), la_set_s]
theorem md_sh5_7 {mu : la_M} {m0 b i : Nat} : md_sh5 mu m0 b i (m0 + 7) = va_cpy (mu (m0 + 7)) (mu (m0 + 7)) (40 * b + 1) (40 * b) i := by
  unfold md_sh5
  rw [la_set_n (by omega), la_set_n (by omega), la_set_n (by omega), la_set_s]
theorem md_sh5_8 {mu : la_M} {m0 b i : Nat} : md_sh5 mu m0 b i (m0 + 8) = va_cpy (mu (m0 + 8)) (mu (m0 + 8)) (40 * b + 1) (40 * b) i := by
  unfold md_sh5
  rw [la_set_n (by omega), la_set_n (by omega), la_set_s]
theorem md_sh5_9 {mu : la_M} {m0 b i : Nat} : md_sh5 mu m0 b i (m0 + 9) = va_cpy (mu (m0 + 9)) (mu (m0 + 9)) (40 * b + 1) (40 * b) i := by
  unfold md_sh5
  rw [la_set_n (by omega), la_set_s]
theorem md_sh5_10 {mu : la_M} {m0 b i : Nat} : md_sh5 mu m0 b i (m0 + 10) = va_cpy (mu (m0 + 10)) (mu (m0 + 10)) (40 * b + 1) (40 * b) i := by
  unfold md_sh5
  rw [la_set_s]
theorem md_sh5_n {mu : la_M} {m0 b i z : Nat} (h6 : z ≠ m0 + 6) (h7 : z ≠ m0 + 7) (h8 : z ≠ m0 + 8) (h9 : z ≠ m0 + 9) (h10 : z ≠ m0 + 10) : md_sh5 mu m0 b i z = mu z := by
  unfold md_sh5
  rw [la_set_n h10, la_set_n h9, la_set_n h8, la_set_n h7, la_set_n h6]
theorem md_sh5_0 (mu : la_M) (m0 b : Nat) : md_sh5 mu m0 b 0 = mu := by
  unfold md_sh5
  rw [cpy_0, cpy_0, cpy_0, cpy_0, cpy_0, la_set_id, la_set_id, la_set_id, la_set_id, la_set_id]
theorem md_sh5_s (mu : la_M) (m0 b i : Nat) : (la_up (la_up (la_up (la_up (la_up (md_sh5 mu m0 b i) (m0 + 6) (40 * b + i) (mu (m0 + 6) (40 * b + i + 1))) (m0 + 7) (40 * b + i) (mu (m0 + 7) (40 * b + i + 1))) (m0 + 8) (40 * b + i) (mu (m0 + 8) (40 * b + i + 1))) (m0 + 9) (40 * b + i) (mu (m0 + 9) (40 * b + i + 1))) (m0 + 10) (40 * b + i) (mu (m0 + 10) (40 * b + i + 1))) = md_sh5 mu m0 b (i + 1) := by
  funext z
  by_cases h6 : z = m0 + 6
  · rw [h6, la_up_n (by omega), la_up_n (by omega), la_up_n (by omega), la_up_n (by omega), la_up_at, md_sh5_6, cpy_l, md_sh5_6]
  · skip
    by_cases h7 : z = m0 + 7
    · rw [h7, la_up_n (by omega), la_up_n (by omega), la_up_n (by omega), la_up_at, la_up_n (by omega), md_sh5_7, cpy_l, md_sh5_7]
    · skip
      by_cases h8 : z = m0 + 8
      · rw [h8, la_up_n (by omega), la_up_n (by omega), la_up_at, la_up_n (by omega), la_up_n (by omega), md_sh5_8, cpy_l, md_sh5_8]
      · skip
        by_cases h9 : z = m0 + 9
        · rw [h9, la_up_n (by omega), la_up_at, la_up_n (by omega), la_up_n (by omega), la_up_n (by omega), md_sh5_9, cpy_l, md_sh5_9]
        · skip
          by_cases h10 : z = m0 + 10
          · rw [h10, la_up_at, la_up_n (by omega), la_up_n (by omega), la_up_n (by omega), la_up_n (by omega), md_sh5_10, cpy_l, md_sh5_10]
          · rw [la_up_n h10, la_up_n h9, la_up_n h8, la_up_n h7, la_up_n h6, md_sh5_n h6 h7 h8 h9 h10, md_sh5_n h6 h7 h8 h9 h10]
def md_fgt (mu : la_M) (m0 b o : Nat) : la_M := md_sh4 (la_up mu (m0 + 11) b (nI (o - 1))) m0 b (o - 1)
def md_fgs (mu : la_M) (m0 b o : Nat) : Nat → la_M
  | 0 => mu
  | t + 1 => md_fgt (md_fgs mu m0 b o t) m0 b (o - t)
def md_ft1 (mu : la_M) (m0 K : Nat) : la_M :=
  la_up (la_up (la_up (la_up mu m0 16 (if md_fit (mu m0 16) (mu m0 17) (mu m0 19) (mu (m0 + 12) K) (mu (m0 + 13) K) (mu (m0 + 15) K) < 0 then 2 else mu m0 16)) m0 17 (if md_fit (mu m0 16) (mu m0 17) (mu m0 19) (mu (m0 + 12) K) (mu (m0 + 13) K) (mu (m0 + 15) K) < 0 then 0 else md_fit (mu m0 16) (mu m0 17) (mu m0 19) (mu (m0 + 12) K) (mu (m0 + 13) K) (mu (m0 + 15) K)))
    (m0 + 12) K (if md_fit (mu (m0 + 12) K) (mu (m0 + 13) K) (mu (m0 + 15) K) (mu m0 16) (mu m0 17) (mu m0 19) < 0 then 2 else mu (m0 + 12) K)) (m0 + 13) K (if md_fit (mu (m0 + 12) K) (mu (m0 + 13) K) (mu (m0 + 15) K) (mu m0 16) (mu m0 17) (mu m0 19) < 0 then 0 else md_fit (mu (m0 + 12) K) (mu (m0 + 13) K) (mu (m0 + 15) K) (mu m0 16) (mu m0 17) (mu m0 19))
def md_fts (mu : la_M) (m0 b : Nat) : Nat → la_M
  | 0 => mu
  | t + 1 => md_ft1 (md_fts mu m0 b t) m0 (40 * b + t)
def md_gA (mu : la_M) (m0 L w : Nat) : la_M := la_up (la_up (la_up (la_up (la_up mu m0 16 (mu (m0 + 6) (40 * L))) m0 17 (mu (m0 + 7) (40 * L))) m0 18 (mu (m0 + 8) (40 * L))) m0 19 (mu (m0 + 9) (40 * L))) (m0 + 5) L (nI (w - 1))
def md_g2 (mu : la_M) (m0 L w : Nat) : la_M := md_sh5 (md_gA mu m0 L w) m0 L (w - 1)
def md_g3 (mu : la_M) (m0 L w o d : Nat) : la_M := md_fgs (md_g2 mu m0 L w) m0 (bk L) o d
def md_g4 (mu : la_M) (m0 L w o d : Nat) : la_M := md_fts (md_g3 mu m0 L w o d) m0 (bk L) (o - d)
def md_get (mu : la_M) (m0 L w o d j kd q n cx g : Nat) : la_M := la_up (md_app (md_g4 mu m0 L w o d) m0 j kd q n cx) (m0 + 4) L (nI (g + 1))
theorem md_gA_n {mu : la_M} {m0 L w z : Nat} (h0 : z ≠ m0) (h5 : z ≠ m0 + 5) : md_gA mu m0 L w z = mu z := by
  unfold md_gA
  rw [la_up_n h5, la_up_n h0, la_up_n h0, la_up_n h0, la_up_n h0]
theorem md_fgt_n {mu : la_M} {m0 b o z : Nat} (h11 : z ≠ m0 + 11) (h12 : z ≠ m0 + 12) (h13 : z ≠ m0 + 13) (h14 : z ≠ m0 + 14) (h15 : z ≠ m0 + 15) : md_fgt mu m0 b o z = mu z := by
  unfold md_fgt
  rw [md_sh4_n h12 h13 h14 h15, la_up_n h11]
theorem md_fgs_n {mu : la_M} {m0 b o z : Nat} (h11 : z ≠ m0 + 11) (h12 : z ≠ m0 + 12) (h13 : z ≠ m0 + 13) (h14 : z ≠ m0 + 14) (h15 : z ≠ m0 + 15) : ∀ t, md_fgs mu m0 b o t z = mu z := by
  intro t
  induction t with
  | zero => rfl
  | succ t ih =>
    show md_fgt _ _ _ _ z = _
    rw [md_fgt_n h11 h12 h13 h14 h15]
    exact ih
theorem md_fgs_11 {mu : la_M} {m0 b o : Nat} (h : mu (m0 + 11) b = nI o) : ∀ t, t ≤ o → md_fgs mu m0 b o t (m0 + 11) b = nI (o - t) := by
  intro t
  cases t with
  | zero => intro _; exact h
  | succ t =>
    intro ht
    show md_sh4 _ _ _ _ (m0 + 11) b = _
    rw [md_sh4_n (by omega) (by omega) (by omega) (by omega), la_up_s, Nat.sub_sub]
theorem md_ft1_n {mu : la_M} {m0 K z : Nat} (h0 : z ≠ m0) (h12 : z ≠ m0 + 12) (h13 : z ≠ m0 + 13) : md_ft1 mu m0 K z = mu z := by
  unfold md_ft1
  rw [la_up_n h13, la_up_n h12, la_up_n h0, la_up_n h0]
theorem md_fts_n {mu : la_M} {m0 b z : Nat} (h0 : z ≠ m0) (h12 : z ≠ m0 + 12) (h13 : z ≠ m0 + 13) : ∀ t, md_fts mu m0 b t z = mu z := by
  intro t
  induction t with
  | zero => rfl
  | succ t ih =>
    show md_ft1 _ _ _ z = _
    rw [md_ft1_n h0 h12 h13]
    exact ih
theorem md_app_n {mu : la_M} {m0 j kd q n cx z : Nat} (h1 : z ≠ m0 + 1) (h2 : z ≠ m0 + 2) : md_app mu m0 j kd q n cx z = mu z := by
  unfold md_app
  split
  · rw [la_up_n h1, la_up_n h2, la_set_n h2]
  · split
    · rw [la_set_n h2, la_up_n h1]
    · rfl
set_option maxHeartbeats 4000000 in
set_option maxRecDepth 100000 in
theorem c_Mo_forget (l : Launch) (D : va_G) (E : Nat → ClassId) (La : la_L) {m0 : Nat} (hm : isMo E La m0) (mu : la_M) {b o : Nat} (hb0 : b < 6) (ho : mu (m0 + 11) b = nI o) (ho0 : 0 < o) (ho4 : o < 40) : cw l y_Mo_forget b_Mo_forget 3 none 0 0 D E La [.ref m0, .int (nI b)] mu none (md_fgt mu m0 b o) := by
  refine cw_begin R_Mo (by decide) rfl (Nat.le_of_ble_eq_true rfl) ?_
  intro p e s m below meth c ls Z hr hlocks hP hS hl
  have hx := Z.1
  have hb := Z.2.1
  have hK : va_K D cls5 (tyE E) s := Z.2.2.2.2.2
  have hl : lv_has ls 3 [(0, .ref m0), (1, .int (nI b))] := hl
  have e11 : ∀ i, md_sh4 (la_up mu (m0 + 11) b (nI (o - 1))) m0 b i (m0 + 11) b = nI (o - 1) := fun i => by rw [md_sh4_n (by omega) (by omega) (by omega) (by omega)]; exact la_up_s
  have e12 : ∀ i, md_sh4 (la_up mu (m0 + 11) b (nI (o - 1))) m0 b i (m0 + 12) (40 * b + i + 1) = (la_up mu (m0 + 11) b (nI (o - 1))) (m0 + 12) (40 * b + i + 1) := fun i => by rw [md_sh4_12, pk_cpy_out (by omega)]
  have e13 : ∀ i, md_sh4 (la_up mu (m0 + 11) b (nI (o - 1))) m0 b i (m0 + 13) (40 * b + i + 1) = (la_up mu (m0 + 11) b (nI (o - 1))) (m0 + 13) (40 * b + i + 1) := fun i => by rw [md_sh4_13, pk_cpy_out (by omega)]
  have e14 : ∀ i, md_sh4 (la_up mu (m0 + 11) b (nI (o - 1))) m0 b i (m0 + 14) (40 * b + i + 1) = (la_up mu (m0 + 11) b (nI (o - 1))) (m0 + 14) (40 * b + i + 1) := fun i => by rw [md_sh4_14, pk_cpy_out (by omega)]
  have e15 : ∀ i, md_sh4 (la_up mu (m0 + 11) b (nI (o - 1))) m0 b i (m0 + 15) (40 * b + i + 1) = (la_up mu (m0 + 11) b (nI (o - 1))) (m0 + 15) (40 * b + i + 1) := fun i => by rw [md_sh4_15, pk_cpy_out (by omega)]
  have loop : ∀ (t i : Nat) (H : Heap) (locs : List Loc) (ls : Array Slot), i + t = o - 1 → la_P D cls5 La (md_sh4 (la_up mu (m0 + 11) b (nI (o - 1))) m0 b i) H → va_S (la_A La) s.heap H locs → lv_has ls 3 [(2, .int (nI (40 * b + i))), (0, .ref m0), (1, .int (nI b))] → W p l e (rmm 0 0) s m ([.ref m0, .int (nI b)] : List Value).toArray below meth c H locs 0 0 (MQ below (cw_Q none (la_P D cls5 La (md_fgt mu m0 b o)) (la_A La)) ([.ref m0, .int (nI b)] : List Value).toArray s 0 0 (la_A La)) (F0 m 15 ls []) := by
    intro t
    induction t with
    | zero =>
      intro i H locs ls hi hP hS hl
      have hia : i = o - 1 := by omega
      subst hia
      refine lv_iload_n hx hb d_Mo_forget_15 rfl (lv_at hl 0 rfl) ?_
      refine lv_bipush (v := 40) hx hb d_Mo_forget_16 (by decide) ?_
      refine lv_iload_n hx hb d_Mo_forget_18 rfl (lv_at hl 2 rfl) ?_
      refine lv_imul hx hb d_Mo_forget_19 ?_
      rw [show (40 : Int32) * nI b = nI (40 * b) from pk_mul 40 b]
      refine lv_aload_n hx hb d_Mo_forget_20 rfl (lv_at hl 1 rfl) ?_
      refine g_f (v := .ref (m0 + 11)) Z kc_Mo hP hm.1 rfl 11 (by decide) wl_Mo_41 rfl rfl d_Mo_forget_21 ?_
      refine lv_iload_n hx hb d_Mo_forget_24 rfl (lv_at hl 2 rfl) ?_
      refine la_ialdv (v := (nI (o - 1))) hx hb hK hP 0 hm.2.2.2.2.2.2.2.2.2.2.2.1 rfl rfl b rfl hb0 (by decide) (e11 _) d_Mo_forget_25 ?_
      refine lv_iadd hx hb d_Mo_forget_26 ?_
      rw [nI_add]
      refine lv_icmp_ge (tgt := 92) hx hb d_Mo_forget_27 rfl (fun br27 => ?_) (fun br27 => absurd (nI_le (Nat.le_refl _) (by omega)) br27)
      exact W.vret hx hb hr (fun t ht hW => ⟨rfl, by rw [ht]; exact cvm hP (rfl), hS.F ht⟩) hS.2.2 d_Mo_forget_92
    | succ t ih =>
      intro i H locs ls hi hP hS hl
      refine lv_iload_n hx hb d_Mo_forget_15 rfl (lv_at hl 0 rfl) ?_
      refine lv_bipush (v := 40) hx hb d_Mo_forget_16 (by decide) ?_
      refine lv_iload_n hx hb d_Mo_forget_18 rfl (lv_at hl 2 rfl) ?_
      refine lv_imul hx hb d_Mo_forget_19 ?_
      rw [show (40 : Int32) * nI b = nI (40 * b) from pk_mul 40 b]
      refine lv_aload_n hx hb d_Mo_forget_20 rfl (lv_at hl 1 rfl) ?_
      refine g_f (v := .ref (m0 + 11)) Z kc_Mo hP hm.1 rfl 11 (by decide) wl_Mo_41 rfl rfl d_Mo_forget_21 ?_
      refine lv_iload_n hx hb d_Mo_forget_24 rfl (lv_at hl 2 rfl) ?_
      refine la_ialdv (v := (nI (o - 1))) hx hb hK hP 0 hm.2.2.2.2.2.2.2.2.2.2.2.1 rfl rfl b rfl hb0 (by decide) (e11 _) d_Mo_forget_25 ?_
      refine lv_iadd hx hb d_Mo_forget_26 ?_
      rw [nI_add]
      refine lv_icmp_ge (tgt := 92) hx hb d_Mo_forget_27 rfl (fun br27 => absurd br27 (nI_ge (by omega) (by omega))) (fun br27 => ?_)
      refine lv_aload_n hx hb d_Mo_forget_30 rfl (lv_at hl 1 rfl) ?_
      refine g_f (v := .ref (m0 + 12)) Z kc_Mo hP hm.1 rfl 12 (by decide) wl_Mo_44 rfl rfl d_Mo_forget_31 ?_
      refine lv_iload_n hx hb d_Mo_forget_34 rfl (lv_at hl 0 rfl) ?_
      refine lv_aload_n hx hb d_Mo_forget_35 rfl (lv_at hl 1 rfl) ?_
      refine g_f (v := .ref (m0 + 12)) Z kc_Mo hP hm.1 rfl 12 (by decide) wl_Mo_44 rfl rfl d_Mo_forget_36 ?_
      refine lv_iload_n hx hb d_Mo_forget_39 rfl (lv_at hl 0 rfl) ?_
      refine lv_iconst (v := 1) hx hb d_Mo_forget_40 (by decide) ?_
      refine lv_iadd hx hb d_Mo_forget_41 ?_
      rw [nI_1]
      refine la_ialdv (v := ((la_up mu (m0 + 11) b (nI (o - 1))) (m0 + 12) (40 * b + i + 1))) hx hb hK hP 0 hm.2.2.2.2.2.2.2.2.2.2.2.2.1 rfl rfl (40 * b + i + 1) rfl (by omega) (by decide) (e12 i) d_Mo_forget_42 ?_
      refine la_iast hx hb hK hP hS 0 hm.2.2.2.2.2.2.2.2.2.2.2.2.1 (fun _ => rfl) rfl (40 * b + i) rfl (by omega) (by decide) d_Mo_forget_43 (fun H locs hP hS => ?_)
      refine lv_aload_n hx hb d_Mo_forget_44 rfl (lv_at hl 1 rfl) ?_
      refine g_f (v := .ref (m0 + 13)) Z kc_Mo hP hm.1 rfl 13 (by decide) wl_Mo_47 rfl rfl d_Mo_forget_45 ?_
      refine lv_iload_n hx hb d_Mo_forget_48 rfl (lv_at hl 0 rfl) ?_
      refine lv_aload_n hx hb d_Mo_forget_49 rfl (lv_at hl 1 rfl) ?_
      refine g_f (v := .ref (m0 + 13)) Z kc_Mo hP hm.1 rfl 13 (by decide) wl_Mo_47 rfl rfl d_Mo_forget_50 ?_
      refine lv_iload_n hx hb d_Mo_forget_53 rfl (lv_at hl 0 rfl) ?_
      refine lv_iconst (v := 1) hx hb d_Mo_forget_54 (by decide) ?_
      refine lv_iadd hx hb d_Mo_forget_55 ?_
      rw [nI_1]
      refine la_ialdv (v := ((la_up mu (m0 + 11) b (nI (o - 1))) (m0 + 13) (40 * b + i + 1))) hx hb hK hP 0 hm.2.2.2.2.2.2.2.2.2.2.2.2.2.1 rfl rfl (40 * b + i + 1) rfl (by omega) (by decide) ((congrFun (la_up_n (by omega)) (40 * b + i + 1)).trans (e13 i)) d_Mo_forget_56 ?_
      refine la_iast hx hb hK hP hS 0 hm.2.2.2.2.2.2.2.2.2.2.2.2.2.1 (fun _ => rfl) rfl (40 * b + i) rfl (by omega) (by decide) d_Mo_forget_57 (fun H locs hP hS => ?_)
      refine lv_aload_n hx hb d_Mo_forget_58 rfl (lv_at hl 1 rfl) ?_
      refine g_f (v := .ref (m0 + 14)) Z kc_Mo hP hm.1 rfl 14 (by decide) wl_Mo_50 rfl rfl d_Mo_forget_59 ?_
      refine lv_iload_n hx hb d_Mo_forget_62 rfl (lv_at hl 0 rfl) ?_
      refine lv_aload_n hx hb d_Mo_forget_63 rfl (lv_at hl 1 rfl) ?_
      refine g_f (v := .ref (m0 + 14)) Z kc_Mo hP hm.1 rfl 14 (by decide) wl_Mo_50 rfl rfl d_Mo_forget_64 ?_
      refine lv_iload_n hx hb d_Mo_forget_67 rfl (lv_at hl 0 rfl) ?_
      refine lv_iconst (v := 1) hx hb d_Mo_forget_68 (by decide) ?_
      refine lv_iadd hx hb d_Mo_forget_69 ?_
      rw [nI_1]
      refine la_ialdv (v := ((la_up mu (m0 + 11) b (nI (o - 1))) (m0 + 14) (40 * b + i + 1))) hx hb hK hP 0 hm.2.2.2.2.2.2.2.2.2.2.2.2.2.2.1 rfl rfl (40 * b + i + 1) rfl (by omega) (by decide) (((congrFun (la_up_n (by omega)) (40 * b + i + 1)).trans (congrFun (la_up_n (by omega)) (40 * b + i + 1))).trans (e14 i)) d_Mo_forget_70 ?_
      refine la_iast hx hb hK hP hS 0 hm.2.2.2.2.2.2.2.2.2.2.2.2.2.2.1 (fun _ => rfl) rfl (40 * b + i) rfl (by omega) (by decide) d_Mo_forget_71 (fun H locs hP hS => ?_)
      refine lv_aload_n hx hb d_Mo_forget_72 rfl (lv_at hl 1 rfl) ?_
      refine g_f (v := .ref (m0 + 15)) Z kc_Mo hP hm.1 rfl 15 (by decide) wl_Mo_53 rfl rfl d_Mo_forget_73 ?_
      refine lv_iload_n hx hb d_Mo_forget_76 rfl (lv_at hl 0 rfl) ?_
      refine lv_aload_n hx hb d_Mo_forget_77 rfl (lv_at hl 1 rfl) ?_
      refine g_f (v := .ref (m0 + 15)) Z kc_Mo hP hm.1 rfl 15 (by decide) wl_Mo_53 rfl rfl d_Mo_forget_78 ?_
      refine lv_iload_n hx hb d_Mo_forget_81 rfl (lv_at hl 0 rfl) ?_
      refine lv_iconst (v := 1) hx hb d_Mo_forget_82 (by decide) ?_
      refine lv_iadd hx hb d_Mo_forget_83 ?_
      rw [nI_1]
      refine la_ialdv (v := ((la_up mu (m0 + 11) b (nI (o - 1))) (m0 + 15) (40 * b + i + 1))) hx hb hK hP 0 hm.2.2.2.2.2.2.2.2.2.2.2.2.2.2.2 rfl rfl (40 * b + i + 1) rfl (by omega) (by decide) (((congrFun (la_up_n (by omega)) (40 * b + i + 1)).trans ((congrFun (la_up_n (by omega)) (40 * b + i + 1)).trans (congrFun (la_up_n (by omega)) (40 * b + i + 1)))).trans (e15 i)) d_Mo_forget_84 ?_
      refine la_iast hx hb hK hP hS 0 hm.2.2.2.2.2.2.2.2.2.2.2.2.2.2.2 (fun _ => rfl) rfl (40 * b + i) rfl (by omega) (by decide) d_Mo_forget_85 (fun H locs hP hS => ?_)
      refine lv_iinc (k := 0) (v := (nI (40 * b + (i + 1)))) hx hb d_Mo_forget_86 hl rfl (nI_1 _) (by decide) rfl (fun ls hl => ?_)
      have hl : lv_has ls 3 [(2, .int (nI (40 * b + (i + 1)))), (0, .ref m0), (1, .int (nI b))] := hl
      refine lv_goto (tgt := 15) hx hb d_Mo_forget_89 rfl ?_
      exact ih (i + 1) H locs ls (by omega) (cvm hP (md_sh4_s _ _ _ _)) hS hl
  refine lv_aload_n hx hb d_Mo_forget_0 rfl (lv_at hl 0 rfl) ?_
  refine g_f (v := .ref (m0 + 11)) Z kc_Mo hP hm.1 rfl 11 (by decide) wl_Mo_41 rfl rfl d_Mo_forget_1 ?_
  refine lv_iload_n hx hb d_Mo_forget_4 rfl (lv_at hl 1 rfl) ?_
  refine lv_dup2_11 hx hb d_Mo_forget_5 rfl rfl ?_
  refine la_ialdv (v := (nI o)) hx hb hK hP 0 hm.2.2.2.2.2.2.2.2.2.2.2.1 rfl rfl b rfl hb0 (by decide) ho d_Mo_forget_6 ?_
  refine lv_iconst (v := 1) hx hb d_Mo_forget_7 (by decide) ?_
  refine lv_isub hx hb d_Mo_forget_8 ?_
  rw [nI_s1 (by omega)]
  refine la_iast hx hb hK hP hS 0 hm.2.2.2.2.2.2.2.2.2.2.2.1 (fun _ => rfl) rfl b rfl hb0 (by decide) d_Mo_forget_9 (fun H locs hP hS => ?_)
  refine lv_bipush (v := 40) hx hb d_Mo_forget_10 (by decide) ?_
  refine lv_iload_n hx hb d_Mo_forget_12 rfl (lv_at hl 1 rfl) ?_
  refine lv_imul hx hb d_Mo_forget_13 ?_
  rw [show (40 : Int32) * nI b = nI (40 * b) from pk_mul 40 b]
  refine lv_istore_n hx hb d_Mo_forget_14 rfl hl (by decide) rfl (fun ls hl => ?_)
  have hl : lv_has ls 3 [(2, .int (nI (40 * b))), (0, .ref m0), (1, .int (nI b))] := hl
  exact loop (o - 1) 0 H locs ls (by omega) (cvm hP (md_sh4_0 _ _ _).symm) hS hl
set_option maxHeartbeats 4000000 in
set_option maxRecDepth 100000 in
theorem c_Mo_get (l : Launch) (D : va_G) (E : Nat → ClassId) (La : la_L) {m0 : Nat} (hm : isMo E La m0) (mu : la_M) {L j w0 h0 o0 t0 d0 kd q n cx g : Nat} (hL : L < 6) (hj : j < 4) (hw : mu (m0 + 5) L = nI w0) (hw0 : 0 < w0) (hw4 : w0 < 40) (hh : mu (m0 + 10) (40 * L) = nI h0) (hh3 : h0 < 2 ^ 30) (ho : mu (m0 + 11) (bk L) = nI o0) (ho4 : o0 < 40) (ht : mu (m0 + 3) (bk L) = nI t0) (ht3 : t0 < 2 ^ 30) (hot : o0 ≤ t0) (hd : d0 = max (t0 - o0) h0 - (t0 - o0)) (hdo : d0 ≤ o0) (hg : mu (m0 + 4) L = nI g) (hk : (md_g4 mu m0 L w0 o0 d0) m0 16 = nI kd) (hq : (md_g4 mu m0 L w0 o0 d0) m0 17 = nI q) (hx0 : (md_g4 mu m0 L w0 o0 d0) m0 18 = nI cx) (hcx : cx < 65536) (hn : mu (m0 + 1) j = nI n) (h2 : n ≤ 64) (hz : ∀ i, chz (mu (m0 + 2) i)) (hk3 : kd ≤ 2) (hk0 : kd = 0 → q ≤ n) (hk1 : kd = 1 → q < n) : cw l y_Mo_get b_Mo_get 9 none 1 25 D E La [.ref m0, .int (nI L), .int (nI j)] mu none (md_get mu m0 L w0 o0 d0 j kd q n cx g) := by
  refine cw_begin R_Mo (by decide) rfl (Nat.le_of_ble_eq_true rfl) ?_
  intro p e s m below meth c ls Z hr hlocks hP hS hl
  have hx := Z.1
  have hb := Z.2.1
  have hK : va_K D cls5 (tyE E) s := Z.2.2.2.2.2
  have hl : lv_has ls 9 [(0, .ref m0), (1, .int (nI L)), (2, .int (nI j))] := hl
  have hB := bk_lt hL
  have a2 : ∀ z, z ≠ m0 → z ≠ m0 + 5 → z ≠ m0 + 6 → z ≠ m0 + 7 → z ≠ m0 + 8 → z ≠ m0 + 9 → z ≠ m0 + 10 → (md_g2 mu m0 L w0) z = mu z := fun z z0 z5 z6 z7 z8 z9 z10 => by unfold md_g2; rw [md_sh5_n z6 z7 z8 z9 z10, md_gA_n z0 z5]
  have a3 : ∀ t, md_fgs (md_g2 mu m0 L w0) m0 (bk L) o0 t (m0 + 3) (bk L) = nI t0 := fun t => by rw [md_fgs_n (by omega) (by omega) (by omega) (by omega) (by omega), a2 _ (by omega) (by omega) (by omega) (by omega) (by omega) (by omega) (by omega)]; exact ht
  have a11 : ∀ t, t ≤ o0 → md_fgs (md_g2 mu m0 L w0) m0 (bk L) o0 t (m0 + 11) (bk L) = nI (o0 - t) := md_fgs_11 (by rw [a2 _ (by omega) (by omega) (by omega) (by omega) (by omega) (by omega) (by omega)]; exact ho)
  have b11 : ∀ t, md_fts (md_g3 mu m0 L w0 o0 d0) m0 (bk L) t (m0 + 11) (bk L) = nI (o0 - d0) := fun t => by rw [md_fts_n (by omega) (by omega) (by omega)]; exact a11 d0 hdo
  have c4 : ∀ z, z ≠ m0 → z ≠ m0 + 5 → z ≠ m0 + 6 → z ≠ m0 + 7 → z ≠ m0 + 8 → z ≠ m0 + 9 → z ≠ m0 + 10 → z ≠ m0 + 11 → z ≠ m0 + 12 → z ≠ m0 + 13 → z ≠ m0 + 14 → z ≠ m0 + 15 → (md_g4 mu m0 L w0 o0 d0) z = mu z := fun z z0 z5 z6 z7 z8 z9 z10 z11 z12 z13 z14 z15 => by unfold md_g4; rw [md_fts_n z0 z12 z13]; unfold md_g3; rw [md_fgs_n z11 z12 z13 z14 z15, a2 _ z0 z5 z6 z7 z8 z9 z10]
  have d4 : md_app (md_g4 mu m0 L w0 o0 d0) m0 j kd q n cx (m0 + 4) L = nI g := by rw [md_app_n (by omega) (by omega), c4 _ (by omega) (by omega) (by omega) (by omega) (by omega) (by omega) (by omega) (by omega) (by omega) (by omega) (by omega) (by omega)]; exact hg
  have dn : (md_g4 mu m0 L w0 o0 d0) (m0 + 1) j = nI n := by rw [c4 _ (by omega) (by omega) (by omega) (by omega) (by omega) (by omega) (by omega) (by omega) (by omega) (by omega) (by omega) (by omega)]; exact hn
  have dz : ∀ i, chz ((md_g4 mu m0 L w0 o0 d0) (m0 + 2) i) := fun i => by rw [c4 _ (by omega) (by omega) (by omega) (by omega) (by omega) (by omega) (by omega) (by omega) (by omega) (by omega) (by omega) (by omega)]; exact hz i
  have hApp := c_Mo_apply l D E La hm (md_g4 mu m0 L w0 o0 d0) hj hk hq hx0 hcx dn h2 dz hk3 hk0 hk1
  have loop3 : ∀ (t i : Nat) (H : Heap) (locs : List Loc) (ls : Array Slot), i + t = o0 - d0 → la_P D cls5 La (md_fts (md_g3 mu m0 L w0 o0 d0) m0 (bk L) i) H → va_S (la_A La) s.heap H locs → lv_has ls 9 [(6, .int (nI (40 * bk L + i))), (5, .int (nI (bk L))), (4, .int (nI h0)), (3, .int (nI (40 * L))), (0, .ref m0), (1, .int (nI L)), (2, .int (nI j))] → W p l e (rmm 1 25) s m ([.ref m0, .int (nI L), .int (nI j)] : List Value).toArray below meth c H locs 0 0 (MQ below (cw_Q none (la_P D cls5 La (md_get mu m0 L w0 o0 d0 j kd q n cx g)) (la_A La)) ([.ref m0, .int (nI L), .int (nI j)] : List Value).toArray s 0 0 (la_A La)) (F0 m 217 ls []) := by
    intro t
    induction t with
    | zero =>
      intro i H locs ls hi hP hS hl
      have hia : i = o0 - d0 := by omega
      subst hia
      have hP : la_P D cls5 La (md_g4 mu m0 L w0 o0 d0) H := hP
      refine lv_iload hx hb d_Mo_get_217 (lv_at hl 0 rfl) ?_
      refine lv_bipush (v := 40) hx hb d_Mo_get_219 (by decide) ?_
      refine lv_iload hx hb d_Mo_get_221 (lv_at hl 1 rfl) ?_
      refine lv_imul hx hb d_Mo_get_223 ?_
      rw [show (40 : Int32) * nI (bk L) = nI (40 * (bk L)) from pk_mul 40 (bk L)]
      refine lv_aload_n hx hb d_Mo_get_224 rfl (lv_at hl 4 rfl) ?_
      refine g_f (v := .ref (m0 + 11)) Z kc_Mo hP hm.1 rfl 11 (by decide) wl_Mo_41 rfl rfl d_Mo_get_225 ?_
      refine lv_iload hx hb d_Mo_get_228 (lv_at hl 1 rfl) ?_
      refine la_ialdv (v := (nI (o0 - d0))) hx hb hK hP 0 hm.2.2.2.2.2.2.2.2.2.2.2.1 rfl rfl (bk L) rfl hB (by decide) (b11 _) d_Mo_get_230 ?_
      refine lv_iadd hx hb d_Mo_get_231 ?_
      rw [nI_add]
      refine lv_icmp_ge (tgt := 390) hx hb d_Mo_get_232 rfl (fun br232 => ?_) (fun br232 => absurd (nI_le (Nat.le_refl _) (by omega)) br232)
      refine lv_aload_n hx hb d_Mo_get_390 rfl (lv_at hl 4 rfl) ?_
      refine lv_iload_n hx hb d_Mo_get_391 rfl (lv_at hl 6 rfl) ?_
      refine cw_V Z kv_Mo_84 (hApp) hP hS (fun _ h => h) (la_recv hK hP kc_Mo hm.1 rfl) [] rfl rfl hl.1 (Nat.le_of_ble_eq_true rfl) ⟨by decide, by decide⟩ ⟨Nat.le_refl _, Nat.le_refl _⟩ d_Mo_get_392 (fun H locs hP hkp hS => ?_)
      refine lv_aload_n hx hb d_Mo_get_395 rfl (lv_at hl 4 rfl) ?_
      refine g_f (v := .ref (m0 + 4)) Z kc_Mo hP hm.1 rfl 4 (by decide) wl_Mo_20 rfl rfl d_Mo_get_396 ?_
      refine lv_iload_n hx hb d_Mo_get_399 rfl (lv_at hl 5 rfl) ?_
      refine lv_dup2_11 hx hb d_Mo_get_400 rfl rfl ?_
      refine la_ialdv (v := (nI g)) hx hb hK hP 0 hm.2.2.2.2.1 rfl rfl L rfl hL (by decide) d4 d_Mo_get_401 ?_
      refine lv_iconst (v := 1) hx hb d_Mo_get_402 (by decide) ?_
      refine lv_iadd hx hb d_Mo_get_403 ?_
      rw [nI_1]
      refine la_iast hx hb hK hP hS 0 hm.2.2.2.2.1 (fun _ => rfl) rfl L rfl hL (by decide) d_Mo_get_404 (fun H locs hP hS => ?_)
      exact W.vret hx hb hr (fun t ht hW => ⟨rfl, by rw [ht]; exact cvm hP (rfl), hS.F ht⟩) hS.2.2 d_Mo_get_405
    | succ t ih =>
      intro i H locs ls hi hP hS hl
      refine lv_iload hx hb d_Mo_get_217 (lv_at hl 0 rfl) ?_
      refine lv_bipush (v := 40) hx hb d_Mo_get_219 (by decide) ?_
      refine lv_iload hx hb d_Mo_get_221 (lv_at hl 1 rfl) ?_
      refine lv_imul hx hb d_Mo_get_223 ?_
      rw [show (40 : Int32) * nI (bk L) = nI (40 * (bk L)) from pk_mul 40 (bk L)]
      refine lv_aload_n hx hb d_Mo_get_224 rfl (lv_at hl 4 rfl) ?_
      refine g_f (v := .ref (m0 + 11)) Z kc_Mo hP hm.1 rfl 11 (by decide) wl_Mo_41 rfl rfl d_Mo_get_225 ?_
      refine lv_iload hx hb d_Mo_get_228 (lv_at hl 1 rfl) ?_
      refine la_ialdv (v := (nI (o0 - d0))) hx hb hK hP 0 hm.2.2.2.2.2.2.2.2.2.2.2.1 rfl rfl (bk L) rfl hB (by decide) (b11 _) d_Mo_get_230 ?_
      refine lv_iadd hx hb d_Mo_get_231 ?_
      rw [nI_add]
      refine lv_icmp_ge (tgt := 390) hx hb d_Mo_get_232 rfl (fun br232 => absurd br232 (nI_ge (by omega) (by omega))) (fun br232 => ?_)
      refine lv_aload_n hx hb d_Mo_get_235 rfl (lv_at hl 4 rfl) ?_
      refine g_f Z kc_Mo hP hm.1 rfl 16 (by decide) wl_Mo_60 rfl rfl d_Mo_get_236 ?_
      refine lv_aload_n hx hb d_Mo_get_239 rfl (lv_at hl 4 rfl) ?_
      refine g_f Z kc_Mo hP hm.1 rfl 17 (by decide) wl_Mo_63 rfl rfl d_Mo_get_240 ?_
      refine lv_aload_n hx hb d_Mo_get_243 rfl (lv_at hl 4 rfl) ?_
      refine g_f Z kc_Mo hP hm.1 rfl 19 (by decide) wl_Mo_69 rfl rfl d_Mo_get_244 ?_
      refine lv_aload_n hx hb d_Mo_get_247 rfl (lv_at hl 4 rfl) ?_
      refine g_f (v := .ref (m0 + 12)) Z kc_Mo hP hm.1 rfl 12 (by decide) wl_Mo_44 rfl rfl d_Mo_get_248 ?_
      refine lv_iload hx hb d_Mo_get_251 (lv_at hl 0 rfl) ?_
      refine la_iald hx hb hK hP 0 hm.2.2.2.2.2.2.2.2.2.2.2.2.1 rfl rfl (40 * bk L + i) rfl (by omega) (by decide) d_Mo_get_253 ?_
      refine lv_aload_n hx hb d_Mo_get_254 rfl (lv_at hl 4 rfl) ?_
      refine g_f (v := .ref (m0 + 13)) Z kc_Mo hP hm.1 rfl 13 (by decide) wl_Mo_47 rfl rfl d_Mo_get_255 ?_
      refine lv_iload hx hb d_Mo_get_258 (lv_at hl 0 rfl) ?_
      refine la_iald hx hb hK hP 0 hm.2.2.2.2.2.2.2.2.2.2.2.2.2.1 rfl rfl (40 * bk L + i) rfl (by omega) (by decide) d_Mo_get_260 ?_
      refine lv_aload_n hx hb d_Mo_get_261 rfl (lv_at hl 4 rfl) ?_
      refine g_f (v := .ref (m0 + 15)) Z kc_Mo hP hm.1 rfl 15 (by decide) wl_Mo_53 rfl rfl d_Mo_get_262 ?_
      refine lv_iload hx hb d_Mo_get_265 (lv_at hl 0 rfl) ?_
      refine la_iald hx hb hK hP 0 hm.2.2.2.2.2.2.2.2.2.2.2.2.2.2.2 rfl rfl (40 * bk L + i) rfl (by omega) (by decide) d_Mo_get_267 ?_
      refine cr_S Z ks_Mo_80 (c_Mo_fitted l D E La (md_fts (md_g3 mu m0 L w0 o0 d0) m0 (bk L) i) ((md_fts (md_g3 mu m0 L w0 o0 d0) m0 (bk L) i) m0 16) ((md_fts (md_g3 mu m0 L w0 o0 d0) m0 (bk L) i) m0 17) ((md_fts (md_g3 mu m0 L w0 o0 d0) m0 (bk L) i) m0 19) ((md_fts (md_g3 mu m0 L w0 o0 d0) m0 (bk L) i) (m0 + 12) (40 * bk L + i)) ((md_fts (md_g3 mu m0 L w0 o0 d0) m0 (bk L) i) (m0 + 13) (40 * bk L + i)) ((md_fts (md_g3 mu m0 L w0 o0 d0) m0 (bk L) i) (m0 + 15) (40 * bk L + i))) hP [] rfl rfl hl.1 (Nat.le_of_ble_eq_true rfl) ⟨by decide, by decide⟩ ⟨Nat.le_refl _, Nat.le_refl _⟩ d_Mo_get_268 ?_
      refine lv_istore hx hb d_Mo_get_271 hl (by decide) rfl (fun ls hl => ?_)
      have hl : lv_has ls 9 [(7, .int (md_fit ((md_fts (md_g3 mu m0 L w0 o0 d0) m0 (bk L) i) m0 16) ((md_fts (md_g3 mu m0 L w0 o0 d0) m0 (bk L) i) m0 17) ((md_fts (md_g3 mu m0 L w0 o0 d0) m0 (bk L) i) m0 19) ((md_fts (md_g3 mu m0 L w0 o0 d0) m0 (bk L) i) (m0 + 12) (40 * bk L + i)) ((md_fts (md_g3 mu m0 L w0 o0 d0) m0 (bk L) i) (m0 + 13) (40 * bk L + i)) ((md_fts (md_g3 mu m0 L w0 o0 d0) m0 (bk L) i) (m0 + 15) (40 * bk L + i)))), (6, .int (nI (40 * bk L + i))), (5, .int (nI (bk L))), (4, .int (nI h0)), (3, .int (nI (40 * L))), (0, .ref m0), (1, .int (nI L)), (2, .int (nI j))] := hl
      refine lv_aload_n hx hb d_Mo_get_273 rfl (lv_at hl 5 rfl) ?_
      refine g_f (v := .ref (m0 + 12)) Z kc_Mo hP hm.1 rfl 12 (by decide) wl_Mo_44 rfl rfl d_Mo_get_274 ?_
      refine lv_iload hx hb d_Mo_get_277 (lv_at hl 1 rfl) ?_
      refine la_iald hx hb hK hP 0 hm.2.2.2.2.2.2.2.2.2.2.2.2.1 rfl rfl (40 * bk L + i) rfl (by omega) (by decide) d_Mo_get_279 ?_
      refine lv_aload_n hx hb d_Mo_get_280 rfl (lv_at hl 5 rfl) ?_
      refine g_f (v := .ref (m0 + 13)) Z kc_Mo hP hm.1 rfl 13 (by decide) wl_Mo_47 rfl rfl d_Mo_get_281 ?_
      refine lv_iload hx hb d_Mo_get_284 (lv_at hl 1 rfl) ?_
      refine la_iald hx hb hK hP 0 hm.2.2.2.2.2.2.2.2.2.2.2.2.2.1 rfl rfl (40 * bk L + i) rfl (by omega) (by decide) d_Mo_get_286 ?_
      refine lv_aload_n hx hb d_Mo_get_287 rfl (lv_at hl 5 rfl) ?_
      refine g_f (v := .ref (m0 + 15)) Z kc_Mo hP hm.1 rfl 15 (by decide) wl_Mo_53 rfl rfl d_Mo_get_288 ?_
      refine lv_iload hx hb d_Mo_get_291 (lv_at hl 1 rfl) ?_
      refine la_iald hx hb hK hP 0 hm.2.2.2.2.2.2.2.2.2.2.2.2.2.2.2 rfl rfl (40 * bk L + i) rfl (by omega) (by decide) d_Mo_get_293 ?_
      refine lv_aload_n hx hb d_Mo_get_294 rfl (lv_at hl 5 rfl) ?_
      refine g_f Z kc_Mo hP hm.1 rfl 16 (by decide) wl_Mo_60 rfl rfl d_Mo_get_295 ?_
      refine lv_aload_n hx hb d_Mo_get_298 rfl (lv_at hl 5 rfl) ?_
      refine g_f Z kc_Mo hP hm.1 rfl 17 (by decide) wl_Mo_63 rfl rfl d_Mo_get_299 ?_
      refine lv_aload_n hx hb d_Mo_get_302 rfl (lv_at hl 5 rfl) ?_
      refine g_f Z kc_Mo hP hm.1 rfl 19 (by decide) wl_Mo_69 rfl rfl d_Mo_get_303 ?_
      refine cr_S Z ks_Mo_80 (c_Mo_fitted l D E La (md_fts (md_g3 mu m0 L w0 o0 d0) m0 (bk L) i) ((md_fts (md_g3 mu m0 L w0 o0 d0) m0 (bk L) i) (m0 + 12) (40 * bk L + i)) ((md_fts (md_g3 mu m0 L w0 o0 d0) m0 (bk L) i) (m0 + 13) (40 * bk L + i)) ((md_fts (md_g3 mu m0 L w0 o0 d0) m0 (bk L) i) (m0 + 15) (40 * bk L + i)) ((md_fts (md_g3 mu m0 L w0 o0 d0) m0 (bk L) i) m0 16) ((md_fts (md_g3 mu m0 L w0 o0 d0) m0 (bk L) i) m0 17) ((md_fts (md_g3 mu m0 L w0 o0 d0) m0 (bk L) i) m0 19)) hP [] rfl rfl hl.1 (Nat.le_of_ble_eq_true rfl) ⟨by decide, by decide⟩ ⟨Nat.le_refl _, Nat.le_refl _⟩ d_Mo_get_306 ?_
      refine lv_istore hx hb d_Mo_get_309 hl (by decide) rfl (fun ls hl => ?_)
      have hl : lv_has ls 9 [(8, .int (md_fit ((md_fts (md_g3 mu m0 L w0 o0 d0) m0 (bk L) i) (m0 + 12) (40 * bk L + i)) ((md_fts (md_g3 mu m0 L w0 o0 d0) m0 (bk L) i) (m0 + 13) (40 * bk L + i)) ((md_fts (md_g3 mu m0 L w0 o0 d0) m0 (bk L) i) (m0 + 15) (40 * bk L + i)) ((md_fts (md_g3 mu m0 L w0 o0 d0) m0 (bk L) i) m0 16) ((md_fts (md_g3 mu m0 L w0 o0 d0) m0 (bk L) i) m0 17) ((md_fts (md_g3 mu m0 L w0 o0 d0) m0 (bk L) i) m0 19))), (7, .int (md_fit ((md_fts (md_g3 mu m0 L w0 o0 d0) m0 (bk L) i) m0 16) ((md_fts (md_g3 mu m0 L w0 o0 d0) m0 (bk L) i) m0 17) ((md_fts (md_g3 mu m0 L w0 o0 d0) m0 (bk L) i) m0 19) ((md_fts (md_g3 mu m0 L w0 o0 d0) m0 (bk L) i) (m0 + 12) (40 * bk L + i)) ((md_fts (md_g3 mu m0 L w0 o0 d0) m0 (bk L) i) (m0 + 13) (40 * bk L + i)) ((md_fts (md_g3 mu m0 L w0 o0 d0) m0 (bk L) i) (m0 + 15) (40 * bk L + i)))), (6, .int (nI (40 * bk L + i))), (5, .int (nI (bk L))), (4, .int (nI h0)), (3, .int (nI (40 * L))), (0, .ref m0), (1, .int (nI L)), (2, .int (nI j))] := hl
      refine lv_aload_n hx hb d_Mo_get_311 rfl (lv_at hl 6 rfl) ?_
      refine lv_iload hx hb d_Mo_get_312 (lv_at hl 1 rfl) ?_
      refine lv_if_ge (tgt := 321) hx hb d_Mo_get_314 rfl (fun br314 => ?_) (fun br314 => ?_)
      · skip
        refine lv_aload_n hx hb d_Mo_get_321 rfl (lv_at hl 6 rfl) ?_
        refine g_f Z kc_Mo hP hm.1 rfl 16 (by decide) wl_Mo_60 rfl rfl d_Mo_get_322 ?_
        refine p_f Z kc_Mo hP hS hm.1 rfl 16 (by decide) wl_Mo_60 rfl rfl ⟨rfl, rfl⟩ (Nat.le_of_ble_eq_true rfl) rfl d_Mo_get_325 (fun H locs hP hS => ?_)
        refine lv_aload_n hx hb d_Mo_get_328 rfl (lv_at hl 6 rfl) ?_
        refine lv_iload hx hb d_Mo_get_329 (lv_at hl 1 rfl) ?_
        refine lv_if_ge (tgt := 338) hx hb d_Mo_get_331 rfl (fun br331 => ?_) (fun br331 => absurd (br314) br331)
        refine lv_iload hx hb d_Mo_get_338 (lv_at hl 1 rfl) ?_
        refine p_f Z kc_Mo hP hS hm.1 rfl 17 (by decide) wl_Mo_63 rfl rfl ⟨rfl, rfl⟩ (Nat.le_of_ble_eq_true rfl) rfl d_Mo_get_340 (fun H locs hP hS => ?_)
        refine lv_aload_n hx hb d_Mo_get_343 rfl (lv_at hl 6 rfl) ?_
        refine g_f (v := .ref (m0 + 12)) Z kc_Mo hP hm.1 rfl 12 (by decide) wl_Mo_44 rfl rfl d_Mo_get_344 ?_
        refine lv_iload hx hb d_Mo_get_347 (lv_at hl 2 rfl) ?_
        refine lv_iload hx hb d_Mo_get_349 (lv_at hl 0 rfl) ?_
        refine lv_if_ge (tgt := 358) hx hb d_Mo_get_351 rfl (fun br351 => ?_) (fun br351 => ?_)
        · skip
          refine lv_aload_n hx hb d_Mo_get_358 rfl (lv_at hl 6 rfl) ?_
          refine g_f (v := .ref (m0 + 12)) Z kc_Mo hP hm.1 rfl 12 (by decide) wl_Mo_44 rfl rfl d_Mo_get_359 ?_
          refine lv_iload hx hb d_Mo_get_362 (lv_at hl 2 rfl) ?_
          refine la_ialdv (v := ((md_fts (md_g3 mu m0 L w0 o0 d0) m0 (bk L) i) (m0 + 12) (40 * bk L + i))) hx hb hK hP 0 hm.2.2.2.2.2.2.2.2.2.2.2.2.1 rfl rfl (40 * bk L + i) rfl (by omega) (by decide) ((congrFun (la_up_n (by omega)) (40 * bk L + i)).trans (congrFun (la_up_n (by omega)) (40 * bk L + i))) d_Mo_get_364 ?_
          refine la_iast hx hb hK hP hS 0 hm.2.2.2.2.2.2.2.2.2.2.2.2.1 (fun _ => rfl) rfl (40 * bk L + i) rfl (by omega) (by decide) d_Mo_get_365 (fun H locs hP hS => ?_)
          refine lv_aload_n hx hb d_Mo_get_366 rfl (lv_at hl 6 rfl) ?_
          refine g_f (v := .ref (m0 + 13)) Z kc_Mo hP hm.1 rfl 13 (by decide) wl_Mo_47 rfl rfl d_Mo_get_367 ?_
          refine lv_iload hx hb d_Mo_get_370 (lv_at hl 2 rfl) ?_
          refine lv_iload hx hb d_Mo_get_372 (lv_at hl 0 rfl) ?_
          refine lv_if_ge (tgt := 381) hx hb d_Mo_get_374 rfl (fun br374 => ?_) (fun br374 => absurd (br351) br374)
          refine lv_iload hx hb d_Mo_get_381 (lv_at hl 0 rfl) ?_
          refine la_iast hx hb hK hP hS 0 hm.2.2.2.2.2.2.2.2.2.2.2.2.2.1 (fun _ => rfl) rfl (40 * bk L + i) rfl (by omega) (by decide) d_Mo_get_383 (fun H locs hP hS => ?_)
          refine lv_iinc (k := 2) (v := (nI (40 * bk L + (i + 1)))) hx hb d_Mo_get_384 hl rfl (nI_1 _) (by decide) rfl (fun ls hl => ?_)
          have hl : lv_has ls 9 [(6, .int (nI (40 * bk L + (i + 1)))), (8, .int (md_fit ((md_fts (md_g3 mu m0 L w0 o0 d0) m0 (bk L) i) (m0 + 12) (40 * bk L + i)) ((md_fts (md_g3 mu m0 L w0 o0 d0) m0 (bk L) i) (m0 + 13) (40 * bk L + i)) ((md_fts (md_g3 mu m0 L w0 o0 d0) m0 (bk L) i) (m0 + 15) (40 * bk L + i)) ((md_fts (md_g3 mu m0 L w0 o0 d0) m0 (bk L) i) m0 16) ((md_fts (md_g3 mu m0 L w0 o0 d0) m0 (bk L) i) m0 17) ((md_fts (md_g3 mu m0 L w0 o0 d0) m0 (bk L) i) m0 19))), (7, .int (md_fit ((md_fts (md_g3 mu m0 L w0 o0 d0) m0 (bk L) i) m0 16) ((md_fts (md_g3 mu m0 L w0 o0 d0) m0 (bk L) i) m0 17) ((md_fts (md_g3 mu m0 L w0 o0 d0) m0 (bk L) i) m0 19) ((md_fts (md_g3 mu m0 L w0 o0 d0) m0 (bk L) i) (m0 + 12) (40 * bk L + i)) ((md_fts (md_g3 mu m0 L w0 o0 d0) m0 (bk L) i) (m0 + 13) (40 * bk L + i)) ((md_fts (md_g3 mu m0 L w0 o0 d0) m0 (bk L) i) (m0 + 15) (40 * bk L + i)))), (5, .int (nI (bk L))), (4, .int (nI h0)), (3, .int (nI (40 * L))), (0, .ref m0), (1, .int (nI L)), (2, .int (nI j))] := hl
          refine lv_goto (tgt := 217) hx hb d_Mo_get_387 rfl ?_
          exact ih (i + 1) H locs ls (by omega) (cvm hP (by simp [md_fts, md_ft1, (Int32.not_lt.mpr br314), (Int32.not_lt.mpr br351)])) hS (lv_sub hl [0, 3, 4, 5, 6, 7, 8] rfl)
        · skip
          refine lv_iconst (v := 2) hx hb d_Mo_get_354 (by decide) ?_
          refine lv_goto (tgt := 365) hx hb d_Mo_get_355 rfl ?_
          refine la_iast hx hb hK hP hS 0 hm.2.2.2.2.2.2.2.2.2.2.2.2.1 (fun _ => rfl) rfl (40 * bk L + i) rfl (by omega) (by decide) d_Mo_get_365 (fun H locs hP hS => ?_)
          refine lv_aload_n hx hb d_Mo_get_366 rfl (lv_at hl 6 rfl) ?_
          refine g_f (v := .ref (m0 + 13)) Z kc_Mo hP hm.1 rfl 13 (by decide) wl_Mo_47 rfl rfl d_Mo_get_367 ?_
          refine lv_iload hx hb d_Mo_get_370 (lv_at hl 2 rfl) ?_
          refine lv_iload hx hb d_Mo_get_372 (lv_at hl 0 rfl) ?_
          refine lv_if_ge (tgt := 381) hx hb d_Mo_get_374 rfl (fun br374 => absurd br374 (br351)) (fun br374 => ?_)
          refine lv_iconst (v := 0) hx hb d_Mo_get_377 (by decide) ?_
          refine lv_goto (tgt := 383) hx hb d_Mo_get_378 rfl ?_
          refine la_iast hx hb hK hP hS 0 hm.2.2.2.2.2.2.2.2.2.2.2.2.2.1 (fun _ => rfl) rfl (40 * bk L + i) rfl (by omega) (by decide) d_Mo_get_383 (fun H locs hP hS => ?_)
          refine lv_iinc (k := 2) (v := (nI (40 * bk L + (i + 1)))) hx hb d_Mo_get_384 hl rfl (nI_1 _) (by decide) rfl (fun ls hl => ?_)
          have hl : lv_has ls 9 [(6, .int (nI (40 * bk L + (i + 1)))), (8, .int (md_fit ((md_fts (md_g3 mu m0 L w0 o0 d0) m0 (bk L) i) (m0 + 12) (40 * bk L + i)) ((md_fts (md_g3 mu m0 L w0 o0 d0) m0 (bk L) i) (m0 + 13) (40 * bk L + i)) ((md_fts (md_g3 mu m0 L w0 o0 d0) m0 (bk L) i) (m0 + 15) (40 * bk L + i)) ((md_fts (md_g3 mu m0 L w0 o0 d0) m0 (bk L) i) m0 16) ((md_fts (md_g3 mu m0 L w0 o0 d0) m0 (bk L) i) m0 17) ((md_fts (md_g3 mu m0 L w0 o0 d0) m0 (bk L) i) m0 19))), (7, .int (md_fit ((md_fts (md_g3 mu m0 L w0 o0 d0) m0 (bk L) i) m0 16) ((md_fts (md_g3 mu m0 L w0 o0 d0) m0 (bk L) i) m0 17) ((md_fts (md_g3 mu m0 L w0 o0 d0) m0 (bk L) i) m0 19) ((md_fts (md_g3 mu m0 L w0 o0 d0) m0 (bk L) i) (m0 + 12) (40 * bk L + i)) ((md_fts (md_g3 mu m0 L w0 o0 d0) m0 (bk L) i) (m0 + 13) (40 * bk L + i)) ((md_fts (md_g3 mu m0 L w0 o0 d0) m0 (bk L) i) (m0 + 15) (40 * bk L + i)))), (5, .int (nI (bk L))), (4, .int (nI h0)), (3, .int (nI (40 * L))), (0, .ref m0), (1, .int (nI L)), (2, .int (nI j))] := hl
          refine lv_goto (tgt := 217) hx hb d_Mo_get_387 rfl ?_
          exact ih (i + 1) H locs ls (by omega) (cvm hP (by simp [md_fts, md_ft1, (Int32.not_lt.mpr br314), (Int32.not_le.mp br351)])) hS (lv_sub hl [0, 3, 4, 5, 6, 7, 8] rfl)
      · skip
        refine lv_iconst (v := 2) hx hb d_Mo_get_317 (by decide) ?_
        refine lv_goto (tgt := 325) hx hb d_Mo_get_318 rfl ?_
        refine p_f Z kc_Mo hP hS hm.1 rfl 16 (by decide) wl_Mo_60 rfl rfl ⟨rfl, rfl⟩ (Nat.le_of_ble_eq_true rfl) rfl d_Mo_get_325 (fun H locs hP hS => ?_)
        refine lv_aload_n hx hb d_Mo_get_328 rfl (lv_at hl 6 rfl) ?_
        refine lv_iload hx hb d_Mo_get_329 (lv_at hl 1 rfl) ?_
        refine lv_if_ge (tgt := 338) hx hb d_Mo_get_331 rfl (fun br331 => absurd br331 (br314)) (fun br331 => ?_)
        refine lv_iconst (v := 0) hx hb d_Mo_get_334 (by decide) ?_
        refine lv_goto (tgt := 340) hx hb d_Mo_get_335 rfl ?_
        refine p_f Z kc_Mo hP hS hm.1 rfl 17 (by decide) wl_Mo_63 rfl rfl ⟨rfl, rfl⟩ (Nat.le_of_ble_eq_true rfl) rfl d_Mo_get_340 (fun H locs hP hS => ?_)
        refine lv_aload_n hx hb d_Mo_get_343 rfl (lv_at hl 6 rfl) ?_
        refine g_f (v := .ref (m0 + 12)) Z kc_Mo hP hm.1 rfl 12 (by decide) wl_Mo_44 rfl rfl d_Mo_get_344 ?_
        refine lv_iload hx hb d_Mo_get_347 (lv_at hl 2 rfl) ?_
        refine lv_iload hx hb d_Mo_get_349 (lv_at hl 0 rfl) ?_
        refine lv_if_ge (tgt := 358) hx hb d_Mo_get_351 rfl (fun br351 => ?_) (fun br351 => ?_)
        · skip
          refine lv_aload_n hx hb d_Mo_get_358 rfl (lv_at hl 6 rfl) ?_
          refine g_f (v := .ref (m0 + 12)) Z kc_Mo hP hm.1 rfl 12 (by decide) wl_Mo_44 rfl rfl d_Mo_get_359 ?_
          refine lv_iload hx hb d_Mo_get_362 (lv_at hl 2 rfl) ?_
          refine la_ialdv (v := ((md_fts (md_g3 mu m0 L w0 o0 d0) m0 (bk L) i) (m0 + 12) (40 * bk L + i))) hx hb hK hP 0 hm.2.2.2.2.2.2.2.2.2.2.2.2.1 rfl rfl (40 * bk L + i) rfl (by omega) (by decide) ((congrFun (la_up_n (by omega)) (40 * bk L + i)).trans (congrFun (la_up_n (by omega)) (40 * bk L + i))) d_Mo_get_364 ?_
          refine la_iast hx hb hK hP hS 0 hm.2.2.2.2.2.2.2.2.2.2.2.2.1 (fun _ => rfl) rfl (40 * bk L + i) rfl (by omega) (by decide) d_Mo_get_365 (fun H locs hP hS => ?_)
          refine lv_aload_n hx hb d_Mo_get_366 rfl (lv_at hl 6 rfl) ?_
          refine g_f (v := .ref (m0 + 13)) Z kc_Mo hP hm.1 rfl 13 (by decide) wl_Mo_47 rfl rfl d_Mo_get_367 ?_
          refine lv_iload hx hb d_Mo_get_370 (lv_at hl 2 rfl) ?_
          refine lv_iload hx hb d_Mo_get_372 (lv_at hl 0 rfl) ?_
          refine lv_if_ge (tgt := 381) hx hb d_Mo_get_374 rfl (fun br374 => ?_) (fun br374 => absurd (br351) br374)
          refine lv_iload hx hb d_Mo_get_381 (lv_at hl 0 rfl) ?_
          refine la_iast hx hb hK hP hS 0 hm.2.2.2.2.2.2.2.2.2.2.2.2.2.1 (fun _ => rfl) rfl (40 * bk L + i) rfl (by omega) (by decide) d_Mo_get_383 (fun H locs hP hS => ?_)
          refine lv_iinc (k := 2) (v := (nI (40 * bk L + (i + 1)))) hx hb d_Mo_get_384 hl rfl (nI_1 _) (by decide) rfl (fun ls hl => ?_)
          have hl : lv_has ls 9 [(6, .int (nI (40 * bk L + (i + 1)))), (8, .int (md_fit ((md_fts (md_g3 mu m0 L w0 o0 d0) m0 (bk L) i) (m0 + 12) (40 * bk L + i)) ((md_fts (md_g3 mu m0 L w0 o0 d0) m0 (bk L) i) (m0 + 13) (40 * bk L + i)) ((md_fts (md_g3 mu m0 L w0 o0 d0) m0 (bk L) i) (m0 + 15) (40 * bk L + i)) ((md_fts (md_g3 mu m0 L w0 o0 d0) m0 (bk L) i) m0 16) ((md_fts (md_g3 mu m0 L w0 o0 d0) m0 (bk L) i) m0 17) ((md_fts (md_g3 mu m0 L w0 o0 d0) m0 (bk L) i) m0 19))), (7, .int (md_fit ((md_fts (md_g3 mu m0 L w0 o0 d0) m0 (bk L) i) m0 16) ((md_fts (md_g3 mu m0 L w0 o0 d0) m0 (bk L) i) m0 17) ((md_fts (md_g3 mu m0 L w0 o0 d0) m0 (bk L) i) m0 19) ((md_fts (md_g3 mu m0 L w0 o0 d0) m0 (bk L) i) (m0 + 12) (40 * bk L + i)) ((md_fts (md_g3 mu m0 L w0 o0 d0) m0 (bk L) i) (m0 + 13) (40 * bk L + i)) ((md_fts (md_g3 mu m0 L w0 o0 d0) m0 (bk L) i) (m0 + 15) (40 * bk L + i)))), (5, .int (nI (bk L))), (4, .int (nI h0)), (3, .int (nI (40 * L))), (0, .ref m0), (1, .int (nI L)), (2, .int (nI j))] := hl
          refine lv_goto (tgt := 217) hx hb d_Mo_get_387 rfl ?_
          exact ih (i + 1) H locs ls (by omega) (cvm hP (by simp [md_fts, md_ft1, (Int32.not_le.mp br314), (Int32.not_lt.mpr br351)])) hS (lv_sub hl [0, 3, 4, 5, 6, 7, 8] rfl)
        · skip
          refine lv_iconst (v := 2) hx hb d_Mo_get_354 (by decide) ?_
          refine lv_goto (tgt := 365) hx hb d_Mo_get_355 rfl ?_
          refine la_iast hx hb hK hP hS 0 hm.2.2.2.2.2.2.2.2.2.2.2.2.1 (fun _ => rfl) rfl (40 * bk L + i) rfl (by omega) (by decide) d_Mo_get_365 (fun H locs hP hS => ?_)
          refine lv_aload_n hx hb d_Mo_get_366 rfl (lv_at hl 6 rfl) ?_
          refine g_f (v := .ref (m0 + 13)) Z kc_Mo hP hm.1 rfl 13 (by decide) wl_Mo_47 rfl rfl d_Mo_get_367 ?_
          refine lv_iload hx hb d_Mo_get_370 (lv_at hl 2 rfl) ?_
          refine lv_iload hx hb d_Mo_get_372 (lv_at hl 0 rfl) ?_
          refine lv_if_ge (tgt := 381) hx hb d_Mo_get_374 rfl (fun br374 => absurd br374 (br351)) (fun br374 => ?_)
          refine lv_iconst (v := 0) hx hb d_Mo_get_377 (by decide) ?_
          refine lv_goto (tgt := 383) hx hb d_Mo_get_378 rfl ?_
          refine la_iast hx hb hK hP hS 0 hm.2.2.2.2.2.2.2.2.2.2.2.2.2.1 (fun _ => rfl) rfl (40 * bk L + i) rfl (by omega) (by decide) d_Mo_get_383 (fun H locs hP hS => ?_)
          refine lv_iinc (k := 2) (v := (nI (40 * bk L + (i + 1)))) hx hb d_Mo_get_384 hl rfl (nI_1 _) (by decide) rfl (fun ls hl => ?_)
          have hl : lv_has ls 9 [(6, .int (nI (40 * bk L + (i + 1)))), (8, .int (md_fit ((md_fts (md_g3 mu m0 L w0 o0 d0) m0 (bk L) i) (m0 + 12) (40 * bk L + i)) ((md_fts (md_g3 mu m0 L w0 o0 d0) m0 (bk L) i) (m0 + 13) (40 * bk L + i)) ((md_fts (md_g3 mu m0 L w0 o0 d0) m0 (bk L) i) (m0 + 15) (40 * bk L + i)) ((md_fts (md_g3 mu m0 L w0 o0 d0) m0 (bk L) i) m0 16) ((md_fts (md_g3 mu m0 L w0 o0 d0) m0 (bk L) i) m0 17) ((md_fts (md_g3 mu m0 L w0 o0 d0) m0 (bk L) i) m0 19))), (7, .int (md_fit ((md_fts (md_g3 mu m0 L w0 o0 d0) m0 (bk L) i) m0 16) ((md_fts (md_g3 mu m0 L w0 o0 d0) m0 (bk L) i) m0 17) ((md_fts (md_g3 mu m0 L w0 o0 d0) m0 (bk L) i) m0 19) ((md_fts (md_g3 mu m0 L w0 o0 d0) m0 (bk L) i) (m0 + 12) (40 * bk L + i)) ((md_fts (md_g3 mu m0 L w0 o0 d0) m0 (bk L) i) (m0 + 13) (40 * bk L + i)) ((md_fts (md_g3 mu m0 L w0 o0 d0) m0 (bk L) i) (m0 + 15) (40 * bk L + i)))), (5, .int (nI (bk L))), (4, .int (nI h0)), (3, .int (nI (40 * L))), (0, .ref m0), (1, .int (nI L)), (2, .int (nI j))] := hl
          refine lv_goto (tgt := 217) hx hb d_Mo_get_387 rfl ?_
          exact ih (i + 1) H locs ls (by omega) (cvm hP (by simp [md_fts, md_ft1, (Int32.not_le.mp br314), (Int32.not_le.mp br351)])) hS (lv_sub hl [0, 3, 4, 5, 6, 7, 8] rfl)
  have loop2 : ∀ (t i : Nat) (H : Heap) (locs : List Loc) (ls : Array Slot), i + t = d0 → la_P D cls5 La (md_fgs (md_g2 mu m0 L w0) m0 (bk L) o0 i) H → va_S (la_A La) s.heap H locs → lv_has ls 9 [(5, .int (nI (bk L))), (4, .int (nI h0)), (3, .int (nI (40 * L))), (0, .ref m0), (1, .int (nI L)), (2, .int (nI j))] → W p l e (rmm 1 25) s m ([.ref m0, .int (nI L), .int (nI j)] : List Value).toArray below meth c H locs 0 0 (MQ below (cw_Q none (la_P D cls5 La (md_get mu m0 L w0 o0 d0 j kd q n cx g)) (la_A La)) ([.ref m0, .int (nI L), .int (nI j)] : List Value).toArray s 0 0 (la_A La)) (F0 m 171 ls []) := by
    intro t
    induction t with
    | zero =>
      intro i H locs ls hi hP hS hl
      have hia : i = d0 := by omega
      subst hia
      refine lv_aload_n hx hb d_Mo_get_171 rfl (lv_at hl 3 rfl) ?_
      refine g_f (v := .ref (m0 + 11)) Z kc_Mo hP hm.1 rfl 11 (by decide) wl_Mo_41 rfl rfl d_Mo_get_172 ?_
      refine lv_iload hx hb d_Mo_get_175 (lv_at hl 0 rfl) ?_
      refine la_ialdv (v := (nI (o0 - i))) hx hb hK hP 0 hm.2.2.2.2.2.2.2.2.2.2.2.1 rfl rfl (bk L) rfl hB (by decide) (a11 _ hdo) d_Mo_get_177 ?_
      refine lv_if_le (tgt := 210) hx hb d_Mo_get_178 rfl (fun br178 => ?_) (fun br178 => ?_)
      · skip
        refine lv_bipush (v := 40) hx hb d_Mo_get_210 (by decide) ?_
        refine lv_iload hx hb d_Mo_get_212 (lv_at hl 0 rfl) ?_
        refine lv_imul hx hb d_Mo_get_214 ?_
        rw [show (40 : Int32) * nI (bk L) = nI (40 * (bk L)) from pk_mul 40 (bk L)]
        refine lv_istore hx hb d_Mo_get_215 hl (by decide) rfl (fun ls hl => ?_)
        have hl : lv_has ls 9 [(6, .int (nI (40 * bk L))), (5, .int (nI (bk L))), (4, .int (nI h0)), (3, .int (nI (40 * L))), (0, .ref m0), (1, .int (nI L)), (2, .int (nI j))] := hl
        exact loop3 (o0 - i) 0 H locs ls (by omega) hP hS (lv_sub hl [0, 1, 2, 3, 4, 5, 6] rfl)
      · skip
        refine lv_aload_n hx hb d_Mo_get_181 rfl (lv_at hl 3 rfl) ?_
        refine g_f (v := .ref (m0 + 3)) Z kc_Mo hP hm.1 rfl 3 (by decide) wl_Mo_17 rfl rfl d_Mo_get_182 ?_
        refine lv_iload hx hb d_Mo_get_185 (lv_at hl 0 rfl) ?_
        refine la_ialdv (v := (nI t0)) hx hb hK hP 0 hm.2.2.2.1 rfl rfl (bk L) rfl hB (by decide) (a3 _) d_Mo_get_187 ?_
        refine lv_aload_n hx hb d_Mo_get_188 rfl (lv_at hl 3 rfl) ?_
        refine g_f (v := .ref (m0 + 11)) Z kc_Mo hP hm.1 rfl 11 (by decide) wl_Mo_41 rfl rfl d_Mo_get_189 ?_
        refine lv_iload hx hb d_Mo_get_192 (lv_at hl 0 rfl) ?_
        refine la_ialdv (v := (nI (o0 - i))) hx hb hK hP 0 hm.2.2.2.2.2.2.2.2.2.2.2.1 rfl rfl (bk L) rfl hB (by decide) (a11 _ hdo) d_Mo_get_194 ?_
        refine lv_isub hx hb d_Mo_get_195 ?_
        rw [pk_sub (by omega)]
        refine lv_iload hx hb d_Mo_get_196 (lv_at hl 1 rfl) ?_
        refine lv_icmp_ge (tgt := 210) hx hb d_Mo_get_198 rfl (fun br198 => ?_) (fun br198 => absurd (nI_le (by omega) (by omega)) br198)
        refine lv_bipush (v := 40) hx hb d_Mo_get_210 (by decide) ?_
        refine lv_iload hx hb d_Mo_get_212 (lv_at hl 0 rfl) ?_
        refine lv_imul hx hb d_Mo_get_214 ?_
        rw [show (40 : Int32) * nI (bk L) = nI (40 * (bk L)) from pk_mul 40 (bk L)]
        refine lv_istore hx hb d_Mo_get_215 hl (by decide) rfl (fun ls hl => ?_)
        have hl : lv_has ls 9 [(6, .int (nI (40 * bk L))), (5, .int (nI (bk L))), (4, .int (nI h0)), (3, .int (nI (40 * L))), (0, .ref m0), (1, .int (nI L)), (2, .int (nI j))] := hl
        exact loop3 (o0 - i) 0 H locs ls (by omega) hP hS (lv_sub hl [0, 1, 2, 3, 4, 5, 6] rfl)
    | succ t ih =>
      intro i H locs ls hi hP hS hl
      refine lv_aload_n hx hb d_Mo_get_171 rfl (lv_at hl 3 rfl) ?_
      refine g_f (v := .ref (m0 + 11)) Z kc_Mo hP hm.1 rfl 11 (by decide) wl_Mo_41 rfl rfl d_Mo_get_172 ?_
      refine lv_iload hx hb d_Mo_get_175 (lv_at hl 0 rfl) ?_
      refine la_ialdv (v := (nI (o0 - i))) hx hb hK hP 0 hm.2.2.2.2.2.2.2.2.2.2.2.1 rfl rfl (bk L) rfl hB (by decide) (a11 _ (by omega)) d_Mo_get_177 ?_
      refine lv_if_le (tgt := 210) hx hb d_Mo_get_178 rfl (fun br178 => absurd br178 (nI_nle (by omega) (by omega))) (fun br178 => ?_)
      refine lv_aload_n hx hb d_Mo_get_181 rfl (lv_at hl 3 rfl) ?_
      refine g_f (v := .ref (m0 + 3)) Z kc_Mo hP hm.1 rfl 3 (by decide) wl_Mo_17 rfl rfl d_Mo_get_182 ?_
      refine lv_iload hx hb d_Mo_get_185 (lv_at hl 0 rfl) ?_
      refine la_ialdv (v := (nI t0)) hx hb hK hP 0 hm.2.2.2.1 rfl rfl (bk L) rfl hB (by decide) (a3 _) d_Mo_get_187 ?_
      refine lv_aload_n hx hb d_Mo_get_188 rfl (lv_at hl 3 rfl) ?_
      refine g_f (v := .ref (m0 + 11)) Z kc_Mo hP hm.1 rfl 11 (by decide) wl_Mo_41 rfl rfl d_Mo_get_189 ?_
      refine lv_iload hx hb d_Mo_get_192 (lv_at hl 0 rfl) ?_
      refine la_ialdv (v := (nI (o0 - i))) hx hb hK hP 0 hm.2.2.2.2.2.2.2.2.2.2.2.1 rfl rfl (bk L) rfl hB (by decide) (a11 _ (by omega)) d_Mo_get_194 ?_
      refine lv_isub hx hb d_Mo_get_195 ?_
      rw [pk_sub (by omega)]
      refine lv_iload hx hb d_Mo_get_196 (lv_at hl 1 rfl) ?_
      refine lv_icmp_ge (tgt := 210) hx hb d_Mo_get_198 rfl (fun br198 => absurd br198 (nI_ge (by omega) (by omega))) (fun br198 => ?_)
      refine lv_aload_n hx hb d_Mo_get_201 rfl (lv_at hl 3 rfl) ?_
      refine lv_iload hx hb d_Mo_get_202 (lv_at hl 0 rfl) ?_
      refine cw_V Z kv_Mo_76 (c_Mo_forget l D E La hm (md_fgs (md_g2 mu m0 L w0) m0 (bk L) o0 i) hB (a11 _ (by omega)) (by omega) (by omega)) hP hS (fun _ h => h) (la_recv hK hP kc_Mo hm.1 rfl) [] rfl rfl hl.1 (Nat.le_of_ble_eq_true rfl) ⟨by decide, by decide⟩ ⟨Nat.le_refl _, Nat.le_refl _⟩ d_Mo_get_204 (fun H locs hP hkp hS => ?_)
      refine lv_goto (tgt := 171) hx hb d_Mo_get_207 rfl ?_
      exact ih (i + 1) H locs ls (by omega) hP hS hl
  have e5 : ∀ i, md_sh5 (md_gA mu m0 L w0) m0 L i (m0 + 5) L = nI (w0 - 1) := fun i => by rw [md_sh5_n (by omega) (by omega) (by omega) (by omega) (by omega)]; exact la_up_s
  have e6 : ∀ i, md_sh5 (md_gA mu m0 L w0) m0 L i (m0 + 6) (40 * L + i + 1) = (md_gA mu m0 L w0) (m0 + 6) (40 * L + i + 1) := fun i => by rw [md_sh5_6, pk_cpy_out (by omega)]
  have e7 : ∀ i, md_sh5 (md_gA mu m0 L w0) m0 L i (m0 + 7) (40 * L + i + 1) = (md_gA mu m0 L w0) (m0 + 7) (40 * L + i + 1) := fun i => by rw [md_sh5_7, pk_cpy_out (by omega)]
  have e8 : ∀ i, md_sh5 (md_gA mu m0 L w0) m0 L i (m0 + 8) (40 * L + i + 1) = (md_gA mu m0 L w0) (m0 + 8) (40 * L + i + 1) := fun i => by rw [md_sh5_8, pk_cpy_out (by omega)]
  have e9 : ∀ i, md_sh5 (md_gA mu m0 L w0) m0 L i (m0 + 9) (40 * L + i + 1) = (md_gA mu m0 L w0) (m0 + 9) (40 * L + i + 1) := fun i => by rw [md_sh5_9, pk_cpy_out (by omega)]
  have e10 : ∀ i, md_sh5 (md_gA mu m0 L w0) m0 L i (m0 + 10) (40 * L + i + 1) = (md_gA mu m0 L w0) (m0 + 10) (40 * L + i + 1) := fun i => by rw [md_sh5_10, pk_cpy_out (by omega)]
  have loop1 : ∀ (t i : Nat) (H : Heap) (locs : List Loc) (ls : Array Slot), i + t = w0 - 1 → la_P D cls5 La (md_sh5 (md_gA mu m0 L w0) m0 L i) H → va_S (la_A La) s.heap H locs → lv_has ls 9 [(5, .int (nI (40 * L + i))), (4, .int (nI h0)), (3, .int (nI (40 * L))), (0, .ref m0), (1, .int (nI L)), (2, .int (nI j))] → W p l e (rmm 1 25) s m ([.ref m0, .int (nI L), .int (nI j)] : List Value).toArray below meth c H locs 0 0 (MQ below (cw_Q none (la_P D cls5 La (md_get mu m0 L w0 o0 d0 j kd q n cx g)) (la_A La)) ([.ref m0, .int (nI L), .int (nI j)] : List Value).toArray s 0 0 (la_A La)) (F0 m 66 ls []) := by
    intro t
    induction t with
    | zero =>
      intro i H locs ls hi hP hS hl
      have hia : i = w0 - 1 := by omega
      subst hia
      have hP : la_P D cls5 La (md_g2 mu m0 L w0) H := hP
      refine lv_iload hx hb d_Mo_get_66 (lv_at hl 0 rfl) ?_
      refine lv_iload_n hx hb d_Mo_get_68 rfl (lv_at hl 2 rfl) ?_
      refine lv_aload_n hx hb d_Mo_get_69 rfl (lv_at hl 3 rfl) ?_
      refine g_f (v := .ref (m0 + 5)) Z kc_Mo hP hm.1 rfl 5 (by decide) wl_Mo_23 rfl rfl d_Mo_get_70 ?_
      refine lv_iload_n hx hb d_Mo_get_73 rfl (lv_at hl 4 rfl) ?_
      refine la_ialdv (v := (nI (w0 - 1))) hx hb hK hP 0 hm.2.2.2.2.2.1 rfl rfl L rfl hL (by decide) (e5 _) d_Mo_get_74 ?_
      refine lv_iadd hx hb d_Mo_get_75 ?_
      rw [nI_add]
      refine lv_icmp_ge (tgt := 165) hx hb d_Mo_get_76 rfl (fun br76 => ?_) (fun br76 => absurd (nI_le (Nat.le_refl _) (by omega)) br76)
      refine lv_iload_n hx hb d_Mo_get_165 rfl (lv_at hl 4 rfl) ?_
      refine cr_S Z ks_Mo_72 (c_Mo_back l D E La (md_g2 mu m0 L w0) hL) hP [] rfl rfl hl.1 (Nat.le_of_ble_eq_true rfl) ⟨by decide, by decide⟩ ⟨Nat.le_refl _, Nat.le_refl _⟩ d_Mo_get_166 ?_
      refine lv_istore hx hb d_Mo_get_169 hl (by decide) rfl (fun ls hl => ?_)
      have hl : lv_has ls 9 [(5, .int (nI (bk L))), (4, .int (nI h0)), (3, .int (nI (40 * L))), (0, .ref m0), (1, .int (nI L)), (2, .int (nI j))] := hl
      exact loop2 d0 0 H locs ls (by omega) hP hS hl
    | succ t ih =>
      intro i H locs ls hi hP hS hl
      refine lv_iload hx hb d_Mo_get_66 (lv_at hl 0 rfl) ?_
      refine lv_iload_n hx hb d_Mo_get_68 rfl (lv_at hl 2 rfl) ?_
      refine lv_aload_n hx hb d_Mo_get_69 rfl (lv_at hl 3 rfl) ?_
      refine g_f (v := .ref (m0 + 5)) Z kc_Mo hP hm.1 rfl 5 (by decide) wl_Mo_23 rfl rfl d_Mo_get_70 ?_
      refine lv_iload_n hx hb d_Mo_get_73 rfl (lv_at hl 4 rfl) ?_
      refine la_ialdv (v := (nI (w0 - 1))) hx hb hK hP 0 hm.2.2.2.2.2.1 rfl rfl L rfl hL (by decide) (e5 _) d_Mo_get_74 ?_
      refine lv_iadd hx hb d_Mo_get_75 ?_
      rw [nI_add]
      refine lv_icmp_ge (tgt := 165) hx hb d_Mo_get_76 rfl (fun br76 => absurd br76 (nI_ge (by omega) (by omega))) (fun br76 => ?_)
      refine lv_aload_n hx hb d_Mo_get_79 rfl (lv_at hl 3 rfl) ?_
      refine g_f (v := .ref (m0 + 6)) Z kc_Mo hP hm.1 rfl 6 (by decide) wl_Mo_26 rfl rfl d_Mo_get_80 ?_
      refine lv_iload hx hb d_Mo_get_83 (lv_at hl 0 rfl) ?_
      refine lv_aload_n hx hb d_Mo_get_85 rfl (lv_at hl 3 rfl) ?_
      refine g_f (v := .ref (m0 + 6)) Z kc_Mo hP hm.1 rfl 6 (by decide) wl_Mo_26 rfl rfl d_Mo_get_86 ?_
      refine lv_iload hx hb d_Mo_get_89 (lv_at hl 0 rfl) ?_
      refine lv_iconst (v := 1) hx hb d_Mo_get_91 (by decide) ?_
      refine lv_iadd hx hb d_Mo_get_92 ?_
      rw [nI_1]
      refine la_ialdv (v := ((md_gA mu m0 L w0) (m0 + 6) (40 * L + i + 1))) hx hb hK hP 0 hm.2.2.2.2.2.2.1 rfl rfl (40 * L + i + 1) rfl (by omega) (by decide) (e6 i) d_Mo_get_93 ?_
      refine la_iast hx hb hK hP hS 0 hm.2.2.2.2.2.2.1 (fun _ => rfl) rfl (40 * L + i) rfl (by omega) (by decide) d_Mo_get_94 (fun H locs hP hS => ?_)
      refine lv_aload_n hx hb d_Mo_get_95 rfl (lv_at hl 3 rfl) ?_
      refine g_f (v := .ref (m0 + 7)) Z kc_Mo hP hm.1 rfl 7 (by decide) wl_Mo_29 rfl rfl d_Mo_get_96 ?_
      refine lv_iload hx hb d_Mo_get_99 (lv_at hl 0 rfl) ?_
      refine lv_aload_n hx hb d_Mo_get_101 rfl (lv_at hl 3 rfl) ?_
      refine g_f (v := .ref (m0 + 7)) Z kc_Mo hP hm.1 rfl 7 (by decide) wl_Mo_29 rfl rfl d_Mo_get_102 ?_
      refine lv_iload hx hb d_Mo_get_105 (lv_at hl 0 rfl) ?_
      refine lv_iconst (v := 1) hx hb d_Mo_get_107 (by decide) ?_
      refine lv_iadd hx hb d_Mo_get_108 ?_
      rw [nI_1]
      refine la_ialdv (v := ((md_gA mu m0 L w0) (m0 + 7) (40 * L + i + 1))) hx hb hK hP 0 hm.2.2.2.2.2.2.2.1 rfl rfl (40 * L + i + 1) rfl (by omega) (by decide) ((congrFun (la_up_n (by omega)) (40 * L + i + 1)).trans (e7 i)) d_Mo_get_109 ?_
      refine la_iast hx hb hK hP hS 0 hm.2.2.2.2.2.2.2.1 (fun _ => rfl) rfl (40 * L + i) rfl (by omega) (by decide) d_Mo_get_110 (fun H locs hP hS => ?_)
      refine lv_aload_n hx hb d_Mo_get_111 rfl (lv_at hl 3 rfl) ?_
      refine g_f (v := .ref (m0 + 8)) Z kc_Mo hP hm.1 rfl 8 (by decide) wl_Mo_32 rfl rfl d_Mo_get_112 ?_
      refine lv_iload hx hb d_Mo_get_115 (lv_at hl 0 rfl) ?_
      refine lv_aload_n hx hb d_Mo_get_117 rfl (lv_at hl 3 rfl) ?_
      refine g_f (v := .ref (m0 + 8)) Z kc_Mo hP hm.1 rfl 8 (by decide) wl_Mo_32 rfl rfl d_Mo_get_118 ?_
      refine lv_iload hx hb d_Mo_get_121 (lv_at hl 0 rfl) ?_
      refine lv_iconst (v := 1) hx hb d_Mo_get_123 (by decide) ?_
      refine lv_iadd hx hb d_Mo_get_124 ?_
      rw [nI_1]
      refine la_ialdv (v := ((md_gA mu m0 L w0) (m0 + 8) (40 * L + i + 1))) hx hb hK hP 0 hm.2.2.2.2.2.2.2.2.1 rfl rfl (40 * L + i + 1) rfl (by omega) (by decide) (((congrFun (la_up_n (by omega)) (40 * L + i + 1)).trans (congrFun (la_up_n (by omega)) (40 * L + i + 1))).trans (e8 i)) d_Mo_get_125 ?_
      refine la_iast hx hb hK hP hS 0 hm.2.2.2.2.2.2.2.2.1 (fun _ => rfl) rfl (40 * L + i) rfl (by omega) (by decide) d_Mo_get_126 (fun H locs hP hS => ?_)
      refine lv_aload_n hx hb d_Mo_get_127 rfl (lv_at hl 3 rfl) ?_
      refine g_f (v := .ref (m0 + 9)) Z kc_Mo hP hm.1 rfl 9 (by decide) wl_Mo_35 rfl rfl d_Mo_get_128 ?_
      refine lv_iload hx hb d_Mo_get_131 (lv_at hl 0 rfl) ?_
      refine lv_aload_n hx hb d_Mo_get_133 rfl (lv_at hl 3 rfl) ?_
      refine g_f (v := .ref (m0 + 9)) Z kc_Mo hP hm.1 rfl 9 (by decide) wl_Mo_35 rfl rfl d_Mo_get_134 ?_
      refine lv_iload hx hb d_Mo_get_137 (lv_at hl 0 rfl) ?_
      refine lv_iconst (v := 1) hx hb d_Mo_get_139 (by decide) ?_
      refine lv_iadd hx hb d_Mo_get_140 ?_
      rw [nI_1]
      refine la_ialdv (v := ((md_gA mu m0 L w0) (m0 + 9) (40 * L + i + 1))) hx hb hK hP 0 hm.2.2.2.2.2.2.2.2.2.1 rfl rfl (40 * L + i + 1) rfl (by omega) (by decide) (((congrFun (la_up_n (by omega)) (40 * L + i + 1)).trans ((congrFun (la_up_n (by omega)) (40 * L + i + 1)).trans (congrFun (la_up_n (by omega)) (40 * L + i + 1)))).trans (e9 i)) d_Mo_get_141 ?_
      refine la_iast hx hb hK hP hS 0 hm.2.2.2.2.2.2.2.2.2.1 (fun _ => rfl) rfl (40 * L + i) rfl (by omega) (by decide) d_Mo_get_142 (fun H locs hP hS => ?_)
      refine lv_aload_n hx hb d_Mo_get_143 rfl (lv_at hl 3 rfl) ?_
      refine g_f (v := .ref (m0 + 10)) Z kc_Mo hP hm.1 rfl 10 (by decide) wl_Mo_38 rfl rfl d_Mo_get_144 ?_
      refine lv_iload hx hb d_Mo_get_147 (lv_at hl 0 rfl) ?_
      refine lv_aload_n hx hb d_Mo_get_149 rfl (lv_at hl 3 rfl) ?_
      refine g_f (v := .ref (m0 + 10)) Z kc_Mo hP hm.1 rfl 10 (by decide) wl_Mo_38 rfl rfl d_Mo_get_150 ?_
      refine lv_iload hx hb d_Mo_get_153 (lv_at hl 0 rfl) ?_
      refine lv_iconst (v := 1) hx hb d_Mo_get_155 (by decide) ?_
      refine lv_iadd hx hb d_Mo_get_156 ?_
      rw [nI_1]
      refine la_ialdv (v := ((md_gA mu m0 L w0) (m0 + 10) (40 * L + i + 1))) hx hb hK hP 0 hm.2.2.2.2.2.2.2.2.2.2.1 rfl rfl (40 * L + i + 1) rfl (by omega) (by decide) (((congrFun (la_up_n (by omega)) (40 * L + i + 1)).trans ((congrFun (la_up_n (by omega)) (40 * L + i + 1)).trans ((congrFun (la_up_n (by omega)) (40 * L + i + 1)).trans (congrFun (la_up_n (by omega)) (40 * L + i + 1))))).trans (e10 i)) d_Mo_get_157 ?_
      refine la_iast hx hb hK hP hS 0 hm.2.2.2.2.2.2.2.2.2.2.1 (fun _ => rfl) rfl (40 * L + i) rfl (by omega) (by decide) d_Mo_get_158 (fun H locs hP hS => ?_)
      refine lv_iinc (k := 0) (v := (nI (40 * L + (i + 1)))) hx hb d_Mo_get_159 hl rfl (nI_1 _) (by decide) rfl (fun ls hl => ?_)
      have hl : lv_has ls 9 [(5, .int (nI (40 * L + (i + 1)))), (4, .int (nI h0)), (3, .int (nI (40 * L))), (0, .ref m0), (1, .int (nI L)), (2, .int (nI j))] := hl
      refine lv_goto (tgt := 66) hx hb d_Mo_get_162 rfl ?_
      exact ih (i + 1) H locs ls (by omega) (cvm hP (md_sh5_s _ _ _ _)) hS hl
  refine lv_bipush (v := 40) hx hb d_Mo_get_0 (by decide) ?_
  refine lv_iload_n hx hb d_Mo_get_2 rfl (lv_at hl 1 rfl) ?_
  refine lv_imul hx hb d_Mo_get_3 ?_
  rw [show (40 : Int32) * nI L = nI (40 * L) from pk_mul 40 L]
  refine lv_istore_n hx hb d_Mo_get_4 rfl hl (by decide) rfl (fun ls hl => ?_)
  have hl : lv_has ls 9 [(3, .int (nI (40 * L))), (0, .ref m0), (1, .int (nI L)), (2, .int (nI j))] := hl
  refine lv_aload_n hx hb d_Mo_get_5 rfl (lv_at hl 1 rfl) ?_
  refine lv_aload_n hx hb d_Mo_get_6 rfl (lv_at hl 1 rfl) ?_
  refine g_f (v := .ref (m0 + 6)) Z kc_Mo hP hm.1 rfl 6 (by decide) wl_Mo_26 rfl rfl d_Mo_get_7 ?_
  refine lv_iload_n hx hb d_Mo_get_10 rfl (lv_at hl 0 rfl) ?_
  refine la_iald hx hb hK hP 0 hm.2.2.2.2.2.2.1 rfl rfl (40 * L) rfl (by omega) (by decide) d_Mo_get_11 ?_
  refine p_f Z kc_Mo hP hS hm.1 rfl 16 (by decide) wl_Mo_60 rfl rfl ⟨rfl, rfl⟩ (Nat.le_of_ble_eq_true rfl) rfl d_Mo_get_12 (fun H locs hP hS => ?_)
  refine lv_aload_n hx hb d_Mo_get_15 rfl (lv_at hl 1 rfl) ?_
  refine lv_aload_n hx hb d_Mo_get_16 rfl (lv_at hl 1 rfl) ?_
  refine g_f (v := .ref (m0 + 7)) Z kc_Mo hP hm.1 rfl 7 (by decide) wl_Mo_29 rfl rfl d_Mo_get_17 ?_
  refine lv_iload_n hx hb d_Mo_get_20 rfl (lv_at hl 0 rfl) ?_
  refine la_ialdv (v := (mu (m0 + 7) (40 * L))) hx hb hK hP 0 hm.2.2.2.2.2.2.2.1 rfl rfl (40 * L) rfl (by omega) (by decide) (congrFun (la_up_n (by omega)) (40 * L)) d_Mo_get_21 ?_
  refine p_f Z kc_Mo hP hS hm.1 rfl 17 (by decide) wl_Mo_63 rfl rfl ⟨rfl, rfl⟩ (Nat.le_of_ble_eq_true rfl) rfl d_Mo_get_22 (fun H locs hP hS => ?_)
  refine lv_aload_n hx hb d_Mo_get_25 rfl (lv_at hl 1 rfl) ?_
  refine lv_aload_n hx hb d_Mo_get_26 rfl (lv_at hl 1 rfl) ?_
  refine g_f (v := .ref (m0 + 8)) Z kc_Mo hP hm.1 rfl 8 (by decide) wl_Mo_32 rfl rfl d_Mo_get_27 ?_
  refine lv_iload_n hx hb d_Mo_get_30 rfl (lv_at hl 0 rfl) ?_
  refine la_ialdv (v := (mu (m0 + 8) (40 * L))) hx hb hK hP 0 hm.2.2.2.2.2.2.2.2.1 rfl rfl (40 * L) rfl (by omega) (by decide) ((congrFun (la_up_n (by omega)) (40 * L)).trans (congrFun (la_up_n (by omega)) (40 * L))) d_Mo_get_31 ?_
  refine p_f Z kc_Mo hP hS hm.1 rfl 18 (by decide) wl_Mo_66 rfl rfl ⟨rfl, rfl⟩ (Nat.le_of_ble_eq_true rfl) rfl d_Mo_get_32 (fun H locs hP hS => ?_)
  refine lv_aload_n hx hb d_Mo_get_35 rfl (lv_at hl 1 rfl) ?_
  refine lv_aload_n hx hb d_Mo_get_36 rfl (lv_at hl 1 rfl) ?_
  refine g_f (v := .ref (m0 + 9)) Z kc_Mo hP hm.1 rfl 9 (by decide) wl_Mo_35 rfl rfl d_Mo_get_37 ?_
  refine lv_iload_n hx hb d_Mo_get_40 rfl (lv_at hl 0 rfl) ?_
  refine la_ialdv (v := (mu (m0 + 9) (40 * L))) hx hb hK hP 0 hm.2.2.2.2.2.2.2.2.2.1 rfl rfl (40 * L) rfl (by omega) (by decide) ((congrFun (la_up_n (by omega)) (40 * L)).trans ((congrFun (la_up_n (by omega)) (40 * L)).trans (congrFun (la_up_n (by omega)) (40 * L)))) d_Mo_get_41 ?_
  refine p_f Z kc_Mo hP hS hm.1 rfl 19 (by decide) wl_Mo_69 rfl rfl ⟨rfl, rfl⟩ (Nat.le_of_ble_eq_true rfl) rfl d_Mo_get_42 (fun H locs hP hS => ?_)
  refine lv_aload_n hx hb d_Mo_get_45 rfl (lv_at hl 1 rfl) ?_
  refine g_f (v := .ref (m0 + 10)) Z kc_Mo hP hm.1 rfl 10 (by decide) wl_Mo_38 rfl rfl d_Mo_get_46 ?_
  refine lv_iload_n hx hb d_Mo_get_49 rfl (lv_at hl 0 rfl) ?_
  refine la_ialdv (v := (nI h0)) hx hb hK hP 0 hm.2.2.2.2.2.2.2.2.2.2.1 rfl rfl (40 * L) rfl (by omega) (by decide) (((congrFun (la_up_n (by omega)) (40 * L)).trans ((congrFun (la_up_n (by omega)) (40 * L)).trans ((congrFun (la_up_n (by omega)) (40 * L)).trans (congrFun (la_up_n (by omega)) (40 * L))))).trans hh) d_Mo_get_50 ?_
  refine lv_istore hx hb d_Mo_get_51 hl (by decide) rfl (fun ls hl => ?_)
  have hl : lv_has ls 9 [(4, .int (nI h0)), (3, .int (nI (40 * L))), (0, .ref m0), (1, .int (nI L)), (2, .int (nI j))] := hl
  refine lv_aload_n hx hb d_Mo_get_53 rfl (lv_at hl 2 rfl) ?_
  refine g_f (v := .ref (m0 + 5)) Z kc_Mo hP hm.1 rfl 5 (by decide) wl_Mo_23 rfl rfl d_Mo_get_54 ?_
  refine lv_iload_n hx hb d_Mo_get_57 rfl (lv_at hl 3 rfl) ?_
  refine lv_dup2_11 hx hb d_Mo_get_58 rfl rfl ?_
  refine la_ialdv (v := (nI w0)) hx hb hK hP 0 hm.2.2.2.2.2.1 rfl rfl L rfl hL (by decide) (((congrFun (la_up_n (by omega)) L).trans ((congrFun (la_up_n (by omega)) L).trans ((congrFun (la_up_n (by omega)) L).trans (congrFun (la_up_n (by omega)) L)))).trans hw) d_Mo_get_59 ?_
  refine lv_iconst (v := 1) hx hb d_Mo_get_60 (by decide) ?_
  refine lv_isub hx hb d_Mo_get_61 ?_
  rw [nI_s1 (by omega)]
  refine la_iast hx hb hK hP hS 0 hm.2.2.2.2.2.1 (fun _ => rfl) rfl L rfl hL (by decide) d_Mo_get_62 (fun H locs hP hS => ?_)
  refine lv_iload_n hx hb d_Mo_get_63 rfl (lv_at hl 1 rfl) ?_
  refine lv_istore hx hb d_Mo_get_64 hl (by decide) rfl (fun ls hl => ?_)
  have hl : lv_has ls 9 [(5, .int (nI (40 * L))), (4, .int (nI h0)), (3, .int (nI (40 * L))), (0, .ref m0), (1, .int (nI L)), (2, .int (nI j))] := hl
  exact loop1 (w0 - 1) 0 H locs ls (by omega) (cvm hP (md_sh5_0 _ _ _).symm) hS hl
end
section
/-! The reference's begin, loaded, public methods (written by wip/whole/p17.py) -/
theorem la_up_up {mu : la_M} {a k : Nat} {v w : Int32} : la_up (la_up mu a k v) a k w = la_up mu a k w := by
  funext z
  by_cases h : z = a
  · subst h
    rw [la_up_at, la_up_at, la_up_at]
    funext j
    by_cases hj : j = k
    · subst hj
      rw [pk_us, pk_us]
    · rw [pk_un hj, pk_un hj, pk_un hj]
  · rw [la_up_n h, la_up_n h, la_up_n h]
def md_bgn (mu : la_M) (m0 k kd q n cx w o t : Nat) : la_M := md_send (md_app (md_beg mu m0 kd q (nI cx) (k + 1)) m0 (k + 1) kd q n cx) m0 (2 * k) w o t
theorem md_beg_n {mu : la_M} {m0 kd q o z : Nat} {x : Int32} (h : z ≠ m0) : md_beg mu m0 kd q x o z = mu z := by
  unfold md_beg
  rw [la_up_n h, la_up_n h, la_up_n h, la_up_n h]
theorem md_app_1 {mu : la_M} {m0 j kd q n cx : Nat} (hn : mu (m0 + 1) j = nI n) : md_app mu m0 j kd q n cx (m0 + 1) j = nI (if kd = 0 then n + 1 else if kd = 1 then n - 1 else n) := by
  unfold md_app
  by_cases h0 : kd = 0
  · rw [if_pos h0, if_pos h0]
    exact la_up_s
  · rw [if_neg h0, if_neg h0]
    by_cases h1 : kd = 1
    · rw [if_pos h1, if_pos h1, la_set_n (by omega)]
      exact la_up_s
    · rw [if_neg h1, if_neg h1]
      exact hn
theorem md_send_1 {mu : la_M} {m0 L w o t z : Nat} (h3 : z ≠ m0 + 3) (h5 : z ≠ m0 + 5) (h6 : z ≠ m0 + 6) (h7 : z ≠ m0 + 7) (h8 : z ≠ m0 + 8) (h9 : z ≠ m0 + 9) (h10 : z ≠ m0 + 10) (h11 : z ≠ m0 + 11) (h12 : z ≠ m0 + 12) (h13 : z ≠ m0 + 13) (h14 : z ≠ m0 + 14) (h15 : z ≠ m0 + 15) : md_send mu m0 L w o t z = mu z := by
  unfold md_send
  rw [la_up_n h3, la_up_n h11, la_up_n h15, la_up_n h14, la_up_n h13, la_up_n h12, la_up_n h5, la_up_n h10, la_up_n h9, la_up_n h8, la_up_n h7, la_up_n h6]
set_option maxHeartbeats 4000000 in
set_option maxRecDepth 100000 in
theorem c_Mo_loaded_t (l : Launch) (D : va_G) (E : Nat → ClassId) (La : la_L) {m0 : Nat} (hm : isMo E La m0) (mu : la_M) {k : Nat} (hk : k < 3) {o0 : Nat} (ho : mu (m0 + 11) (2 * k) = nI o0) (ho3 : o0 < 2 ^ 31) (hf : 16 ≤ o0) : cr l y_Mo_loaded b_Mo_loaded 2 (some .boolean) 1 21 D E La [.ref m0, .int (nI (k + 1))] mu (some (.int 1)) := by
  refine cr_begin R_Mo (by decide) rfl (Nat.le_of_ble_eq_true rfl) ?_
  intro p e s m below meth c ls Z hr hlocks hP hl
  have hx := Z.1
  have hb := Z.2.1
  have hK : va_K D cls5 (tyE E) s := Z.2.2.2.2.2
  have hl : lv_has ls 2 [(0, .ref m0), (1, .int (nI (k + 1)))] := hl
  refine lv_aload_n hx hb d_Mo_loaded_0 rfl (lv_at hl 0 rfl) ?_
  refine g_f (v := .ref (m0 + 11)) Z kc_Mo hP hm.1 rfl 11 (by decide) wl_Mo_41 rfl rfl d_Mo_loaded_1 ?_
  refine lv_iload_n hx hb d_Mo_loaded_4 rfl (lv_at hl 1 rfl) ?_
  refine lv_iconst (v := 1) hx hb d_Mo_loaded_5 (by decide) ?_
  refine cr_S Z ks_Mo_87 (c_Mo_line_u l D E La mu (k := k) (u := 1) (by decide)) hP [.ref (m0 + 11)] rfl rfl hl.1 (Nat.le_of_ble_eq_true rfl) ⟨by decide, by decide⟩ ⟨Nat.le_refl _, Nat.le_refl _⟩ d_Mo_loaded_6 ?_
  refine la_ialdv (v := (nI o0)) hx hb hK hP 0 hm.2.2.2.2.2.2.2.2.2.2.2.1 rfl rfl (2 * k) rfl (by omega) (by decide) ho d_Mo_loaded_9 ?_
  refine lv_bipush (v := 16) hx hb d_Mo_loaded_10 (by decide) ?_
  refine lv_icmp_lt (tgt := 19) hx hb d_Mo_loaded_12 rfl (fun br12 => absurd br12 (nI_nlt (b := 16) hf (by omega))) (fun br12 => ?_)
  refine lv_iconst (v := 1) hx hb d_Mo_loaded_15 (by decide) ?_
  refine lv_goto (tgt := 20) hx hb d_Mo_loaded_16 rfl ?_
  exact W.zret hx hb hr (by decide) (fun t ht hW => ⟨rfl, ht⟩) (fun q h => by cases h) d_Mo_loaded_20
set_option maxHeartbeats 4000000 in
set_option maxRecDepth 100000 in
theorem c_Mo_loaded_f (l : Launch) (D : va_G) (E : Nat → ClassId) (La : la_L) {m0 : Nat} (hm : isMo E La m0) (mu : la_M) {k : Nat} (hk : k < 3) {o0 : Nat} (ho : mu (m0 + 11) (2 * k) = nI o0) (ho3 : o0 < 2 ^ 31) (hf : o0 < 16) : cr l y_Mo_loaded b_Mo_loaded 2 (some .boolean) 1 21 D E La [.ref m0, .int (nI (k + 1))] mu (some (.int 0)) := by
  refine cr_begin R_Mo (by decide) rfl (Nat.le_of_ble_eq_true rfl) ?_
  intro p e s m below meth c ls Z hr hlocks hP hl
  have hx := Z.1
  have hb := Z.2.1
  have hK : va_K D cls5 (tyE E) s := Z.2.2.2.2.2
  have hl : lv_has ls 2 [(0, .ref m0), (1, .int (nI (k + 1)))] := hl
  refine lv_aload_n hx hb d_Mo_loaded_0 rfl (lv_at hl 0 rfl) ?_
  refine g_f (v := .ref (m0 + 11)) Z kc_Mo hP hm.1 rfl 11 (by decide) wl_Mo_41 rfl rfl d_Mo_loaded_1 ?_
  refine lv_iload_n hx hb d_Mo_loaded_4 rfl (lv_at hl 1 rfl) ?_
  refine lv_iconst (v := 1) hx hb d_Mo_loaded_5 (by decide) ?_
  refine cr_S Z ks_Mo_87 (c_Mo_line_u l D E La mu (k := k) (u := 1) (by decide)) hP [.ref (m0 + 11)] rfl rfl hl.1 (Nat.le_of_ble_eq_true rfl) ⟨by decide, by decide⟩ ⟨Nat.le_refl _, Nat.le_refl _⟩ d_Mo_loaded_6 ?_
  refine la_ialdv (v := (nI o0)) hx hb hK hP 0 hm.2.2.2.2.2.2.2.2.2.2.2.1 rfl rfl (2 * k) rfl (by omega) (by decide) ho d_Mo_loaded_9 ?_
  refine lv_bipush (v := 16) hx hb d_Mo_loaded_10 (by decide) ?_
  refine lv_icmp_lt (tgt := 19) hx hb d_Mo_loaded_12 rfl (fun br12 => ?_) (fun br12 => absurd (nI_lt (b := 16) hf (by decide)) br12)
  refine lv_iconst (v := 0) hx hb d_Mo_loaded_19 (by decide) ?_
  exact W.zret hx hb hr (by decide) (fun t ht hW => ⟨rfl, ht⟩) (fun q h => by cases h) d_Mo_loaded_20
set_option maxHeartbeats 4000000 in
set_option maxRecDepth 100000 in
theorem c_Mo_begin (l : Launch) (D : va_G) (E : Nat → ClassId) (La : la_L) {m0 : Nat} (hm : isMo E La m0) (mu : la_M) {k : Nat} (hk : k < 3) {kd q n cx w0 o0 t0 : Nat} (hcx : cx < 65536) (hn : mu (m0 + 1) (k + 1) = nI n) (h2 : n ≤ 64) (hz : ∀ i, chz (mu (m0 + 2) i)) (hk3 : kd ≤ 2) (hk0 : kd = 0 → q ≤ n) (hk1 : kd = 1 → q < n) (hw : mu (m0 + 5) (2 * k) = nI w0) (hw4 : w0 < 40) (ho : mu (m0 + 11) (2 * k) = nI o0) (ho4 : o0 < 40) (ht : mu (m0 + 3) (2 * k) = nI t0)  : cw l y_Mo_begin b_Mo_begin 5 none 2 43 D E La [.ref m0, .int (nI (k + 1)), .int (nI kd), .int (nI q), .int (nI cx)] mu none (md_bgn mu m0 k kd q n cx w0 o0 t0) := by
  refine cw_begin R_Mo (by decide) rfl (Nat.le_of_ble_eq_true rfl) ?_
  intro p e s m below meth c ls Z hr hlocks hP hS hl
  have hx := Z.1
  have hb := Z.2.1
  have hK : va_K D cls5 (tyE E) s := Z.2.2.2.2.2
  have hl : lv_has ls 5 [(0, .ref m0), (1, .int (nI (k + 1))), (2, .int (nI kd)), (3, .int (nI q)), (4, .int (nI cx))] := hl
  have hA := c_Mo_apply l D E La hm (md_beg mu m0 kd q (nI cx) (k + 1)) (j := k + 1) (kd := kd) (q := q) (n := n) (cx := cx) (by omega) (by simp [md_beg, la_up_s, la_up_k]) (by simp [md_beg, la_up_s, la_up_k]) (by simp [md_beg, la_up_s, la_up_k]) hcx (by rw [md_beg_n (by omega)]; exact hn) h2 (fun i => by rw [md_beg_n (by omega)]; exact hz i) hk3 hk0 hk1
  have f5 := (show (md_app (md_beg mu m0 kd q (nI cx) (k + 1)) m0 (k + 1) kd q n cx) (m0 + 5) (2 * k) = nI w0 by rw [md_app_n (by omega) (by omega), md_beg_n (by omega)]; exact hw)
  have f11 := (show (md_app (md_beg mu m0 kd q (nI cx) (k + 1)) m0 (k + 1) kd q n cx) (m0 + 11) (2 * k) = nI o0 by rw [md_app_n (by omega) (by omega), md_beg_n (by omega)]; exact ho)
  have f3 := (show (md_app (md_beg mu m0 kd q (nI cx) (k + 1)) m0 (k + 1) kd q n cx) (m0 + 3) (2 * k) = nI t0 by rw [md_app_n (by omega) (by omega), md_beg_n (by omega)]; exact ht)
  refine lv_aload_n hx hb d_Mo_begin_0 rfl (lv_at hl 0 rfl) ?_
  refine lv_iload_n hx hb d_Mo_begin_1 rfl (lv_at hl 2 rfl) ?_
  refine p_f Z kc_Mo hP hS hm.1 rfl 16 (by decide) wl_Mo_60 rfl rfl ⟨rfl, rfl⟩ (Nat.le_of_ble_eq_true rfl) rfl d_Mo_begin_2 (fun H locs hP hS => ?_)
  refine lv_aload_n hx hb d_Mo_begin_5 rfl (lv_at hl 0 rfl) ?_
  refine lv_iload_n hx hb d_Mo_begin_6 rfl (lv_at hl 3 rfl) ?_
  refine p_f Z kc_Mo hP hS hm.1 rfl 17 (by decide) wl_Mo_63 rfl rfl ⟨rfl, rfl⟩ (Nat.le_of_ble_eq_true rfl) rfl d_Mo_begin_7 (fun H locs hP hS => ?_)
  refine lv_aload_n hx hb d_Mo_begin_10 rfl (lv_at hl 0 rfl) ?_
  refine lv_iload hx hb d_Mo_begin_11 (lv_at hl 4 rfl) ?_
  refine p_f Z kc_Mo hP hS hm.1 rfl 18 (by decide) wl_Mo_66 rfl rfl ⟨rfl, rfl⟩ (Nat.le_of_ble_eq_true rfl) rfl d_Mo_begin_13 (fun H locs hP hS => ?_)
  refine lv_aload_n hx hb d_Mo_begin_16 rfl (lv_at hl 0 rfl) ?_
  refine lv_iload_n hx hb d_Mo_begin_17 rfl (lv_at hl 1 rfl) ?_
  refine p_f Z kc_Mo hP hS hm.1 rfl 19 (by decide) wl_Mo_69 rfl rfl ⟨rfl, rfl⟩ (Nat.le_of_ble_eq_true rfl) rfl d_Mo_begin_18 (fun H locs hP hS => ?_)
  refine lv_aload_n hx hb d_Mo_begin_21 rfl (lv_at hl 0 rfl) ?_
  refine lv_iload_n hx hb d_Mo_begin_22 rfl (lv_at hl 1 rfl) ?_
  refine cw_V Z kv_Mo_84 (hA) hP hS (fun _ h => h) (la_recv hK hP kc_Mo hm.1 rfl) [] rfl rfl hl.1 (Nat.le_of_ble_eq_true rfl) ⟨by decide, by decide⟩ ⟨Nat.le_refl _, Nat.le_refl _⟩ d_Mo_begin_23 (fun H locs hP hkp hS => ?_)
  refine lv_aload_n hx hb d_Mo_begin_26 rfl (lv_at hl 0 rfl) ?_
  refine lv_iload_n hx hb d_Mo_begin_27 rfl (lv_at hl 1 rfl) ?_
  refine lv_iconst (v := 1) hx hb d_Mo_begin_28 (by decide) ?_
  refine cr_S Z ks_Mo_87 (c_Mo_line_u l D E La (md_app (md_beg mu m0 kd q (nI cx) (k + 1)) m0 (k + 1) kd q n cx) (k := k) (u := 1) (by decide)) hP [.ref m0] rfl rfl hl.1 (Nat.le_of_ble_eq_true rfl) ⟨by decide, by decide⟩ ⟨Nat.le_refl _, Nat.le_refl _⟩ d_Mo_begin_29 ?_
  refine cw_V Z kv_Mo_91 (c_Mo_send l D E La hm (md_app (md_beg mu m0 kd q (nI cx) (k + 1)) m0 (k + 1) kd q n cx) (by omega) f5 hw4 f11 ho4 f3) hP hS (fun _ h => h) (la_recv hK hP kc_Mo hm.1 rfl) [] rfl rfl hl.1 (Nat.le_of_ble_eq_true rfl) ⟨by decide, by decide⟩ ⟨Nat.le_refl _, Nat.le_refl _⟩ d_Mo_begin_32 (fun H locs hP hkp hS => ?_)
  exact W.vret hx hb hr (fun t ht hW => ⟨rfl, by rw [ht]; exact cvm hP (rfl), hS.F ht⟩) hS.2.2 d_Mo_begin_35
set_option maxHeartbeats 4000000 in
set_option maxRecDepth 100000 in
theorem c_Mo_insert_1 (l : Launch) (D : va_G) (E : Nat → ClassId) (La : la_L) {m0 : Nat} (hm : isMo E La m0) (mu : la_M) {cl at0 x : Int32} (hc : cl < 1 ∨ 3 < cl) : cw l y_Mo_insert b_Mo_insert 5 (some .int) 3 67 D E La [.ref m0, .int cl, .int at0, .int x] mu (some (.int 0)) (la_up mu m0 0 1) := by
  refine cw_begin R_Mo (by decide) rfl (Nat.le_of_ble_eq_true rfl) ?_
  intro p e s m below meth c ls Z hr hlocks hP hS hl
  have hx := Z.1
  have hb := Z.2.1
  have hK : va_K D cls5 (tyE E) s := Z.2.2.2.2.2
  have hl : lv_has ls 5 [(0, .ref m0), (1, .int cl), (2, .int at0), (3, .int x)] := hl
  refine lv_iload_n hx hb d_Mo_insert_0 rfl (lv_at hl 1 rfl) ?_
  refine cr_S Z ks_Mo_94 (c_Mo_isClient_n l D E La mu hc) hP [] rfl rfl hl.1 (Nat.le_of_ble_eq_true rfl) ⟨by decide, by decide⟩ ⟨Nat.le_refl _, Nat.le_refl _⟩ d_Mo_insert_1 ?_
  refine lv_if_eq (tgt := 19) hx hb d_Mo_insert_4 rfl (fun br4 => ?_) (fun br4 => absurd (by decide) br4)
  refine lv_iconst (v := 1) hx hb d_Mo_insert_19 (by decide) ?_
  refine lv_goto (tgt := 24) hx hb d_Mo_insert_20 rfl ?_
  refine lv_istore hx hb d_Mo_insert_24 hl (by decide) rfl (fun ls hl => ?_)
  have hl : lv_has ls 5 [(4, .int 1), (0, .ref m0), (1, .int cl), (2, .int at0), (3, .int x)] := hl
  refine lv_aload_n hx hb d_Mo_insert_26 rfl (lv_at hl 1 rfl) ?_
  refine lv_iload hx hb d_Mo_insert_27 (lv_at hl 0 rfl) ?_
  refine lv_if_eq (tgt := 36) hx hb d_Mo_insert_29 rfl (fun br29 => absurd br29 (by decide)) (fun br29 => ?_)
  refine lv_iconst (v := 1) hx hb d_Mo_insert_32 (by decide) ?_
  refine lv_goto (tgt := 78) hx hb d_Mo_insert_33 rfl ?_
  refine p_f Z kc_Mo hP hS hm.1 rfl 0 (by decide) wl_Mo_56 rfl rfl ⟨rfl, rfl⟩ (Nat.le_of_ble_eq_true rfl) rfl d_Mo_insert_78 (fun H locs hP hS => ?_)
  refine lv_aload_n hx hb d_Mo_insert_81 rfl (lv_at hl 1 rfl) ?_
  refine g_i (v := 1) Z kc_Mo hP hm.1 rfl 0 (by decide) wl_Mo_56 rfl rfl la_up_s d_Mo_insert_82 ?_
  refine lv_if_eq (tgt := 90) hx hb d_Mo_insert_85 rfl (fun br85 => absurd br85 (by decide)) (fun br85 => ?_)
  refine lv_iconst (v := 0) hx hb d_Mo_insert_88 (by decide) ?_
  exact W.iret hx hb hr (fun t ht hW => ⟨rfl, by rw [ht]; exact cvm hP (rfl), hS.F ht⟩) hS.2.2 d_Mo_insert_89
set_option maxHeartbeats 4000000 in
set_option maxRecDepth 100000 in
theorem c_Mo_insert_1x (l : Launch) (D : va_G) (E : Nat → ClassId) (La : la_L) {m0 : Nat} (hm : isMo E La m0) (mu : la_M) {k : Nat} (hk : k < 3) {at0 x : Int32} (hx9 : x < 32 ∨ 126 < x) : cw l y_Mo_insert b_Mo_insert 5 (some .int) 3 67 D E La [.ref m0, .int (nI (k + 1)), .int at0, .int x] mu (some (.int 0)) (la_up mu m0 0 1) := by
  refine cw_begin R_Mo (by decide) rfl (Nat.le_of_ble_eq_true rfl) ?_
  intro p e s m below meth c ls Z hr hlocks hP hS hl
  have hx := Z.1
  have hb := Z.2.1
  have hK : va_K D cls5 (tyE E) s := Z.2.2.2.2.2
  have hl : lv_has ls 5 [(0, .ref m0), (1, .int (nI (k + 1))), (2, .int at0), (3, .int x)] := hl
  refine lv_iload_n hx hb d_Mo_insert_0 rfl (lv_at hl 1 rfl) ?_
  refine cr_S Z ks_Mo_94 (c_Mo_isClient_y l D E La mu hk) hP [] rfl rfl hl.1 (Nat.le_of_ble_eq_true rfl) ⟨by decide, by decide⟩ ⟨Nat.le_refl _, Nat.le_refl _⟩ d_Mo_insert_1 ?_
  refine lv_if_eq (tgt := 19) hx hb d_Mo_insert_4 rfl (fun br4 => absurd br4 (by decide)) (fun br4 => ?_)
  refine lv_iload_n hx hb d_Mo_insert_7 rfl (lv_at hl 3 rfl) ?_
  refine lv_bipush (v := 32) hx hb d_Mo_insert_8 (by decide) ?_
  refine lv_icmp_lt (tgt := 19) hx hb d_Mo_insert_10 rfl (fun br10 => ?_) (fun br10 => ?_)
  · skip
    refine lv_iconst (v := 1) hx hb d_Mo_insert_19 (by decide) ?_
    refine lv_goto (tgt := 24) hx hb d_Mo_insert_20 rfl ?_
    refine lv_istore hx hb d_Mo_insert_24 hl (by decide) rfl (fun ls hl => ?_)
    have hl : lv_has ls 5 [(4, .int 1), (0, .ref m0), (1, .int (nI (k + 1))), (2, .int at0), (3, .int x)] := hl
    refine lv_aload_n hx hb d_Mo_insert_26 rfl (lv_at hl 1 rfl) ?_
    refine lv_iload hx hb d_Mo_insert_27 (lv_at hl 0 rfl) ?_
    refine lv_if_eq (tgt := 36) hx hb d_Mo_insert_29 rfl (fun br29 => absurd br29 (by decide)) (fun br29 => ?_)
    refine lv_iconst (v := 1) hx hb d_Mo_insert_32 (by decide) ?_
    refine lv_goto (tgt := 78) hx hb d_Mo_insert_33 rfl ?_
    refine p_f Z kc_Mo hP hS hm.1 rfl 0 (by decide) wl_Mo_56 rfl rfl ⟨rfl, rfl⟩ (Nat.le_of_ble_eq_true rfl) rfl d_Mo_insert_78 (fun H locs hP hS => ?_)
    refine lv_aload_n hx hb d_Mo_insert_81 rfl (lv_at hl 1 rfl) ?_
    refine g_i (v := 1) Z kc_Mo hP hm.1 rfl 0 (by decide) wl_Mo_56 rfl rfl la_up_s d_Mo_insert_82 ?_
    refine lv_if_eq (tgt := 90) hx hb d_Mo_insert_85 rfl (fun br85 => absurd br85 (by decide)) (fun br85 => ?_)
    refine lv_iconst (v := 0) hx hb d_Mo_insert_88 (by decide) ?_
    exact W.iret hx hb hr (fun t ht hW => ⟨rfl, by rw [ht]; exact cvm hP (rfl), hS.F ht⟩) hS.2.2 d_Mo_insert_89
  · skip
    refine lv_iload_n hx hb d_Mo_insert_13 rfl (lv_at hl 3 rfl) ?_
    refine lv_bipush (v := 126) hx hb d_Mo_insert_14 (by decide) ?_
    refine lv_icmp_le (tgt := 23) hx hb d_Mo_insert_16 rfl (fun br16 => absurd br16 (Int32.not_le.mpr (hx9.resolve_left br10))) (fun br16 => ?_)
    refine lv_iconst (v := 1) hx hb d_Mo_insert_19 (by decide) ?_
    refine lv_goto (tgt := 24) hx hb d_Mo_insert_20 rfl ?_
    refine lv_istore hx hb d_Mo_insert_24 hl (by decide) rfl (fun ls hl => ?_)
    have hl : lv_has ls 5 [(4, .int 1), (0, .ref m0), (1, .int (nI (k + 1))), (2, .int at0), (3, .int x)] := hl
    refine lv_aload_n hx hb d_Mo_insert_26 rfl (lv_at hl 1 rfl) ?_
    refine lv_iload hx hb d_Mo_insert_27 (lv_at hl 0 rfl) ?_
    refine lv_if_eq (tgt := 36) hx hb d_Mo_insert_29 rfl (fun br29 => absurd br29 (by decide)) (fun br29 => ?_)
    refine lv_iconst (v := 1) hx hb d_Mo_insert_32 (by decide) ?_
    refine lv_goto (tgt := 78) hx hb d_Mo_insert_33 rfl ?_
    refine p_f Z kc_Mo hP hS hm.1 rfl 0 (by decide) wl_Mo_56 rfl rfl ⟨rfl, rfl⟩ (Nat.le_of_ble_eq_true rfl) rfl d_Mo_insert_78 (fun H locs hP hS => ?_)
    refine lv_aload_n hx hb d_Mo_insert_81 rfl (lv_at hl 1 rfl) ?_
    refine g_i (v := 1) Z kc_Mo hP hm.1 rfl 0 (by decide) wl_Mo_56 rfl rfl la_up_s d_Mo_insert_82 ?_
    refine lv_if_eq (tgt := 90) hx hb d_Mo_insert_85 rfl (fun br85 => absurd br85 (by decide)) (fun br85 => ?_)
    refine lv_iconst (v := 0) hx hb d_Mo_insert_88 (by decide) ?_
    exact W.iret hx hb hr (fun t ht hW => ⟨rfl, by rw [ht]; exact cvm hP (rfl), hS.F ht⟩) hS.2.2 d_Mo_insert_89
set_option maxHeartbeats 4000000 in
set_option maxRecDepth 100000 in
theorem c_Mo_insert_2 (l : Launch) (D : va_G) (E : Nat → ClassId) (La : la_L) {m0 : Nat} (hm : isMo E La m0) (mu : la_M) {k : Nat} (hk : k < 3) {at0 x : Int32} {n : Nat} (hx1 : ¬ x < 32) (hx2 : x ≤ 126) (hn : mu (m0 + 1) (k + 1) = nI n) (hat : at0 < 0 ∨ nI n < at0) : cw l y_Mo_insert b_Mo_insert 5 (some .int) 3 67 D E La [.ref m0, .int (nI (k + 1)), .int at0, .int x] mu (some (.int 0)) (la_up mu m0 0 2) := by
  refine cw_begin R_Mo (by decide) rfl (Nat.le_of_ble_eq_true rfl) ?_
  intro p e s m below meth c ls Z hr hlocks hP hS hl
  have hx := Z.1
  have hb := Z.2.1
  have hK : va_K D cls5 (tyE E) s := Z.2.2.2.2.2
  have hl : lv_has ls 5 [(0, .ref m0), (1, .int (nI (k + 1))), (2, .int at0), (3, .int x)] := hl
  refine lv_iload_n hx hb d_Mo_insert_0 rfl (lv_at hl 1 rfl) ?_
  refine cr_S Z ks_Mo_94 (c_Mo_isClient_y l D E La mu hk) hP [] rfl rfl hl.1 (Nat.le_of_ble_eq_true rfl) ⟨by decide, by decide⟩ ⟨Nat.le_refl _, Nat.le_refl _⟩ d_Mo_insert_1 ?_
  refine lv_if_eq (tgt := 19) hx hb d_Mo_insert_4 rfl (fun br4 => absurd br4 (by decide)) (fun br4 => ?_)
  refine lv_iload_n hx hb d_Mo_insert_7 rfl (lv_at hl 3 rfl) ?_
  refine lv_bipush (v := 32) hx hb d_Mo_insert_8 (by decide) ?_
  refine lv_icmp_lt (tgt := 19) hx hb d_Mo_insert_10 rfl (fun br10 => absurd br10 (hx1)) (fun br10 => ?_)
  refine lv_iload_n hx hb d_Mo_insert_13 rfl (lv_at hl 3 rfl) ?_
  refine lv_bipush (v := 126) hx hb d_Mo_insert_14 (by decide) ?_
  refine lv_icmp_le (tgt := 23) hx hb d_Mo_insert_16 rfl (fun br16 => ?_) (fun br16 => absurd (hx2) br16)
  refine lv_iconst (v := 0) hx hb d_Mo_insert_23 (by decide) ?_
  refine lv_istore hx hb d_Mo_insert_24 hl (by decide) rfl (fun ls hl => ?_)
  have hl : lv_has ls 5 [(4, .int 0), (0, .ref m0), (1, .int (nI (k + 1))), (2, .int at0), (3, .int x)] := hl
  refine lv_aload_n hx hb d_Mo_insert_26 rfl (lv_at hl 1 rfl) ?_
  refine lv_iload hx hb d_Mo_insert_27 (lv_at hl 0 rfl) ?_
  refine lv_if_eq (tgt := 36) hx hb d_Mo_insert_29 rfl (fun br29 => ?_) (fun br29 => absurd (by decide) br29)
  refine lv_iload_n hx hb d_Mo_insert_36 rfl (lv_at hl 3 rfl) ?_
  refine lv_if_lt (tgt := 50) hx hb d_Mo_insert_37 rfl (fun br37 => ?_) (fun br37 => ?_)
  · skip
    refine lv_iconst (v := 2) hx hb d_Mo_insert_50 (by decide) ?_
    refine lv_goto (tgt := 78) hx hb d_Mo_insert_51 rfl ?_
    refine p_f Z kc_Mo hP hS hm.1 rfl 0 (by decide) wl_Mo_56 rfl rfl ⟨rfl, rfl⟩ (Nat.le_of_ble_eq_true rfl) rfl d_Mo_insert_78 (fun H locs hP hS => ?_)
    refine lv_aload_n hx hb d_Mo_insert_81 rfl (lv_at hl 1 rfl) ?_
    refine g_i (v := 2) Z kc_Mo hP hm.1 rfl 0 (by decide) wl_Mo_56 rfl rfl la_up_s d_Mo_insert_82 ?_
    refine lv_if_eq (tgt := 90) hx hb d_Mo_insert_85 rfl (fun br85 => absurd br85 (by decide)) (fun br85 => ?_)
    refine lv_iconst (v := 0) hx hb d_Mo_insert_88 (by decide) ?_
    exact W.iret hx hb hr (fun t ht hW => ⟨rfl, by rw [ht]; exact cvm hP (rfl), hS.F ht⟩) hS.2.2 d_Mo_insert_89
  · skip
    refine lv_iload_n hx hb d_Mo_insert_40 rfl (lv_at hl 3 rfl) ?_
    refine lv_aload_n hx hb d_Mo_insert_41 rfl (lv_at hl 1 rfl) ?_
    refine g_f (v := .ref (m0 + 1)) Z kc_Mo hP hm.1 rfl 1 (by decide) wl_Mo_7 rfl rfl d_Mo_insert_42 ?_
    refine lv_iload_n hx hb d_Mo_insert_45 rfl (lv_at hl 2 rfl) ?_
    refine la_ialdv (v := (nI n)) hx hb hK hP 0 hm.2.1 rfl rfl (k + 1) rfl (by omega) (by decide) hn d_Mo_insert_46 ?_
    refine lv_icmp_le (tgt := 54) hx hb d_Mo_insert_47 rfl (fun br47 => absurd br47 (Int32.not_le.mpr (hat.resolve_left br37))) (fun br47 => ?_)
    refine lv_iconst (v := 2) hx hb d_Mo_insert_50 (by decide) ?_
    refine lv_goto (tgt := 78) hx hb d_Mo_insert_51 rfl ?_
    refine p_f Z kc_Mo hP hS hm.1 rfl 0 (by decide) wl_Mo_56 rfl rfl ⟨rfl, rfl⟩ (Nat.le_of_ble_eq_true rfl) rfl d_Mo_insert_78 (fun H locs hP hS => ?_)
    refine lv_aload_n hx hb d_Mo_insert_81 rfl (lv_at hl 1 rfl) ?_
    refine g_i (v := 2) Z kc_Mo hP hm.1 rfl 0 (by decide) wl_Mo_56 rfl rfl la_up_s d_Mo_insert_82 ?_
    refine lv_if_eq (tgt := 90) hx hb d_Mo_insert_85 rfl (fun br85 => absurd br85 (by decide)) (fun br85 => ?_)
    refine lv_iconst (v := 0) hx hb d_Mo_insert_88 (by decide) ?_
    exact W.iret hx hb hr (fun t ht hW => ⟨rfl, by rw [ht]; exact cvm hP (rfl), hS.F ht⟩) hS.2.2 d_Mo_insert_89
set_option maxHeartbeats 4000000 in
set_option maxRecDepth 100000 in
theorem c_Mo_insert_3n (l : Launch) (D : va_G) (E : Nat → ClassId) (La : la_L) {m0 : Nat} (hm : isMo E La m0) (mu : la_M) {k : Nat} (hk : k < 3) {x : Int32} {q n : Nat} (hx1 : ¬ x < 32) (hx2 : x ≤ 126) (hn : mu (m0 + 1) (k + 1) = nI n) (hq : q ≤ n) (hn3 : n < 2 ^ 31) (h40 : 40 ≤ n) : cw l y_Mo_insert b_Mo_insert 5 (some .int) 3 67 D E La [.ref m0, .int (nI (k + 1)), .int (nI q), .int x] mu (some (.int 0)) (la_up mu m0 0 3) := by
  refine cw_begin R_Mo (by decide) rfl (Nat.le_of_ble_eq_true rfl) ?_
  intro p e s m below meth c ls Z hr hlocks hP hS hl
  have hx := Z.1
  have hb := Z.2.1
  have hK : va_K D cls5 (tyE E) s := Z.2.2.2.2.2
  have hl : lv_has ls 5 [(0, .ref m0), (1, .int (nI (k + 1))), (2, .int (nI q)), (3, .int x)] := hl
  refine lv_iload_n hx hb d_Mo_insert_0 rfl (lv_at hl 1 rfl) ?_
  refine cr_S Z ks_Mo_94 (c_Mo_isClient_y l D E La mu hk) hP [] rfl rfl hl.1 (Nat.le_of_ble_eq_true rfl) ⟨by decide, by decide⟩ ⟨Nat.le_refl _, Nat.le_refl _⟩ d_Mo_insert_1 ?_
  refine lv_if_eq (tgt := 19) hx hb d_Mo_insert_4 rfl (fun br4 => absurd br4 (by decide)) (fun br4 => ?_)
  refine lv_iload_n hx hb d_Mo_insert_7 rfl (lv_at hl 3 rfl) ?_
  refine lv_bipush (v := 32) hx hb d_Mo_insert_8 (by decide) ?_
  refine lv_icmp_lt (tgt := 19) hx hb d_Mo_insert_10 rfl (fun br10 => absurd br10 (hx1)) (fun br10 => ?_)
  refine lv_iload_n hx hb d_Mo_insert_13 rfl (lv_at hl 3 rfl) ?_
  refine lv_bipush (v := 126) hx hb d_Mo_insert_14 (by decide) ?_
  refine lv_icmp_le (tgt := 23) hx hb d_Mo_insert_16 rfl (fun br16 => ?_) (fun br16 => absurd (hx2) br16)
  refine lv_iconst (v := 0) hx hb d_Mo_insert_23 (by decide) ?_
  refine lv_istore hx hb d_Mo_insert_24 hl (by decide) rfl (fun ls hl => ?_)
  have hl : lv_has ls 5 [(4, .int 0), (0, .ref m0), (1, .int (nI (k + 1))), (2, .int (nI q)), (3, .int x)] := hl
  refine lv_aload_n hx hb d_Mo_insert_26 rfl (lv_at hl 1 rfl) ?_
  refine lv_iload hx hb d_Mo_insert_27 (lv_at hl 0 rfl) ?_
  refine lv_if_eq (tgt := 36) hx hb d_Mo_insert_29 rfl (fun br29 => ?_) (fun br29 => absurd (by decide) br29)
  refine lv_iload_n hx hb d_Mo_insert_36 rfl (lv_at hl 3 rfl) ?_
  refine lv_if_lt (tgt := 50) hx hb d_Mo_insert_37 rfl (fun br37 => absurd br37 (nI_pos (by omega))) (fun br37 => ?_)
  refine lv_iload_n hx hb d_Mo_insert_40 rfl (lv_at hl 3 rfl) ?_
  refine lv_aload_n hx hb d_Mo_insert_41 rfl (lv_at hl 1 rfl) ?_
  refine g_f (v := .ref (m0 + 1)) Z kc_Mo hP hm.1 rfl 1 (by decide) wl_Mo_7 rfl rfl d_Mo_insert_42 ?_
  refine lv_iload_n hx hb d_Mo_insert_45 rfl (lv_at hl 2 rfl) ?_
  refine la_ialdv (v := (nI n)) hx hb hK hP 0 hm.2.1 rfl rfl (k + 1) rfl (by omega) (by decide) hn d_Mo_insert_46 ?_
  refine lv_icmp_le (tgt := 54) hx hb d_Mo_insert_47 rfl (fun br47 => ?_) (fun br47 => absurd (nI_le hq (by omega)) br47)
  refine lv_aload_n hx hb d_Mo_insert_54 rfl (lv_at hl 1 rfl) ?_
  refine g_f (v := .ref (m0 + 1)) Z kc_Mo hP hm.1 rfl 1 (by decide) wl_Mo_7 rfl rfl d_Mo_insert_55 ?_
  refine lv_iload_n hx hb d_Mo_insert_58 rfl (lv_at hl 2 rfl) ?_
  refine la_ialdv (v := (nI n)) hx hb hK hP 0 hm.2.1 rfl rfl (k + 1) rfl (by omega) (by decide) hn d_Mo_insert_59 ?_
  refine lv_bipush (v := 40) hx hb d_Mo_insert_60 (by decide) ?_
  refine lv_icmp_ge (tgt := 73) hx hb d_Mo_insert_62 rfl (fun br62 => ?_) (fun br62 => absurd (nI_le (a := 40) h40 hn3) br62)
  refine lv_iconst (v := 3) hx hb d_Mo_insert_73 (by decide) ?_
  refine lv_goto (tgt := 78) hx hb d_Mo_insert_74 rfl ?_
  refine p_f Z kc_Mo hP hS hm.1 rfl 0 (by decide) wl_Mo_56 rfl rfl ⟨rfl, rfl⟩ (Nat.le_of_ble_eq_true rfl) rfl d_Mo_insert_78 (fun H locs hP hS => ?_)
  refine lv_aload_n hx hb d_Mo_insert_81 rfl (lv_at hl 1 rfl) ?_
  refine g_i (v := 3) Z kc_Mo hP hm.1 rfl 0 (by decide) wl_Mo_56 rfl rfl la_up_s d_Mo_insert_82 ?_
  refine lv_if_eq (tgt := 90) hx hb d_Mo_insert_85 rfl (fun br85 => absurd br85 (by decide)) (fun br85 => ?_)
  refine lv_iconst (v := 0) hx hb d_Mo_insert_88 (by decide) ?_
  exact W.iret hx hb hr (fun t ht hW => ⟨rfl, by rw [ht]; exact cvm hP (rfl), hS.F ht⟩) hS.2.2 d_Mo_insert_89
set_option maxHeartbeats 4000000 in
set_option maxRecDepth 100000 in
theorem c_Mo_insert_3l (l : Launch) (D : va_G) (E : Nat → ClassId) (La : la_L) {m0 : Nat} (hm : isMo E La m0) (mu : la_M) {k : Nat} (hk : k < 3) {x : Int32} {q n o0 : Nat} (hx1 : ¬ x < 32) (hx2 : x ≤ 126) (hn : mu (m0 + 1) (k + 1) = nI n) (hq : q ≤ n) (h40 : n < 40) (ho : mu (m0 + 11) (2 * k) = nI o0) (ho4 : o0 < 40) (hf : 16 ≤ o0) : cw l y_Mo_insert b_Mo_insert 5 (some .int) 3 67 D E La [.ref m0, .int (nI (k + 1)), .int (nI q), .int x] mu (some (.int 0)) (la_up mu m0 0 3) := by
  refine cw_begin R_Mo (by decide) rfl (Nat.le_of_ble_eq_true rfl) ?_
  intro p e s m below meth c ls Z hr hlocks hP hS hl
  have hx := Z.1
  have hb := Z.2.1
  have hK : va_K D cls5 (tyE E) s := Z.2.2.2.2.2
  have hl : lv_has ls 5 [(0, .ref m0), (1, .int (nI (k + 1))), (2, .int (nI q)), (3, .int x)] := hl
  refine lv_iload_n hx hb d_Mo_insert_0 rfl (lv_at hl 1 rfl) ?_
  refine cr_S Z ks_Mo_94 (c_Mo_isClient_y l D E La mu hk) hP [] rfl rfl hl.1 (Nat.le_of_ble_eq_true rfl) ⟨by decide, by decide⟩ ⟨Nat.le_refl _, Nat.le_refl _⟩ d_Mo_insert_1 ?_
  refine lv_if_eq (tgt := 19) hx hb d_Mo_insert_4 rfl (fun br4 => absurd br4 (by decide)) (fun br4 => ?_)
  refine lv_iload_n hx hb d_Mo_insert_7 rfl (lv_at hl 3 rfl) ?_
  refine lv_bipush (v := 32) hx hb d_Mo_insert_8 (by decide) ?_
  refine lv_icmp_lt (tgt := 19) hx hb d_Mo_insert_10 rfl (fun br10 => absurd br10 (hx1)) (fun br10 => ?_)
  refine lv_iload_n hx hb d_Mo_insert_13 rfl (lv_at hl 3 rfl) ?_
  refine lv_bipush (v := 126) hx hb d_Mo_insert_14 (by decide) ?_
  refine lv_icmp_le (tgt := 23) hx hb d_Mo_insert_16 rfl (fun br16 => ?_) (fun br16 => absurd (hx2) br16)
  refine lv_iconst (v := 0) hx hb d_Mo_insert_23 (by decide) ?_
  refine lv_istore hx hb d_Mo_insert_24 hl (by decide) rfl (fun ls hl => ?_)
  have hl : lv_has ls 5 [(4, .int 0), (0, .ref m0), (1, .int (nI (k + 1))), (2, .int (nI q)), (3, .int x)] := hl
  refine lv_aload_n hx hb d_Mo_insert_26 rfl (lv_at hl 1 rfl) ?_
  refine lv_iload hx hb d_Mo_insert_27 (lv_at hl 0 rfl) ?_
  refine lv_if_eq (tgt := 36) hx hb d_Mo_insert_29 rfl (fun br29 => ?_) (fun br29 => absurd (by decide) br29)
  refine lv_iload_n hx hb d_Mo_insert_36 rfl (lv_at hl 3 rfl) ?_
  refine lv_if_lt (tgt := 50) hx hb d_Mo_insert_37 rfl (fun br37 => absurd br37 (nI_pos (by omega))) (fun br37 => ?_)
  refine lv_iload_n hx hb d_Mo_insert_40 rfl (lv_at hl 3 rfl) ?_
  refine lv_aload_n hx hb d_Mo_insert_41 rfl (lv_at hl 1 rfl) ?_
  refine g_f (v := .ref (m0 + 1)) Z kc_Mo hP hm.1 rfl 1 (by decide) wl_Mo_7 rfl rfl d_Mo_insert_42 ?_
  refine lv_iload_n hx hb d_Mo_insert_45 rfl (lv_at hl 2 rfl) ?_
  refine la_ialdv (v := (nI n)) hx hb hK hP 0 hm.2.1 rfl rfl (k + 1) rfl (by omega) (by decide) hn d_Mo_insert_46 ?_
  refine lv_icmp_le (tgt := 54) hx hb d_Mo_insert_47 rfl (fun br47 => ?_) (fun br47 => absurd (nI_le hq (by omega)) br47)
  refine lv_aload_n hx hb d_Mo_insert_54 rfl (lv_at hl 1 rfl) ?_
  refine g_f (v := .ref (m0 + 1)) Z kc_Mo hP hm.1 rfl 1 (by decide) wl_Mo_7 rfl rfl d_Mo_insert_55 ?_
  refine lv_iload_n hx hb d_Mo_insert_58 rfl (lv_at hl 2 rfl) ?_
  refine la_ialdv (v := (nI n)) hx hb hK hP 0 hm.2.1 rfl rfl (k + 1) rfl (by omega) (by decide) hn d_Mo_insert_59 ?_
  refine lv_bipush (v := 40) hx hb d_Mo_insert_60 (by decide) ?_
  refine lv_icmp_ge (tgt := 73) hx hb d_Mo_insert_62 rfl (fun br62 => absurd br62 (nI_ge (b := 40) h40 (by decide))) (fun br62 => ?_)
  refine lv_aload_n hx hb d_Mo_insert_65 rfl (lv_at hl 1 rfl) ?_
  refine lv_iload_n hx hb d_Mo_insert_66 rfl (lv_at hl 2 rfl) ?_
  refine cr_V Z kv_Mo_98 (c_Mo_loaded_t l D E La hm mu hk ho (by omega) hf) hP (la_recv hK hP kc_Mo hm.1 rfl) [.ref m0] rfl rfl hl.1 (Nat.le_of_ble_eq_true rfl) ⟨by decide, by decide⟩ ⟨Nat.le_refl _, Nat.le_refl _⟩ d_Mo_insert_67 ?_
  refine lv_if_eq (tgt := 77) hx hb d_Mo_insert_70 rfl (fun br70 => absurd br70 (by decide)) (fun br70 => ?_)
  refine lv_iconst (v := 3) hx hb d_Mo_insert_73 (by decide) ?_
  refine lv_goto (tgt := 78) hx hb d_Mo_insert_74 rfl ?_
  refine p_f Z kc_Mo hP hS hm.1 rfl 0 (by decide) wl_Mo_56 rfl rfl ⟨rfl, rfl⟩ (Nat.le_of_ble_eq_true rfl) rfl d_Mo_insert_78 (fun H locs hP hS => ?_)
  refine lv_aload_n hx hb d_Mo_insert_81 rfl (lv_at hl 1 rfl) ?_
  refine g_i (v := 3) Z kc_Mo hP hm.1 rfl 0 (by decide) wl_Mo_56 rfl rfl la_up_s d_Mo_insert_82 ?_
  refine lv_if_eq (tgt := 90) hx hb d_Mo_insert_85 rfl (fun br85 => absurd br85 (by decide)) (fun br85 => ?_)
  refine lv_iconst (v := 0) hx hb d_Mo_insert_88 (by decide) ?_
  exact W.iret hx hb hr (fun t ht hW => ⟨rfl, by rw [ht]; exact cvm hP (rfl), hS.F ht⟩) hS.2.2 d_Mo_insert_89
set_option maxHeartbeats 4000000 in
set_option maxRecDepth 100000 in
theorem c_Mo_insert_0 (l : Launch) (D : va_G) (E : Nat → ClassId) (La : la_L) {m0 : Nat} (hm : isMo E La m0) (mu : la_M) {k : Nat} (hk : k < 3) {q n cx w0 o0 t0 : Nat} (hcx : cx < 65536) (hx1 : ¬ nI cx < 32) (hx2 : nI cx ≤ 126) (hq : q ≤ n) (h40 : n < 40) (hn : mu (m0 + 1) (k + 1) = nI n) (hz : ∀ i, chz (mu (m0 + 2) i)) (hw : mu (m0 + 5) (2 * k) = nI w0) (hw4 : w0 < 40) (ho : mu (m0 + 11) (2 * k) = nI o0) (hf : o0 < 16) (ht : mu (m0 + 3) (2 * k) = nI t0)  : cw l y_Mo_insert b_Mo_insert 5 (some .int) 3 67 D E La [.ref m0, .int (nI (k + 1)), .int (nI q), .int (nI cx)] mu (some (.int (nI (n + 1)))) (md_bgn (la_up mu m0 0 0) m0 k 0 q n cx w0 o0 t0) := by
  refine cw_begin R_Mo (by decide) rfl (Nat.le_of_ble_eq_true rfl) ?_
  intro p e s m below meth c ls Z hr hlocks hP hS hl
  have hx := Z.1
  have hb := Z.2.1
  have hK : va_K D cls5 (tyE E) s := Z.2.2.2.2.2
  have hl : lv_has ls 5 [(0, .ref m0), (1, .int (nI (k + 1))), (2, .int (nI q)), (3, .int (nI cx))] := hl
  have z1 := (show (la_up mu m0 0 0) (m0 + 1) (k + 1) = nI n by rw [la_up_n (by omega)]; exact hn)
  have z5 := (show (la_up mu m0 0 0) (m0 + 5) (2 * k) = nI w0 by rw [la_up_n (by omega)]; exact hw)
  have z11 := (show (la_up mu m0 0 0) (m0 + 11) (2 * k) = nI o0 by rw [la_up_n (by omega)]; exact ho)
  have z3 := (show (la_up mu m0 0 0) (m0 + 3) (2 * k) = nI t0 by rw [la_up_n (by omega)]; exact ht)
  have zz2 : ∀ i, chz ((la_up mu m0 0 0) (m0 + 2) i) := fun i => by rw [la_up_n (by omega)]; exact hz i
  have gF : (md_bgn (la_up mu m0 0 0) m0 k 0 q n cx w0 o0 t0) (m0 + 1) (k + 1) = nI (n + 1) := by
    unfold md_bgn
    rw [md_send_1 (by omega) (by omega) (by omega) (by omega) (by omega) (by omega) (by omega) (by omega) (by omega) (by omega) (by omega) (by omega)]
    exact md_app_1 (kd := 0) (by rw [md_beg_n (by omega)]; exact z1)
  refine lv_iload_n hx hb d_Mo_insert_0 rfl (lv_at hl 1 rfl) ?_
  refine cr_S Z ks_Mo_94 (c_Mo_isClient_y l D E La mu hk) hP [] rfl rfl hl.1 (Nat.le_of_ble_eq_true rfl) ⟨by decide, by decide⟩ ⟨Nat.le_refl _, Nat.le_refl _⟩ d_Mo_insert_1 ?_
  refine lv_if_eq (tgt := 19) hx hb d_Mo_insert_4 rfl (fun br4 => absurd br4 (by decide)) (fun br4 => ?_)
  refine lv_iload_n hx hb d_Mo_insert_7 rfl (lv_at hl 3 rfl) ?_
  refine lv_bipush (v := 32) hx hb d_Mo_insert_8 (by decide) ?_
  refine lv_icmp_lt (tgt := 19) hx hb d_Mo_insert_10 rfl (fun br10 => absurd br10 (hx1)) (fun br10 => ?_)
  refine lv_iload_n hx hb d_Mo_insert_13 rfl (lv_at hl 3 rfl) ?_
  refine lv_bipush (v := 126) hx hb d_Mo_insert_14 (by decide) ?_
  refine lv_icmp_le (tgt := 23) hx hb d_Mo_insert_16 rfl (fun br16 => ?_) (fun br16 => absurd (hx2) br16)
  refine lv_iconst (v := 0) hx hb d_Mo_insert_23 (by decide) ?_
  refine lv_istore hx hb d_Mo_insert_24 hl (by decide) rfl (fun ls hl => ?_)
  have hl : lv_has ls 5 [(4, .int 0), (0, .ref m0), (1, .int (nI (k + 1))), (2, .int (nI q)), (3, .int (nI cx))] := hl
  refine lv_aload_n hx hb d_Mo_insert_26 rfl (lv_at hl 1 rfl) ?_
  refine lv_iload hx hb d_Mo_insert_27 (lv_at hl 0 rfl) ?_
  refine lv_if_eq (tgt := 36) hx hb d_Mo_insert_29 rfl (fun br29 => ?_) (fun br29 => absurd (by decide) br29)
  refine lv_iload_n hx hb d_Mo_insert_36 rfl (lv_at hl 3 rfl) ?_
  refine lv_if_lt (tgt := 50) hx hb d_Mo_insert_37 rfl (fun br37 => absurd br37 (nI_pos (by omega))) (fun br37 => ?_)
  refine lv_iload_n hx hb d_Mo_insert_40 rfl (lv_at hl 3 rfl) ?_
  refine lv_aload_n hx hb d_Mo_insert_41 rfl (lv_at hl 1 rfl) ?_
  refine g_f (v := .ref (m0 + 1)) Z kc_Mo hP hm.1 rfl 1 (by decide) wl_Mo_7 rfl rfl d_Mo_insert_42 ?_
  refine lv_iload_n hx hb d_Mo_insert_45 rfl (lv_at hl 2 rfl) ?_
  refine la_ialdv (v := (nI n)) hx hb hK hP 0 hm.2.1 rfl rfl (k + 1) rfl (by omega) (by decide) hn d_Mo_insert_46 ?_
  refine lv_icmp_le (tgt := 54) hx hb d_Mo_insert_47 rfl (fun br47 => ?_) (fun br47 => absurd (nI_le hq (by omega)) br47)
  refine lv_aload_n hx hb d_Mo_insert_54 rfl (lv_at hl 1 rfl) ?_
  refine g_f (v := .ref (m0 + 1)) Z kc_Mo hP hm.1 rfl 1 (by decide) wl_Mo_7 rfl rfl d_Mo_insert_55 ?_
  refine lv_iload_n hx hb d_Mo_insert_58 rfl (lv_at hl 2 rfl) ?_
  refine la_ialdv (v := (nI n)) hx hb hK hP 0 hm.2.1 rfl rfl (k + 1) rfl (by omega) (by decide) hn d_Mo_insert_59 ?_
  refine lv_bipush (v := 40) hx hb d_Mo_insert_60 (by decide) ?_
  refine lv_icmp_ge (tgt := 73) hx hb d_Mo_insert_62 rfl (fun br62 => absurd br62 (nI_ge (b := 40) h40 (by decide))) (fun br62 => ?_)
  refine lv_aload_n hx hb d_Mo_insert_65 rfl (lv_at hl 1 rfl) ?_
  refine lv_iload_n hx hb d_Mo_insert_66 rfl (lv_at hl 2 rfl) ?_
  refine cr_V Z kv_Mo_98 (c_Mo_loaded_f l D E La hm mu hk ho (by omega) hf) hP (la_recv hK hP kc_Mo hm.1 rfl) [.ref m0] rfl rfl hl.1 (Nat.le_of_ble_eq_true rfl) ⟨by decide, by decide⟩ ⟨Nat.le_refl _, Nat.le_refl _⟩ d_Mo_insert_67 ?_
  refine lv_if_eq (tgt := 77) hx hb d_Mo_insert_70 rfl (fun br70 => ?_) (fun br70 => absurd (by decide) br70)
  refine lv_iconst (v := 0) hx hb d_Mo_insert_77 (by decide) ?_
  refine p_f Z kc_Mo hP hS hm.1 rfl 0 (by decide) wl_Mo_56 rfl rfl ⟨rfl, rfl⟩ (Nat.le_of_ble_eq_true rfl) rfl d_Mo_insert_78 (fun H locs hP hS => ?_)
  refine lv_aload_n hx hb d_Mo_insert_81 rfl (lv_at hl 1 rfl) ?_
  refine g_i (v := 0) Z kc_Mo hP hm.1 rfl 0 (by decide) wl_Mo_56 rfl rfl la_up_s d_Mo_insert_82 ?_
  refine lv_if_eq (tgt := 90) hx hb d_Mo_insert_85 rfl (fun br85 => ?_) (fun br85 => absurd (by decide) br85)
  refine lv_aload_n hx hb d_Mo_insert_90 rfl (lv_at hl 1 rfl) ?_
  refine lv_iload_n hx hb d_Mo_insert_91 rfl (lv_at hl 2 rfl) ?_
  refine lv_iconst (v := 0) hx hb d_Mo_insert_92 (by decide) ?_
  refine lv_iload_n hx hb d_Mo_insert_93 rfl (lv_at hl 3 rfl) ?_
  refine lv_iload_n hx hb d_Mo_insert_94 rfl (lv_at hl 4 rfl) ?_
  refine cw_V Z kv_Mo_101 (c_Mo_begin l D E La hm (la_up mu m0 0 0) hk (kd := 0) (q := q) (n := n) (cx := cx) (hcx) z1 (by omega) zz2 (by decide) (fun _ => hq) (fun h => by omega) z5 hw4 z11 (by omega) z3) hP hS (fun _ h => h) (la_recv hK hP kc_Mo hm.1 rfl) [] rfl rfl hl.1 (Nat.le_of_ble_eq_true rfl) ⟨by decide, by decide⟩ ⟨Nat.le_refl _, Nat.le_refl _⟩ d_Mo_insert_95 (fun H locs hP hkp hS => ?_)
  refine lv_aload_n hx hb d_Mo_insert_98 rfl (lv_at hl 1 rfl) ?_
  refine g_f (v := .ref (m0 + 1)) Z kc_Mo hP hm.1 rfl 1 (by decide) wl_Mo_7 rfl rfl d_Mo_insert_99 ?_
  refine lv_iload_n hx hb d_Mo_insert_102 rfl (lv_at hl 2 rfl) ?_
  refine la_ialdv (v := (nI (n + 1))) hx hb hK hP 0 hm.2.1 rfl rfl (k + 1) rfl (by omega) (by decide) gF d_Mo_insert_103 ?_
  exact W.iret hx hb hr (fun t ht hW => ⟨rfl, by rw [ht]; exact cvm hP (rfl), hS.F ht⟩) hS.2.2 d_Mo_insert_104
set_option maxHeartbeats 4000000 in
set_option maxRecDepth 100000 in
theorem c_Mo_delete_1 (l : Launch) (D : va_G) (E : Nat → ClassId) (La : la_L) {m0 : Nat} (hm : isMo E La m0) (mu : la_M) {cl at0 : Int32} (hc : cl < 1 ∨ 3 < cl) : cw l y_Mo_delete b_Mo_delete 4 (some .int) 3 67 D E La [.ref m0, .int cl, .int at0] mu (some (.int 0)) (la_up mu m0 0 1) := by
  refine cw_begin R_Mo (by decide) rfl (Nat.le_of_ble_eq_true rfl) ?_
  intro p e s m below meth c ls Z hr hlocks hP hS hl
  have hx := Z.1
  have hb := Z.2.1
  have hK : va_K D cls5 (tyE E) s := Z.2.2.2.2.2
  have hl : lv_has ls 4 [(0, .ref m0), (1, .int cl), (2, .int at0)] := hl
  refine lv_aload_n hx hb d_Mo_delete_0 rfl (lv_at hl 0 rfl) ?_
  refine lv_iload_n hx hb d_Mo_delete_1 rfl (lv_at hl 1 rfl) ?_
  refine cr_S Z ks_Mo_94 (c_Mo_isClient_n l D E La mu hc) hP [.ref m0] rfl rfl hl.1 (Nat.le_of_ble_eq_true rfl) ⟨by decide, by decide⟩ ⟨Nat.le_refl _, Nat.le_refl _⟩ d_Mo_delete_2 ?_
  refine lv_if_ne (tgt := 12) hx hb d_Mo_delete_5 rfl (fun br5 => absurd (rfl) br5) (fun br5 => ?_)
  refine lv_iconst (v := 1) hx hb d_Mo_delete_8 (by decide) ?_
  refine lv_goto (tgt := 43) hx hb d_Mo_delete_9 rfl ?_
  refine p_f Z kc_Mo hP hS hm.1 rfl 0 (by decide) wl_Mo_56 rfl rfl ⟨rfl, rfl⟩ (Nat.le_of_ble_eq_true rfl) rfl d_Mo_delete_43 (fun H locs hP hS => ?_)
  refine lv_aload_n hx hb d_Mo_delete_46 rfl (lv_at hl 0 rfl) ?_
  refine g_i (v := 1) Z kc_Mo hP hm.1 rfl 0 (by decide) wl_Mo_56 rfl rfl la_up_s d_Mo_delete_47 ?_
  refine lv_if_eq (tgt := 55) hx hb d_Mo_delete_50 rfl (fun br50 => absurd br50 (by decide)) (fun br50 => ?_)
  refine lv_iconst (v := 0) hx hb d_Mo_delete_53 (by decide) ?_
  exact W.iret hx hb hr (fun t ht hW => ⟨rfl, by rw [ht]; exact cvm hP (rfl), hS.F ht⟩) hS.2.2 d_Mo_delete_54
set_option maxHeartbeats 4000000 in
set_option maxRecDepth 100000 in
theorem c_Mo_delete_2 (l : Launch) (D : va_G) (E : Nat → ClassId) (La : la_L) {m0 : Nat} (hm : isMo E La m0) (mu : la_M) {k : Nat} (hk : k < 3) {at0 : Int32} {n : Nat} (hn : mu (m0 + 1) (k + 1) = nI n) (hat : at0 < 0 ∨ nI n ≤ at0) : cw l y_Mo_delete b_Mo_delete 4 (some .int) 3 67 D E La [.ref m0, .int (nI (k + 1)), .int at0] mu (some (.int 0)) (la_up mu m0 0 2) := by
  refine cw_begin R_Mo (by decide) rfl (Nat.le_of_ble_eq_true rfl) ?_
  intro p e s m below meth c ls Z hr hlocks hP hS hl
  have hx := Z.1
  have hb := Z.2.1
  have hK : va_K D cls5 (tyE E) s := Z.2.2.2.2.2
  have hl : lv_has ls 4 [(0, .ref m0), (1, .int (nI (k + 1))), (2, .int at0)] := hl
  refine lv_aload_n hx hb d_Mo_delete_0 rfl (lv_at hl 0 rfl) ?_
  refine lv_iload_n hx hb d_Mo_delete_1 rfl (lv_at hl 1 rfl) ?_
  refine cr_S Z ks_Mo_94 (c_Mo_isClient_y l D E La mu hk) hP [.ref m0] rfl rfl hl.1 (Nat.le_of_ble_eq_true rfl) ⟨by decide, by decide⟩ ⟨Nat.le_refl _, Nat.le_refl _⟩ d_Mo_delete_2 ?_
  refine lv_if_ne (tgt := 12) hx hb d_Mo_delete_5 rfl (fun br5 => ?_) (fun br5 => absurd br5 (by decide))
  refine lv_iload_n hx hb d_Mo_delete_12 rfl (lv_at hl 2 rfl) ?_
  refine lv_if_lt (tgt := 26) hx hb d_Mo_delete_13 rfl (fun br13 => ?_) (fun br13 => ?_)
  · skip
    refine lv_iconst (v := 2) hx hb d_Mo_delete_26 (by decide) ?_
    refine lv_goto (tgt := 43) hx hb d_Mo_delete_27 rfl ?_
    refine p_f Z kc_Mo hP hS hm.1 rfl 0 (by decide) wl_Mo_56 rfl rfl ⟨rfl, rfl⟩ (Nat.le_of_ble_eq_true rfl) rfl d_Mo_delete_43 (fun H locs hP hS => ?_)
    refine lv_aload_n hx hb d_Mo_delete_46 rfl (lv_at hl 0 rfl) ?_
    refine g_i (v := 2) Z kc_Mo hP hm.1 rfl 0 (by decide) wl_Mo_56 rfl rfl la_up_s d_Mo_delete_47 ?_
    refine lv_if_eq (tgt := 55) hx hb d_Mo_delete_50 rfl (fun br50 => absurd br50 (by decide)) (fun br50 => ?_)
    refine lv_iconst (v := 0) hx hb d_Mo_delete_53 (by decide) ?_
    exact W.iret hx hb hr (fun t ht hW => ⟨rfl, by rw [ht]; exact cvm hP (rfl), hS.F ht⟩) hS.2.2 d_Mo_delete_54
  · skip
    refine lv_iload_n hx hb d_Mo_delete_16 rfl (lv_at hl 2 rfl) ?_
    refine lv_aload_n hx hb d_Mo_delete_17 rfl (lv_at hl 0 rfl) ?_
    refine g_f (v := .ref (m0 + 1)) Z kc_Mo hP hm.1 rfl 1 (by decide) wl_Mo_7 rfl rfl d_Mo_delete_18 ?_
    refine lv_iload_n hx hb d_Mo_delete_21 rfl (lv_at hl 1 rfl) ?_
    refine la_ialdv (v := (nI n)) hx hb hK hP 0 hm.2.1 rfl rfl (k + 1) rfl (by omega) (by decide) hn d_Mo_delete_22 ?_
    refine lv_icmp_lt (tgt := 30) hx hb d_Mo_delete_23 rfl (fun br23 => absurd br23 (Int32.not_lt.mpr (hat.resolve_left br13))) (fun br23 => ?_)
    refine lv_iconst (v := 2) hx hb d_Mo_delete_26 (by decide) ?_
    refine lv_goto (tgt := 43) hx hb d_Mo_delete_27 rfl ?_
    refine p_f Z kc_Mo hP hS hm.1 rfl 0 (by decide) wl_Mo_56 rfl rfl ⟨rfl, rfl⟩ (Nat.le_of_ble_eq_true rfl) rfl d_Mo_delete_43 (fun H locs hP hS => ?_)
    refine lv_aload_n hx hb d_Mo_delete_46 rfl (lv_at hl 0 rfl) ?_
    refine g_i (v := 2) Z kc_Mo hP hm.1 rfl 0 (by decide) wl_Mo_56 rfl rfl la_up_s d_Mo_delete_47 ?_
    refine lv_if_eq (tgt := 55) hx hb d_Mo_delete_50 rfl (fun br50 => absurd br50 (by decide)) (fun br50 => ?_)
    refine lv_iconst (v := 0) hx hb d_Mo_delete_53 (by decide) ?_
    exact W.iret hx hb hr (fun t ht hW => ⟨rfl, by rw [ht]; exact cvm hP (rfl), hS.F ht⟩) hS.2.2 d_Mo_delete_54
set_option maxHeartbeats 4000000 in
set_option maxRecDepth 100000 in
theorem c_Mo_delete_3 (l : Launch) (D : va_G) (E : Nat → ClassId) (La : la_L) {m0 : Nat} (hm : isMo E La m0) (mu : la_M) {k : Nat} (hk : k < 3) {q n o0 : Nat} (hn : mu (m0 + 1) (k + 1) = nI n) (hq : q < n) (hn3 : n < 2 ^ 31) (ho : mu (m0 + 11) (2 * k) = nI o0) (ho4 : o0 < 40) (hf : 16 ≤ o0) : cw l y_Mo_delete b_Mo_delete 4 (some .int) 3 67 D E La [.ref m0, .int (nI (k + 1)), .int (nI q)] mu (some (.int 0)) (la_up mu m0 0 3) := by
  refine cw_begin R_Mo (by decide) rfl (Nat.le_of_ble_eq_true rfl) ?_
  intro p e s m below meth c ls Z hr hlocks hP hS hl
  have hx := Z.1
  have hb := Z.2.1
  have hK : va_K D cls5 (tyE E) s := Z.2.2.2.2.2
  have hl : lv_has ls 4 [(0, .ref m0), (1, .int (nI (k + 1))), (2, .int (nI q))] := hl
  refine lv_aload_n hx hb d_Mo_delete_0 rfl (lv_at hl 0 rfl) ?_
  refine lv_iload_n hx hb d_Mo_delete_1 rfl (lv_at hl 1 rfl) ?_
  refine cr_S Z ks_Mo_94 (c_Mo_isClient_y l D E La mu hk) hP [.ref m0] rfl rfl hl.1 (Nat.le_of_ble_eq_true rfl) ⟨by decide, by decide⟩ ⟨Nat.le_refl _, Nat.le_refl _⟩ d_Mo_delete_2 ?_
  refine lv_if_ne (tgt := 12) hx hb d_Mo_delete_5 rfl (fun br5 => ?_) (fun br5 => absurd br5 (by decide))
  refine lv_iload_n hx hb d_Mo_delete_12 rfl (lv_at hl 2 rfl) ?_
  refine lv_if_lt (tgt := 26) hx hb d_Mo_delete_13 rfl (fun br13 => absurd br13 (nI_pos (by omega))) (fun br13 => ?_)
  refine lv_iload_n hx hb d_Mo_delete_16 rfl (lv_at hl 2 rfl) ?_
  refine lv_aload_n hx hb d_Mo_delete_17 rfl (lv_at hl 0 rfl) ?_
  refine g_f (v := .ref (m0 + 1)) Z kc_Mo hP hm.1 rfl 1 (by decide) wl_Mo_7 rfl rfl d_Mo_delete_18 ?_
  refine lv_iload_n hx hb d_Mo_delete_21 rfl (lv_at hl 1 rfl) ?_
  refine la_ialdv (v := (nI n)) hx hb hK hP 0 hm.2.1 rfl rfl (k + 1) rfl (by omega) (by decide) hn d_Mo_delete_22 ?_
  refine lv_icmp_lt (tgt := 30) hx hb d_Mo_delete_23 rfl (fun br23 => ?_) (fun br23 => absurd (nI_lt hq (by omega)) br23)
  refine lv_aload_n hx hb d_Mo_delete_30 rfl (lv_at hl 0 rfl) ?_
  refine lv_iload_n hx hb d_Mo_delete_31 rfl (lv_at hl 1 rfl) ?_
  refine cr_V Z kv_Mo_98 (c_Mo_loaded_t l D E La hm mu hk ho (by omega) hf) hP (la_recv hK hP kc_Mo hm.1 rfl) [.ref m0] rfl rfl hl.1 (Nat.le_of_ble_eq_true rfl) ⟨by decide, by decide⟩ ⟨Nat.le_refl _, Nat.le_refl _⟩ d_Mo_delete_32 ?_
  refine lv_if_eq (tgt := 42) hx hb d_Mo_delete_35 rfl (fun br35 => absurd br35 (by decide)) (fun br35 => ?_)
  refine lv_iconst (v := 3) hx hb d_Mo_delete_38 (by decide) ?_
  refine lv_goto (tgt := 43) hx hb d_Mo_delete_39 rfl ?_
  refine p_f Z kc_Mo hP hS hm.1 rfl 0 (by decide) wl_Mo_56 rfl rfl ⟨rfl, rfl⟩ (Nat.le_of_ble_eq_true rfl) rfl d_Mo_delete_43 (fun H locs hP hS => ?_)
  refine lv_aload_n hx hb d_Mo_delete_46 rfl (lv_at hl 0 rfl) ?_
  refine g_i (v := 3) Z kc_Mo hP hm.1 rfl 0 (by decide) wl_Mo_56 rfl rfl la_up_s d_Mo_delete_47 ?_
  refine lv_if_eq (tgt := 55) hx hb d_Mo_delete_50 rfl (fun br50 => absurd br50 (by decide)) (fun br50 => ?_)
  refine lv_iconst (v := 0) hx hb d_Mo_delete_53 (by decide) ?_
  exact W.iret hx hb hr (fun t ht hW => ⟨rfl, by rw [ht]; exact cvm hP (rfl), hS.F ht⟩) hS.2.2 d_Mo_delete_54
set_option maxHeartbeats 4000000 in
set_option maxRecDepth 100000 in
theorem c_Mo_delete_0 (l : Launch) (D : va_G) (E : Nat → ClassId) (La : la_L) {m0 : Nat} (hm : isMo E La m0) (mu : la_M) {k : Nat} (hk : k < 3) {q n w0 o0 t0 : Nat} (hq : q < n) (h64 : n ≤ 64) (hn : mu (m0 + 1) (k + 1) = nI n) (hz : ∀ i, chz (mu (m0 + 2) i)) (hw : mu (m0 + 5) (2 * k) = nI w0) (hw4 : w0 < 40) (ho : mu (m0 + 11) (2 * k) = nI o0) (hf : o0 < 16) (ht : mu (m0 + 3) (2 * k) = nI t0)  : cw l y_Mo_delete b_Mo_delete 4 (some .int) 3 67 D E La [.ref m0, .int (nI (k + 1)), .int (nI q)] mu (some (.int (mu (m0 + 2) (200 * (k + 1) + q)))) (md_bgn (la_up mu m0 0 0) m0 k 1 q n 0 w0 o0 t0) := by
  refine cw_begin R_Mo (by decide) rfl (Nat.le_of_ble_eq_true rfl) ?_
  intro p e s m below meth c ls Z hr hlocks hP hS hl
  have hx := Z.1
  have hb := Z.2.1
  have hK : va_K D cls5 (tyE E) s := Z.2.2.2.2.2
  have hl : lv_has ls 4 [(0, .ref m0), (1, .int (nI (k + 1))), (2, .int (nI q))] := hl
  have z1 := (show (la_up mu m0 0 0) (m0 + 1) (k + 1) = nI n by rw [la_up_n (by omega)]; exact hn)
  have z5 := (show (la_up mu m0 0 0) (m0 + 5) (2 * k) = nI w0 by rw [la_up_n (by omega)]; exact hw)
  have z11 := (show (la_up mu m0 0 0) (m0 + 11) (2 * k) = nI o0 by rw [la_up_n (by omega)]; exact ho)
  have z3 := (show (la_up mu m0 0 0) (m0 + 3) (2 * k) = nI t0 by rw [la_up_n (by omega)]; exact ht)
  have zz2 : ∀ i, chz ((la_up mu m0 0 0) (m0 + 2) i) := fun i => by rw [la_up_n (by omega)]; exact hz i
  refine lv_aload_n hx hb d_Mo_delete_0 rfl (lv_at hl 0 rfl) ?_
  refine lv_iload_n hx hb d_Mo_delete_1 rfl (lv_at hl 1 rfl) ?_
  refine cr_S Z ks_Mo_94 (c_Mo_isClient_y l D E La mu hk) hP [.ref m0] rfl rfl hl.1 (Nat.le_of_ble_eq_true rfl) ⟨by decide, by decide⟩ ⟨Nat.le_refl _, Nat.le_refl _⟩ d_Mo_delete_2 ?_
  refine lv_if_ne (tgt := 12) hx hb d_Mo_delete_5 rfl (fun br5 => ?_) (fun br5 => absurd br5 (by decide))
  refine lv_iload_n hx hb d_Mo_delete_12 rfl (lv_at hl 2 rfl) ?_
  refine lv_if_lt (tgt := 26) hx hb d_Mo_delete_13 rfl (fun br13 => absurd br13 (nI_pos (by omega))) (fun br13 => ?_)
  refine lv_iload_n hx hb d_Mo_delete_16 rfl (lv_at hl 2 rfl) ?_
  refine lv_aload_n hx hb d_Mo_delete_17 rfl (lv_at hl 0 rfl) ?_
  refine g_f (v := .ref (m0 + 1)) Z kc_Mo hP hm.1 rfl 1 (by decide) wl_Mo_7 rfl rfl d_Mo_delete_18 ?_
  refine lv_iload_n hx hb d_Mo_delete_21 rfl (lv_at hl 1 rfl) ?_
  refine la_ialdv (v := (nI n)) hx hb hK hP 0 hm.2.1 rfl rfl (k + 1) rfl (by omega) (by decide) hn d_Mo_delete_22 ?_
  refine lv_icmp_lt (tgt := 30) hx hb d_Mo_delete_23 rfl (fun br23 => ?_) (fun br23 => absurd (nI_lt hq (by omega)) br23)
  refine lv_aload_n hx hb d_Mo_delete_30 rfl (lv_at hl 0 rfl) ?_
  refine lv_iload_n hx hb d_Mo_delete_31 rfl (lv_at hl 1 rfl) ?_
  refine cr_V Z kv_Mo_98 (c_Mo_loaded_f l D E La hm mu hk ho (by omega) hf) hP (la_recv hK hP kc_Mo hm.1 rfl) [.ref m0] rfl rfl hl.1 (Nat.le_of_ble_eq_true rfl) ⟨by decide, by decide⟩ ⟨Nat.le_refl _, Nat.le_refl _⟩ d_Mo_delete_32 ?_
  refine lv_if_eq (tgt := 42) hx hb d_Mo_delete_35 rfl (fun br35 => ?_) (fun br35 => absurd (by decide) br35)
  refine lv_iconst (v := 0) hx hb d_Mo_delete_42 (by decide) ?_
  refine p_f Z kc_Mo hP hS hm.1 rfl 0 (by decide) wl_Mo_56 rfl rfl ⟨rfl, rfl⟩ (Nat.le_of_ble_eq_true rfl) rfl d_Mo_delete_43 (fun H locs hP hS => ?_)
  refine lv_aload_n hx hb d_Mo_delete_46 rfl (lv_at hl 0 rfl) ?_
  refine g_i (v := 0) Z kc_Mo hP hm.1 rfl 0 (by decide) wl_Mo_56 rfl rfl la_up_s d_Mo_delete_47 ?_
  refine lv_if_eq (tgt := 55) hx hb d_Mo_delete_50 rfl (fun br50 => ?_) (fun br50 => absurd (by decide) br50)
  refine lv_aload_n hx hb d_Mo_delete_55 rfl (lv_at hl 0 rfl) ?_
  refine g_f (v := .ref (m0 + 2)) Z kc_Mo hP hm.1 rfl 2 (by decide) wl_Mo_13 rfl rfl d_Mo_delete_56 ?_
  refine lv_sipush (v := 200) hx hb d_Mo_delete_59 (by decide) ?_
  refine lv_iload_n hx hb d_Mo_delete_62 rfl (lv_at hl 1 rfl) ?_
  refine lv_imul hx hb d_Mo_delete_63 ?_
  rw [show (200 : Int32) * nI (k + 1) = nI (200 * (k + 1)) from pk_mul 200 (k + 1)]
  refine lv_iload_n hx hb d_Mo_delete_64 rfl (lv_at hl 2 rfl) ?_
  refine lv_iadd hx hb d_Mo_delete_65 ?_
  rw [nI_add]
  refine la_caldv (v := (mu (m0 + 2) (200 * (k + 1) + q))) hx hb hK hP 1 hm.2.2.1 rfl rfl (200 * (k + 1) + q) rfl (by omega) (by decide) (congrFun (la_up_n (by omega)) (200 * (k + 1) + q)) d_Mo_delete_66 ?_
  refine lv_istore_n hx hb d_Mo_delete_67 rfl hl (by decide) rfl (fun ls hl => ?_)
  have hl : lv_has ls 4 [(3, .int (mu (m0 + 2) (200 * (k + 1) + q))), (0, .ref m0), (1, .int (nI (k + 1))), (2, .int (nI q))] := hl
  refine lv_aload_n hx hb d_Mo_delete_68 rfl (lv_at hl 1 rfl) ?_
  refine lv_iload_n hx hb d_Mo_delete_69 rfl (lv_at hl 2 rfl) ?_
  refine lv_iconst (v := 1) hx hb d_Mo_delete_70 (by decide) ?_
  refine lv_iload_n hx hb d_Mo_delete_71 rfl (lv_at hl 3 rfl) ?_
  refine lv_iconst (v := 0) hx hb d_Mo_delete_72 (by decide) ?_
  refine cw_V Z kv_Mo_101 (c_Mo_begin l D E La hm (la_up mu m0 0 0) hk (kd := 1) (q := q) (n := n) (cx := 0) (by decide) z1 (h64) zz2 (by decide) (fun h => by omega) (fun _ => hq) z5 hw4 z11 (by omega) z3) hP hS (fun _ h => h) (la_recv hK hP kc_Mo hm.1 rfl) [] rfl rfl hl.1 (Nat.le_of_ble_eq_true rfl) ⟨by decide, by decide⟩ ⟨Nat.le_refl _, Nat.le_refl _⟩ d_Mo_delete_73 (fun H locs hP hkp hS => ?_)
  refine lv_iload_n hx hb d_Mo_delete_76 rfl (lv_at hl 0 rfl) ?_
  exact W.iret hx hb hr (fun t ht hW => ⟨rfl, by rw [ht]; exact cvm hP (rfl), hS.F ht⟩) hS.2.2 d_Mo_delete_77
set_option maxHeartbeats 4000000 in
set_option maxRecDepth 100000 in
theorem c_Mo_nod_1 (l : Launch) (D : va_G) (E : Nat → ClassId) (La : la_L) {m0 : Nat} (hm : isMo E La m0) (mu : la_M) {cl : Int32} (hc : cl < 1 ∨ 3 < cl) : cw l y_Mo_nod b_Mo_nod 2 none 3 67 D E La [.ref m0, .int cl] mu none (la_up mu m0 0 1) := by
  refine cw_begin R_Mo (by decide) rfl (Nat.le_of_ble_eq_true rfl) ?_
  intro p e s m below meth c ls Z hr hlocks hP hS hl
  have hx := Z.1
  have hb := Z.2.1
  have hK : va_K D cls5 (tyE E) s := Z.2.2.2.2.2
  have hl : lv_has ls 2 [(0, .ref m0), (1, .int cl)] := hl
  refine lv_aload_n hx hb d_Mo_nod_0 rfl (lv_at hl 0 rfl) ?_
  refine lv_iload_n hx hb d_Mo_nod_1 rfl (lv_at hl 1 rfl) ?_
  refine cr_S Z ks_Mo_94 (c_Mo_isClient_n l D E La mu hc) hP [.ref m0] rfl rfl hl.1 (Nat.le_of_ble_eq_true rfl) ⟨by decide, by decide⟩ ⟨Nat.le_refl _, Nat.le_refl _⟩ d_Mo_nod_2 ?_
  refine lv_if_ne (tgt := 12) hx hb d_Mo_nod_5 rfl (fun br5 => absurd (rfl) br5) (fun br5 => ?_)
  refine lv_iconst (v := 1) hx hb d_Mo_nod_8 (by decide) ?_
  refine lv_goto (tgt := 25) hx hb d_Mo_nod_9 rfl ?_
  refine p_f Z kc_Mo hP hS hm.1 rfl 0 (by decide) wl_Mo_56 rfl rfl ⟨rfl, rfl⟩ (Nat.le_of_ble_eq_true rfl) rfl d_Mo_nod_25 (fun H locs hP hS => ?_)
  refine lv_aload_n hx hb d_Mo_nod_28 rfl (lv_at hl 0 rfl) ?_
  refine g_i (v := 1) Z kc_Mo hP hm.1 rfl 0 (by decide) wl_Mo_56 rfl rfl la_up_s d_Mo_nod_29 ?_
  refine lv_if_ne (tgt := 43) hx hb d_Mo_nod_32 rfl (fun br32 => ?_) (fun br32 => absurd br32 (by decide))
  exact W.vret hx hb hr (fun t ht hW => ⟨rfl, by rw [ht]; exact cvm hP (rfl), hS.F ht⟩) hS.2.2 d_Mo_nod_43
set_option maxHeartbeats 4000000 in
set_option maxRecDepth 100000 in
theorem c_Mo_nod_2 (l : Launch) (D : va_G) (E : Nat → ClassId) (La : la_L) {m0 : Nat} (hm : isMo E La m0) (mu : la_M) {k : Nat} (hk : k < 3) {o0 : Nat} (ho : mu (m0 + 11) (2 * k) = nI o0) (ho4 : o0 < 40) (hf : 16 ≤ o0) : cw l y_Mo_nod b_Mo_nod 2 none 3 67 D E La [.ref m0, .int (nI (k + 1))] mu none (la_up mu m0 0 2) := by
  refine cw_begin R_Mo (by decide) rfl (Nat.le_of_ble_eq_true rfl) ?_
  intro p e s m below meth c ls Z hr hlocks hP hS hl
  have hx := Z.1
  have hb := Z.2.1
  have hK : va_K D cls5 (tyE E) s := Z.2.2.2.2.2
  have hl : lv_has ls 2 [(0, .ref m0), (1, .int (nI (k + 1)))] := hl
  refine lv_aload_n hx hb d_Mo_nod_0 rfl (lv_at hl 0 rfl) ?_
  refine lv_iload_n hx hb d_Mo_nod_1 rfl (lv_at hl 1 rfl) ?_
  refine cr_S Z ks_Mo_94 (c_Mo_isClient_y l D E La mu hk) hP [.ref m0] rfl rfl hl.1 (Nat.le_of_ble_eq_true rfl) ⟨by decide, by decide⟩ ⟨Nat.le_refl _, Nat.le_refl _⟩ d_Mo_nod_2 ?_
  refine lv_if_ne (tgt := 12) hx hb d_Mo_nod_5 rfl (fun br5 => ?_) (fun br5 => absurd br5 (by decide))
  refine lv_aload_n hx hb d_Mo_nod_12 rfl (lv_at hl 0 rfl) ?_
  refine lv_iload_n hx hb d_Mo_nod_13 rfl (lv_at hl 1 rfl) ?_
  refine cr_V Z kv_Mo_98 (c_Mo_loaded_t l D E La hm mu hk ho (by omega) hf) hP (la_recv hK hP kc_Mo hm.1 rfl) [.ref m0] rfl rfl hl.1 (Nat.le_of_ble_eq_true rfl) ⟨by decide, by decide⟩ ⟨Nat.le_refl _, Nat.le_refl _⟩ d_Mo_nod_14 ?_
  refine lv_if_eq (tgt := 24) hx hb d_Mo_nod_17 rfl (fun br17 => absurd br17 (by decide)) (fun br17 => ?_)
  refine lv_iconst (v := 2) hx hb d_Mo_nod_20 (by decide) ?_
  refine lv_goto (tgt := 25) hx hb d_Mo_nod_21 rfl ?_
  refine p_f Z kc_Mo hP hS hm.1 rfl 0 (by decide) wl_Mo_56 rfl rfl ⟨rfl, rfl⟩ (Nat.le_of_ble_eq_true rfl) rfl d_Mo_nod_25 (fun H locs hP hS => ?_)
  refine lv_aload_n hx hb d_Mo_nod_28 rfl (lv_at hl 0 rfl) ?_
  refine g_i (v := 2) Z kc_Mo hP hm.1 rfl 0 (by decide) wl_Mo_56 rfl rfl la_up_s d_Mo_nod_29 ?_
  refine lv_if_ne (tgt := 43) hx hb d_Mo_nod_32 rfl (fun br32 => ?_) (fun br32 => absurd br32 (by decide))
  exact W.vret hx hb hr (fun t ht hW => ⟨rfl, by rw [ht]; exact cvm hP (rfl), hS.F ht⟩) hS.2.2 d_Mo_nod_43
set_option maxHeartbeats 4000000 in
set_option maxRecDepth 100000 in
theorem c_Mo_nod_0 (l : Launch) (D : va_G) (E : Nat → ClassId) (La : la_L) {m0 : Nat} (hm : isMo E La m0) (mu : la_M) {k : Nat} (hk : k < 3) {n w0 o0 t0 : Nat} (h64 : n ≤ 64) (hn : mu (m0 + 1) (k + 1) = nI n) (hz : ∀ i, chz (mu (m0 + 2) i)) (hw : mu (m0 + 5) (2 * k) = nI w0) (hw4 : w0 < 40) (ho : mu (m0 + 11) (2 * k) = nI o0) (hf : o0 < 16) (ht : mu (m0 + 3) (2 * k) = nI t0)  : cw l y_Mo_nod b_Mo_nod 2 none 3 67 D E La [.ref m0, .int (nI (k + 1))] mu none (md_bgn (la_up mu m0 0 0) m0 k 2 0 n 0 w0 o0 t0) := by
  refine cw_begin R_Mo (by decide) rfl (Nat.le_of_ble_eq_true rfl) ?_
  intro p e s m below meth c ls Z hr hlocks hP hS hl
  have hx := Z.1
  have hb := Z.2.1
  have hK : va_K D cls5 (tyE E) s := Z.2.2.2.2.2
  have hl : lv_has ls 2 [(0, .ref m0), (1, .int (nI (k + 1)))] := hl
  have z1 := (show (la_up mu m0 0 0) (m0 + 1) (k + 1) = nI n by rw [la_up_n (by omega)]; exact hn)
  have z5 := (show (la_up mu m0 0 0) (m0 + 5) (2 * k) = nI w0 by rw [la_up_n (by omega)]; exact hw)
  have z11 := (show (la_up mu m0 0 0) (m0 + 11) (2 * k) = nI o0 by rw [la_up_n (by omega)]; exact ho)
  have z3 := (show (la_up mu m0 0 0) (m0 + 3) (2 * k) = nI t0 by rw [la_up_n (by omega)]; exact ht)
  have zz2 : ∀ i, chz ((la_up mu m0 0 0) (m0 + 2) i) := fun i => by rw [la_up_n (by omega)]; exact hz i
  refine lv_aload_n hx hb d_Mo_nod_0 rfl (lv_at hl 0 rfl) ?_
  refine lv_iload_n hx hb d_Mo_nod_1 rfl (lv_at hl 1 rfl) ?_
  refine cr_S Z ks_Mo_94 (c_Mo_isClient_y l D E La mu hk) hP [.ref m0] rfl rfl hl.1 (Nat.le_of_ble_eq_true rfl) ⟨by decide, by decide⟩ ⟨Nat.le_refl _, Nat.le_refl _⟩ d_Mo_nod_2 ?_
  refine lv_if_ne (tgt := 12) hx hb d_Mo_nod_5 rfl (fun br5 => ?_) (fun br5 => absurd br5 (by decide))
  refine lv_aload_n hx hb d_Mo_nod_12 rfl (lv_at hl 0 rfl) ?_
  refine lv_iload_n hx hb d_Mo_nod_13 rfl (lv_at hl 1 rfl) ?_
  refine cr_V Z kv_Mo_98 (c_Mo_loaded_f l D E La hm mu hk ho (by omega) hf) hP (la_recv hK hP kc_Mo hm.1 rfl) [.ref m0] rfl rfl hl.1 (Nat.le_of_ble_eq_true rfl) ⟨by decide, by decide⟩ ⟨Nat.le_refl _, Nat.le_refl _⟩ d_Mo_nod_14 ?_
  refine lv_if_eq (tgt := 24) hx hb d_Mo_nod_17 rfl (fun br17 => ?_) (fun br17 => absurd (by decide) br17)
  refine lv_iconst (v := 0) hx hb d_Mo_nod_24 (by decide) ?_
  refine p_f Z kc_Mo hP hS hm.1 rfl 0 (by decide) wl_Mo_56 rfl rfl ⟨rfl, rfl⟩ (Nat.le_of_ble_eq_true rfl) rfl d_Mo_nod_25 (fun H locs hP hS => ?_)
  refine lv_aload_n hx hb d_Mo_nod_28 rfl (lv_at hl 0 rfl) ?_
  refine g_i (v := 0) Z kc_Mo hP hm.1 rfl 0 (by decide) wl_Mo_56 rfl rfl la_up_s d_Mo_nod_29 ?_
  refine lv_if_ne (tgt := 43) hx hb d_Mo_nod_32 rfl (fun br32 => absurd (rfl) br32) (fun br32 => ?_)
  refine lv_aload_n hx hb d_Mo_nod_35 rfl (lv_at hl 0 rfl) ?_
  refine lv_iload_n hx hb d_Mo_nod_36 rfl (lv_at hl 1 rfl) ?_
  refine lv_iconst (v := 2) hx hb d_Mo_nod_37 (by decide) ?_
  refine lv_iconst (v := 0) hx hb d_Mo_nod_38 (by decide) ?_
  refine lv_iconst (v := 0) hx hb d_Mo_nod_39 (by decide) ?_
  refine cw_V Z kv_Mo_101 (c_Mo_begin l D E La hm (la_up mu m0 0 0) hk (kd := 2) (q := 0) (n := n) (cx := 0) (by decide) z1 (h64) zz2 (by decide) (fun h => by omega) (fun h => by omega) z5 hw4 z11 (by omega) z3) hP hS (fun _ h => h) (la_recv hK hP kc_Mo hm.1 rfl) [] rfl rfl hl.1 (Nat.le_of_ble_eq_true rfl) ⟨by decide, by decide⟩ ⟨Nat.le_refl _, Nat.le_refl _⟩ d_Mo_nod_40 (fun H locs hP hkp hS => ?_)
  exact W.vret hx hb hr (fun t ht hW => ⟨rfl, by rw [ht]; exact cvm hP (rfl), hS.F ht⟩) hS.2.2 d_Mo_nod_43
set_option maxHeartbeats 4000000 in
set_option maxRecDepth 100000 in
theorem c_Mo_pull_1 (l : Launch) (D : va_G) (E : Nat → ClassId) (La : la_L) {m0 : Nat} (hm : isMo E La m0) (mu : la_M) {cl : Int32} (hc : cl < 1 ∨ 3 < cl) : cw l y_Mo_pull b_Mo_pull 2 (some .int) 2 53 D E La [.ref m0, .int cl] mu (some (.int 0)) (la_up mu m0 0 1) := by
  refine cw_begin R_Mo (by decide) rfl (Nat.le_of_ble_eq_true rfl) ?_
  intro p e s m below meth c ls Z hr hlocks hP hS hl
  have hx := Z.1
  have hb := Z.2.1
  have hK : va_K D cls5 (tyE E) s := Z.2.2.2.2.2
  have hl : lv_has ls 2 [(0, .ref m0), (1, .int cl)] := hl
  refine lv_aload_n hx hb d_Mo_pull_0 rfl (lv_at hl 0 rfl) ?_
  refine lv_iload_n hx hb d_Mo_pull_1 rfl (lv_at hl 1 rfl) ?_
  refine cr_S Z ks_Mo_94 (c_Mo_isClient_n l D E La mu hc) hP [.ref m0] rfl rfl hl.1 (Nat.le_of_ble_eq_true rfl) ⟨by decide, by decide⟩ ⟨Nat.le_refl _, Nat.le_refl _⟩ d_Mo_pull_2 ?_
  refine lv_if_ne (tgt := 12) hx hb d_Mo_pull_5 rfl (fun br5 => absurd (rfl) br5) (fun br5 => ?_)
  refine lv_iconst (v := 1) hx hb d_Mo_pull_8 (by decide) ?_
  refine lv_goto (tgt := 30) hx hb d_Mo_pull_9 rfl ?_
  refine p_f Z kc_Mo hP hS hm.1 rfl 0 (by decide) wl_Mo_56 rfl rfl ⟨rfl, rfl⟩ (Nat.le_of_ble_eq_true rfl) rfl d_Mo_pull_30 (fun H locs hP hS => ?_)
  refine lv_aload_n hx hb d_Mo_pull_33 rfl (lv_at hl 0 rfl) ?_
  refine g_i (v := 1) Z kc_Mo hP hm.1 rfl 0 (by decide) wl_Mo_56 rfl rfl la_up_s d_Mo_pull_34 ?_
  refine lv_if_eq (tgt := 42) hx hb d_Mo_pull_37 rfl (fun br37 => absurd br37 (by decide)) (fun br37 => ?_)
  refine lv_iconst (v := 0) hx hb d_Mo_pull_40 (by decide) ?_
  exact W.iret hx hb hr (fun t ht hW => ⟨rfl, by rw [ht]; exact cvm hP (rfl), hS.F ht⟩) hS.2.2 d_Mo_pull_41
set_option maxHeartbeats 4000000 in
set_option maxRecDepth 100000 in
theorem c_Mo_pull_2 (l : Launch) (D : va_G) (E : Nat → ClassId) (La : la_L) {m0 : Nat} (hm : isMo E La m0) (mu : la_M) {k : Nat} (hk : k < 3) (hw : mu (m0 + 5) (2 * k + 1) = 0) : cw l y_Mo_pull b_Mo_pull 2 (some .int) 2 53 D E La [.ref m0, .int (nI (k + 1))] mu (some (.int 0)) (la_up mu m0 0 2) := by
  refine cw_begin R_Mo (by decide) rfl (Nat.le_of_ble_eq_true rfl) ?_
  intro p e s m below meth c ls Z hr hlocks hP hS hl
  have hx := Z.1
  have hb := Z.2.1
  have hK : va_K D cls5 (tyE E) s := Z.2.2.2.2.2
  have hl : lv_has ls 2 [(0, .ref m0), (1, .int (nI (k + 1)))] := hl
  refine lv_aload_n hx hb d_Mo_pull_0 rfl (lv_at hl 0 rfl) ?_
  refine lv_iload_n hx hb d_Mo_pull_1 rfl (lv_at hl 1 rfl) ?_
  refine cr_S Z ks_Mo_94 (c_Mo_isClient_y l D E La mu hk) hP [.ref m0] rfl rfl hl.1 (Nat.le_of_ble_eq_true rfl) ⟨by decide, by decide⟩ ⟨Nat.le_refl _, Nat.le_refl _⟩ d_Mo_pull_2 ?_
  refine lv_if_ne (tgt := 12) hx hb d_Mo_pull_5 rfl (fun br5 => ?_) (fun br5 => absurd br5 (by decide))
  refine lv_aload_n hx hb d_Mo_pull_12 rfl (lv_at hl 0 rfl) ?_
  refine g_f (v := .ref (m0 + 5)) Z kc_Mo hP hm.1 rfl 5 (by decide) wl_Mo_23 rfl rfl d_Mo_pull_13 ?_
  refine lv_iload_n hx hb d_Mo_pull_16 rfl (lv_at hl 1 rfl) ?_
  refine lv_iconst (v := 0) hx hb d_Mo_pull_17 (by decide) ?_
  refine cr_S Z ks_Mo_87 (c_Mo_line_d l D E La mu (k := k) (u := 0) rfl) hP [.ref (m0 + 5), .ref m0] rfl rfl hl.1 (Nat.le_of_ble_eq_true rfl) ⟨by decide, by decide⟩ ⟨Nat.le_refl _, Nat.le_refl _⟩ d_Mo_pull_18 ?_
  refine la_ialdv (v := 0) hx hb hK hP 0 hm.2.2.2.2.2.1 rfl rfl (2 * k + 1) rfl (by omega) (by decide) hw d_Mo_pull_21 ?_
  refine lv_if_ne (tgt := 29) hx hb d_Mo_pull_22 rfl (fun br22 => absurd (rfl) br22) (fun br22 => ?_)
  refine lv_iconst (v := 2) hx hb d_Mo_pull_25 (by decide) ?_
  refine lv_goto (tgt := 30) hx hb d_Mo_pull_26 rfl ?_
  refine p_f Z kc_Mo hP hS hm.1 rfl 0 (by decide) wl_Mo_56 rfl rfl ⟨rfl, rfl⟩ (Nat.le_of_ble_eq_true rfl) rfl d_Mo_pull_30 (fun H locs hP hS => ?_)
  refine lv_aload_n hx hb d_Mo_pull_33 rfl (lv_at hl 0 rfl) ?_
  refine g_i (v := 2) Z kc_Mo hP hm.1 rfl 0 (by decide) wl_Mo_56 rfl rfl la_up_s d_Mo_pull_34 ?_
  refine lv_if_eq (tgt := 42) hx hb d_Mo_pull_37 rfl (fun br37 => absurd br37 (by decide)) (fun br37 => ?_)
  refine lv_iconst (v := 0) hx hb d_Mo_pull_40 (by decide) ?_
  exact W.iret hx hb hr (fun t ht hW => ⟨rfl, by rw [ht]; exact cvm hP (rfl), hS.F ht⟩) hS.2.2 d_Mo_pull_41
set_option maxHeartbeats 4000000 in
set_option maxRecDepth 100000 in
theorem c_Mo_pull_0 (l : Launch) (D : va_G) (E : Nat → ClassId) (La : la_L) {m0 : Nat} (hm : isMo E La m0) (mu : la_M) {k : Nat} (hk : k < 3) {mu1 : la_M} {w0 : Nat} (hw : mu (m0 + 5) (2 * k + 1) = nI w0) (hw0 : 0 < w0) (hw4 : w0 < 40) (hG : cw l y_Mo_get b_Mo_get 9 none 1 25 D E La [.ref m0, .int (nI (2 * k + 1)), .int (nI (k + 1))] (la_up mu m0 0 0) none mu1) : cw l y_Mo_pull b_Mo_pull 2 (some .int) 2 53 D E La [.ref m0, .int (nI (k + 1))] mu (some (.int (mu1 m0 16))) mu1 := by
  refine cw_begin R_Mo (by decide) rfl (Nat.le_of_ble_eq_true rfl) ?_
  intro p e s m below meth c ls Z hr hlocks hP hS hl
  have hx := Z.1
  have hb := Z.2.1
  have hK : va_K D cls5 (tyE E) s := Z.2.2.2.2.2
  have hl : lv_has ls 2 [(0, .ref m0), (1, .int (nI (k + 1)))] := hl
  refine lv_aload_n hx hb d_Mo_pull_0 rfl (lv_at hl 0 rfl) ?_
  refine lv_iload_n hx hb d_Mo_pull_1 rfl (lv_at hl 1 rfl) ?_
  refine cr_S Z ks_Mo_94 (c_Mo_isClient_y l D E La mu hk) hP [.ref m0] rfl rfl hl.1 (Nat.le_of_ble_eq_true rfl) ⟨by decide, by decide⟩ ⟨Nat.le_refl _, Nat.le_refl _⟩ d_Mo_pull_2 ?_
  refine lv_if_ne (tgt := 12) hx hb d_Mo_pull_5 rfl (fun br5 => ?_) (fun br5 => absurd br5 (by decide))
  refine lv_aload_n hx hb d_Mo_pull_12 rfl (lv_at hl 0 rfl) ?_
  refine g_f (v := .ref (m0 + 5)) Z kc_Mo hP hm.1 rfl 5 (by decide) wl_Mo_23 rfl rfl d_Mo_pull_13 ?_
  refine lv_iload_n hx hb d_Mo_pull_16 rfl (lv_at hl 1 rfl) ?_
  refine lv_iconst (v := 0) hx hb d_Mo_pull_17 (by decide) ?_
  refine cr_S Z ks_Mo_87 (c_Mo_line_d l D E La mu (k := k) (u := 0) rfl) hP [.ref (m0 + 5), .ref m0] rfl rfl hl.1 (Nat.le_of_ble_eq_true rfl) ⟨by decide, by decide⟩ ⟨Nat.le_refl _, Nat.le_refl _⟩ d_Mo_pull_18 ?_
  refine la_ialdv (v := (nI w0)) hx hb hK hP 0 hm.2.2.2.2.2.1 rfl rfl (2 * k + 1) rfl (by omega) (by decide) hw d_Mo_pull_21 ?_
  refine lv_if_ne (tgt := 29) hx hb d_Mo_pull_22 rfl (fun br22 => ?_) (fun br22 => absurd br22 (nI_ne0 hw0 (by omega)))
  refine lv_iconst (v := 0) hx hb d_Mo_pull_29 (by decide) ?_
  refine p_f Z kc_Mo hP hS hm.1 rfl 0 (by decide) wl_Mo_56 rfl rfl ⟨rfl, rfl⟩ (Nat.le_of_ble_eq_true rfl) rfl d_Mo_pull_30 (fun H locs hP hS => ?_)
  refine lv_aload_n hx hb d_Mo_pull_33 rfl (lv_at hl 0 rfl) ?_
  refine g_i (v := 0) Z kc_Mo hP hm.1 rfl 0 (by decide) wl_Mo_56 rfl rfl la_up_s d_Mo_pull_34 ?_
  refine lv_if_eq (tgt := 42) hx hb d_Mo_pull_37 rfl (fun br37 => ?_) (fun br37 => absurd (by decide) br37)
  refine lv_aload_n hx hb d_Mo_pull_42 rfl (lv_at hl 0 rfl) ?_
  refine lv_iload_n hx hb d_Mo_pull_43 rfl (lv_at hl 1 rfl) ?_
  refine lv_iconst (v := 0) hx hb d_Mo_pull_44 (by decide) ?_
  refine cr_S Z ks_Mo_87 (c_Mo_line_d l D E La (la_up mu m0 0 0) (k := k) (u := 0) rfl) hP [.ref m0] rfl rfl hl.1 (Nat.le_of_ble_eq_true rfl) ⟨by decide, by decide⟩ ⟨Nat.le_refl _, Nat.le_refl _⟩ d_Mo_pull_45 ?_
  refine lv_iload_n hx hb d_Mo_pull_48 rfl (lv_at hl 1 rfl) ?_
  refine cw_V Z kv_Mo_105 (hG) hP hS (fun _ h => h) (la_recv hK hP kc_Mo hm.1 rfl) [] rfl rfl hl.1 (Nat.le_of_ble_eq_true rfl) ⟨by decide, by decide⟩ ⟨Nat.le_refl _, Nat.le_refl _⟩ d_Mo_pull_49 (fun H locs hP hkp hS => ?_)
  refine lv_aload_n hx hb d_Mo_pull_52 rfl (lv_at hl 0 rfl) ?_
  refine g_f Z kc_Mo hP hm.1 rfl 16 (by decide) wl_Mo_60 rfl rfl d_Mo_pull_53 ?_
  exact W.iret hx hb hr (fun t ht hW => ⟨rfl, by rw [ht]; exact cvm hP (rfl), hS.F ht⟩) hS.2.2 d_Mo_pull_56
set_option maxHeartbeats 4000000 in
set_option maxRecDepth 100000 in
theorem c_Mo_push_1 (l : Launch) (D : va_G) (E : Nat → ClassId) (La : la_L) {m0 : Nat} (hm : isMo E La m0) (mu : la_M) {cl : Int32} (hc : cl < 1 ∨ 3 < cl) : cw l y_Mo_push b_Mo_push 4 (some .int) 2 53 D E La [.ref m0, .int cl] mu (some (.int 0)) (la_up mu m0 0 1) := by
  refine cw_begin R_Mo (by decide) rfl (Nat.le_of_ble_eq_true rfl) ?_
  intro p e s m below meth c ls Z hr hlocks hP hS hl
  have hx := Z.1
  have hb := Z.2.1
  have hK : va_K D cls5 (tyE E) s := Z.2.2.2.2.2
  have hl : lv_has ls 4 [(0, .ref m0), (1, .int cl)] := hl
  refine lv_aload_n hx hb d_Mo_push_0 rfl (lv_at hl 0 rfl) ?_
  refine lv_iload_n hx hb d_Mo_push_1 rfl (lv_at hl 1 rfl) ?_
  refine cr_S Z ks_Mo_94 (c_Mo_isClient_n l D E La mu hc) hP [.ref m0] rfl rfl hl.1 (Nat.le_of_ble_eq_true rfl) ⟨by decide, by decide⟩ ⟨Nat.le_refl _, Nat.le_refl _⟩ d_Mo_push_2 ?_
  refine lv_if_ne (tgt := 12) hx hb d_Mo_push_5 rfl (fun br5 => absurd (rfl) br5) (fun br5 => ?_)
  refine lv_iconst (v := 1) hx hb d_Mo_push_8 (by decide) ?_
  refine lv_goto (tgt := 30) hx hb d_Mo_push_9 rfl ?_
  refine p_f Z kc_Mo hP hS hm.1 rfl 0 (by decide) wl_Mo_56 rfl rfl ⟨rfl, rfl⟩ (Nat.le_of_ble_eq_true rfl) rfl d_Mo_push_30 (fun H locs hP hS => ?_)
  refine lv_iconst (v := 1) hx hb d_Mo_push_33 (by decide) ?_
  refine lv_istore_n hx hb d_Mo_push_34 rfl hl (by decide) rfl (fun ls hl => ?_)
  have hl : lv_has ls 4 [(2, .int 1), (0, .ref m0), (1, .int cl)] := hl
  refine lv_iload_n hx hb d_Mo_push_35 rfl (lv_at hl 0 rfl) ?_
  refine lv_iconst (v := 3) hx hb d_Mo_push_36 (by decide) ?_
  refine lv_icmp_gt (tgt := 95) hx hb d_Mo_push_37 rfl (fun br37 => absurd br37 (by decide)) (fun br37 => ?_)
  refine lv_aload_n hx hb d_Mo_push_40 rfl (lv_at hl 1 rfl) ?_
  refine g_i (v := 1) Z kc_Mo hP hm.1 rfl 0 (by decide) wl_Mo_56 rfl rfl la_up_s d_Mo_push_41 ?_
  refine lv_if_ne (tgt := 95) hx hb d_Mo_push_44 rfl (fun br44 => ?_) (fun br44 => absurd br44 (by decide))
  refine lv_aload_n hx hb d_Mo_push_95 rfl (lv_at hl 1 rfl) ?_
  refine g_i (v := 1) Z kc_Mo hP hm.1 rfl 0 (by decide) wl_Mo_56 rfl rfl la_up_s d_Mo_push_96 ?_
  refine lv_if_eq (tgt := 104) hx hb d_Mo_push_99 rfl (fun br99 => absurd br99 (by decide)) (fun br99 => ?_)
  refine lv_iconst (v := 0) hx hb d_Mo_push_102 (by decide) ?_
  exact W.iret hx hb hr (fun t ht hW => ⟨rfl, by rw [ht]; exact cvm hP (rfl), hS.F ht⟩) hS.2.2 d_Mo_push_103
set_option maxHeartbeats 4000000 in
set_option maxRecDepth 100000 in
theorem c_Mo_push_2 (l : Launch) (D : va_G) (E : Nat → ClassId) (La : la_L) {m0 : Nat} (hm : isMo E La m0) (mu : la_M) {k : Nat} (hk : k < 3) (hw : mu (m0 + 5) (2 * k) = 0) : cw l y_Mo_push b_Mo_push 4 (some .int) 2 53 D E La [.ref m0, .int (nI (k + 1))] mu (some (.int 0)) (la_up mu m0 0 2) := by
  refine cw_begin R_Mo (by decide) rfl (Nat.le_of_ble_eq_true rfl) ?_
  intro p e s m below meth c ls Z hr hlocks hP hS hl
  have hx := Z.1
  have hb := Z.2.1
  have hK : va_K D cls5 (tyE E) s := Z.2.2.2.2.2
  have hl : lv_has ls 4 [(0, .ref m0), (1, .int (nI (k + 1)))] := hl
  refine lv_aload_n hx hb d_Mo_push_0 rfl (lv_at hl 0 rfl) ?_
  refine lv_iload_n hx hb d_Mo_push_1 rfl (lv_at hl 1 rfl) ?_
  refine cr_S Z ks_Mo_94 (c_Mo_isClient_y l D E La mu hk) hP [.ref m0] rfl rfl hl.1 (Nat.le_of_ble_eq_true rfl) ⟨by decide, by decide⟩ ⟨Nat.le_refl _, Nat.le_refl _⟩ d_Mo_push_2 ?_
  refine lv_if_ne (tgt := 12) hx hb d_Mo_push_5 rfl (fun br5 => ?_) (fun br5 => absurd br5 (by decide))
  refine lv_aload_n hx hb d_Mo_push_12 rfl (lv_at hl 0 rfl) ?_
  refine g_f (v := .ref (m0 + 5)) Z kc_Mo hP hm.1 rfl 5 (by decide) wl_Mo_23 rfl rfl d_Mo_push_13 ?_
  refine lv_iload_n hx hb d_Mo_push_16 rfl (lv_at hl 1 rfl) ?_
  refine lv_iconst (v := 1) hx hb d_Mo_push_17 (by decide) ?_
  refine cr_S Z ks_Mo_87 (c_Mo_line_u l D E La mu (k := k) (u := 1) (by decide)) hP [.ref (m0 + 5), .ref m0] rfl rfl hl.1 (Nat.le_of_ble_eq_true rfl) ⟨by decide, by decide⟩ ⟨Nat.le_refl _, Nat.le_refl _⟩ d_Mo_push_18 ?_
  refine la_ialdv (v := 0) hx hb hK hP 0 hm.2.2.2.2.2.1 rfl rfl (2 * k) rfl (by omega) (by decide) hw d_Mo_push_21 ?_
  refine lv_if_ne (tgt := 29) hx hb d_Mo_push_22 rfl (fun br22 => absurd (rfl) br22) (fun br22 => ?_)
  refine lv_iconst (v := 2) hx hb d_Mo_push_25 (by decide) ?_
  refine lv_goto (tgt := 30) hx hb d_Mo_push_26 rfl ?_
  refine p_f Z kc_Mo hP hS hm.1 rfl 0 (by decide) wl_Mo_56 rfl rfl ⟨rfl, rfl⟩ (Nat.le_of_ble_eq_true rfl) rfl d_Mo_push_30 (fun H locs hP hS => ?_)
  refine lv_iconst (v := 1) hx hb d_Mo_push_33 (by decide) ?_
  refine lv_istore_n hx hb d_Mo_push_34 rfl hl (by decide) rfl (fun ls hl => ?_)
  have hl : lv_has ls 4 [(2, .int 1), (0, .ref m0), (1, .int (nI (k + 1)))] := hl
  refine lv_iload_n hx hb d_Mo_push_35 rfl (lv_at hl 0 rfl) ?_
  refine lv_iconst (v := 3) hx hb d_Mo_push_36 (by decide) ?_
  refine lv_icmp_gt (tgt := 95) hx hb d_Mo_push_37 rfl (fun br37 => absurd br37 (by decide)) (fun br37 => ?_)
  refine lv_aload_n hx hb d_Mo_push_40 rfl (lv_at hl 1 rfl) ?_
  refine g_i (v := 2) Z kc_Mo hP hm.1 rfl 0 (by decide) wl_Mo_56 rfl rfl la_up_s d_Mo_push_41 ?_
  refine lv_if_ne (tgt := 95) hx hb d_Mo_push_44 rfl (fun br44 => ?_) (fun br44 => absurd br44 (by decide))
  refine lv_aload_n hx hb d_Mo_push_95 rfl (lv_at hl 1 rfl) ?_
  refine g_i (v := 2) Z kc_Mo hP hm.1 rfl 0 (by decide) wl_Mo_56 rfl rfl la_up_s d_Mo_push_96 ?_
  refine lv_if_eq (tgt := 104) hx hb d_Mo_push_99 rfl (fun br99 => absurd br99 (by decide)) (fun br99 => ?_)
  refine lv_iconst (v := 0) hx hb d_Mo_push_102 (by decide) ?_
  exact W.iret hx hb hr (fun t ht hW => ⟨rfl, by rw [ht]; exact cvm hP (rfl), hS.F ht⟩) hS.2.2 d_Mo_push_103
set_option maxHeartbeats 4000000 in
set_option maxRecDepth 100000 in
theorem c_Mo_push_3_01 (l : Launch) (D : va_G) (E : Nat → ClassId) (La : la_L) {m0 : Nat} (hm : isMo E La m0) (mu : la_M) {w0 : Nat} (hw : mu (m0 + 5) 0 = nI w0) (hw0 : 0 < w0) (hw4 : w0 < 40) {p1 : Nat} (po1 : mu (m0 + 11) 3 = nI p1) (pf1 : 24 ≤ p1) (pg1 : p1 < 2 ^ 31)  : cw l y_Mo_push b_Mo_push 4 (some .int) 2 53 D E La [.ref m0, .int 1] mu (some (.int 0)) (la_up mu m0 0 3) := by
  refine cw_begin R_Mo (by decide) rfl (Nat.le_of_ble_eq_true rfl) ?_
  intro p e s m below meth c ls Z hr hlocks hP hS hl
  have hx := Z.1
  have hb := Z.2.1
  have hK : va_K D cls5 (tyE E) s := Z.2.2.2.2.2
  have hl : lv_has ls 4 [(0, .ref m0), (1, .int 1)] := hl
  refine lv_aload_n hx hb d_Mo_push_0 rfl (lv_at hl 0 rfl) ?_
  refine lv_iload_n hx hb d_Mo_push_1 rfl (lv_at hl 1 rfl) ?_
  refine cr_S Z ks_Mo_94 (c_Mo_isClient_y l D E La mu (k := 0) (by decide)) hP [.ref m0] rfl rfl hl.1 (Nat.le_of_ble_eq_true rfl) ⟨by decide, by decide⟩ ⟨Nat.le_refl _, Nat.le_refl _⟩ d_Mo_push_2 ?_
  refine lv_if_ne (tgt := 12) hx hb d_Mo_push_5 rfl (fun br5 => ?_) (fun br5 => absurd br5 (by decide))
  refine lv_aload_n hx hb d_Mo_push_12 rfl (lv_at hl 0 rfl) ?_
  refine g_f (v := .ref (m0 + 5)) Z kc_Mo hP hm.1 rfl 5 (by decide) wl_Mo_23 rfl rfl d_Mo_push_13 ?_
  refine lv_iload_n hx hb d_Mo_push_16 rfl (lv_at hl 1 rfl) ?_
  refine lv_iconst (v := 1) hx hb d_Mo_push_17 (by decide) ?_
  refine cr_S Z ks_Mo_87 (c_Mo_line_u l D E La mu (k := 0) (u := 1) (by decide)) hP [.ref (m0 + 5), .ref m0] rfl rfl hl.1 (Nat.le_of_ble_eq_true rfl) ⟨by decide, by decide⟩ ⟨Nat.le_refl _, Nat.le_refl _⟩ d_Mo_push_18 ?_
  refine la_ialdv (v := (nI w0)) hx hb hK hP 0 hm.2.2.2.2.2.1 rfl rfl 0 rfl (by decide) (by decide) hw d_Mo_push_21 ?_
  refine lv_if_ne (tgt := 29) hx hb d_Mo_push_22 rfl (fun br22 => ?_) (fun br22 => absurd br22 (nI_ne0 hw0 (by omega)))
  refine lv_iconst (v := 0) hx hb d_Mo_push_29 (by decide) ?_
  refine p_f Z kc_Mo hP hS hm.1 rfl 0 (by decide) wl_Mo_56 rfl rfl ⟨rfl, rfl⟩ (Nat.le_of_ble_eq_true rfl) rfl d_Mo_push_30 (fun H locs hP hS => ?_)
  refine lv_iconst (v := 1) hx hb d_Mo_push_33 (by decide) ?_
  refine lv_istore_n hx hb d_Mo_push_34 rfl hl (by decide) rfl (fun ls hl => ?_)
  have hl : lv_has ls 4 [(2, .int 1), (0, .ref m0), (1, .int 1)] := hl
  refine lv_iload_n hx hb d_Mo_push_35 rfl (lv_at hl 0 rfl) ?_
  refine lv_iconst (v := 3) hx hb d_Mo_push_36 (by decide) ?_
  refine lv_icmp_gt (tgt := 95) hx hb d_Mo_push_37 rfl (fun br37 => absurd br37 (by decide)) (fun br37 => ?_)
  refine lv_aload_n hx hb d_Mo_push_40 rfl (lv_at hl 1 rfl) ?_
  refine g_i (v := 0) Z kc_Mo hP hm.1 rfl 0 (by decide) wl_Mo_56 rfl rfl la_up_s d_Mo_push_41 ?_
  refine lv_if_ne (tgt := 95) hx hb d_Mo_push_44 rfl (fun br44 => absurd (rfl) br44) (fun br44 => ?_)
  refine lv_iload_n hx hb d_Mo_push_47 rfl (lv_at hl 0 rfl) ?_
  refine lv_iconst (v := 0) hx hb d_Mo_push_48 (by decide) ?_
  refine cr_S Z ks_Mo_87 (c_Mo_line_d l D E La (la_up mu m0 0 0) (k := 0) (u := 0) rfl) hP [] rfl rfl hl.1 (Nat.le_of_ble_eq_true rfl) ⟨by decide, by decide⟩ ⟨Nat.le_refl _, Nat.le_refl _⟩ d_Mo_push_49 ?_
  refine lv_istore_n hx hb d_Mo_push_52 rfl hl (by decide) rfl (fun ls hl => ?_)
  have hl : lv_has ls 4 [(3, .int 1), (2, .int 1), (0, .ref m0), (1, .int 1)] := hl
  refine lv_aload_n hx hb d_Mo_push_53 rfl (lv_at hl 2 rfl) ?_
  refine lv_iload_n hx hb d_Mo_push_54 rfl (lv_at hl 1 rfl) ?_
  refine lv_iload_n hx hb d_Mo_push_55 rfl (lv_at hl 3 rfl) ?_
  refine lv_icmp_eq (tgt := 85) hx hb d_Mo_push_56 rfl (fun br56 => ?_) (fun br56 => absurd (rfl) br56)
  refine lv_iconst (v := 0) hx hb d_Mo_push_85 (by decide) ?_
  refine p_f Z kc_Mo hP hS hm.1 rfl 0 (by decide) wl_Mo_56 rfl rfl ⟨rfl, rfl⟩ (Nat.le_of_ble_eq_true rfl) rfl d_Mo_push_86 (fun H locs hP hS => ?_)
  have hP : la_P D cls5 La (la_up mu m0 0 0) H := cvm hP la_up_up
  refine lv_iinc (k := 1) (v := 2) hx hb d_Mo_push_89 hl rfl (by decide) (by decide) rfl (fun ls hl => ?_)
  have hl : lv_has ls 4 [(2, .int 2), (3, .int 1), (0, .ref m0), (1, .int 1)] := hl
  refine lv_goto (tgt := 35) hx hb d_Mo_push_92 rfl ?_
  refine lv_iload_n hx hb d_Mo_push_35 rfl (lv_at hl 0 rfl) ?_
  refine lv_iconst (v := 3) hx hb d_Mo_push_36 (by decide) ?_
  refine lv_icmp_gt (tgt := 95) hx hb d_Mo_push_37 rfl (fun br37 => absurd br37 (by decide)) (fun br37 => ?_)
  refine lv_aload_n hx hb d_Mo_push_40 rfl (lv_at hl 2 rfl) ?_
  refine g_i (v := 0) Z kc_Mo hP hm.1 rfl 0 (by decide) wl_Mo_56 rfl rfl la_up_s d_Mo_push_41 ?_
  refine lv_if_ne (tgt := 95) hx hb d_Mo_push_44 rfl (fun br44 => absurd (rfl) br44) (fun br44 => ?_)
  refine lv_iload_n hx hb d_Mo_push_47 rfl (lv_at hl 0 rfl) ?_
  refine lv_iconst (v := 0) hx hb d_Mo_push_48 (by decide) ?_
  refine cr_S Z ks_Mo_87 (c_Mo_line_d l D E La (la_up mu m0 0 0) (k := 1) (u := 0) rfl) hP [] rfl rfl hl.1 (Nat.le_of_ble_eq_true rfl) ⟨by decide, by decide⟩ ⟨Nat.le_refl _, Nat.le_refl _⟩ d_Mo_push_49 ?_
  refine lv_istore_n hx hb d_Mo_push_52 rfl hl (by decide) rfl (fun ls hl => ?_)
  have hl : lv_has ls 4 [(3, .int 3), (2, .int 2), (0, .ref m0), (1, .int 1)] := hl
  refine lv_aload_n hx hb d_Mo_push_53 rfl (lv_at hl 2 rfl) ?_
  refine lv_iload_n hx hb d_Mo_push_54 rfl (lv_at hl 1 rfl) ?_
  refine lv_iload_n hx hb d_Mo_push_55 rfl (lv_at hl 3 rfl) ?_
  refine lv_icmp_eq (tgt := 85) hx hb d_Mo_push_56 rfl (fun br56 => absurd br56 (by decide)) (fun br56 => ?_)
  refine lv_aload_n hx hb d_Mo_push_59 rfl (lv_at hl 2 rfl) ?_
  refine g_f (v := .ref (m0 + 11)) Z kc_Mo hP hm.1 rfl 11 (by decide) wl_Mo_41 rfl rfl d_Mo_push_60 ?_
  refine lv_iload_n hx hb d_Mo_push_63 rfl (lv_at hl 0 rfl) ?_
  refine la_ialdv (v := (nI p1)) hx hb hK hP 0 hm.2.2.2.2.2.2.2.2.2.2.2.1 rfl rfl 3 rfl (by decide) (by decide) ((la_up_k (by decide)).trans po1) d_Mo_push_64 ?_
  refine lv_bipush (v := 24) hx hb d_Mo_push_65 (by decide) ?_
  refine lv_icmp_ge (tgt := 81) hx hb d_Mo_push_67 rfl (fun br67 => ?_) (fun br67 => absurd (nI_le (a := 24) pf1 (by omega)) br67)
  refine lv_iconst (v := 3) hx hb d_Mo_push_81 (by decide) ?_
  refine lv_goto (tgt := 86) hx hb d_Mo_push_82 rfl ?_
  refine p_f Z kc_Mo hP hS hm.1 rfl 0 (by decide) wl_Mo_56 rfl rfl ⟨rfl, rfl⟩ (Nat.le_of_ble_eq_true rfl) rfl d_Mo_push_86 (fun H locs hP hS => ?_)
  have hP : la_P D cls5 La (la_up mu m0 0 3) H := cvm hP la_up_up
  refine lv_iinc (k := 1) (v := 3) hx hb d_Mo_push_89 hl rfl (by decide) (by decide) rfl (fun ls hl => ?_)
  have hl : lv_has ls 4 [(2, .int 3), (3, .int 3), (0, .ref m0), (1, .int 1)] := hl
  refine lv_goto (tgt := 35) hx hb d_Mo_push_92 rfl ?_
  refine lv_iload_n hx hb d_Mo_push_35 rfl (lv_at hl 0 rfl) ?_
  refine lv_iconst (v := 3) hx hb d_Mo_push_36 (by decide) ?_
  refine lv_icmp_gt (tgt := 95) hx hb d_Mo_push_37 rfl (fun br37 => absurd br37 (by decide)) (fun br37 => ?_)
  refine lv_aload_n hx hb d_Mo_push_40 rfl (lv_at hl 2 rfl) ?_
  refine g_i (v := 3) Z kc_Mo hP hm.1 rfl 0 (by decide) wl_Mo_56 rfl rfl la_up_s d_Mo_push_41 ?_
  refine lv_if_ne (tgt := 95) hx hb d_Mo_push_44 rfl (fun br44 => ?_) (fun br44 => absurd br44 (by decide))
  refine lv_aload_n hx hb d_Mo_push_95 rfl (lv_at hl 2 rfl) ?_
  refine g_i (v := 3) Z kc_Mo hP hm.1 rfl 0 (by decide) wl_Mo_56 rfl rfl la_up_s d_Mo_push_96 ?_
  refine lv_if_eq (tgt := 104) hx hb d_Mo_push_99 rfl (fun br99 => absurd br99 (by decide)) (fun br99 => ?_)
  refine lv_iconst (v := 0) hx hb d_Mo_push_102 (by decide) ?_
  exact W.iret hx hb hr (fun t ht hW => ⟨rfl, by rw [ht]; exact cvm hP (rfl), hS.F ht⟩) hS.2.2 d_Mo_push_103
set_option maxHeartbeats 4000000 in
set_option maxRecDepth 100000 in
theorem c_Mo_push_3_02 (l : Launch) (D : va_G) (E : Nat → ClassId) (La : la_L) {m0 : Nat} (hm : isMo E La m0) (mu : la_M) {w0 : Nat} (hw : mu (m0 + 5) 0 = nI w0) (hw0 : 0 < w0) (hw4 : w0 < 40) {p1 v1 : Nat} (po1 : mu (m0 + 11) 3 = nI p1) (pw1 : mu (m0 + 5) 3 = nI v1) (pv1 : v1 ≤ p1) (pf1 : p1 < 24) {p2 : Nat} (po2 : mu (m0 + 11) 5 = nI p2) (pf2 : 24 ≤ p2) (pg2 : p2 < 2 ^ 31)  : cw l y_Mo_push b_Mo_push 4 (some .int) 2 53 D E La [.ref m0, .int 1] mu (some (.int 0)) (la_up mu m0 0 3) := by
  refine cw_begin R_Mo (by decide) rfl (Nat.le_of_ble_eq_true rfl) ?_
  intro p e s m below meth c ls Z hr hlocks hP hS hl
  have hx := Z.1
  have hb := Z.2.1
  have hK : va_K D cls5 (tyE E) s := Z.2.2.2.2.2
  have hl : lv_has ls 4 [(0, .ref m0), (1, .int 1)] := hl
  refine lv_aload_n hx hb d_Mo_push_0 rfl (lv_at hl 0 rfl) ?_
  refine lv_iload_n hx hb d_Mo_push_1 rfl (lv_at hl 1 rfl) ?_
  refine cr_S Z ks_Mo_94 (c_Mo_isClient_y l D E La mu (k := 0) (by decide)) hP [.ref m0] rfl rfl hl.1 (Nat.le_of_ble_eq_true rfl) ⟨by decide, by decide⟩ ⟨Nat.le_refl _, Nat.le_refl _⟩ d_Mo_push_2 ?_
  refine lv_if_ne (tgt := 12) hx hb d_Mo_push_5 rfl (fun br5 => ?_) (fun br5 => absurd br5 (by decide))
  refine lv_aload_n hx hb d_Mo_push_12 rfl (lv_at hl 0 rfl) ?_
  refine g_f (v := .ref (m0 + 5)) Z kc_Mo hP hm.1 rfl 5 (by decide) wl_Mo_23 rfl rfl d_Mo_push_13 ?_
  refine lv_iload_n hx hb d_Mo_push_16 rfl (lv_at hl 1 rfl) ?_
  refine lv_iconst (v := 1) hx hb d_Mo_push_17 (by decide) ?_
  refine cr_S Z ks_Mo_87 (c_Mo_line_u l D E La mu (k := 0) (u := 1) (by decide)) hP [.ref (m0 + 5), .ref m0] rfl rfl hl.1 (Nat.le_of_ble_eq_true rfl) ⟨by decide, by decide⟩ ⟨Nat.le_refl _, Nat.le_refl _⟩ d_Mo_push_18 ?_
  refine la_ialdv (v := (nI w0)) hx hb hK hP 0 hm.2.2.2.2.2.1 rfl rfl 0 rfl (by decide) (by decide) hw d_Mo_push_21 ?_
  refine lv_if_ne (tgt := 29) hx hb d_Mo_push_22 rfl (fun br22 => ?_) (fun br22 => absurd br22 (nI_ne0 hw0 (by omega)))
  refine lv_iconst (v := 0) hx hb d_Mo_push_29 (by decide) ?_
  refine p_f Z kc_Mo hP hS hm.1 rfl 0 (by decide) wl_Mo_56 rfl rfl ⟨rfl, rfl⟩ (Nat.le_of_ble_eq_true rfl) rfl d_Mo_push_30 (fun H locs hP hS => ?_)
  refine lv_iconst (v := 1) hx hb d_Mo_push_33 (by decide) ?_
  refine lv_istore_n hx hb d_Mo_push_34 rfl hl (by decide) rfl (fun ls hl => ?_)
  have hl : lv_has ls 4 [(2, .int 1), (0, .ref m0), (1, .int 1)] := hl
  refine lv_iload_n hx hb d_Mo_push_35 rfl (lv_at hl 0 rfl) ?_
  refine lv_iconst (v := 3) hx hb d_Mo_push_36 (by decide) ?_
  refine lv_icmp_gt (tgt := 95) hx hb d_Mo_push_37 rfl (fun br37 => absurd br37 (by decide)) (fun br37 => ?_)
  refine lv_aload_n hx hb d_Mo_push_40 rfl (lv_at hl 1 rfl) ?_
  refine g_i (v := 0) Z kc_Mo hP hm.1 rfl 0 (by decide) wl_Mo_56 rfl rfl la_up_s d_Mo_push_41 ?_
  refine lv_if_ne (tgt := 95) hx hb d_Mo_push_44 rfl (fun br44 => absurd (rfl) br44) (fun br44 => ?_)
  refine lv_iload_n hx hb d_Mo_push_47 rfl (lv_at hl 0 rfl) ?_
  refine lv_iconst (v := 0) hx hb d_Mo_push_48 (by decide) ?_
  refine cr_S Z ks_Mo_87 (c_Mo_line_d l D E La (la_up mu m0 0 0) (k := 0) (u := 0) rfl) hP [] rfl rfl hl.1 (Nat.le_of_ble_eq_true rfl) ⟨by decide, by decide⟩ ⟨Nat.le_refl _, Nat.le_refl _⟩ d_Mo_push_49 ?_
  refine lv_istore_n hx hb d_Mo_push_52 rfl hl (by decide) rfl (fun ls hl => ?_)
  have hl : lv_has ls 4 [(3, .int 1), (2, .int 1), (0, .ref m0), (1, .int 1)] := hl
  refine lv_aload_n hx hb d_Mo_push_53 rfl (lv_at hl 2 rfl) ?_
  refine lv_iload_n hx hb d_Mo_push_54 rfl (lv_at hl 1 rfl) ?_
  refine lv_iload_n hx hb d_Mo_push_55 rfl (lv_at hl 3 rfl) ?_
  refine lv_icmp_eq (tgt := 85) hx hb d_Mo_push_56 rfl (fun br56 => ?_) (fun br56 => absurd (rfl) br56)
  refine lv_iconst (v := 0) hx hb d_Mo_push_85 (by decide) ?_
  refine p_f Z kc_Mo hP hS hm.1 rfl 0 (by decide) wl_Mo_56 rfl rfl ⟨rfl, rfl⟩ (Nat.le_of_ble_eq_true rfl) rfl d_Mo_push_86 (fun H locs hP hS => ?_)
  have hP : la_P D cls5 La (la_up mu m0 0 0) H := cvm hP la_up_up
  refine lv_iinc (k := 1) (v := 2) hx hb d_Mo_push_89 hl rfl (by decide) (by decide) rfl (fun ls hl => ?_)
  have hl : lv_has ls 4 [(2, .int 2), (3, .int 1), (0, .ref m0), (1, .int 1)] := hl
  refine lv_goto (tgt := 35) hx hb d_Mo_push_92 rfl ?_
  refine lv_iload_n hx hb d_Mo_push_35 rfl (lv_at hl 0 rfl) ?_
  refine lv_iconst (v := 3) hx hb d_Mo_push_36 (by decide) ?_
  refine lv_icmp_gt (tgt := 95) hx hb d_Mo_push_37 rfl (fun br37 => absurd br37 (by decide)) (fun br37 => ?_)
  refine lv_aload_n hx hb d_Mo_push_40 rfl (lv_at hl 2 rfl) ?_
  refine g_i (v := 0) Z kc_Mo hP hm.1 rfl 0 (by decide) wl_Mo_56 rfl rfl la_up_s d_Mo_push_41 ?_
  refine lv_if_ne (tgt := 95) hx hb d_Mo_push_44 rfl (fun br44 => absurd (rfl) br44) (fun br44 => ?_)
  refine lv_iload_n hx hb d_Mo_push_47 rfl (lv_at hl 0 rfl) ?_
  refine lv_iconst (v := 0) hx hb d_Mo_push_48 (by decide) ?_
  refine cr_S Z ks_Mo_87 (c_Mo_line_d l D E La (la_up mu m0 0 0) (k := 1) (u := 0) rfl) hP [] rfl rfl hl.1 (Nat.le_of_ble_eq_true rfl) ⟨by decide, by decide⟩ ⟨Nat.le_refl _, Nat.le_refl _⟩ d_Mo_push_49 ?_
  refine lv_istore_n hx hb d_Mo_push_52 rfl hl (by decide) rfl (fun ls hl => ?_)
  have hl : lv_has ls 4 [(3, .int 3), (2, .int 2), (0, .ref m0), (1, .int 1)] := hl
  refine lv_aload_n hx hb d_Mo_push_53 rfl (lv_at hl 2 rfl) ?_
  refine lv_iload_n hx hb d_Mo_push_54 rfl (lv_at hl 1 rfl) ?_
  refine lv_iload_n hx hb d_Mo_push_55 rfl (lv_at hl 3 rfl) ?_
  refine lv_icmp_eq (tgt := 85) hx hb d_Mo_push_56 rfl (fun br56 => absurd br56 (by decide)) (fun br56 => ?_)
  refine lv_aload_n hx hb d_Mo_push_59 rfl (lv_at hl 2 rfl) ?_
  refine g_f (v := .ref (m0 + 11)) Z kc_Mo hP hm.1 rfl 11 (by decide) wl_Mo_41 rfl rfl d_Mo_push_60 ?_
  refine lv_iload_n hx hb d_Mo_push_63 rfl (lv_at hl 0 rfl) ?_
  refine la_ialdv (v := (nI p1)) hx hb hK hP 0 hm.2.2.2.2.2.2.2.2.2.2.2.1 rfl rfl 3 rfl (by decide) (by decide) ((la_up_k (by decide)).trans po1) d_Mo_push_64 ?_
  refine lv_bipush (v := 24) hx hb d_Mo_push_65 (by decide) ?_
  refine lv_icmp_ge (tgt := 81) hx hb d_Mo_push_67 rfl (fun br67 => absurd br67 (nI_ge (b := 24) pf1 (by decide))) (fun br67 => ?_)
  refine lv_aload_n hx hb d_Mo_push_70 rfl (lv_at hl 2 rfl) ?_
  refine g_f (v := .ref (m0 + 5)) Z kc_Mo hP hm.1 rfl 5 (by decide) wl_Mo_23 rfl rfl d_Mo_push_71 ?_
  refine lv_iload_n hx hb d_Mo_push_74 rfl (lv_at hl 0 rfl) ?_
  refine la_ialdv (v := (nI v1)) hx hb hK hP 0 hm.2.2.2.2.2.1 rfl rfl 3 rfl (by decide) (by decide) ((la_up_k (by decide)).trans pw1) d_Mo_push_75 ?_
  refine lv_bipush (v := 24) hx hb d_Mo_push_76 (by decide) ?_
  refine lv_icmp_lt (tgt := 85) hx hb d_Mo_push_78 rfl (fun br78 => ?_) (fun br78 => absurd (nI_lt (b := 24) (Nat.lt_of_le_of_lt pv1 pf1) (by decide)) br78)
  refine lv_iconst (v := 0) hx hb d_Mo_push_85 (by decide) ?_
  refine p_f Z kc_Mo hP hS hm.1 rfl 0 (by decide) wl_Mo_56 rfl rfl ⟨rfl, rfl⟩ (Nat.le_of_ble_eq_true rfl) rfl d_Mo_push_86 (fun H locs hP hS => ?_)
  have hP : la_P D cls5 La (la_up mu m0 0 0) H := cvm hP la_up_up
  refine lv_iinc (k := 1) (v := 3) hx hb d_Mo_push_89 hl rfl (by decide) (by decide) rfl (fun ls hl => ?_)
  have hl : lv_has ls 4 [(2, .int 3), (3, .int 3), (0, .ref m0), (1, .int 1)] := hl
  refine lv_goto (tgt := 35) hx hb d_Mo_push_92 rfl ?_
  refine lv_iload_n hx hb d_Mo_push_35 rfl (lv_at hl 0 rfl) ?_
  refine lv_iconst (v := 3) hx hb d_Mo_push_36 (by decide) ?_
  refine lv_icmp_gt (tgt := 95) hx hb d_Mo_push_37 rfl (fun br37 => absurd br37 (by decide)) (fun br37 => ?_)
  refine lv_aload_n hx hb d_Mo_push_40 rfl (lv_at hl 2 rfl) ?_
  refine g_i (v := 0) Z kc_Mo hP hm.1 rfl 0 (by decide) wl_Mo_56 rfl rfl la_up_s d_Mo_push_41 ?_
  refine lv_if_ne (tgt := 95) hx hb d_Mo_push_44 rfl (fun br44 => absurd (rfl) br44) (fun br44 => ?_)
  refine lv_iload_n hx hb d_Mo_push_47 rfl (lv_at hl 0 rfl) ?_
  refine lv_iconst (v := 0) hx hb d_Mo_push_48 (by decide) ?_
  refine cr_S Z ks_Mo_87 (c_Mo_line_d l D E La (la_up mu m0 0 0) (k := 2) (u := 0) rfl) hP [] rfl rfl hl.1 (Nat.le_of_ble_eq_true rfl) ⟨by decide, by decide⟩ ⟨Nat.le_refl _, Nat.le_refl _⟩ d_Mo_push_49 ?_
  refine lv_istore_n hx hb d_Mo_push_52 rfl hl (by decide) rfl (fun ls hl => ?_)
  have hl : lv_has ls 4 [(3, .int 5), (2, .int 3), (0, .ref m0), (1, .int 1)] := hl
  refine lv_aload_n hx hb d_Mo_push_53 rfl (lv_at hl 2 rfl) ?_
  refine lv_iload_n hx hb d_Mo_push_54 rfl (lv_at hl 1 rfl) ?_
  refine lv_iload_n hx hb d_Mo_push_55 rfl (lv_at hl 3 rfl) ?_
  refine lv_icmp_eq (tgt := 85) hx hb d_Mo_push_56 rfl (fun br56 => absurd br56 (by decide)) (fun br56 => ?_)
  refine lv_aload_n hx hb d_Mo_push_59 rfl (lv_at hl 2 rfl) ?_
  refine g_f (v := .ref (m0 + 11)) Z kc_Mo hP hm.1 rfl 11 (by decide) wl_Mo_41 rfl rfl d_Mo_push_60 ?_
  refine lv_iload_n hx hb d_Mo_push_63 rfl (lv_at hl 0 rfl) ?_
  refine la_ialdv (v := (nI p2)) hx hb hK hP 0 hm.2.2.2.2.2.2.2.2.2.2.2.1 rfl rfl 5 rfl (by decide) (by decide) ((la_up_k (by decide)).trans po2) d_Mo_push_64 ?_
  refine lv_bipush (v := 24) hx hb d_Mo_push_65 (by decide) ?_
  refine lv_icmp_ge (tgt := 81) hx hb d_Mo_push_67 rfl (fun br67 => ?_) (fun br67 => absurd (nI_le (a := 24) pf2 (by omega)) br67)
  refine lv_iconst (v := 3) hx hb d_Mo_push_81 (by decide) ?_
  refine lv_goto (tgt := 86) hx hb d_Mo_push_82 rfl ?_
  refine p_f Z kc_Mo hP hS hm.1 rfl 0 (by decide) wl_Mo_56 rfl rfl ⟨rfl, rfl⟩ (Nat.le_of_ble_eq_true rfl) rfl d_Mo_push_86 (fun H locs hP hS => ?_)
  have hP : la_P D cls5 La (la_up mu m0 0 3) H := cvm hP la_up_up
  refine lv_iinc (k := 1) (v := 4) hx hb d_Mo_push_89 hl rfl (by decide) (by decide) rfl (fun ls hl => ?_)
  have hl : lv_has ls 4 [(2, .int 4), (3, .int 5), (0, .ref m0), (1, .int 1)] := hl
  refine lv_goto (tgt := 35) hx hb d_Mo_push_92 rfl ?_
  refine lv_iload_n hx hb d_Mo_push_35 rfl (lv_at hl 0 rfl) ?_
  refine lv_iconst (v := 3) hx hb d_Mo_push_36 (by decide) ?_
  refine lv_icmp_gt (tgt := 95) hx hb d_Mo_push_37 rfl (fun br37 => ?_) (fun br37 => absurd (by decide) br37)
  refine lv_aload_n hx hb d_Mo_push_95 rfl (lv_at hl 2 rfl) ?_
  refine g_i (v := 3) Z kc_Mo hP hm.1 rfl 0 (by decide) wl_Mo_56 rfl rfl la_up_s d_Mo_push_96 ?_
  refine lv_if_eq (tgt := 104) hx hb d_Mo_push_99 rfl (fun br99 => absurd br99 (by decide)) (fun br99 => ?_)
  refine lv_iconst (v := 0) hx hb d_Mo_push_102 (by decide) ?_
  exact W.iret hx hb hr (fun t ht hW => ⟨rfl, by rw [ht]; exact cvm hP (rfl), hS.F ht⟩) hS.2.2 d_Mo_push_103
set_option maxHeartbeats 4000000 in
set_option maxRecDepth 100000 in
theorem c_Mo_push_0_0 (l : Launch) (D : va_G) (E : Nat → ClassId) (La : la_L) {m0 : Nat} (hm : isMo E La m0) (mu : la_M) {w0 : Nat} (hw : mu (m0 + 5) 0 = nI w0) (hw0 : 0 < w0) (hw4 : w0 < 40) {p1 v1 : Nat} (po1 : mu (m0 + 11) 3 = nI p1) (pw1 : mu (m0 + 5) 3 = nI v1) (pv1 : v1 ≤ p1) (pf1 : p1 < 24) {p2 v2 : Nat} (po2 : mu (m0 + 11) 5 = nI p2) (pw2 : mu (m0 + 5) 5 = nI v2) (pv2 : v2 ≤ p2) (pf2 : p2 < 24) {mu1 : la_M} (hG : cw l y_Mo_get b_Mo_get 9 none 1 25 D E La [.ref m0, .int (nI 0), .int (nI 0)] (la_up mu m0 0 0) none mu1) {t1 : Nat} (qo1 : mu1 (m0 + 11) 3 = nI p1) (qw1 : mu1 (m0 + 5) 3 = nI v1) (qt1 : mu1 (m0 + 3) 3 = nI t1) {t2 : Nat} (qo2 : mu1 (m0 + 11) 5 = nI p2) (qw2 : mu1 (m0 + 5) 5 = nI v2) (qt2 : mu1 (m0 + 3) 5 = nI t2)  : cw l y_Mo_push b_Mo_push 4 (some .int) 2 53 D E La [.ref m0, .int 1] mu (some (.int (mu1 m0 16))) (md_send (md_send mu1 m0 3 v1 p1 t1) m0 5 v2 p2 t2) := by
  refine cw_begin R_Mo (by decide) rfl (Nat.le_of_ble_eq_true rfl) ?_
  intro p e s m below meth c ls Z hr hlocks hP hS hl
  have hx := Z.1
  have hb := Z.2.1
  have hK : va_K D cls5 (tyE E) s := Z.2.2.2.2.2
  have hl : lv_has ls 4 [(0, .ref m0), (1, .int 1)] := hl
  have r11 := (show (md_send mu1 m0 3 v1 p1 t1) (m0 + 11) 5 = nI p2 by simp only [md_send]; rw [la_up_n (by omega), la_up_k (by decide), la_up_n (by omega), la_up_n (by omega), la_up_n (by omega), la_up_n (by omega), la_up_n (by omega), la_up_n (by omega), la_up_n (by omega), la_up_n (by omega), la_up_n (by omega), la_up_n (by omega)]; exact qo2)
  have r5 := (show (md_send mu1 m0 3 v1 p1 t1) (m0 + 5) 5 = nI v2 by simp only [md_send]; rw [la_up_n (by omega), la_up_n (by omega), la_up_n (by omega), la_up_n (by omega), la_up_n (by omega), la_up_n (by omega), la_up_k (by decide), la_up_n (by omega), la_up_n (by omega), la_up_n (by omega), la_up_n (by omega), la_up_n (by omega)]; exact qw2)
  have r3 := (show (md_send mu1 m0 3 v1 p1 t1) (m0 + 3) 5 = nI t2 by simp only [md_send]; rw [la_up_k (by decide), la_up_n (by omega), la_up_n (by omega), la_up_n (by omega), la_up_n (by omega), la_up_n (by omega), la_up_n (by omega), la_up_n (by omega), la_up_n (by omega), la_up_n (by omega), la_up_n (by omega), la_up_n (by omega)]; exact qt2)
  refine lv_aload_n hx hb d_Mo_push_0 rfl (lv_at hl 0 rfl) ?_
  refine lv_iload_n hx hb d_Mo_push_1 rfl (lv_at hl 1 rfl) ?_
  refine cr_S Z ks_Mo_94 (c_Mo_isClient_y l D E La mu (k := 0) (by decide)) hP [.ref m0] rfl rfl hl.1 (Nat.le_of_ble_eq_true rfl) ⟨by decide, by decide⟩ ⟨Nat.le_refl _, Nat.le_refl _⟩ d_Mo_push_2 ?_
  refine lv_if_ne (tgt := 12) hx hb d_Mo_push_5 rfl (fun br5 => ?_) (fun br5 => absurd br5 (by decide))
  refine lv_aload_n hx hb d_Mo_push_12 rfl (lv_at hl 0 rfl) ?_
  refine g_f (v := .ref (m0 + 5)) Z kc_Mo hP hm.1 rfl 5 (by decide) wl_Mo_23 rfl rfl d_Mo_push_13 ?_
  refine lv_iload_n hx hb d_Mo_push_16 rfl (lv_at hl 1 rfl) ?_
  refine lv_iconst (v := 1) hx hb d_Mo_push_17 (by decide) ?_
  refine cr_S Z ks_Mo_87 (c_Mo_line_u l D E La mu (k := 0) (u := 1) (by decide)) hP [.ref (m0 + 5), .ref m0] rfl rfl hl.1 (Nat.le_of_ble_eq_true rfl) ⟨by decide, by decide⟩ ⟨Nat.le_refl _, Nat.le_refl _⟩ d_Mo_push_18 ?_
  refine la_ialdv (v := (nI w0)) hx hb hK hP 0 hm.2.2.2.2.2.1 rfl rfl 0 rfl (by decide) (by decide) hw d_Mo_push_21 ?_
  refine lv_if_ne (tgt := 29) hx hb d_Mo_push_22 rfl (fun br22 => ?_) (fun br22 => absurd br22 (nI_ne0 hw0 (by omega)))
  refine lv_iconst (v := 0) hx hb d_Mo_push_29 (by decide) ?_
  refine p_f Z kc_Mo hP hS hm.1 rfl 0 (by decide) wl_Mo_56 rfl rfl ⟨rfl, rfl⟩ (Nat.le_of_ble_eq_true rfl) rfl d_Mo_push_30 (fun H locs hP hS => ?_)
  refine lv_iconst (v := 1) hx hb d_Mo_push_33 (by decide) ?_
  refine lv_istore_n hx hb d_Mo_push_34 rfl hl (by decide) rfl (fun ls hl => ?_)
  have hl : lv_has ls 4 [(2, .int 1), (0, .ref m0), (1, .int 1)] := hl
  refine lv_iload_n hx hb d_Mo_push_35 rfl (lv_at hl 0 rfl) ?_
  refine lv_iconst (v := 3) hx hb d_Mo_push_36 (by decide) ?_
  refine lv_icmp_gt (tgt := 95) hx hb d_Mo_push_37 rfl (fun br37 => absurd br37 (by decide)) (fun br37 => ?_)
  refine lv_aload_n hx hb d_Mo_push_40 rfl (lv_at hl 1 rfl) ?_
  refine g_i (v := 0) Z kc_Mo hP hm.1 rfl 0 (by decide) wl_Mo_56 rfl rfl la_up_s d_Mo_push_41 ?_
  refine lv_if_ne (tgt := 95) hx hb d_Mo_push_44 rfl (fun br44 => absurd (rfl) br44) (fun br44 => ?_)
  refine lv_iload_n hx hb d_Mo_push_47 rfl (lv_at hl 0 rfl) ?_
  refine lv_iconst (v := 0) hx hb d_Mo_push_48 (by decide) ?_
  refine cr_S Z ks_Mo_87 (c_Mo_line_d l D E La (la_up mu m0 0 0) (k := 0) (u := 0) rfl) hP [] rfl rfl hl.1 (Nat.le_of_ble_eq_true rfl) ⟨by decide, by decide⟩ ⟨Nat.le_refl _, Nat.le_refl _⟩ d_Mo_push_49 ?_
  refine lv_istore_n hx hb d_Mo_push_52 rfl hl (by decide) rfl (fun ls hl => ?_)
  have hl : lv_has ls 4 [(3, .int 1), (2, .int 1), (0, .ref m0), (1, .int 1)] := hl
  refine lv_aload_n hx hb d_Mo_push_53 rfl (lv_at hl 2 rfl) ?_
  refine lv_iload_n hx hb d_Mo_push_54 rfl (lv_at hl 1 rfl) ?_
  refine lv_iload_n hx hb d_Mo_push_55 rfl (lv_at hl 3 rfl) ?_
  refine lv_icmp_eq (tgt := 85) hx hb d_Mo_push_56 rfl (fun br56 => ?_) (fun br56 => absurd (rfl) br56)
  refine lv_iconst (v := 0) hx hb d_Mo_push_85 (by decide) ?_
  refine p_f Z kc_Mo hP hS hm.1 rfl 0 (by decide) wl_Mo_56 rfl rfl ⟨rfl, rfl⟩ (Nat.le_of_ble_eq_true rfl) rfl d_Mo_push_86 (fun H locs hP hS => ?_)
  have hP : la_P D cls5 La (la_up mu m0 0 0) H := cvm hP la_up_up
  refine lv_iinc (k := 1) (v := 2) hx hb d_Mo_push_89 hl rfl (by decide) (by decide) rfl (fun ls hl => ?_)
  have hl : lv_has ls 4 [(2, .int 2), (3, .int 1), (0, .ref m0), (1, .int 1)] := hl
  refine lv_goto (tgt := 35) hx hb d_Mo_push_92 rfl ?_
  refine lv_iload_n hx hb d_Mo_push_35 rfl (lv_at hl 0 rfl) ?_
  refine lv_iconst (v := 3) hx hb d_Mo_push_36 (by decide) ?_
  refine lv_icmp_gt (tgt := 95) hx hb d_Mo_push_37 rfl (fun br37 => absurd br37 (by decide)) (fun br37 => ?_)
  refine lv_aload_n hx hb d_Mo_push_40 rfl (lv_at hl 2 rfl) ?_
  refine g_i (v := 0) Z kc_Mo hP hm.1 rfl 0 (by decide) wl_Mo_56 rfl rfl la_up_s d_Mo_push_41 ?_
  refine lv_if_ne (tgt := 95) hx hb d_Mo_push_44 rfl (fun br44 => absurd (rfl) br44) (fun br44 => ?_)
  refine lv_iload_n hx hb d_Mo_push_47 rfl (lv_at hl 0 rfl) ?_
  refine lv_iconst (v := 0) hx hb d_Mo_push_48 (by decide) ?_
  refine cr_S Z ks_Mo_87 (c_Mo_line_d l D E La (la_up mu m0 0 0) (k := 1) (u := 0) rfl) hP [] rfl rfl hl.1 (Nat.le_of_ble_eq_true rfl) ⟨by decide, by decide⟩ ⟨Nat.le_refl _, Nat.le_refl _⟩ d_Mo_push_49 ?_
  refine lv_istore_n hx hb d_Mo_push_52 rfl hl (by decide) rfl (fun ls hl => ?_)
  have hl : lv_has ls 4 [(3, .int 3), (2, .int 2), (0, .ref m0), (1, .int 1)] := hl
  refine lv_aload_n hx hb d_Mo_push_53 rfl (lv_at hl 2 rfl) ?_
  refine lv_iload_n hx hb d_Mo_push_54 rfl (lv_at hl 1 rfl) ?_
  refine lv_iload_n hx hb d_Mo_push_55 rfl (lv_at hl 3 rfl) ?_
  refine lv_icmp_eq (tgt := 85) hx hb d_Mo_push_56 rfl (fun br56 => absurd br56 (by decide)) (fun br56 => ?_)
  refine lv_aload_n hx hb d_Mo_push_59 rfl (lv_at hl 2 rfl) ?_
  refine g_f (v := .ref (m0 + 11)) Z kc_Mo hP hm.1 rfl 11 (by decide) wl_Mo_41 rfl rfl d_Mo_push_60 ?_
  refine lv_iload_n hx hb d_Mo_push_63 rfl (lv_at hl 0 rfl) ?_
  refine la_ialdv (v := (nI p1)) hx hb hK hP 0 hm.2.2.2.2.2.2.2.2.2.2.2.1 rfl rfl 3 rfl (by decide) (by decide) ((la_up_k (by decide)).trans po1) d_Mo_push_64 ?_
  refine lv_bipush (v := 24) hx hb d_Mo_push_65 (by decide) ?_
  refine lv_icmp_ge (tgt := 81) hx hb d_Mo_push_67 rfl (fun br67 => absurd br67 (nI_ge (b := 24) pf1 (by decide))) (fun br67 => ?_)
  refine lv_aload_n hx hb d_Mo_push_70 rfl (lv_at hl 2 rfl) ?_
  refine g_f (v := .ref (m0 + 5)) Z kc_Mo hP hm.1 rfl 5 (by decide) wl_Mo_23 rfl rfl d_Mo_push_71 ?_
  refine lv_iload_n hx hb d_Mo_push_74 rfl (lv_at hl 0 rfl) ?_
  refine la_ialdv (v := (nI v1)) hx hb hK hP 0 hm.2.2.2.2.2.1 rfl rfl 3 rfl (by decide) (by decide) ((la_up_k (by decide)).trans pw1) d_Mo_push_75 ?_
  refine lv_bipush (v := 24) hx hb d_Mo_push_76 (by decide) ?_
  refine lv_icmp_lt (tgt := 85) hx hb d_Mo_push_78 rfl (fun br78 => ?_) (fun br78 => absurd (nI_lt (b := 24) (Nat.lt_of_le_of_lt pv1 pf1) (by decide)) br78)
  refine lv_iconst (v := 0) hx hb d_Mo_push_85 (by decide) ?_
  refine p_f Z kc_Mo hP hS hm.1 rfl 0 (by decide) wl_Mo_56 rfl rfl ⟨rfl, rfl⟩ (Nat.le_of_ble_eq_true rfl) rfl d_Mo_push_86 (fun H locs hP hS => ?_)
  have hP : la_P D cls5 La (la_up mu m0 0 0) H := cvm hP la_up_up
  refine lv_iinc (k := 1) (v := 3) hx hb d_Mo_push_89 hl rfl (by decide) (by decide) rfl (fun ls hl => ?_)
  have hl : lv_has ls 4 [(2, .int 3), (3, .int 3), (0, .ref m0), (1, .int 1)] := hl
  refine lv_goto (tgt := 35) hx hb d_Mo_push_92 rfl ?_
  refine lv_iload_n hx hb d_Mo_push_35 rfl (lv_at hl 0 rfl) ?_
  refine lv_iconst (v := 3) hx hb d_Mo_push_36 (by decide) ?_
  refine lv_icmp_gt (tgt := 95) hx hb d_Mo_push_37 rfl (fun br37 => absurd br37 (by decide)) (fun br37 => ?_)
  refine lv_aload_n hx hb d_Mo_push_40 rfl (lv_at hl 2 rfl) ?_
  refine g_i (v := 0) Z kc_Mo hP hm.1 rfl 0 (by decide) wl_Mo_56 rfl rfl la_up_s d_Mo_push_41 ?_
  refine lv_if_ne (tgt := 95) hx hb d_Mo_push_44 rfl (fun br44 => absurd (rfl) br44) (fun br44 => ?_)
  refine lv_iload_n hx hb d_Mo_push_47 rfl (lv_at hl 0 rfl) ?_
  refine lv_iconst (v := 0) hx hb d_Mo_push_48 (by decide) ?_
  refine cr_S Z ks_Mo_87 (c_Mo_line_d l D E La (la_up mu m0 0 0) (k := 2) (u := 0) rfl) hP [] rfl rfl hl.1 (Nat.le_of_ble_eq_true rfl) ⟨by decide, by decide⟩ ⟨Nat.le_refl _, Nat.le_refl _⟩ d_Mo_push_49 ?_
  refine lv_istore_n hx hb d_Mo_push_52 rfl hl (by decide) rfl (fun ls hl => ?_)
  have hl : lv_has ls 4 [(3, .int 5), (2, .int 3), (0, .ref m0), (1, .int 1)] := hl
  refine lv_aload_n hx hb d_Mo_push_53 rfl (lv_at hl 2 rfl) ?_
  refine lv_iload_n hx hb d_Mo_push_54 rfl (lv_at hl 1 rfl) ?_
  refine lv_iload_n hx hb d_Mo_push_55 rfl (lv_at hl 3 rfl) ?_
  refine lv_icmp_eq (tgt := 85) hx hb d_Mo_push_56 rfl (fun br56 => absurd br56 (by decide)) (fun br56 => ?_)
  refine lv_aload_n hx hb d_Mo_push_59 rfl (lv_at hl 2 rfl) ?_
  refine g_f (v := .ref (m0 + 11)) Z kc_Mo hP hm.1 rfl 11 (by decide) wl_Mo_41 rfl rfl d_Mo_push_60 ?_
  refine lv_iload_n hx hb d_Mo_push_63 rfl (lv_at hl 0 rfl) ?_
  refine la_ialdv (v := (nI p2)) hx hb hK hP 0 hm.2.2.2.2.2.2.2.2.2.2.2.1 rfl rfl 5 rfl (by decide) (by decide) ((la_up_k (by decide)).trans po2) d_Mo_push_64 ?_
  refine lv_bipush (v := 24) hx hb d_Mo_push_65 (by decide) ?_
  refine lv_icmp_ge (tgt := 81) hx hb d_Mo_push_67 rfl (fun br67 => absurd br67 (nI_ge (b := 24) pf2 (by decide))) (fun br67 => ?_)
  refine lv_aload_n hx hb d_Mo_push_70 rfl (lv_at hl 2 rfl) ?_
  refine g_f (v := .ref (m0 + 5)) Z kc_Mo hP hm.1 rfl 5 (by decide) wl_Mo_23 rfl rfl d_Mo_push_71 ?_
  refine lv_iload_n hx hb d_Mo_push_74 rfl (lv_at hl 0 rfl) ?_
  refine la_ialdv (v := (nI v2)) hx hb hK hP 0 hm.2.2.2.2.2.1 rfl rfl 5 rfl (by decide) (by decide) ((la_up_k (by decide)).trans pw2) d_Mo_push_75 ?_
  refine lv_bipush (v := 24) hx hb d_Mo_push_76 (by decide) ?_
  refine lv_icmp_lt (tgt := 85) hx hb d_Mo_push_78 rfl (fun br78 => ?_) (fun br78 => absurd (nI_lt (b := 24) (Nat.lt_of_le_of_lt pv2 pf2) (by decide)) br78)
  refine lv_iconst (v := 0) hx hb d_Mo_push_85 (by decide) ?_
  refine p_f Z kc_Mo hP hS hm.1 rfl 0 (by decide) wl_Mo_56 rfl rfl ⟨rfl, rfl⟩ (Nat.le_of_ble_eq_true rfl) rfl d_Mo_push_86 (fun H locs hP hS => ?_)
  have hP : la_P D cls5 La (la_up mu m0 0 0) H := cvm hP la_up_up
  refine lv_iinc (k := 1) (v := 4) hx hb d_Mo_push_89 hl rfl (by decide) (by decide) rfl (fun ls hl => ?_)
  have hl : lv_has ls 4 [(2, .int 4), (3, .int 5), (0, .ref m0), (1, .int 1)] := hl
  refine lv_goto (tgt := 35) hx hb d_Mo_push_92 rfl ?_
  refine lv_iload_n hx hb d_Mo_push_35 rfl (lv_at hl 0 rfl) ?_
  refine lv_iconst (v := 3) hx hb d_Mo_push_36 (by decide) ?_
  refine lv_icmp_gt (tgt := 95) hx hb d_Mo_push_37 rfl (fun br37 => ?_) (fun br37 => absurd (by decide) br37)
  refine lv_aload_n hx hb d_Mo_push_95 rfl (lv_at hl 2 rfl) ?_
  refine g_i (v := 0) Z kc_Mo hP hm.1 rfl 0 (by decide) wl_Mo_56 rfl rfl la_up_s d_Mo_push_96 ?_
  refine lv_if_eq (tgt := 104) hx hb d_Mo_push_99 rfl (fun br99 => ?_) (fun br99 => absurd (by decide) br99)
  refine lv_aload_n hx hb d_Mo_push_104 rfl (lv_at hl 2 rfl) ?_
  refine lv_iload_n hx hb d_Mo_push_105 rfl (lv_at hl 3 rfl) ?_
  refine lv_iconst (v := 1) hx hb d_Mo_push_106 (by decide) ?_
  refine cr_S Z ks_Mo_87 (c_Mo_line_u l D E La (la_up mu m0 0 0) (k := 0) (u := 1) (by decide)) hP [.ref m0] rfl rfl hl.1 (Nat.le_of_ble_eq_true rfl) ⟨by decide, by decide⟩ ⟨Nat.le_refl _, Nat.le_refl _⟩ d_Mo_push_107 ?_
  refine lv_iconst (v := 0) hx hb d_Mo_push_110 (by decide) ?_
  refine cw_V Z kv_Mo_105 (hG) hP hS (fun _ h => h) (la_recv hK hP kc_Mo hm.1 rfl) [] rfl rfl hl.1 (Nat.le_of_ble_eq_true rfl) ⟨by decide, by decide⟩ ⟨Nat.le_refl _, Nat.le_refl _⟩ d_Mo_push_111 (fun H locs hP hkp hS => ?_)
  refine lv_aload_n hx hb d_Mo_push_114 rfl (lv_at hl 2 rfl) ?_
  refine g_f Z kc_Mo hP hm.1 rfl 16 (by decide) wl_Mo_60 rfl rfl d_Mo_push_115 ?_
  refine lv_istore_n hx hb d_Mo_push_118 rfl hl (by decide) rfl (fun ls hl => ?_)
  have hl : lv_has ls 4 [(2, .int (mu1 m0 16)), (3, .int 5), (0, .ref m0), (1, .int 1)] := hl
  refine lv_iconst (v := 1) hx hb d_Mo_push_119 (by decide) ?_
  refine lv_istore_n hx hb d_Mo_push_120 rfl hl (by decide) rfl (fun ls hl => ?_)
  have hl : lv_has ls 4 [(3, .int 1), (2, .int (mu1 m0 16)), (0, .ref m0), (1, .int 1)] := hl
  refine lv_iload_n hx hb d_Mo_push_121 rfl (lv_at hl 0 rfl) ?_
  refine lv_iconst (v := 3) hx hb d_Mo_push_122 (by decide) ?_
  refine lv_icmp_gt (tgt := 146) hx hb d_Mo_push_123 rfl (fun br123 => absurd br123 (by decide)) (fun br123 => ?_)
  refine lv_iload_n hx hb d_Mo_push_126 rfl (lv_at hl 0 rfl) ?_
  refine lv_iload_n hx hb d_Mo_push_127 rfl (lv_at hl 3 rfl) ?_
  refine lv_icmp_eq (tgt := 140) hx hb d_Mo_push_128 rfl (fun br128 => ?_) (fun br128 => absurd (rfl) br128)
  refine lv_iinc (k := 0) (v := 2) hx hb d_Mo_push_140 hl rfl (by decide) (by decide) rfl (fun ls hl => ?_)
  have hl : lv_has ls 4 [(3, .int 2), (2, .int (mu1 m0 16)), (0, .ref m0), (1, .int 1)] := hl
  refine lv_goto (tgt := 121) hx hb d_Mo_push_143 rfl ?_
  refine lv_iload_n hx hb d_Mo_push_121 rfl (lv_at hl 0 rfl) ?_
  refine lv_iconst (v := 3) hx hb d_Mo_push_122 (by decide) ?_
  refine lv_icmp_gt (tgt := 146) hx hb d_Mo_push_123 rfl (fun br123 => absurd br123 (by decide)) (fun br123 => ?_)
  refine lv_iload_n hx hb d_Mo_push_126 rfl (lv_at hl 0 rfl) ?_
  refine lv_iload_n hx hb d_Mo_push_127 rfl (lv_at hl 3 rfl) ?_
  refine lv_icmp_eq (tgt := 140) hx hb d_Mo_push_128 rfl (fun br128 => absurd br128 (by decide)) (fun br128 => ?_)
  refine lv_aload_n hx hb d_Mo_push_131 rfl (lv_at hl 2 rfl) ?_
  refine lv_iload_n hx hb d_Mo_push_132 rfl (lv_at hl 0 rfl) ?_
  refine lv_iconst (v := 0) hx hb d_Mo_push_133 (by decide) ?_
  refine cr_S Z ks_Mo_87 (c_Mo_line_d l D E La mu1 (k := 1) (u := 0) rfl) hP [.ref m0] rfl rfl hl.1 (Nat.le_of_ble_eq_true rfl) ⟨by decide, by decide⟩ ⟨Nat.le_refl _, Nat.le_refl _⟩ d_Mo_push_134 ?_
  refine cw_V Z kv_Mo_91 (c_Mo_send l D E La hm mu1 (by decide) qw1 (by omega) qo1 (by omega) qt1) hP hS (fun _ h => h) (la_recv hK hP kc_Mo hm.1 rfl) [] rfl rfl hl.1 (Nat.le_of_ble_eq_true rfl) ⟨by decide, by decide⟩ ⟨Nat.le_refl _, Nat.le_refl _⟩ d_Mo_push_137 (fun H locs hP hkp hS => ?_)
  refine lv_iinc (k := 0) (v := 3) hx hb d_Mo_push_140 hl rfl (by decide) (by decide) rfl (fun ls hl => ?_)
  have hl : lv_has ls 4 [(3, .int 3), (2, .int (mu1 m0 16)), (0, .ref m0), (1, .int 1)] := hl
  refine lv_goto (tgt := 121) hx hb d_Mo_push_143 rfl ?_
  refine lv_iload_n hx hb d_Mo_push_121 rfl (lv_at hl 0 rfl) ?_
  refine lv_iconst (v := 3) hx hb d_Mo_push_122 (by decide) ?_
  refine lv_icmp_gt (tgt := 146) hx hb d_Mo_push_123 rfl (fun br123 => absurd br123 (by decide)) (fun br123 => ?_)
  refine lv_iload_n hx hb d_Mo_push_126 rfl (lv_at hl 0 rfl) ?_
  refine lv_iload_n hx hb d_Mo_push_127 rfl (lv_at hl 3 rfl) ?_
  refine lv_icmp_eq (tgt := 140) hx hb d_Mo_push_128 rfl (fun br128 => absurd br128 (by decide)) (fun br128 => ?_)
  refine lv_aload_n hx hb d_Mo_push_131 rfl (lv_at hl 2 rfl) ?_
  refine lv_iload_n hx hb d_Mo_push_132 rfl (lv_at hl 0 rfl) ?_
  refine lv_iconst (v := 0) hx hb d_Mo_push_133 (by decide) ?_
  refine cr_S Z ks_Mo_87 (c_Mo_line_d l D E La (md_send mu1 m0 3 v1 p1 t1) (k := 2) (u := 0) rfl) hP [.ref m0] rfl rfl hl.1 (Nat.le_of_ble_eq_true rfl) ⟨by decide, by decide⟩ ⟨Nat.le_refl _, Nat.le_refl _⟩ d_Mo_push_134 ?_
  refine cw_V Z kv_Mo_91 (c_Mo_send l D E La hm (md_send mu1 m0 3 v1 p1 t1) (by decide) r5 (by omega) r11 (by omega) r3) hP hS (fun _ h => h) (la_recv hK hP kc_Mo hm.1 rfl) [] rfl rfl hl.1 (Nat.le_of_ble_eq_true rfl) ⟨by decide, by decide⟩ ⟨Nat.le_refl _, Nat.le_refl _⟩ d_Mo_push_137 (fun H locs hP hkp hS => ?_)
  refine lv_iinc (k := 0) (v := 4) hx hb d_Mo_push_140 hl rfl (by decide) (by decide) rfl (fun ls hl => ?_)
  have hl : lv_has ls 4 [(3, .int 4), (2, .int (mu1 m0 16)), (0, .ref m0), (1, .int 1)] := hl
  refine lv_goto (tgt := 121) hx hb d_Mo_push_143 rfl ?_
  refine lv_iload_n hx hb d_Mo_push_121 rfl (lv_at hl 0 rfl) ?_
  refine lv_iconst (v := 3) hx hb d_Mo_push_122 (by decide) ?_
  refine lv_icmp_gt (tgt := 146) hx hb d_Mo_push_123 rfl (fun br123 => ?_) (fun br123 => absurd (by decide) br123)
  refine lv_iload_n hx hb d_Mo_push_146 rfl (lv_at hl 1 rfl) ?_
  exact W.iret hx hb hr (fun t ht hW => ⟨rfl, by rw [ht]; exact cvm hP (rfl), hS.F ht⟩) hS.2.2 d_Mo_push_147
set_option maxHeartbeats 4000000 in
set_option maxRecDepth 100000 in
theorem c_Mo_push_3_10 (l : Launch) (D : va_G) (E : Nat → ClassId) (La : la_L) {m0 : Nat} (hm : isMo E La m0) (mu : la_M) {w0 : Nat} (hw : mu (m0 + 5) 2 = nI w0) (hw0 : 0 < w0) (hw4 : w0 < 40) {p0 : Nat} (po0 : mu (m0 + 11) 1 = nI p0) (pf0 : 24 ≤ p0) (pg0 : p0 < 2 ^ 31)  : cw l y_Mo_push b_Mo_push 4 (some .int) 2 53 D E La [.ref m0, .int 2] mu (some (.int 0)) (la_up mu m0 0 3) := by
  refine cw_begin R_Mo (by decide) rfl (Nat.le_of_ble_eq_true rfl) ?_
  intro p e s m below meth c ls Z hr hlocks hP hS hl
  have hx := Z.1
  have hb := Z.2.1
  have hK : va_K D cls5 (tyE E) s := Z.2.2.2.2.2
  have hl : lv_has ls 4 [(0, .ref m0), (1, .int 2)] := hl
  refine lv_aload_n hx hb d_Mo_push_0 rfl (lv_at hl 0 rfl) ?_
  refine lv_iload_n hx hb d_Mo_push_1 rfl (lv_at hl 1 rfl) ?_
  refine cr_S Z ks_Mo_94 (c_Mo_isClient_y l D E La mu (k := 1) (by decide)) hP [.ref m0] rfl rfl hl.1 (Nat.le_of_ble_eq_true rfl) ⟨by decide, by decide⟩ ⟨Nat.le_refl _, Nat.le_refl _⟩ d_Mo_push_2 ?_
  refine lv_if_ne (tgt := 12) hx hb d_Mo_push_5 rfl (fun br5 => ?_) (fun br5 => absurd br5 (by decide))
  refine lv_aload_n hx hb d_Mo_push_12 rfl (lv_at hl 0 rfl) ?_
  refine g_f (v := .ref (m0 + 5)) Z kc_Mo hP hm.1 rfl 5 (by decide) wl_Mo_23 rfl rfl d_Mo_push_13 ?_
  refine lv_iload_n hx hb d_Mo_push_16 rfl (lv_at hl 1 rfl) ?_
  refine lv_iconst (v := 1) hx hb d_Mo_push_17 (by decide) ?_
  refine cr_S Z ks_Mo_87 (c_Mo_line_u l D E La mu (k := 1) (u := 1) (by decide)) hP [.ref (m0 + 5), .ref m0] rfl rfl hl.1 (Nat.le_of_ble_eq_true rfl) ⟨by decide, by decide⟩ ⟨Nat.le_refl _, Nat.le_refl _⟩ d_Mo_push_18 ?_
  refine la_ialdv (v := (nI w0)) hx hb hK hP 0 hm.2.2.2.2.2.1 rfl rfl 2 rfl (by decide) (by decide) hw d_Mo_push_21 ?_
  refine lv_if_ne (tgt := 29) hx hb d_Mo_push_22 rfl (fun br22 => ?_) (fun br22 => absurd br22 (nI_ne0 hw0 (by omega)))
  refine lv_iconst (v := 0) hx hb d_Mo_push_29 (by decide) ?_
  refine p_f Z kc_Mo hP hS hm.1 rfl 0 (by decide) wl_Mo_56 rfl rfl ⟨rfl, rfl⟩ (Nat.le_of_ble_eq_true rfl) rfl d_Mo_push_30 (fun H locs hP hS => ?_)
  refine lv_iconst (v := 1) hx hb d_Mo_push_33 (by decide) ?_
  refine lv_istore_n hx hb d_Mo_push_34 rfl hl (by decide) rfl (fun ls hl => ?_)
  have hl : lv_has ls 4 [(2, .int 1), (0, .ref m0), (1, .int 2)] := hl
  refine lv_iload_n hx hb d_Mo_push_35 rfl (lv_at hl 0 rfl) ?_
  refine lv_iconst (v := 3) hx hb d_Mo_push_36 (by decide) ?_
  refine lv_icmp_gt (tgt := 95) hx hb d_Mo_push_37 rfl (fun br37 => absurd br37 (by decide)) (fun br37 => ?_)
  refine lv_aload_n hx hb d_Mo_push_40 rfl (lv_at hl 1 rfl) ?_
  refine g_i (v := 0) Z kc_Mo hP hm.1 rfl 0 (by decide) wl_Mo_56 rfl rfl la_up_s d_Mo_push_41 ?_
  refine lv_if_ne (tgt := 95) hx hb d_Mo_push_44 rfl (fun br44 => absurd (rfl) br44) (fun br44 => ?_)
  refine lv_iload_n hx hb d_Mo_push_47 rfl (lv_at hl 0 rfl) ?_
  refine lv_iconst (v := 0) hx hb d_Mo_push_48 (by decide) ?_
  refine cr_S Z ks_Mo_87 (c_Mo_line_d l D E La (la_up mu m0 0 0) (k := 0) (u := 0) rfl) hP [] rfl rfl hl.1 (Nat.le_of_ble_eq_true rfl) ⟨by decide, by decide⟩ ⟨Nat.le_refl _, Nat.le_refl _⟩ d_Mo_push_49 ?_
  refine lv_istore_n hx hb d_Mo_push_52 rfl hl (by decide) rfl (fun ls hl => ?_)
  have hl : lv_has ls 4 [(3, .int 1), (2, .int 1), (0, .ref m0), (1, .int 2)] := hl
  refine lv_aload_n hx hb d_Mo_push_53 rfl (lv_at hl 2 rfl) ?_
  refine lv_iload_n hx hb d_Mo_push_54 rfl (lv_at hl 1 rfl) ?_
  refine lv_iload_n hx hb d_Mo_push_55 rfl (lv_at hl 3 rfl) ?_
  refine lv_icmp_eq (tgt := 85) hx hb d_Mo_push_56 rfl (fun br56 => absurd br56 (by decide)) (fun br56 => ?_)
  refine lv_aload_n hx hb d_Mo_push_59 rfl (lv_at hl 2 rfl) ?_
  refine g_f (v := .ref (m0 + 11)) Z kc_Mo hP hm.1 rfl 11 (by decide) wl_Mo_41 rfl rfl d_Mo_push_60 ?_
  refine lv_iload_n hx hb d_Mo_push_63 rfl (lv_at hl 0 rfl) ?_
  refine la_ialdv (v := (nI p0)) hx hb hK hP 0 hm.2.2.2.2.2.2.2.2.2.2.2.1 rfl rfl 1 rfl (by decide) (by decide) ((la_up_k (by decide)).trans po0) d_Mo_push_64 ?_
  refine lv_bipush (v := 24) hx hb d_Mo_push_65 (by decide) ?_
  refine lv_icmp_ge (tgt := 81) hx hb d_Mo_push_67 rfl (fun br67 => ?_) (fun br67 => absurd (nI_le (a := 24) pf0 (by omega)) br67)
  refine lv_iconst (v := 3) hx hb d_Mo_push_81 (by decide) ?_
  refine lv_goto (tgt := 86) hx hb d_Mo_push_82 rfl ?_
  refine p_f Z kc_Mo hP hS hm.1 rfl 0 (by decide) wl_Mo_56 rfl rfl ⟨rfl, rfl⟩ (Nat.le_of_ble_eq_true rfl) rfl d_Mo_push_86 (fun H locs hP hS => ?_)
  have hP : la_P D cls5 La (la_up mu m0 0 3) H := cvm hP la_up_up
  refine lv_iinc (k := 1) (v := 2) hx hb d_Mo_push_89 hl rfl (by decide) (by decide) rfl (fun ls hl => ?_)
  have hl : lv_has ls 4 [(2, .int 2), (3, .int 1), (0, .ref m0), (1, .int 2)] := hl
  refine lv_goto (tgt := 35) hx hb d_Mo_push_92 rfl ?_
  refine lv_iload_n hx hb d_Mo_push_35 rfl (lv_at hl 0 rfl) ?_
  refine lv_iconst (v := 3) hx hb d_Mo_push_36 (by decide) ?_
  refine lv_icmp_gt (tgt := 95) hx hb d_Mo_push_37 rfl (fun br37 => absurd br37 (by decide)) (fun br37 => ?_)
  refine lv_aload_n hx hb d_Mo_push_40 rfl (lv_at hl 2 rfl) ?_
  refine g_i (v := 3) Z kc_Mo hP hm.1 rfl 0 (by decide) wl_Mo_56 rfl rfl la_up_s d_Mo_push_41 ?_
  refine lv_if_ne (tgt := 95) hx hb d_Mo_push_44 rfl (fun br44 => ?_) (fun br44 => absurd br44 (by decide))
  refine lv_aload_n hx hb d_Mo_push_95 rfl (lv_at hl 2 rfl) ?_
  refine g_i (v := 3) Z kc_Mo hP hm.1 rfl 0 (by decide) wl_Mo_56 rfl rfl la_up_s d_Mo_push_96 ?_
  refine lv_if_eq (tgt := 104) hx hb d_Mo_push_99 rfl (fun br99 => absurd br99 (by decide)) (fun br99 => ?_)
  refine lv_iconst (v := 0) hx hb d_Mo_push_102 (by decide) ?_
  exact W.iret hx hb hr (fun t ht hW => ⟨rfl, by rw [ht]; exact cvm hP (rfl), hS.F ht⟩) hS.2.2 d_Mo_push_103
set_option maxHeartbeats 4000000 in
set_option maxRecDepth 100000 in
theorem c_Mo_push_3_12 (l : Launch) (D : va_G) (E : Nat → ClassId) (La : la_L) {m0 : Nat} (hm : isMo E La m0) (mu : la_M) {w0 : Nat} (hw : mu (m0 + 5) 2 = nI w0) (hw0 : 0 < w0) (hw4 : w0 < 40) {p0 v0 : Nat} (po0 : mu (m0 + 11) 1 = nI p0) (pw0 : mu (m0 + 5) 1 = nI v0) (pv0 : v0 ≤ p0) (pf0 : p0 < 24) {p2 : Nat} (po2 : mu (m0 + 11) 5 = nI p2) (pf2 : 24 ≤ p2) (pg2 : p2 < 2 ^ 31)  : cw l y_Mo_push b_Mo_push 4 (some .int) 2 53 D E La [.ref m0, .int 2] mu (some (.int 0)) (la_up mu m0 0 3) := by
  refine cw_begin R_Mo (by decide) rfl (Nat.le_of_ble_eq_true rfl) ?_
  intro p e s m below meth c ls Z hr hlocks hP hS hl
  have hx := Z.1
  have hb := Z.2.1
  have hK : va_K D cls5 (tyE E) s := Z.2.2.2.2.2
  have hl : lv_has ls 4 [(0, .ref m0), (1, .int 2)] := hl
  refine lv_aload_n hx hb d_Mo_push_0 rfl (lv_at hl 0 rfl) ?_
  refine lv_iload_n hx hb d_Mo_push_1 rfl (lv_at hl 1 rfl) ?_
  refine cr_S Z ks_Mo_94 (c_Mo_isClient_y l D E La mu (k := 1) (by decide)) hP [.ref m0] rfl rfl hl.1 (Nat.le_of_ble_eq_true rfl) ⟨by decide, by decide⟩ ⟨Nat.le_refl _, Nat.le_refl _⟩ d_Mo_push_2 ?_
  refine lv_if_ne (tgt := 12) hx hb d_Mo_push_5 rfl (fun br5 => ?_) (fun br5 => absurd br5 (by decide))
  refine lv_aload_n hx hb d_Mo_push_12 rfl (lv_at hl 0 rfl) ?_
  refine g_f (v := .ref (m0 + 5)) Z kc_Mo hP hm.1 rfl 5 (by decide) wl_Mo_23 rfl rfl d_Mo_push_13 ?_
  refine lv_iload_n hx hb d_Mo_push_16 rfl (lv_at hl 1 rfl) ?_
  refine lv_iconst (v := 1) hx hb d_Mo_push_17 (by decide) ?_
  refine cr_S Z ks_Mo_87 (c_Mo_line_u l D E La mu (k := 1) (u := 1) (by decide)) hP [.ref (m0 + 5), .ref m0] rfl rfl hl.1 (Nat.le_of_ble_eq_true rfl) ⟨by decide, by decide⟩ ⟨Nat.le_refl _, Nat.le_refl _⟩ d_Mo_push_18 ?_
  refine la_ialdv (v := (nI w0)) hx hb hK hP 0 hm.2.2.2.2.2.1 rfl rfl 2 rfl (by decide) (by decide) hw d_Mo_push_21 ?_
  refine lv_if_ne (tgt := 29) hx hb d_Mo_push_22 rfl (fun br22 => ?_) (fun br22 => absurd br22 (nI_ne0 hw0 (by omega)))
  refine lv_iconst (v := 0) hx hb d_Mo_push_29 (by decide) ?_
  refine p_f Z kc_Mo hP hS hm.1 rfl 0 (by decide) wl_Mo_56 rfl rfl ⟨rfl, rfl⟩ (Nat.le_of_ble_eq_true rfl) rfl d_Mo_push_30 (fun H locs hP hS => ?_)
  refine lv_iconst (v := 1) hx hb d_Mo_push_33 (by decide) ?_
  refine lv_istore_n hx hb d_Mo_push_34 rfl hl (by decide) rfl (fun ls hl => ?_)
  have hl : lv_has ls 4 [(2, .int 1), (0, .ref m0), (1, .int 2)] := hl
  refine lv_iload_n hx hb d_Mo_push_35 rfl (lv_at hl 0 rfl) ?_
  refine lv_iconst (v := 3) hx hb d_Mo_push_36 (by decide) ?_
  refine lv_icmp_gt (tgt := 95) hx hb d_Mo_push_37 rfl (fun br37 => absurd br37 (by decide)) (fun br37 => ?_)
  refine lv_aload_n hx hb d_Mo_push_40 rfl (lv_at hl 1 rfl) ?_
  refine g_i (v := 0) Z kc_Mo hP hm.1 rfl 0 (by decide) wl_Mo_56 rfl rfl la_up_s d_Mo_push_41 ?_
  refine lv_if_ne (tgt := 95) hx hb d_Mo_push_44 rfl (fun br44 => absurd (rfl) br44) (fun br44 => ?_)
  refine lv_iload_n hx hb d_Mo_push_47 rfl (lv_at hl 0 rfl) ?_
  refine lv_iconst (v := 0) hx hb d_Mo_push_48 (by decide) ?_
  refine cr_S Z ks_Mo_87 (c_Mo_line_d l D E La (la_up mu m0 0 0) (k := 0) (u := 0) rfl) hP [] rfl rfl hl.1 (Nat.le_of_ble_eq_true rfl) ⟨by decide, by decide⟩ ⟨Nat.le_refl _, Nat.le_refl _⟩ d_Mo_push_49 ?_
  refine lv_istore_n hx hb d_Mo_push_52 rfl hl (by decide) rfl (fun ls hl => ?_)
  have hl : lv_has ls 4 [(3, .int 1), (2, .int 1), (0, .ref m0), (1, .int 2)] := hl
  refine lv_aload_n hx hb d_Mo_push_53 rfl (lv_at hl 2 rfl) ?_
  refine lv_iload_n hx hb d_Mo_push_54 rfl (lv_at hl 1 rfl) ?_
  refine lv_iload_n hx hb d_Mo_push_55 rfl (lv_at hl 3 rfl) ?_
  refine lv_icmp_eq (tgt := 85) hx hb d_Mo_push_56 rfl (fun br56 => absurd br56 (by decide)) (fun br56 => ?_)
  refine lv_aload_n hx hb d_Mo_push_59 rfl (lv_at hl 2 rfl) ?_
  refine g_f (v := .ref (m0 + 11)) Z kc_Mo hP hm.1 rfl 11 (by decide) wl_Mo_41 rfl rfl d_Mo_push_60 ?_
  refine lv_iload_n hx hb d_Mo_push_63 rfl (lv_at hl 0 rfl) ?_
  refine la_ialdv (v := (nI p0)) hx hb hK hP 0 hm.2.2.2.2.2.2.2.2.2.2.2.1 rfl rfl 1 rfl (by decide) (by decide) ((la_up_k (by decide)).trans po0) d_Mo_push_64 ?_
  refine lv_bipush (v := 24) hx hb d_Mo_push_65 (by decide) ?_
  refine lv_icmp_ge (tgt := 81) hx hb d_Mo_push_67 rfl (fun br67 => absurd br67 (nI_ge (b := 24) pf0 (by decide))) (fun br67 => ?_)
  refine lv_aload_n hx hb d_Mo_push_70 rfl (lv_at hl 2 rfl) ?_
  refine g_f (v := .ref (m0 + 5)) Z kc_Mo hP hm.1 rfl 5 (by decide) wl_Mo_23 rfl rfl d_Mo_push_71 ?_
  refine lv_iload_n hx hb d_Mo_push_74 rfl (lv_at hl 0 rfl) ?_
  refine la_ialdv (v := (nI v0)) hx hb hK hP 0 hm.2.2.2.2.2.1 rfl rfl 1 rfl (by decide) (by decide) ((la_up_k (by decide)).trans pw0) d_Mo_push_75 ?_
  refine lv_bipush (v := 24) hx hb d_Mo_push_76 (by decide) ?_
  refine lv_icmp_lt (tgt := 85) hx hb d_Mo_push_78 rfl (fun br78 => ?_) (fun br78 => absurd (nI_lt (b := 24) (Nat.lt_of_le_of_lt pv0 pf0) (by decide)) br78)
  refine lv_iconst (v := 0) hx hb d_Mo_push_85 (by decide) ?_
  refine p_f Z kc_Mo hP hS hm.1 rfl 0 (by decide) wl_Mo_56 rfl rfl ⟨rfl, rfl⟩ (Nat.le_of_ble_eq_true rfl) rfl d_Mo_push_86 (fun H locs hP hS => ?_)
  have hP : la_P D cls5 La (la_up mu m0 0 0) H := cvm hP la_up_up
  refine lv_iinc (k := 1) (v := 2) hx hb d_Mo_push_89 hl rfl (by decide) (by decide) rfl (fun ls hl => ?_)
  have hl : lv_has ls 4 [(2, .int 2), (3, .int 1), (0, .ref m0), (1, .int 2)] := hl
  refine lv_goto (tgt := 35) hx hb d_Mo_push_92 rfl ?_
  refine lv_iload_n hx hb d_Mo_push_35 rfl (lv_at hl 0 rfl) ?_
  refine lv_iconst (v := 3) hx hb d_Mo_push_36 (by decide) ?_
  refine lv_icmp_gt (tgt := 95) hx hb d_Mo_push_37 rfl (fun br37 => absurd br37 (by decide)) (fun br37 => ?_)
  refine lv_aload_n hx hb d_Mo_push_40 rfl (lv_at hl 2 rfl) ?_
  refine g_i (v := 0) Z kc_Mo hP hm.1 rfl 0 (by decide) wl_Mo_56 rfl rfl la_up_s d_Mo_push_41 ?_
  refine lv_if_ne (tgt := 95) hx hb d_Mo_push_44 rfl (fun br44 => absurd (rfl) br44) (fun br44 => ?_)
  refine lv_iload_n hx hb d_Mo_push_47 rfl (lv_at hl 0 rfl) ?_
  refine lv_iconst (v := 0) hx hb d_Mo_push_48 (by decide) ?_
  refine cr_S Z ks_Mo_87 (c_Mo_line_d l D E La (la_up mu m0 0 0) (k := 1) (u := 0) rfl) hP [] rfl rfl hl.1 (Nat.le_of_ble_eq_true rfl) ⟨by decide, by decide⟩ ⟨Nat.le_refl _, Nat.le_refl _⟩ d_Mo_push_49 ?_
  refine lv_istore_n hx hb d_Mo_push_52 rfl hl (by decide) rfl (fun ls hl => ?_)
  have hl : lv_has ls 4 [(3, .int 3), (2, .int 2), (0, .ref m0), (1, .int 2)] := hl
  refine lv_aload_n hx hb d_Mo_push_53 rfl (lv_at hl 2 rfl) ?_
  refine lv_iload_n hx hb d_Mo_push_54 rfl (lv_at hl 1 rfl) ?_
  refine lv_iload_n hx hb d_Mo_push_55 rfl (lv_at hl 3 rfl) ?_
  refine lv_icmp_eq (tgt := 85) hx hb d_Mo_push_56 rfl (fun br56 => ?_) (fun br56 => absurd (rfl) br56)
  refine lv_iconst (v := 0) hx hb d_Mo_push_85 (by decide) ?_
  refine p_f Z kc_Mo hP hS hm.1 rfl 0 (by decide) wl_Mo_56 rfl rfl ⟨rfl, rfl⟩ (Nat.le_of_ble_eq_true rfl) rfl d_Mo_push_86 (fun H locs hP hS => ?_)
  have hP : la_P D cls5 La (la_up mu m0 0 0) H := cvm hP la_up_up
  refine lv_iinc (k := 1) (v := 3) hx hb d_Mo_push_89 hl rfl (by decide) (by decide) rfl (fun ls hl => ?_)
  have hl : lv_has ls 4 [(2, .int 3), (3, .int 3), (0, .ref m0), (1, .int 2)] := hl
  refine lv_goto (tgt := 35) hx hb d_Mo_push_92 rfl ?_
  refine lv_iload_n hx hb d_Mo_push_35 rfl (lv_at hl 0 rfl) ?_
  refine lv_iconst (v := 3) hx hb d_Mo_push_36 (by decide) ?_
  refine lv_icmp_gt (tgt := 95) hx hb d_Mo_push_37 rfl (fun br37 => absurd br37 (by decide)) (fun br37 => ?_)
  refine lv_aload_n hx hb d_Mo_push_40 rfl (lv_at hl 2 rfl) ?_
  refine g_i (v := 0) Z kc_Mo hP hm.1 rfl 0 (by decide) wl_Mo_56 rfl rfl la_up_s d_Mo_push_41 ?_
  refine lv_if_ne (tgt := 95) hx hb d_Mo_push_44 rfl (fun br44 => absurd (rfl) br44) (fun br44 => ?_)
  refine lv_iload_n hx hb d_Mo_push_47 rfl (lv_at hl 0 rfl) ?_
  refine lv_iconst (v := 0) hx hb d_Mo_push_48 (by decide) ?_
  refine cr_S Z ks_Mo_87 (c_Mo_line_d l D E La (la_up mu m0 0 0) (k := 2) (u := 0) rfl) hP [] rfl rfl hl.1 (Nat.le_of_ble_eq_true rfl) ⟨by decide, by decide⟩ ⟨Nat.le_refl _, Nat.le_refl _⟩ d_Mo_push_49 ?_
  refine lv_istore_n hx hb d_Mo_push_52 rfl hl (by decide) rfl (fun ls hl => ?_)
  have hl : lv_has ls 4 [(3, .int 5), (2, .int 3), (0, .ref m0), (1, .int 2)] := hl
  refine lv_aload_n hx hb d_Mo_push_53 rfl (lv_at hl 2 rfl) ?_
  refine lv_iload_n hx hb d_Mo_push_54 rfl (lv_at hl 1 rfl) ?_
  refine lv_iload_n hx hb d_Mo_push_55 rfl (lv_at hl 3 rfl) ?_
  refine lv_icmp_eq (tgt := 85) hx hb d_Mo_push_56 rfl (fun br56 => absurd br56 (by decide)) (fun br56 => ?_)
  refine lv_aload_n hx hb d_Mo_push_59 rfl (lv_at hl 2 rfl) ?_
  refine g_f (v := .ref (m0 + 11)) Z kc_Mo hP hm.1 rfl 11 (by decide) wl_Mo_41 rfl rfl d_Mo_push_60 ?_
  refine lv_iload_n hx hb d_Mo_push_63 rfl (lv_at hl 0 rfl) ?_
  refine la_ialdv (v := (nI p2)) hx hb hK hP 0 hm.2.2.2.2.2.2.2.2.2.2.2.1 rfl rfl 5 rfl (by decide) (by decide) ((la_up_k (by decide)).trans po2) d_Mo_push_64 ?_
  refine lv_bipush (v := 24) hx hb d_Mo_push_65 (by decide) ?_
  refine lv_icmp_ge (tgt := 81) hx hb d_Mo_push_67 rfl (fun br67 => ?_) (fun br67 => absurd (nI_le (a := 24) pf2 (by omega)) br67)
  refine lv_iconst (v := 3) hx hb d_Mo_push_81 (by decide) ?_
  refine lv_goto (tgt := 86) hx hb d_Mo_push_82 rfl ?_
  refine p_f Z kc_Mo hP hS hm.1 rfl 0 (by decide) wl_Mo_56 rfl rfl ⟨rfl, rfl⟩ (Nat.le_of_ble_eq_true rfl) rfl d_Mo_push_86 (fun H locs hP hS => ?_)
  have hP : la_P D cls5 La (la_up mu m0 0 3) H := cvm hP la_up_up
  refine lv_iinc (k := 1) (v := 4) hx hb d_Mo_push_89 hl rfl (by decide) (by decide) rfl (fun ls hl => ?_)
  have hl : lv_has ls 4 [(2, .int 4), (3, .int 5), (0, .ref m0), (1, .int 2)] := hl
  refine lv_goto (tgt := 35) hx hb d_Mo_push_92 rfl ?_
  refine lv_iload_n hx hb d_Mo_push_35 rfl (lv_at hl 0 rfl) ?_
  refine lv_iconst (v := 3) hx hb d_Mo_push_36 (by decide) ?_
  refine lv_icmp_gt (tgt := 95) hx hb d_Mo_push_37 rfl (fun br37 => ?_) (fun br37 => absurd (by decide) br37)
  refine lv_aload_n hx hb d_Mo_push_95 rfl (lv_at hl 2 rfl) ?_
  refine g_i (v := 3) Z kc_Mo hP hm.1 rfl 0 (by decide) wl_Mo_56 rfl rfl la_up_s d_Mo_push_96 ?_
  refine lv_if_eq (tgt := 104) hx hb d_Mo_push_99 rfl (fun br99 => absurd br99 (by decide)) (fun br99 => ?_)
  refine lv_iconst (v := 0) hx hb d_Mo_push_102 (by decide) ?_
  exact W.iret hx hb hr (fun t ht hW => ⟨rfl, by rw [ht]; exact cvm hP (rfl), hS.F ht⟩) hS.2.2 d_Mo_push_103
set_option maxHeartbeats 4000000 in
set_option maxRecDepth 100000 in
theorem c_Mo_push_0_1 (l : Launch) (D : va_G) (E : Nat → ClassId) (La : la_L) {m0 : Nat} (hm : isMo E La m0) (mu : la_M) {w0 : Nat} (hw : mu (m0 + 5) 2 = nI w0) (hw0 : 0 < w0) (hw4 : w0 < 40) {p0 v0 : Nat} (po0 : mu (m0 + 11) 1 = nI p0) (pw0 : mu (m0 + 5) 1 = nI v0) (pv0 : v0 ≤ p0) (pf0 : p0 < 24) {p2 v2 : Nat} (po2 : mu (m0 + 11) 5 = nI p2) (pw2 : mu (m0 + 5) 5 = nI v2) (pv2 : v2 ≤ p2) (pf2 : p2 < 24) {mu1 : la_M} (hG : cw l y_Mo_get b_Mo_get 9 none 1 25 D E La [.ref m0, .int (nI 2), .int (nI 0)] (la_up mu m0 0 0) none mu1) {t0 : Nat} (qo0 : mu1 (m0 + 11) 1 = nI p0) (qw0 : mu1 (m0 + 5) 1 = nI v0) (qt0 : mu1 (m0 + 3) 1 = nI t0) {t2 : Nat} (qo2 : mu1 (m0 + 11) 5 = nI p2) (qw2 : mu1 (m0 + 5) 5 = nI v2) (qt2 : mu1 (m0 + 3) 5 = nI t2)  : cw l y_Mo_push b_Mo_push 4 (some .int) 2 53 D E La [.ref m0, .int 2] mu (some (.int (mu1 m0 16))) (md_send (md_send mu1 m0 1 v0 p0 t0) m0 5 v2 p2 t2) := by
  refine cw_begin R_Mo (by decide) rfl (Nat.le_of_ble_eq_true rfl) ?_
  intro p e s m below meth c ls Z hr hlocks hP hS hl
  have hx := Z.1
  have hb := Z.2.1
  have hK : va_K D cls5 (tyE E) s := Z.2.2.2.2.2
  have hl : lv_has ls 4 [(0, .ref m0), (1, .int 2)] := hl
  have r11 := (show (md_send mu1 m0 1 v0 p0 t0) (m0 + 11) 5 = nI p2 by simp only [md_send]; rw [la_up_n (by omega), la_up_k (by decide), la_up_n (by omega), la_up_n (by omega), la_up_n (by omega), la_up_n (by omega), la_up_n (by omega), la_up_n (by omega), la_up_n (by omega), la_up_n (by omega), la_up_n (by omega), la_up_n (by omega)]; exact qo2)
  have r5 := (show (md_send mu1 m0 1 v0 p0 t0) (m0 + 5) 5 = nI v2 by simp only [md_send]; rw [la_up_n (by omega), la_up_n (by omega), la_up_n (by omega), la_up_n (by omega), la_up_n (by omega), la_up_n (by omega), la_up_k (by decide), la_up_n (by omega), la_up_n (by omega), la_up_n (by omega), la_up_n (by omega), la_up_n (by omega)]; exact qw2)
  have r3 := (show (md_send mu1 m0 1 v0 p0 t0) (m0 + 3) 5 = nI t2 by simp only [md_send]; rw [la_up_k (by decide), la_up_n (by omega), la_up_n (by omega), la_up_n (by omega), la_up_n (by omega), la_up_n (by omega), la_up_n (by omega), la_up_n (by omega), la_up_n (by omega), la_up_n (by omega), la_up_n (by omega), la_up_n (by omega)]; exact qt2)
  refine lv_aload_n hx hb d_Mo_push_0 rfl (lv_at hl 0 rfl) ?_
  refine lv_iload_n hx hb d_Mo_push_1 rfl (lv_at hl 1 rfl) ?_
  refine cr_S Z ks_Mo_94 (c_Mo_isClient_y l D E La mu (k := 1) (by decide)) hP [.ref m0] rfl rfl hl.1 (Nat.le_of_ble_eq_true rfl) ⟨by decide, by decide⟩ ⟨Nat.le_refl _, Nat.le_refl _⟩ d_Mo_push_2 ?_
  refine lv_if_ne (tgt := 12) hx hb d_Mo_push_5 rfl (fun br5 => ?_) (fun br5 => absurd br5 (by decide))
  refine lv_aload_n hx hb d_Mo_push_12 rfl (lv_at hl 0 rfl) ?_
  refine g_f (v := .ref (m0 + 5)) Z kc_Mo hP hm.1 rfl 5 (by decide) wl_Mo_23 rfl rfl d_Mo_push_13 ?_
  refine lv_iload_n hx hb d_Mo_push_16 rfl (lv_at hl 1 rfl) ?_
  refine lv_iconst (v := 1) hx hb d_Mo_push_17 (by decide) ?_
  refine cr_S Z ks_Mo_87 (c_Mo_line_u l D E La mu (k := 1) (u := 1) (by decide)) hP [.ref (m0 + 5), .ref m0] rfl rfl hl.1 (Nat.le_of_ble_eq_true rfl) ⟨by decide, by decide⟩ ⟨Nat.le_refl _, Nat.le_refl _⟩ d_Mo_push_18 ?_
  refine la_ialdv (v := (nI w0)) hx hb hK hP 0 hm.2.2.2.2.2.1 rfl rfl 2 rfl (by decide) (by decide) hw d_Mo_push_21 ?_
  refine lv_if_ne (tgt := 29) hx hb d_Mo_push_22 rfl (fun br22 => ?_) (fun br22 => absurd br22 (nI_ne0 hw0 (by omega)))
  refine lv_iconst (v := 0) hx hb d_Mo_push_29 (by decide) ?_
  refine p_f Z kc_Mo hP hS hm.1 rfl 0 (by decide) wl_Mo_56 rfl rfl ⟨rfl, rfl⟩ (Nat.le_of_ble_eq_true rfl) rfl d_Mo_push_30 (fun H locs hP hS => ?_)
  refine lv_iconst (v := 1) hx hb d_Mo_push_33 (by decide) ?_
  refine lv_istore_n hx hb d_Mo_push_34 rfl hl (by decide) rfl (fun ls hl => ?_)
  have hl : lv_has ls 4 [(2, .int 1), (0, .ref m0), (1, .int 2)] := hl
  refine lv_iload_n hx hb d_Mo_push_35 rfl (lv_at hl 0 rfl) ?_
  refine lv_iconst (v := 3) hx hb d_Mo_push_36 (by decide) ?_
  refine lv_icmp_gt (tgt := 95) hx hb d_Mo_push_37 rfl (fun br37 => absurd br37 (by decide)) (fun br37 => ?_)
  refine lv_aload_n hx hb d_Mo_push_40 rfl (lv_at hl 1 rfl) ?_
  refine g_i (v := 0) Z kc_Mo hP hm.1 rfl 0 (by decide) wl_Mo_56 rfl rfl la_up_s d_Mo_push_41 ?_
  refine lv_if_ne (tgt := 95) hx hb d_Mo_push_44 rfl (fun br44 => absurd (rfl) br44) (fun br44 => ?_)
  refine lv_iload_n hx hb d_Mo_push_47 rfl (lv_at hl 0 rfl) ?_
  refine lv_iconst (v := 0) hx hb d_Mo_push_48 (by decide) ?_
  refine cr_S Z ks_Mo_87 (c_Mo_line_d l D E La (la_up mu m0 0 0) (k := 0) (u := 0) rfl) hP [] rfl rfl hl.1 (Nat.le_of_ble_eq_true rfl) ⟨by decide, by decide⟩ ⟨Nat.le_refl _, Nat.le_refl _⟩ d_Mo_push_49 ?_
  refine lv_istore_n hx hb d_Mo_push_52 rfl hl (by decide) rfl (fun ls hl => ?_)
  have hl : lv_has ls 4 [(3, .int 1), (2, .int 1), (0, .ref m0), (1, .int 2)] := hl
  refine lv_aload_n hx hb d_Mo_push_53 rfl (lv_at hl 2 rfl) ?_
  refine lv_iload_n hx hb d_Mo_push_54 rfl (lv_at hl 1 rfl) ?_
  refine lv_iload_n hx hb d_Mo_push_55 rfl (lv_at hl 3 rfl) ?_
  refine lv_icmp_eq (tgt := 85) hx hb d_Mo_push_56 rfl (fun br56 => absurd br56 (by decide)) (fun br56 => ?_)
  refine lv_aload_n hx hb d_Mo_push_59 rfl (lv_at hl 2 rfl) ?_
  refine g_f (v := .ref (m0 + 11)) Z kc_Mo hP hm.1 rfl 11 (by decide) wl_Mo_41 rfl rfl d_Mo_push_60 ?_
  refine lv_iload_n hx hb d_Mo_push_63 rfl (lv_at hl 0 rfl) ?_
  refine la_ialdv (v := (nI p0)) hx hb hK hP 0 hm.2.2.2.2.2.2.2.2.2.2.2.1 rfl rfl 1 rfl (by decide) (by decide) ((la_up_k (by decide)).trans po0) d_Mo_push_64 ?_
  refine lv_bipush (v := 24) hx hb d_Mo_push_65 (by decide) ?_
  refine lv_icmp_ge (tgt := 81) hx hb d_Mo_push_67 rfl (fun br67 => absurd br67 (nI_ge (b := 24) pf0 (by decide))) (fun br67 => ?_)
  refine lv_aload_n hx hb d_Mo_push_70 rfl (lv_at hl 2 rfl) ?_
  refine g_f (v := .ref (m0 + 5)) Z kc_Mo hP hm.1 rfl 5 (by decide) wl_Mo_23 rfl rfl d_Mo_push_71 ?_
  refine lv_iload_n hx hb d_Mo_push_74 rfl (lv_at hl 0 rfl) ?_
  refine la_ialdv (v := (nI v0)) hx hb hK hP 0 hm.2.2.2.2.2.1 rfl rfl 1 rfl (by decide) (by decide) ((la_up_k (by decide)).trans pw0) d_Mo_push_75 ?_
  refine lv_bipush (v := 24) hx hb d_Mo_push_76 (by decide) ?_
  refine lv_icmp_lt (tgt := 85) hx hb d_Mo_push_78 rfl (fun br78 => ?_) (fun br78 => absurd (nI_lt (b := 24) (Nat.lt_of_le_of_lt pv0 pf0) (by decide)) br78)
  refine lv_iconst (v := 0) hx hb d_Mo_push_85 (by decide) ?_
  refine p_f Z kc_Mo hP hS hm.1 rfl 0 (by decide) wl_Mo_56 rfl rfl ⟨rfl, rfl⟩ (Nat.le_of_ble_eq_true rfl) rfl d_Mo_push_86 (fun H locs hP hS => ?_)
  have hP : la_P D cls5 La (la_up mu m0 0 0) H := cvm hP la_up_up
  refine lv_iinc (k := 1) (v := 2) hx hb d_Mo_push_89 hl rfl (by decide) (by decide) rfl (fun ls hl => ?_)
  have hl : lv_has ls 4 [(2, .int 2), (3, .int 1), (0, .ref m0), (1, .int 2)] := hl
  refine lv_goto (tgt := 35) hx hb d_Mo_push_92 rfl ?_
  refine lv_iload_n hx hb d_Mo_push_35 rfl (lv_at hl 0 rfl) ?_
  refine lv_iconst (v := 3) hx hb d_Mo_push_36 (by decide) ?_
  refine lv_icmp_gt (tgt := 95) hx hb d_Mo_push_37 rfl (fun br37 => absurd br37 (by decide)) (fun br37 => ?_)
  refine lv_aload_n hx hb d_Mo_push_40 rfl (lv_at hl 2 rfl) ?_
  refine g_i (v := 0) Z kc_Mo hP hm.1 rfl 0 (by decide) wl_Mo_56 rfl rfl la_up_s d_Mo_push_41 ?_
  refine lv_if_ne (tgt := 95) hx hb d_Mo_push_44 rfl (fun br44 => absurd (rfl) br44) (fun br44 => ?_)
  refine lv_iload_n hx hb d_Mo_push_47 rfl (lv_at hl 0 rfl) ?_
  refine lv_iconst (v := 0) hx hb d_Mo_push_48 (by decide) ?_
  refine cr_S Z ks_Mo_87 (c_Mo_line_d l D E La (la_up mu m0 0 0) (k := 1) (u := 0) rfl) hP [] rfl rfl hl.1 (Nat.le_of_ble_eq_true rfl) ⟨by decide, by decide⟩ ⟨Nat.le_refl _, Nat.le_refl _⟩ d_Mo_push_49 ?_
  refine lv_istore_n hx hb d_Mo_push_52 rfl hl (by decide) rfl (fun ls hl => ?_)
  have hl : lv_has ls 4 [(3, .int 3), (2, .int 2), (0, .ref m0), (1, .int 2)] := hl
  refine lv_aload_n hx hb d_Mo_push_53 rfl (lv_at hl 2 rfl) ?_
  refine lv_iload_n hx hb d_Mo_push_54 rfl (lv_at hl 1 rfl) ?_
  refine lv_iload_n hx hb d_Mo_push_55 rfl (lv_at hl 3 rfl) ?_
  refine lv_icmp_eq (tgt := 85) hx hb d_Mo_push_56 rfl (fun br56 => ?_) (fun br56 => absurd (rfl) br56)
  refine lv_iconst (v := 0) hx hb d_Mo_push_85 (by decide) ?_
  refine p_f Z kc_Mo hP hS hm.1 rfl 0 (by decide) wl_Mo_56 rfl rfl ⟨rfl, rfl⟩ (Nat.le_of_ble_eq_true rfl) rfl d_Mo_push_86 (fun H locs hP hS => ?_)
  have hP : la_P D cls5 La (la_up mu m0 0 0) H := cvm hP la_up_up
  refine lv_iinc (k := 1) (v := 3) hx hb d_Mo_push_89 hl rfl (by decide) (by decide) rfl (fun ls hl => ?_)
  have hl : lv_has ls 4 [(2, .int 3), (3, .int 3), (0, .ref m0), (1, .int 2)] := hl
  refine lv_goto (tgt := 35) hx hb d_Mo_push_92 rfl ?_
  refine lv_iload_n hx hb d_Mo_push_35 rfl (lv_at hl 0 rfl) ?_
  refine lv_iconst (v := 3) hx hb d_Mo_push_36 (by decide) ?_
  refine lv_icmp_gt (tgt := 95) hx hb d_Mo_push_37 rfl (fun br37 => absurd br37 (by decide)) (fun br37 => ?_)
  refine lv_aload_n hx hb d_Mo_push_40 rfl (lv_at hl 2 rfl) ?_
  refine g_i (v := 0) Z kc_Mo hP hm.1 rfl 0 (by decide) wl_Mo_56 rfl rfl la_up_s d_Mo_push_41 ?_
  refine lv_if_ne (tgt := 95) hx hb d_Mo_push_44 rfl (fun br44 => absurd (rfl) br44) (fun br44 => ?_)
  refine lv_iload_n hx hb d_Mo_push_47 rfl (lv_at hl 0 rfl) ?_
  refine lv_iconst (v := 0) hx hb d_Mo_push_48 (by decide) ?_
  refine cr_S Z ks_Mo_87 (c_Mo_line_d l D E La (la_up mu m0 0 0) (k := 2) (u := 0) rfl) hP [] rfl rfl hl.1 (Nat.le_of_ble_eq_true rfl) ⟨by decide, by decide⟩ ⟨Nat.le_refl _, Nat.le_refl _⟩ d_Mo_push_49 ?_
  refine lv_istore_n hx hb d_Mo_push_52 rfl hl (by decide) rfl (fun ls hl => ?_)
  have hl : lv_has ls 4 [(3, .int 5), (2, .int 3), (0, .ref m0), (1, .int 2)] := hl
  refine lv_aload_n hx hb d_Mo_push_53 rfl (lv_at hl 2 rfl) ?_
  refine lv_iload_n hx hb d_Mo_push_54 rfl (lv_at hl 1 rfl) ?_
  refine lv_iload_n hx hb d_Mo_push_55 rfl (lv_at hl 3 rfl) ?_
  refine lv_icmp_eq (tgt := 85) hx hb d_Mo_push_56 rfl (fun br56 => absurd br56 (by decide)) (fun br56 => ?_)
  refine lv_aload_n hx hb d_Mo_push_59 rfl (lv_at hl 2 rfl) ?_
  refine g_f (v := .ref (m0 + 11)) Z kc_Mo hP hm.1 rfl 11 (by decide) wl_Mo_41 rfl rfl d_Mo_push_60 ?_
  refine lv_iload_n hx hb d_Mo_push_63 rfl (lv_at hl 0 rfl) ?_
  refine la_ialdv (v := (nI p2)) hx hb hK hP 0 hm.2.2.2.2.2.2.2.2.2.2.2.1 rfl rfl 5 rfl (by decide) (by decide) ((la_up_k (by decide)).trans po2) d_Mo_push_64 ?_
  refine lv_bipush (v := 24) hx hb d_Mo_push_65 (by decide) ?_
  refine lv_icmp_ge (tgt := 81) hx hb d_Mo_push_67 rfl (fun br67 => absurd br67 (nI_ge (b := 24) pf2 (by decide))) (fun br67 => ?_)
  refine lv_aload_n hx hb d_Mo_push_70 rfl (lv_at hl 2 rfl) ?_
  refine g_f (v := .ref (m0 + 5)) Z kc_Mo hP hm.1 rfl 5 (by decide) wl_Mo_23 rfl rfl d_Mo_push_71 ?_
  refine lv_iload_n hx hb d_Mo_push_74 rfl (lv_at hl 0 rfl) ?_
  refine la_ialdv (v := (nI v2)) hx hb hK hP 0 hm.2.2.2.2.2.1 rfl rfl 5 rfl (by decide) (by decide) ((la_up_k (by decide)).trans pw2) d_Mo_push_75 ?_
  refine lv_bipush (v := 24) hx hb d_Mo_push_76 (by decide) ?_
  refine lv_icmp_lt (tgt := 85) hx hb d_Mo_push_78 rfl (fun br78 => ?_) (fun br78 => absurd (nI_lt (b := 24) (Nat.lt_of_le_of_lt pv2 pf2) (by decide)) br78)
  refine lv_iconst (v := 0) hx hb d_Mo_push_85 (by decide) ?_
  refine p_f Z kc_Mo hP hS hm.1 rfl 0 (by decide) wl_Mo_56 rfl rfl ⟨rfl, rfl⟩ (Nat.le_of_ble_eq_true rfl) rfl d_Mo_push_86 (fun H locs hP hS => ?_)
  have hP : la_P D cls5 La (la_up mu m0 0 0) H := cvm hP la_up_up
  refine lv_iinc (k := 1) (v := 4) hx hb d_Mo_push_89 hl rfl (by decide) (by decide) rfl (fun ls hl => ?_)
  have hl : lv_has ls 4 [(2, .int 4), (3, .int 5), (0, .ref m0), (1, .int 2)] := hl
  refine lv_goto (tgt := 35) hx hb d_Mo_push_92 rfl ?_
  refine lv_iload_n hx hb d_Mo_push_35 rfl (lv_at hl 0 rfl) ?_
  refine lv_iconst (v := 3) hx hb d_Mo_push_36 (by decide) ?_
  refine lv_icmp_gt (tgt := 95) hx hb d_Mo_push_37 rfl (fun br37 => ?_) (fun br37 => absurd (by decide) br37)
  refine lv_aload_n hx hb d_Mo_push_95 rfl (lv_at hl 2 rfl) ?_
  refine g_i (v := 0) Z kc_Mo hP hm.1 rfl 0 (by decide) wl_Mo_56 rfl rfl la_up_s d_Mo_push_96 ?_
  refine lv_if_eq (tgt := 104) hx hb d_Mo_push_99 rfl (fun br99 => ?_) (fun br99 => absurd (by decide) br99)
  refine lv_aload_n hx hb d_Mo_push_104 rfl (lv_at hl 2 rfl) ?_
  refine lv_iload_n hx hb d_Mo_push_105 rfl (lv_at hl 3 rfl) ?_
  refine lv_iconst (v := 1) hx hb d_Mo_push_106 (by decide) ?_
  refine cr_S Z ks_Mo_87 (c_Mo_line_u l D E La (la_up mu m0 0 0) (k := 1) (u := 1) (by decide)) hP [.ref m0] rfl rfl hl.1 (Nat.le_of_ble_eq_true rfl) ⟨by decide, by decide⟩ ⟨Nat.le_refl _, Nat.le_refl _⟩ d_Mo_push_107 ?_
  refine lv_iconst (v := 0) hx hb d_Mo_push_110 (by decide) ?_
  refine cw_V Z kv_Mo_105 (hG) hP hS (fun _ h => h) (la_recv hK hP kc_Mo hm.1 rfl) [] rfl rfl hl.1 (Nat.le_of_ble_eq_true rfl) ⟨by decide, by decide⟩ ⟨Nat.le_refl _, Nat.le_refl _⟩ d_Mo_push_111 (fun H locs hP hkp hS => ?_)
  refine lv_aload_n hx hb d_Mo_push_114 rfl (lv_at hl 2 rfl) ?_
  refine g_f Z kc_Mo hP hm.1 rfl 16 (by decide) wl_Mo_60 rfl rfl d_Mo_push_115 ?_
  refine lv_istore_n hx hb d_Mo_push_118 rfl hl (by decide) rfl (fun ls hl => ?_)
  have hl : lv_has ls 4 [(2, .int (mu1 m0 16)), (3, .int 5), (0, .ref m0), (1, .int 2)] := hl
  refine lv_iconst (v := 1) hx hb d_Mo_push_119 (by decide) ?_
  refine lv_istore_n hx hb d_Mo_push_120 rfl hl (by decide) rfl (fun ls hl => ?_)
  have hl : lv_has ls 4 [(3, .int 1), (2, .int (mu1 m0 16)), (0, .ref m0), (1, .int 2)] := hl
  refine lv_iload_n hx hb d_Mo_push_121 rfl (lv_at hl 0 rfl) ?_
  refine lv_iconst (v := 3) hx hb d_Mo_push_122 (by decide) ?_
  refine lv_icmp_gt (tgt := 146) hx hb d_Mo_push_123 rfl (fun br123 => absurd br123 (by decide)) (fun br123 => ?_)
  refine lv_iload_n hx hb d_Mo_push_126 rfl (lv_at hl 0 rfl) ?_
  refine lv_iload_n hx hb d_Mo_push_127 rfl (lv_at hl 3 rfl) ?_
  refine lv_icmp_eq (tgt := 140) hx hb d_Mo_push_128 rfl (fun br128 => absurd br128 (by decide)) (fun br128 => ?_)
  refine lv_aload_n hx hb d_Mo_push_131 rfl (lv_at hl 2 rfl) ?_
  refine lv_iload_n hx hb d_Mo_push_132 rfl (lv_at hl 0 rfl) ?_
  refine lv_iconst (v := 0) hx hb d_Mo_push_133 (by decide) ?_
  refine cr_S Z ks_Mo_87 (c_Mo_line_d l D E La mu1 (k := 0) (u := 0) rfl) hP [.ref m0] rfl rfl hl.1 (Nat.le_of_ble_eq_true rfl) ⟨by decide, by decide⟩ ⟨Nat.le_refl _, Nat.le_refl _⟩ d_Mo_push_134 ?_
  refine cw_V Z kv_Mo_91 (c_Mo_send l D E La hm mu1 (by decide) qw0 (by omega) qo0 (by omega) qt0) hP hS (fun _ h => h) (la_recv hK hP kc_Mo hm.1 rfl) [] rfl rfl hl.1 (Nat.le_of_ble_eq_true rfl) ⟨by decide, by decide⟩ ⟨Nat.le_refl _, Nat.le_refl _⟩ d_Mo_push_137 (fun H locs hP hkp hS => ?_)
  refine lv_iinc (k := 0) (v := 2) hx hb d_Mo_push_140 hl rfl (by decide) (by decide) rfl (fun ls hl => ?_)
  have hl : lv_has ls 4 [(3, .int 2), (2, .int (mu1 m0 16)), (0, .ref m0), (1, .int 2)] := hl
  refine lv_goto (tgt := 121) hx hb d_Mo_push_143 rfl ?_
  refine lv_iload_n hx hb d_Mo_push_121 rfl (lv_at hl 0 rfl) ?_
  refine lv_iconst (v := 3) hx hb d_Mo_push_122 (by decide) ?_
  refine lv_icmp_gt (tgt := 146) hx hb d_Mo_push_123 rfl (fun br123 => absurd br123 (by decide)) (fun br123 => ?_)
  refine lv_iload_n hx hb d_Mo_push_126 rfl (lv_at hl 0 rfl) ?_
  refine lv_iload_n hx hb d_Mo_push_127 rfl (lv_at hl 3 rfl) ?_
  refine lv_icmp_eq (tgt := 140) hx hb d_Mo_push_128 rfl (fun br128 => ?_) (fun br128 => absurd (rfl) br128)
  refine lv_iinc (k := 0) (v := 3) hx hb d_Mo_push_140 hl rfl (by decide) (by decide) rfl (fun ls hl => ?_)
  have hl : lv_has ls 4 [(3, .int 3), (2, .int (mu1 m0 16)), (0, .ref m0), (1, .int 2)] := hl
  refine lv_goto (tgt := 121) hx hb d_Mo_push_143 rfl ?_
  refine lv_iload_n hx hb d_Mo_push_121 rfl (lv_at hl 0 rfl) ?_
  refine lv_iconst (v := 3) hx hb d_Mo_push_122 (by decide) ?_
  refine lv_icmp_gt (tgt := 146) hx hb d_Mo_push_123 rfl (fun br123 => absurd br123 (by decide)) (fun br123 => ?_)
  refine lv_iload_n hx hb d_Mo_push_126 rfl (lv_at hl 0 rfl) ?_
  refine lv_iload_n hx hb d_Mo_push_127 rfl (lv_at hl 3 rfl) ?_
  refine lv_icmp_eq (tgt := 140) hx hb d_Mo_push_128 rfl (fun br128 => absurd br128 (by decide)) (fun br128 => ?_)
  refine lv_aload_n hx hb d_Mo_push_131 rfl (lv_at hl 2 rfl) ?_
  refine lv_iload_n hx hb d_Mo_push_132 rfl (lv_at hl 0 rfl) ?_
  refine lv_iconst (v := 0) hx hb d_Mo_push_133 (by decide) ?_
  refine cr_S Z ks_Mo_87 (c_Mo_line_d l D E La (md_send mu1 m0 1 v0 p0 t0) (k := 2) (u := 0) rfl) hP [.ref m0] rfl rfl hl.1 (Nat.le_of_ble_eq_true rfl) ⟨by decide, by decide⟩ ⟨Nat.le_refl _, Nat.le_refl _⟩ d_Mo_push_134 ?_
  refine cw_V Z kv_Mo_91 (c_Mo_send l D E La hm (md_send mu1 m0 1 v0 p0 t0) (by decide) r5 (by omega) r11 (by omega) r3) hP hS (fun _ h => h) (la_recv hK hP kc_Mo hm.1 rfl) [] rfl rfl hl.1 (Nat.le_of_ble_eq_true rfl) ⟨by decide, by decide⟩ ⟨Nat.le_refl _, Nat.le_refl _⟩ d_Mo_push_137 (fun H locs hP hkp hS => ?_)
  refine lv_iinc (k := 0) (v := 4) hx hb d_Mo_push_140 hl rfl (by decide) (by decide) rfl (fun ls hl => ?_)
  have hl : lv_has ls 4 [(3, .int 4), (2, .int (mu1 m0 16)), (0, .ref m0), (1, .int 2)] := hl
  refine lv_goto (tgt := 121) hx hb d_Mo_push_143 rfl ?_
  refine lv_iload_n hx hb d_Mo_push_121 rfl (lv_at hl 0 rfl) ?_
  refine lv_iconst (v := 3) hx hb d_Mo_push_122 (by decide) ?_
  refine lv_icmp_gt (tgt := 146) hx hb d_Mo_push_123 rfl (fun br123 => ?_) (fun br123 => absurd (by decide) br123)
  refine lv_iload_n hx hb d_Mo_push_146 rfl (lv_at hl 1 rfl) ?_
  exact W.iret hx hb hr (fun t ht hW => ⟨rfl, by rw [ht]; exact cvm hP (rfl), hS.F ht⟩) hS.2.2 d_Mo_push_147
set_option maxHeartbeats 4000000 in
set_option maxRecDepth 100000 in
theorem c_Mo_push_3_20 (l : Launch) (D : va_G) (E : Nat → ClassId) (La : la_L) {m0 : Nat} (hm : isMo E La m0) (mu : la_M) {w0 : Nat} (hw : mu (m0 + 5) 4 = nI w0) (hw0 : 0 < w0) (hw4 : w0 < 40) {p0 : Nat} (po0 : mu (m0 + 11) 1 = nI p0) (pf0 : 24 ≤ p0) (pg0 : p0 < 2 ^ 31)  : cw l y_Mo_push b_Mo_push 4 (some .int) 2 53 D E La [.ref m0, .int 3] mu (some (.int 0)) (la_up mu m0 0 3) := by
  refine cw_begin R_Mo (by decide) rfl (Nat.le_of_ble_eq_true rfl) ?_
  intro p e s m below meth c ls Z hr hlocks hP hS hl
  have hx := Z.1
  have hb := Z.2.1
  have hK : va_K D cls5 (tyE E) s := Z.2.2.2.2.2
  have hl : lv_has ls 4 [(0, .ref m0), (1, .int 3)] := hl
  refine lv_aload_n hx hb d_Mo_push_0 rfl (lv_at hl 0 rfl) ?_
  refine lv_iload_n hx hb d_Mo_push_1 rfl (lv_at hl 1 rfl) ?_
  refine cr_S Z ks_Mo_94 (c_Mo_isClient_y l D E La mu (k := 2) (by decide)) hP [.ref m0] rfl rfl hl.1 (Nat.le_of_ble_eq_true rfl) ⟨by decide, by decide⟩ ⟨Nat.le_refl _, Nat.le_refl _⟩ d_Mo_push_2 ?_
  refine lv_if_ne (tgt := 12) hx hb d_Mo_push_5 rfl (fun br5 => ?_) (fun br5 => absurd br5 (by decide))
  refine lv_aload_n hx hb d_Mo_push_12 rfl (lv_at hl 0 rfl) ?_
  refine g_f (v := .ref (m0 + 5)) Z kc_Mo hP hm.1 rfl 5 (by decide) wl_Mo_23 rfl rfl d_Mo_push_13 ?_
  refine lv_iload_n hx hb d_Mo_push_16 rfl (lv_at hl 1 rfl) ?_
  refine lv_iconst (v := 1) hx hb d_Mo_push_17 (by decide) ?_
  refine cr_S Z ks_Mo_87 (c_Mo_line_u l D E La mu (k := 2) (u := 1) (by decide)) hP [.ref (m0 + 5), .ref m0] rfl rfl hl.1 (Nat.le_of_ble_eq_true rfl) ⟨by decide, by decide⟩ ⟨Nat.le_refl _, Nat.le_refl _⟩ d_Mo_push_18 ?_
  refine la_ialdv (v := (nI w0)) hx hb hK hP 0 hm.2.2.2.2.2.1 rfl rfl 4 rfl (by decide) (by decide) hw d_Mo_push_21 ?_
  refine lv_if_ne (tgt := 29) hx hb d_Mo_push_22 rfl (fun br22 => ?_) (fun br22 => absurd br22 (nI_ne0 hw0 (by omega)))
  refine lv_iconst (v := 0) hx hb d_Mo_push_29 (by decide) ?_
  refine p_f Z kc_Mo hP hS hm.1 rfl 0 (by decide) wl_Mo_56 rfl rfl ⟨rfl, rfl⟩ (Nat.le_of_ble_eq_true rfl) rfl d_Mo_push_30 (fun H locs hP hS => ?_)
  refine lv_iconst (v := 1) hx hb d_Mo_push_33 (by decide) ?_
  refine lv_istore_n hx hb d_Mo_push_34 rfl hl (by decide) rfl (fun ls hl => ?_)
  have hl : lv_has ls 4 [(2, .int 1), (0, .ref m0), (1, .int 3)] := hl
  refine lv_iload_n hx hb d_Mo_push_35 rfl (lv_at hl 0 rfl) ?_
  refine lv_iconst (v := 3) hx hb d_Mo_push_36 (by decide) ?_
  refine lv_icmp_gt (tgt := 95) hx hb d_Mo_push_37 rfl (fun br37 => absurd br37 (by decide)) (fun br37 => ?_)
  refine lv_aload_n hx hb d_Mo_push_40 rfl (lv_at hl 1 rfl) ?_
  refine g_i (v := 0) Z kc_Mo hP hm.1 rfl 0 (by decide) wl_Mo_56 rfl rfl la_up_s d_Mo_push_41 ?_
  refine lv_if_ne (tgt := 95) hx hb d_Mo_push_44 rfl (fun br44 => absurd (rfl) br44) (fun br44 => ?_)
  refine lv_iload_n hx hb d_Mo_push_47 rfl (lv_at hl 0 rfl) ?_
  refine lv_iconst (v := 0) hx hb d_Mo_push_48 (by decide) ?_
  refine cr_S Z ks_Mo_87 (c_Mo_line_d l D E La (la_up mu m0 0 0) (k := 0) (u := 0) rfl) hP [] rfl rfl hl.1 (Nat.le_of_ble_eq_true rfl) ⟨by decide, by decide⟩ ⟨Nat.le_refl _, Nat.le_refl _⟩ d_Mo_push_49 ?_
  refine lv_istore_n hx hb d_Mo_push_52 rfl hl (by decide) rfl (fun ls hl => ?_)
  have hl : lv_has ls 4 [(3, .int 1), (2, .int 1), (0, .ref m0), (1, .int 3)] := hl
  refine lv_aload_n hx hb d_Mo_push_53 rfl (lv_at hl 2 rfl) ?_
  refine lv_iload_n hx hb d_Mo_push_54 rfl (lv_at hl 1 rfl) ?_
  refine lv_iload_n hx hb d_Mo_push_55 rfl (lv_at hl 3 rfl) ?_
  refine lv_icmp_eq (tgt := 85) hx hb d_Mo_push_56 rfl (fun br56 => absurd br56 (by decide)) (fun br56 => ?_)
  refine lv_aload_n hx hb d_Mo_push_59 rfl (lv_at hl 2 rfl) ?_
  refine g_f (v := .ref (m0 + 11)) Z kc_Mo hP hm.1 rfl 11 (by decide) wl_Mo_41 rfl rfl d_Mo_push_60 ?_
  refine lv_iload_n hx hb d_Mo_push_63 rfl (lv_at hl 0 rfl) ?_
  refine la_ialdv (v := (nI p0)) hx hb hK hP 0 hm.2.2.2.2.2.2.2.2.2.2.2.1 rfl rfl 1 rfl (by decide) (by decide) ((la_up_k (by decide)).trans po0) d_Mo_push_64 ?_
  refine lv_bipush (v := 24) hx hb d_Mo_push_65 (by decide) ?_
  refine lv_icmp_ge (tgt := 81) hx hb d_Mo_push_67 rfl (fun br67 => ?_) (fun br67 => absurd (nI_le (a := 24) pf0 (by omega)) br67)
  refine lv_iconst (v := 3) hx hb d_Mo_push_81 (by decide) ?_
  refine lv_goto (tgt := 86) hx hb d_Mo_push_82 rfl ?_
  refine p_f Z kc_Mo hP hS hm.1 rfl 0 (by decide) wl_Mo_56 rfl rfl ⟨rfl, rfl⟩ (Nat.le_of_ble_eq_true rfl) rfl d_Mo_push_86 (fun H locs hP hS => ?_)
  have hP : la_P D cls5 La (la_up mu m0 0 3) H := cvm hP la_up_up
  refine lv_iinc (k := 1) (v := 2) hx hb d_Mo_push_89 hl rfl (by decide) (by decide) rfl (fun ls hl => ?_)
  have hl : lv_has ls 4 [(2, .int 2), (3, .int 1), (0, .ref m0), (1, .int 3)] := hl
  refine lv_goto (tgt := 35) hx hb d_Mo_push_92 rfl ?_
  refine lv_iload_n hx hb d_Mo_push_35 rfl (lv_at hl 0 rfl) ?_
  refine lv_iconst (v := 3) hx hb d_Mo_push_36 (by decide) ?_
  refine lv_icmp_gt (tgt := 95) hx hb d_Mo_push_37 rfl (fun br37 => absurd br37 (by decide)) (fun br37 => ?_)
  refine lv_aload_n hx hb d_Mo_push_40 rfl (lv_at hl 2 rfl) ?_
  refine g_i (v := 3) Z kc_Mo hP hm.1 rfl 0 (by decide) wl_Mo_56 rfl rfl la_up_s d_Mo_push_41 ?_
  refine lv_if_ne (tgt := 95) hx hb d_Mo_push_44 rfl (fun br44 => ?_) (fun br44 => absurd br44 (by decide))
  refine lv_aload_n hx hb d_Mo_push_95 rfl (lv_at hl 2 rfl) ?_
  refine g_i (v := 3) Z kc_Mo hP hm.1 rfl 0 (by decide) wl_Mo_56 rfl rfl la_up_s d_Mo_push_96 ?_
  refine lv_if_eq (tgt := 104) hx hb d_Mo_push_99 rfl (fun br99 => absurd br99 (by decide)) (fun br99 => ?_)
  refine lv_iconst (v := 0) hx hb d_Mo_push_102 (by decide) ?_
  exact W.iret hx hb hr (fun t ht hW => ⟨rfl, by rw [ht]; exact cvm hP (rfl), hS.F ht⟩) hS.2.2 d_Mo_push_103
set_option maxHeartbeats 4000000 in
set_option maxRecDepth 100000 in
theorem c_Mo_push_3_21 (l : Launch) (D : va_G) (E : Nat → ClassId) (La : la_L) {m0 : Nat} (hm : isMo E La m0) (mu : la_M) {w0 : Nat} (hw : mu (m0 + 5) 4 = nI w0) (hw0 : 0 < w0) (hw4 : w0 < 40) {p0 v0 : Nat} (po0 : mu (m0 + 11) 1 = nI p0) (pw0 : mu (m0 + 5) 1 = nI v0) (pv0 : v0 ≤ p0) (pf0 : p0 < 24) {p1 : Nat} (po1 : mu (m0 + 11) 3 = nI p1) (pf1 : 24 ≤ p1) (pg1 : p1 < 2 ^ 31)  : cw l y_Mo_push b_Mo_push 4 (some .int) 2 53 D E La [.ref m0, .int 3] mu (some (.int 0)) (la_up mu m0 0 3) := by
  refine cw_begin R_Mo (by decide) rfl (Nat.le_of_ble_eq_true rfl) ?_
  intro p e s m below meth c ls Z hr hlocks hP hS hl
  have hx := Z.1
  have hb := Z.2.1
  have hK : va_K D cls5 (tyE E) s := Z.2.2.2.2.2
  have hl : lv_has ls 4 [(0, .ref m0), (1, .int 3)] := hl
  refine lv_aload_n hx hb d_Mo_push_0 rfl (lv_at hl 0 rfl) ?_
  refine lv_iload_n hx hb d_Mo_push_1 rfl (lv_at hl 1 rfl) ?_
  refine cr_S Z ks_Mo_94 (c_Mo_isClient_y l D E La mu (k := 2) (by decide)) hP [.ref m0] rfl rfl hl.1 (Nat.le_of_ble_eq_true rfl) ⟨by decide, by decide⟩ ⟨Nat.le_refl _, Nat.le_refl _⟩ d_Mo_push_2 ?_
  refine lv_if_ne (tgt := 12) hx hb d_Mo_push_5 rfl (fun br5 => ?_) (fun br5 => absurd br5 (by decide))
  refine lv_aload_n hx hb d_Mo_push_12 rfl (lv_at hl 0 rfl) ?_
  refine g_f (v := .ref (m0 + 5)) Z kc_Mo hP hm.1 rfl 5 (by decide) wl_Mo_23 rfl rfl d_Mo_push_13 ?_
  refine lv_iload_n hx hb d_Mo_push_16 rfl (lv_at hl 1 rfl) ?_
  refine lv_iconst (v := 1) hx hb d_Mo_push_17 (by decide) ?_
  refine cr_S Z ks_Mo_87 (c_Mo_line_u l D E La mu (k := 2) (u := 1) (by decide)) hP [.ref (m0 + 5), .ref m0] rfl rfl hl.1 (Nat.le_of_ble_eq_true rfl) ⟨by decide, by decide⟩ ⟨Nat.le_refl _, Nat.le_refl _⟩ d_Mo_push_18 ?_
  refine la_ialdv (v := (nI w0)) hx hb hK hP 0 hm.2.2.2.2.2.1 rfl rfl 4 rfl (by decide) (by decide) hw d_Mo_push_21 ?_
  refine lv_if_ne (tgt := 29) hx hb d_Mo_push_22 rfl (fun br22 => ?_) (fun br22 => absurd br22 (nI_ne0 hw0 (by omega)))
  refine lv_iconst (v := 0) hx hb d_Mo_push_29 (by decide) ?_
  refine p_f Z kc_Mo hP hS hm.1 rfl 0 (by decide) wl_Mo_56 rfl rfl ⟨rfl, rfl⟩ (Nat.le_of_ble_eq_true rfl) rfl d_Mo_push_30 (fun H locs hP hS => ?_)
  refine lv_iconst (v := 1) hx hb d_Mo_push_33 (by decide) ?_
  refine lv_istore_n hx hb d_Mo_push_34 rfl hl (by decide) rfl (fun ls hl => ?_)
  have hl : lv_has ls 4 [(2, .int 1), (0, .ref m0), (1, .int 3)] := hl
  refine lv_iload_n hx hb d_Mo_push_35 rfl (lv_at hl 0 rfl) ?_
  refine lv_iconst (v := 3) hx hb d_Mo_push_36 (by decide) ?_
  refine lv_icmp_gt (tgt := 95) hx hb d_Mo_push_37 rfl (fun br37 => absurd br37 (by decide)) (fun br37 => ?_)
  refine lv_aload_n hx hb d_Mo_push_40 rfl (lv_at hl 1 rfl) ?_
  refine g_i (v := 0) Z kc_Mo hP hm.1 rfl 0 (by decide) wl_Mo_56 rfl rfl la_up_s d_Mo_push_41 ?_
  refine lv_if_ne (tgt := 95) hx hb d_Mo_push_44 rfl (fun br44 => absurd (rfl) br44) (fun br44 => ?_)
  refine lv_iload_n hx hb d_Mo_push_47 rfl (lv_at hl 0 rfl) ?_
  refine lv_iconst (v := 0) hx hb d_Mo_push_48 (by decide) ?_
  refine cr_S Z ks_Mo_87 (c_Mo_line_d l D E La (la_up mu m0 0 0) (k := 0) (u := 0) rfl) hP [] rfl rfl hl.1 (Nat.le_of_ble_eq_true rfl) ⟨by decide, by decide⟩ ⟨Nat.le_refl _, Nat.le_refl _⟩ d_Mo_push_49 ?_
  refine lv_istore_n hx hb d_Mo_push_52 rfl hl (by decide) rfl (fun ls hl => ?_)
  have hl : lv_has ls 4 [(3, .int 1), (2, .int 1), (0, .ref m0), (1, .int 3)] := hl
  refine lv_aload_n hx hb d_Mo_push_53 rfl (lv_at hl 2 rfl) ?_
  refine lv_iload_n hx hb d_Mo_push_54 rfl (lv_at hl 1 rfl) ?_
  refine lv_iload_n hx hb d_Mo_push_55 rfl (lv_at hl 3 rfl) ?_
  refine lv_icmp_eq (tgt := 85) hx hb d_Mo_push_56 rfl (fun br56 => absurd br56 (by decide)) (fun br56 => ?_)
  refine lv_aload_n hx hb d_Mo_push_59 rfl (lv_at hl 2 rfl) ?_
  refine g_f (v := .ref (m0 + 11)) Z kc_Mo hP hm.1 rfl 11 (by decide) wl_Mo_41 rfl rfl d_Mo_push_60 ?_
  refine lv_iload_n hx hb d_Mo_push_63 rfl (lv_at hl 0 rfl) ?_
  refine la_ialdv (v := (nI p0)) hx hb hK hP 0 hm.2.2.2.2.2.2.2.2.2.2.2.1 rfl rfl 1 rfl (by decide) (by decide) ((la_up_k (by decide)).trans po0) d_Mo_push_64 ?_
  refine lv_bipush (v := 24) hx hb d_Mo_push_65 (by decide) ?_
  refine lv_icmp_ge (tgt := 81) hx hb d_Mo_push_67 rfl (fun br67 => absurd br67 (nI_ge (b := 24) pf0 (by decide))) (fun br67 => ?_)
  refine lv_aload_n hx hb d_Mo_push_70 rfl (lv_at hl 2 rfl) ?_
  refine g_f (v := .ref (m0 + 5)) Z kc_Mo hP hm.1 rfl 5 (by decide) wl_Mo_23 rfl rfl d_Mo_push_71 ?_
  refine lv_iload_n hx hb d_Mo_push_74 rfl (lv_at hl 0 rfl) ?_
  refine la_ialdv (v := (nI v0)) hx hb hK hP 0 hm.2.2.2.2.2.1 rfl rfl 1 rfl (by decide) (by decide) ((la_up_k (by decide)).trans pw0) d_Mo_push_75 ?_
  refine lv_bipush (v := 24) hx hb d_Mo_push_76 (by decide) ?_
  refine lv_icmp_lt (tgt := 85) hx hb d_Mo_push_78 rfl (fun br78 => ?_) (fun br78 => absurd (nI_lt (b := 24) (Nat.lt_of_le_of_lt pv0 pf0) (by decide)) br78)
  refine lv_iconst (v := 0) hx hb d_Mo_push_85 (by decide) ?_
  refine p_f Z kc_Mo hP hS hm.1 rfl 0 (by decide) wl_Mo_56 rfl rfl ⟨rfl, rfl⟩ (Nat.le_of_ble_eq_true rfl) rfl d_Mo_push_86 (fun H locs hP hS => ?_)
  have hP : la_P D cls5 La (la_up mu m0 0 0) H := cvm hP la_up_up
  refine lv_iinc (k := 1) (v := 2) hx hb d_Mo_push_89 hl rfl (by decide) (by decide) rfl (fun ls hl => ?_)
  have hl : lv_has ls 4 [(2, .int 2), (3, .int 1), (0, .ref m0), (1, .int 3)] := hl
  refine lv_goto (tgt := 35) hx hb d_Mo_push_92 rfl ?_
  refine lv_iload_n hx hb d_Mo_push_35 rfl (lv_at hl 0 rfl) ?_
  refine lv_iconst (v := 3) hx hb d_Mo_push_36 (by decide) ?_
  refine lv_icmp_gt (tgt := 95) hx hb d_Mo_push_37 rfl (fun br37 => absurd br37 (by decide)) (fun br37 => ?_)
  refine lv_aload_n hx hb d_Mo_push_40 rfl (lv_at hl 2 rfl) ?_
  refine g_i (v := 0) Z kc_Mo hP hm.1 rfl 0 (by decide) wl_Mo_56 rfl rfl la_up_s d_Mo_push_41 ?_
  refine lv_if_ne (tgt := 95) hx hb d_Mo_push_44 rfl (fun br44 => absurd (rfl) br44) (fun br44 => ?_)
  refine lv_iload_n hx hb d_Mo_push_47 rfl (lv_at hl 0 rfl) ?_
  refine lv_iconst (v := 0) hx hb d_Mo_push_48 (by decide) ?_
  refine cr_S Z ks_Mo_87 (c_Mo_line_d l D E La (la_up mu m0 0 0) (k := 1) (u := 0) rfl) hP [] rfl rfl hl.1 (Nat.le_of_ble_eq_true rfl) ⟨by decide, by decide⟩ ⟨Nat.le_refl _, Nat.le_refl _⟩ d_Mo_push_49 ?_
  refine lv_istore_n hx hb d_Mo_push_52 rfl hl (by decide) rfl (fun ls hl => ?_)
  have hl : lv_has ls 4 [(3, .int 3), (2, .int 2), (0, .ref m0), (1, .int 3)] := hl
  refine lv_aload_n hx hb d_Mo_push_53 rfl (lv_at hl 2 rfl) ?_
  refine lv_iload_n hx hb d_Mo_push_54 rfl (lv_at hl 1 rfl) ?_
  refine lv_iload_n hx hb d_Mo_push_55 rfl (lv_at hl 3 rfl) ?_
  refine lv_icmp_eq (tgt := 85) hx hb d_Mo_push_56 rfl (fun br56 => absurd br56 (by decide)) (fun br56 => ?_)
  refine lv_aload_n hx hb d_Mo_push_59 rfl (lv_at hl 2 rfl) ?_
  refine g_f (v := .ref (m0 + 11)) Z kc_Mo hP hm.1 rfl 11 (by decide) wl_Mo_41 rfl rfl d_Mo_push_60 ?_
  refine lv_iload_n hx hb d_Mo_push_63 rfl (lv_at hl 0 rfl) ?_
  refine la_ialdv (v := (nI p1)) hx hb hK hP 0 hm.2.2.2.2.2.2.2.2.2.2.2.1 rfl rfl 3 rfl (by decide) (by decide) ((la_up_k (by decide)).trans po1) d_Mo_push_64 ?_
  refine lv_bipush (v := 24) hx hb d_Mo_push_65 (by decide) ?_
  refine lv_icmp_ge (tgt := 81) hx hb d_Mo_push_67 rfl (fun br67 => ?_) (fun br67 => absurd (nI_le (a := 24) pf1 (by omega)) br67)
  refine lv_iconst (v := 3) hx hb d_Mo_push_81 (by decide) ?_
  refine lv_goto (tgt := 86) hx hb d_Mo_push_82 rfl ?_
  refine p_f Z kc_Mo hP hS hm.1 rfl 0 (by decide) wl_Mo_56 rfl rfl ⟨rfl, rfl⟩ (Nat.le_of_ble_eq_true rfl) rfl d_Mo_push_86 (fun H locs hP hS => ?_)
  have hP : la_P D cls5 La (la_up mu m0 0 3) H := cvm hP la_up_up
  refine lv_iinc (k := 1) (v := 3) hx hb d_Mo_push_89 hl rfl (by decide) (by decide) rfl (fun ls hl => ?_)
  have hl : lv_has ls 4 [(2, .int 3), (3, .int 3), (0, .ref m0), (1, .int 3)] := hl
  refine lv_goto (tgt := 35) hx hb d_Mo_push_92 rfl ?_
  refine lv_iload_n hx hb d_Mo_push_35 rfl (lv_at hl 0 rfl) ?_
  refine lv_iconst (v := 3) hx hb d_Mo_push_36 (by decide) ?_
  refine lv_icmp_gt (tgt := 95) hx hb d_Mo_push_37 rfl (fun br37 => absurd br37 (by decide)) (fun br37 => ?_)
  refine lv_aload_n hx hb d_Mo_push_40 rfl (lv_at hl 2 rfl) ?_
  refine g_i (v := 3) Z kc_Mo hP hm.1 rfl 0 (by decide) wl_Mo_56 rfl rfl la_up_s d_Mo_push_41 ?_
  refine lv_if_ne (tgt := 95) hx hb d_Mo_push_44 rfl (fun br44 => ?_) (fun br44 => absurd br44 (by decide))
  refine lv_aload_n hx hb d_Mo_push_95 rfl (lv_at hl 2 rfl) ?_
  refine g_i (v := 3) Z kc_Mo hP hm.1 rfl 0 (by decide) wl_Mo_56 rfl rfl la_up_s d_Mo_push_96 ?_
  refine lv_if_eq (tgt := 104) hx hb d_Mo_push_99 rfl (fun br99 => absurd br99 (by decide)) (fun br99 => ?_)
  refine lv_iconst (v := 0) hx hb d_Mo_push_102 (by decide) ?_
  exact W.iret hx hb hr (fun t ht hW => ⟨rfl, by rw [ht]; exact cvm hP (rfl), hS.F ht⟩) hS.2.2 d_Mo_push_103
set_option maxHeartbeats 4000000 in
set_option maxRecDepth 100000 in
theorem c_Mo_push_0_2 (l : Launch) (D : va_G) (E : Nat → ClassId) (La : la_L) {m0 : Nat} (hm : isMo E La m0) (mu : la_M) {w0 : Nat} (hw : mu (m0 + 5) 4 = nI w0) (hw0 : 0 < w0) (hw4 : w0 < 40) {p0 v0 : Nat} (po0 : mu (m0 + 11) 1 = nI p0) (pw0 : mu (m0 + 5) 1 = nI v0) (pv0 : v0 ≤ p0) (pf0 : p0 < 24) {p1 v1 : Nat} (po1 : mu (m0 + 11) 3 = nI p1) (pw1 : mu (m0 + 5) 3 = nI v1) (pv1 : v1 ≤ p1) (pf1 : p1 < 24) {mu1 : la_M} (hG : cw l y_Mo_get b_Mo_get 9 none 1 25 D E La [.ref m0, .int (nI 4), .int (nI 0)] (la_up mu m0 0 0) none mu1) {t0 : Nat} (qo0 : mu1 (m0 + 11) 1 = nI p0) (qw0 : mu1 (m0 + 5) 1 = nI v0) (qt0 : mu1 (m0 + 3) 1 = nI t0) {t1 : Nat} (qo1 : mu1 (m0 + 11) 3 = nI p1) (qw1 : mu1 (m0 + 5) 3 = nI v1) (qt1 : mu1 (m0 + 3) 3 = nI t1)  : cw l y_Mo_push b_Mo_push 4 (some .int) 2 53 D E La [.ref m0, .int 3] mu (some (.int (mu1 m0 16))) (md_send (md_send mu1 m0 1 v0 p0 t0) m0 3 v1 p1 t1) := by
  refine cw_begin R_Mo (by decide) rfl (Nat.le_of_ble_eq_true rfl) ?_
  intro p e s m below meth c ls Z hr hlocks hP hS hl
  have hx := Z.1
  have hb := Z.2.1
  have hK : va_K D cls5 (tyE E) s := Z.2.2.2.2.2
  have hl : lv_has ls 4 [(0, .ref m0), (1, .int 3)] := hl
  have r11 := (show (md_send mu1 m0 1 v0 p0 t0) (m0 + 11) 3 = nI p1 by simp only [md_send]; rw [la_up_n (by omega), la_up_k (by decide), la_up_n (by omega), la_up_n (by omega), la_up_n (by omega), la_up_n (by omega), la_up_n (by omega), la_up_n (by omega), la_up_n (by omega), la_up_n (by omega), la_up_n (by omega), la_up_n (by omega)]; exact qo1)
  have r5 := (show (md_send mu1 m0 1 v0 p0 t0) (m0 + 5) 3 = nI v1 by simp only [md_send]; rw [la_up_n (by omega), la_up_n (by omega), la_up_n (by omega), la_up_n (by omega), la_up_n (by omega), la_up_n (by omega), la_up_k (by decide), la_up_n (by omega), la_up_n (by omega), la_up_n (by omega), la_up_n (by omega), la_up_n (by omega)]; exact qw1)
  have r3 := (show (md_send mu1 m0 1 v0 p0 t0) (m0 + 3) 3 = nI t1 by simp only [md_send]; rw [la_up_k (by decide), la_up_n (by omega), la_up_n (by omega), la_up_n (by omega), la_up_n (by omega), la_up_n (by omega), la_up_n (by omega), la_up_n (by omega), la_up_n (by omega), la_up_n (by omega), la_up_n (by omega), la_up_n (by omega)]; exact qt1)
  refine lv_aload_n hx hb d_Mo_push_0 rfl (lv_at hl 0 rfl) ?_
  refine lv_iload_n hx hb d_Mo_push_1 rfl (lv_at hl 1 rfl) ?_
  refine cr_S Z ks_Mo_94 (c_Mo_isClient_y l D E La mu (k := 2) (by decide)) hP [.ref m0] rfl rfl hl.1 (Nat.le_of_ble_eq_true rfl) ⟨by decide, by decide⟩ ⟨Nat.le_refl _, Nat.le_refl _⟩ d_Mo_push_2 ?_
  refine lv_if_ne (tgt := 12) hx hb d_Mo_push_5 rfl (fun br5 => ?_) (fun br5 => absurd br5 (by decide))
  refine lv_aload_n hx hb d_Mo_push_12 rfl (lv_at hl 0 rfl) ?_
  refine g_f (v := .ref (m0 + 5)) Z kc_Mo hP hm.1 rfl 5 (by decide) wl_Mo_23 rfl rfl d_Mo_push_13 ?_
  refine lv_iload_n hx hb d_Mo_push_16 rfl (lv_at hl 1 rfl) ?_
  refine lv_iconst (v := 1) hx hb d_Mo_push_17 (by decide) ?_
  refine cr_S Z ks_Mo_87 (c_Mo_line_u l D E La mu (k := 2) (u := 1) (by decide)) hP [.ref (m0 + 5), .ref m0] rfl rfl hl.1 (Nat.le_of_ble_eq_true rfl) ⟨by decide, by decide⟩ ⟨Nat.le_refl _, Nat.le_refl _⟩ d_Mo_push_18 ?_
  refine la_ialdv (v := (nI w0)) hx hb hK hP 0 hm.2.2.2.2.2.1 rfl rfl 4 rfl (by decide) (by decide) hw d_Mo_push_21 ?_
  refine lv_if_ne (tgt := 29) hx hb d_Mo_push_22 rfl (fun br22 => ?_) (fun br22 => absurd br22 (nI_ne0 hw0 (by omega)))
  refine lv_iconst (v := 0) hx hb d_Mo_push_29 (by decide) ?_
  refine p_f Z kc_Mo hP hS hm.1 rfl 0 (by decide) wl_Mo_56 rfl rfl ⟨rfl, rfl⟩ (Nat.le_of_ble_eq_true rfl) rfl d_Mo_push_30 (fun H locs hP hS => ?_)
  refine lv_iconst (v := 1) hx hb d_Mo_push_33 (by decide) ?_
  refine lv_istore_n hx hb d_Mo_push_34 rfl hl (by decide) rfl (fun ls hl => ?_)
  have hl : lv_has ls 4 [(2, .int 1), (0, .ref m0), (1, .int 3)] := hl
  refine lv_iload_n hx hb d_Mo_push_35 rfl (lv_at hl 0 rfl) ?_
  refine lv_iconst (v := 3) hx hb d_Mo_push_36 (by decide) ?_
  refine lv_icmp_gt (tgt := 95) hx hb d_Mo_push_37 rfl (fun br37 => absurd br37 (by decide)) (fun br37 => ?_)
  refine lv_aload_n hx hb d_Mo_push_40 rfl (lv_at hl 1 rfl) ?_
  refine g_i (v := 0) Z kc_Mo hP hm.1 rfl 0 (by decide) wl_Mo_56 rfl rfl la_up_s d_Mo_push_41 ?_
  refine lv_if_ne (tgt := 95) hx hb d_Mo_push_44 rfl (fun br44 => absurd (rfl) br44) (fun br44 => ?_)
  refine lv_iload_n hx hb d_Mo_push_47 rfl (lv_at hl 0 rfl) ?_
  refine lv_iconst (v := 0) hx hb d_Mo_push_48 (by decide) ?_
  refine cr_S Z ks_Mo_87 (c_Mo_line_d l D E La (la_up mu m0 0 0) (k := 0) (u := 0) rfl) hP [] rfl rfl hl.1 (Nat.le_of_ble_eq_true rfl) ⟨by decide, by decide⟩ ⟨Nat.le_refl _, Nat.le_refl _⟩ d_Mo_push_49 ?_
  refine lv_istore_n hx hb d_Mo_push_52 rfl hl (by decide) rfl (fun ls hl => ?_)
  have hl : lv_has ls 4 [(3, .int 1), (2, .int 1), (0, .ref m0), (1, .int 3)] := hl
  refine lv_aload_n hx hb d_Mo_push_53 rfl (lv_at hl 2 rfl) ?_
  refine lv_iload_n hx hb d_Mo_push_54 rfl (lv_at hl 1 rfl) ?_
  refine lv_iload_n hx hb d_Mo_push_55 rfl (lv_at hl 3 rfl) ?_
  refine lv_icmp_eq (tgt := 85) hx hb d_Mo_push_56 rfl (fun br56 => absurd br56 (by decide)) (fun br56 => ?_)
  refine lv_aload_n hx hb d_Mo_push_59 rfl (lv_at hl 2 rfl) ?_
  refine g_f (v := .ref (m0 + 11)) Z kc_Mo hP hm.1 rfl 11 (by decide) wl_Mo_41 rfl rfl d_Mo_push_60 ?_
  refine lv_iload_n hx hb d_Mo_push_63 rfl (lv_at hl 0 rfl) ?_
  refine la_ialdv (v := (nI p0)) hx hb hK hP 0 hm.2.2.2.2.2.2.2.2.2.2.2.1 rfl rfl 1 rfl (by decide) (by decide) ((la_up_k (by decide)).trans po0) d_Mo_push_64 ?_
  refine lv_bipush (v := 24) hx hb d_Mo_push_65 (by decide) ?_
  refine lv_icmp_ge (tgt := 81) hx hb d_Mo_push_67 rfl (fun br67 => absurd br67 (nI_ge (b := 24) pf0 (by decide))) (fun br67 => ?_)
  refine lv_aload_n hx hb d_Mo_push_70 rfl (lv_at hl 2 rfl) ?_
  refine g_f (v := .ref (m0 + 5)) Z kc_Mo hP hm.1 rfl 5 (by decide) wl_Mo_23 rfl rfl d_Mo_push_71 ?_
  refine lv_iload_n hx hb d_Mo_push_74 rfl (lv_at hl 0 rfl) ?_
  refine la_ialdv (v := (nI v0)) hx hb hK hP 0 hm.2.2.2.2.2.1 rfl rfl 1 rfl (by decide) (by decide) ((la_up_k (by decide)).trans pw0) d_Mo_push_75 ?_
  refine lv_bipush (v := 24) hx hb d_Mo_push_76 (by decide) ?_
  refine lv_icmp_lt (tgt := 85) hx hb d_Mo_push_78 rfl (fun br78 => ?_) (fun br78 => absurd (nI_lt (b := 24) (Nat.lt_of_le_of_lt pv0 pf0) (by decide)) br78)
  refine lv_iconst (v := 0) hx hb d_Mo_push_85 (by decide) ?_
  refine p_f Z kc_Mo hP hS hm.1 rfl 0 (by decide) wl_Mo_56 rfl rfl ⟨rfl, rfl⟩ (Nat.le_of_ble_eq_true rfl) rfl d_Mo_push_86 (fun H locs hP hS => ?_)
  have hP : la_P D cls5 La (la_up mu m0 0 0) H := cvm hP la_up_up
  refine lv_iinc (k := 1) (v := 2) hx hb d_Mo_push_89 hl rfl (by decide) (by decide) rfl (fun ls hl => ?_)
  have hl : lv_has ls 4 [(2, .int 2), (3, .int 1), (0, .ref m0), (1, .int 3)] := hl
  refine lv_goto (tgt := 35) hx hb d_Mo_push_92 rfl ?_
  refine lv_iload_n hx hb d_Mo_push_35 rfl (lv_at hl 0 rfl) ?_
  refine lv_iconst (v := 3) hx hb d_Mo_push_36 (by decide) ?_
  refine lv_icmp_gt (tgt := 95) hx hb d_Mo_push_37 rfl (fun br37 => absurd br37 (by decide)) (fun br37 => ?_)
  refine lv_aload_n hx hb d_Mo_push_40 rfl (lv_at hl 2 rfl) ?_
  refine g_i (v := 0) Z kc_Mo hP hm.1 rfl 0 (by decide) wl_Mo_56 rfl rfl la_up_s d_Mo_push_41 ?_
  refine lv_if_ne (tgt := 95) hx hb d_Mo_push_44 rfl (fun br44 => absurd (rfl) br44) (fun br44 => ?_)
  refine lv_iload_n hx hb d_Mo_push_47 rfl (lv_at hl 0 rfl) ?_
  refine lv_iconst (v := 0) hx hb d_Mo_push_48 (by decide) ?_
  refine cr_S Z ks_Mo_87 (c_Mo_line_d l D E La (la_up mu m0 0 0) (k := 1) (u := 0) rfl) hP [] rfl rfl hl.1 (Nat.le_of_ble_eq_true rfl) ⟨by decide, by decide⟩ ⟨Nat.le_refl _, Nat.le_refl _⟩ d_Mo_push_49 ?_
  refine lv_istore_n hx hb d_Mo_push_52 rfl hl (by decide) rfl (fun ls hl => ?_)
  have hl : lv_has ls 4 [(3, .int 3), (2, .int 2), (0, .ref m0), (1, .int 3)] := hl
  refine lv_aload_n hx hb d_Mo_push_53 rfl (lv_at hl 2 rfl) ?_
  refine lv_iload_n hx hb d_Mo_push_54 rfl (lv_at hl 1 rfl) ?_
  refine lv_iload_n hx hb d_Mo_push_55 rfl (lv_at hl 3 rfl) ?_
  refine lv_icmp_eq (tgt := 85) hx hb d_Mo_push_56 rfl (fun br56 => absurd br56 (by decide)) (fun br56 => ?_)
  refine lv_aload_n hx hb d_Mo_push_59 rfl (lv_at hl 2 rfl) ?_
  refine g_f (v := .ref (m0 + 11)) Z kc_Mo hP hm.1 rfl 11 (by decide) wl_Mo_41 rfl rfl d_Mo_push_60 ?_
  refine lv_iload_n hx hb d_Mo_push_63 rfl (lv_at hl 0 rfl) ?_
  refine la_ialdv (v := (nI p1)) hx hb hK hP 0 hm.2.2.2.2.2.2.2.2.2.2.2.1 rfl rfl 3 rfl (by decide) (by decide) ((la_up_k (by decide)).trans po1) d_Mo_push_64 ?_
  refine lv_bipush (v := 24) hx hb d_Mo_push_65 (by decide) ?_
  refine lv_icmp_ge (tgt := 81) hx hb d_Mo_push_67 rfl (fun br67 => absurd br67 (nI_ge (b := 24) pf1 (by decide))) (fun br67 => ?_)
  refine lv_aload_n hx hb d_Mo_push_70 rfl (lv_at hl 2 rfl) ?_
  refine g_f (v := .ref (m0 + 5)) Z kc_Mo hP hm.1 rfl 5 (by decide) wl_Mo_23 rfl rfl d_Mo_push_71 ?_
  refine lv_iload_n hx hb d_Mo_push_74 rfl (lv_at hl 0 rfl) ?_
  refine la_ialdv (v := (nI v1)) hx hb hK hP 0 hm.2.2.2.2.2.1 rfl rfl 3 rfl (by decide) (by decide) ((la_up_k (by decide)).trans pw1) d_Mo_push_75 ?_
  refine lv_bipush (v := 24) hx hb d_Mo_push_76 (by decide) ?_
  refine lv_icmp_lt (tgt := 85) hx hb d_Mo_push_78 rfl (fun br78 => ?_) (fun br78 => absurd (nI_lt (b := 24) (Nat.lt_of_le_of_lt pv1 pf1) (by decide)) br78)
  refine lv_iconst (v := 0) hx hb d_Mo_push_85 (by decide) ?_
  refine p_f Z kc_Mo hP hS hm.1 rfl 0 (by decide) wl_Mo_56 rfl rfl ⟨rfl, rfl⟩ (Nat.le_of_ble_eq_true rfl) rfl d_Mo_push_86 (fun H locs hP hS => ?_)
  have hP : la_P D cls5 La (la_up mu m0 0 0) H := cvm hP la_up_up
  refine lv_iinc (k := 1) (v := 3) hx hb d_Mo_push_89 hl rfl (by decide) (by decide) rfl (fun ls hl => ?_)
  have hl : lv_has ls 4 [(2, .int 3), (3, .int 3), (0, .ref m0), (1, .int 3)] := hl
  refine lv_goto (tgt := 35) hx hb d_Mo_push_92 rfl ?_
  refine lv_iload_n hx hb d_Mo_push_35 rfl (lv_at hl 0 rfl) ?_
  refine lv_iconst (v := 3) hx hb d_Mo_push_36 (by decide) ?_
  refine lv_icmp_gt (tgt := 95) hx hb d_Mo_push_37 rfl (fun br37 => absurd br37 (by decide)) (fun br37 => ?_)
  refine lv_aload_n hx hb d_Mo_push_40 rfl (lv_at hl 2 rfl) ?_
  refine g_i (v := 0) Z kc_Mo hP hm.1 rfl 0 (by decide) wl_Mo_56 rfl rfl la_up_s d_Mo_push_41 ?_
  refine lv_if_ne (tgt := 95) hx hb d_Mo_push_44 rfl (fun br44 => absurd (rfl) br44) (fun br44 => ?_)
  refine lv_iload_n hx hb d_Mo_push_47 rfl (lv_at hl 0 rfl) ?_
  refine lv_iconst (v := 0) hx hb d_Mo_push_48 (by decide) ?_
  refine cr_S Z ks_Mo_87 (c_Mo_line_d l D E La (la_up mu m0 0 0) (k := 2) (u := 0) rfl) hP [] rfl rfl hl.1 (Nat.le_of_ble_eq_true rfl) ⟨by decide, by decide⟩ ⟨Nat.le_refl _, Nat.le_refl _⟩ d_Mo_push_49 ?_
  refine lv_istore_n hx hb d_Mo_push_52 rfl hl (by decide) rfl (fun ls hl => ?_)
  have hl : lv_has ls 4 [(3, .int 5), (2, .int 3), (0, .ref m0), (1, .int 3)] := hl
  refine lv_aload_n hx hb d_Mo_push_53 rfl (lv_at hl 2 rfl) ?_
  refine lv_iload_n hx hb d_Mo_push_54 rfl (lv_at hl 1 rfl) ?_
  refine lv_iload_n hx hb d_Mo_push_55 rfl (lv_at hl 3 rfl) ?_
  refine lv_icmp_eq (tgt := 85) hx hb d_Mo_push_56 rfl (fun br56 => ?_) (fun br56 => absurd (rfl) br56)
  refine lv_iconst (v := 0) hx hb d_Mo_push_85 (by decide) ?_
  refine p_f Z kc_Mo hP hS hm.1 rfl 0 (by decide) wl_Mo_56 rfl rfl ⟨rfl, rfl⟩ (Nat.le_of_ble_eq_true rfl) rfl d_Mo_push_86 (fun H locs hP hS => ?_)
  have hP : la_P D cls5 La (la_up mu m0 0 0) H := cvm hP la_up_up
  refine lv_iinc (k := 1) (v := 4) hx hb d_Mo_push_89 hl rfl (by decide) (by decide) rfl (fun ls hl => ?_)
  have hl : lv_has ls 4 [(2, .int 4), (3, .int 5), (0, .ref m0), (1, .int 3)] := hl
  refine lv_goto (tgt := 35) hx hb d_Mo_push_92 rfl ?_
  refine lv_iload_n hx hb d_Mo_push_35 rfl (lv_at hl 0 rfl) ?_
  refine lv_iconst (v := 3) hx hb d_Mo_push_36 (by decide) ?_
  refine lv_icmp_gt (tgt := 95) hx hb d_Mo_push_37 rfl (fun br37 => ?_) (fun br37 => absurd (by decide) br37)
  refine lv_aload_n hx hb d_Mo_push_95 rfl (lv_at hl 2 rfl) ?_
  refine g_i (v := 0) Z kc_Mo hP hm.1 rfl 0 (by decide) wl_Mo_56 rfl rfl la_up_s d_Mo_push_96 ?_
  refine lv_if_eq (tgt := 104) hx hb d_Mo_push_99 rfl (fun br99 => ?_) (fun br99 => absurd (by decide) br99)
  refine lv_aload_n hx hb d_Mo_push_104 rfl (lv_at hl 2 rfl) ?_
  refine lv_iload_n hx hb d_Mo_push_105 rfl (lv_at hl 3 rfl) ?_
  refine lv_iconst (v := 1) hx hb d_Mo_push_106 (by decide) ?_
  refine cr_S Z ks_Mo_87 (c_Mo_line_u l D E La (la_up mu m0 0 0) (k := 2) (u := 1) (by decide)) hP [.ref m0] rfl rfl hl.1 (Nat.le_of_ble_eq_true rfl) ⟨by decide, by decide⟩ ⟨Nat.le_refl _, Nat.le_refl _⟩ d_Mo_push_107 ?_
  refine lv_iconst (v := 0) hx hb d_Mo_push_110 (by decide) ?_
  refine cw_V Z kv_Mo_105 (hG) hP hS (fun _ h => h) (la_recv hK hP kc_Mo hm.1 rfl) [] rfl rfl hl.1 (Nat.le_of_ble_eq_true rfl) ⟨by decide, by decide⟩ ⟨Nat.le_refl _, Nat.le_refl _⟩ d_Mo_push_111 (fun H locs hP hkp hS => ?_)
  refine lv_aload_n hx hb d_Mo_push_114 rfl (lv_at hl 2 rfl) ?_
  refine g_f Z kc_Mo hP hm.1 rfl 16 (by decide) wl_Mo_60 rfl rfl d_Mo_push_115 ?_
  refine lv_istore_n hx hb d_Mo_push_118 rfl hl (by decide) rfl (fun ls hl => ?_)
  have hl : lv_has ls 4 [(2, .int (mu1 m0 16)), (3, .int 5), (0, .ref m0), (1, .int 3)] := hl
  refine lv_iconst (v := 1) hx hb d_Mo_push_119 (by decide) ?_
  refine lv_istore_n hx hb d_Mo_push_120 rfl hl (by decide) rfl (fun ls hl => ?_)
  have hl : lv_has ls 4 [(3, .int 1), (2, .int (mu1 m0 16)), (0, .ref m0), (1, .int 3)] := hl
  refine lv_iload_n hx hb d_Mo_push_121 rfl (lv_at hl 0 rfl) ?_
  refine lv_iconst (v := 3) hx hb d_Mo_push_122 (by decide) ?_
  refine lv_icmp_gt (tgt := 146) hx hb d_Mo_push_123 rfl (fun br123 => absurd br123 (by decide)) (fun br123 => ?_)
  refine lv_iload_n hx hb d_Mo_push_126 rfl (lv_at hl 0 rfl) ?_
  refine lv_iload_n hx hb d_Mo_push_127 rfl (lv_at hl 3 rfl) ?_
  refine lv_icmp_eq (tgt := 140) hx hb d_Mo_push_128 rfl (fun br128 => absurd br128 (by decide)) (fun br128 => ?_)
  refine lv_aload_n hx hb d_Mo_push_131 rfl (lv_at hl 2 rfl) ?_
  refine lv_iload_n hx hb d_Mo_push_132 rfl (lv_at hl 0 rfl) ?_
  refine lv_iconst (v := 0) hx hb d_Mo_push_133 (by decide) ?_
  refine cr_S Z ks_Mo_87 (c_Mo_line_d l D E La mu1 (k := 0) (u := 0) rfl) hP [.ref m0] rfl rfl hl.1 (Nat.le_of_ble_eq_true rfl) ⟨by decide, by decide⟩ ⟨Nat.le_refl _, Nat.le_refl _⟩ d_Mo_push_134 ?_
  refine cw_V Z kv_Mo_91 (c_Mo_send l D E La hm mu1 (by decide) qw0 (by omega) qo0 (by omega) qt0) hP hS (fun _ h => h) (la_recv hK hP kc_Mo hm.1 rfl) [] rfl rfl hl.1 (Nat.le_of_ble_eq_true rfl) ⟨by decide, by decide⟩ ⟨Nat.le_refl _, Nat.le_refl _⟩ d_Mo_push_137 (fun H locs hP hkp hS => ?_)
  refine lv_iinc (k := 0) (v := 2) hx hb d_Mo_push_140 hl rfl (by decide) (by decide) rfl (fun ls hl => ?_)
  have hl : lv_has ls 4 [(3, .int 2), (2, .int (mu1 m0 16)), (0, .ref m0), (1, .int 3)] := hl
  refine lv_goto (tgt := 121) hx hb d_Mo_push_143 rfl ?_
  refine lv_iload_n hx hb d_Mo_push_121 rfl (lv_at hl 0 rfl) ?_
  refine lv_iconst (v := 3) hx hb d_Mo_push_122 (by decide) ?_
  refine lv_icmp_gt (tgt := 146) hx hb d_Mo_push_123 rfl (fun br123 => absurd br123 (by decide)) (fun br123 => ?_)
  refine lv_iload_n hx hb d_Mo_push_126 rfl (lv_at hl 0 rfl) ?_
  refine lv_iload_n hx hb d_Mo_push_127 rfl (lv_at hl 3 rfl) ?_
  refine lv_icmp_eq (tgt := 140) hx hb d_Mo_push_128 rfl (fun br128 => absurd br128 (by decide)) (fun br128 => ?_)
  refine lv_aload_n hx hb d_Mo_push_131 rfl (lv_at hl 2 rfl) ?_
  refine lv_iload_n hx hb d_Mo_push_132 rfl (lv_at hl 0 rfl) ?_
  refine lv_iconst (v := 0) hx hb d_Mo_push_133 (by decide) ?_
  refine cr_S Z ks_Mo_87 (c_Mo_line_d l D E La (md_send mu1 m0 1 v0 p0 t0) (k := 1) (u := 0) rfl) hP [.ref m0] rfl rfl hl.1 (Nat.le_of_ble_eq_true rfl) ⟨by decide, by decide⟩ ⟨Nat.le_refl _, Nat.le_refl _⟩ d_Mo_push_134 ?_
  refine cw_V Z kv_Mo_91 (c_Mo_send l D E La hm (md_send mu1 m0 1 v0 p0 t0) (by decide) r5 (by omega) r11 (by omega) r3) hP hS (fun _ h => h) (la_recv hK hP kc_Mo hm.1 rfl) [] rfl rfl hl.1 (Nat.le_of_ble_eq_true rfl) ⟨by decide, by decide⟩ ⟨Nat.le_refl _, Nat.le_refl _⟩ d_Mo_push_137 (fun H locs hP hkp hS => ?_)
  refine lv_iinc (k := 0) (v := 3) hx hb d_Mo_push_140 hl rfl (by decide) (by decide) rfl (fun ls hl => ?_)
  have hl : lv_has ls 4 [(3, .int 3), (2, .int (mu1 m0 16)), (0, .ref m0), (1, .int 3)] := hl
  refine lv_goto (tgt := 121) hx hb d_Mo_push_143 rfl ?_
  refine lv_iload_n hx hb d_Mo_push_121 rfl (lv_at hl 0 rfl) ?_
  refine lv_iconst (v := 3) hx hb d_Mo_push_122 (by decide) ?_
  refine lv_icmp_gt (tgt := 146) hx hb d_Mo_push_123 rfl (fun br123 => absurd br123 (by decide)) (fun br123 => ?_)
  refine lv_iload_n hx hb d_Mo_push_126 rfl (lv_at hl 0 rfl) ?_
  refine lv_iload_n hx hb d_Mo_push_127 rfl (lv_at hl 3 rfl) ?_
  refine lv_icmp_eq (tgt := 140) hx hb d_Mo_push_128 rfl (fun br128 => ?_) (fun br128 => absurd (rfl) br128)
  refine lv_iinc (k := 0) (v := 4) hx hb d_Mo_push_140 hl rfl (by decide) (by decide) rfl (fun ls hl => ?_)
  have hl : lv_has ls 4 [(3, .int 4), (2, .int (mu1 m0 16)), (0, .ref m0), (1, .int 3)] := hl
  refine lv_goto (tgt := 121) hx hb d_Mo_push_143 rfl ?_
  refine lv_iload_n hx hb d_Mo_push_121 rfl (lv_at hl 0 rfl) ?_
  refine lv_iconst (v := 3) hx hb d_Mo_push_122 (by decide) ?_
  refine lv_icmp_gt (tgt := 146) hx hb d_Mo_push_123 rfl (fun br123 => ?_) (fun br123 => absurd (by decide) br123)
  refine lv_iload_n hx hb d_Mo_push_146 rfl (lv_at hl 1 rfl) ?_
  exact W.iret hx hb hr (fun t ht hW => ⟨rfl, by rw [ht]; exact cvm hP (rfl), hS.F ht⟩) hS.2.2 d_Mo_push_147
set_option maxHeartbeats 4000000 in
set_option maxRecDepth 100000 in
theorem c_Mo_waiting_1 (l : Launch) (D : va_G) (E : Nat → ClassId) (La : la_L) {m0 : Nat} (hm : isMo E La m0) (mu : la_M) {cl u : Int32} (hc : cl < 1 ∨ 3 < cl) : cw l y_Mo_waiting b_Mo_waiting 3 (some .int) 1 21 D E La [.ref m0, .int cl, .int u] mu (some (.int 0)) (la_up mu m0 0 1) := by
  refine cw_begin R_Mo (by decide) rfl (Nat.le_of_ble_eq_true rfl) ?_
  intro p e s m below meth c ls Z hr hlocks hP hS hl
  have hx := Z.1
  have hb := Z.2.1
  have hK : va_K D cls5 (tyE E) s := Z.2.2.2.2.2
  have hl : lv_has ls 3 [(0, .ref m0), (1, .int cl), (2, .int u)] := hl
  refine lv_aload_n hx hb d_Mo_waiting_0 rfl (lv_at hl 0 rfl) ?_
  refine lv_iload_n hx hb d_Mo_waiting_1 rfl (lv_at hl 1 rfl) ?_
  refine cr_S Z ks_Mo_94 (c_Mo_isClient_n l D E La mu hc) hP [.ref m0] rfl rfl hl.1 (Nat.le_of_ble_eq_true rfl) ⟨by decide, by decide⟩ ⟨Nat.le_refl _, Nat.le_refl _⟩ d_Mo_waiting_2 ?_
  refine lv_if_eq (tgt := 12) hx hb d_Mo_waiting_5 rfl (fun br5 => ?_) (fun br5 => absurd (by decide) br5)
  refine lv_iconst (v := 1) hx hb d_Mo_waiting_12 (by decide) ?_
  refine p_f Z kc_Mo hP hS hm.1 rfl 0 (by decide) wl_Mo_56 rfl rfl ⟨rfl, rfl⟩ (Nat.le_of_ble_eq_true rfl) rfl d_Mo_waiting_13 (fun H locs hP hS => ?_)
  refine lv_aload_n hx hb d_Mo_waiting_16 rfl (lv_at hl 0 rfl) ?_
  refine g_i (v := 1) Z kc_Mo hP hm.1 rfl 0 (by decide) wl_Mo_56 rfl rfl la_up_s d_Mo_waiting_17 ?_
  refine lv_if_ne (tgt := 36) hx hb d_Mo_waiting_20 rfl (fun br20 => ?_) (fun br20 => absurd br20 (by decide))
  refine lv_iconst (v := 0) hx hb d_Mo_waiting_36 (by decide) ?_
  exact W.iret hx hb hr (fun t ht hW => ⟨rfl, by rw [ht]; exact cvm hP (rfl), hS.F ht⟩) hS.2.2 d_Mo_waiting_37
set_option maxHeartbeats 4000000 in
set_option maxRecDepth 100000 in
theorem c_Mo_waiting_0 (l : Launch) (D : va_G) (E : Nat → ClassId) (La : la_L) {m0 : Nat} (hm : isMo E La m0) (mu : la_M) {k : Nat} (hk : k < 3) {u : Int32} {L : Nat} (hL : L < 6) (hln : cr l y_Mo_line b_Mo_line 2 (some .int) 0 0 D E La [.int (nI (k + 1)), .int u] (la_up mu m0 0 0) (some (.int (nI L)))) : cw l y_Mo_waiting b_Mo_waiting 3 (some .int) 1 21 D E La [.ref m0, .int (nI (k + 1)), .int u] mu (some (.int (mu (m0 + 5) L))) (la_up mu m0 0 0) := by
  refine cw_begin R_Mo (by decide) rfl (Nat.le_of_ble_eq_true rfl) ?_
  intro p e s m below meth c ls Z hr hlocks hP hS hl
  have hx := Z.1
  have hb := Z.2.1
  have hK : va_K D cls5 (tyE E) s := Z.2.2.2.2.2
  have hl : lv_has ls 3 [(0, .ref m0), (1, .int (nI (k + 1))), (2, .int u)] := hl
  refine lv_aload_n hx hb d_Mo_waiting_0 rfl (lv_at hl 0 rfl) ?_
  refine lv_iload_n hx hb d_Mo_waiting_1 rfl (lv_at hl 1 rfl) ?_
  refine cr_S Z ks_Mo_94 (c_Mo_isClient_y l D E La mu hk) hP [.ref m0] rfl rfl hl.1 (Nat.le_of_ble_eq_true rfl) ⟨by decide, by decide⟩ ⟨Nat.le_refl _, Nat.le_refl _⟩ d_Mo_waiting_2 ?_
  refine lv_if_eq (tgt := 12) hx hb d_Mo_waiting_5 rfl (fun br5 => absurd br5 (by decide)) (fun br5 => ?_)
  refine lv_iconst (v := 0) hx hb d_Mo_waiting_8 (by decide) ?_
  refine lv_goto (tgt := 13) hx hb d_Mo_waiting_9 rfl ?_
  refine p_f Z kc_Mo hP hS hm.1 rfl 0 (by decide) wl_Mo_56 rfl rfl ⟨rfl, rfl⟩ (Nat.le_of_ble_eq_true rfl) rfl d_Mo_waiting_13 (fun H locs hP hS => ?_)
  refine lv_aload_n hx hb d_Mo_waiting_16 rfl (lv_at hl 0 rfl) ?_
  refine g_i (v := 0) Z kc_Mo hP hm.1 rfl 0 (by decide) wl_Mo_56 rfl rfl la_up_s d_Mo_waiting_17 ?_
  refine lv_if_ne (tgt := 36) hx hb d_Mo_waiting_20 rfl (fun br20 => absurd (rfl) br20) (fun br20 => ?_)
  refine lv_aload_n hx hb d_Mo_waiting_23 rfl (lv_at hl 0 rfl) ?_
  refine g_f (v := .ref (m0 + 5)) Z kc_Mo hP hm.1 rfl 5 (by decide) wl_Mo_23 rfl rfl d_Mo_waiting_24 ?_
  refine lv_iload_n hx hb d_Mo_waiting_27 rfl (lv_at hl 1 rfl) ?_
  refine lv_iload_n hx hb d_Mo_waiting_28 rfl (lv_at hl 2 rfl) ?_
  refine cr_S Z ks_Mo_87 (hln) hP [.ref (m0 + 5)] rfl rfl hl.1 (Nat.le_of_ble_eq_true rfl) ⟨by decide, by decide⟩ ⟨Nat.le_refl _, Nat.le_refl _⟩ d_Mo_waiting_29 ?_
  refine la_ialdv (v := (mu (m0 + 5) L)) hx hb hK hP 0 hm.2.2.2.2.2.1 rfl rfl L rfl hL (by decide) (congrFun (la_up_n (by omega)) L) d_Mo_waiting_32 ?_
  refine lv_goto (tgt := 37) hx hb d_Mo_waiting_33 rfl ?_
  exact W.iret hx hb hr (fun t ht hW => ⟨rfl, by rw [ht]; exact cvm hP (rfl), hS.F ht⟩) hS.2.2 d_Mo_waiting_37
set_option maxHeartbeats 4000000 in
set_option maxRecDepth 100000 in
theorem c_Mo_got_1 (l : Launch) (D : va_G) (E : Nat → ClassId) (La : la_L) {m0 : Nat} (hm : isMo E La m0) (mu : la_M) {cl u : Int32} (hc : cl < 1 ∨ 3 < cl) : cw l y_Mo_got b_Mo_got 3 (some .int) 1 21 D E La [.ref m0, .int cl, .int u] mu (some (.int 0)) (la_up mu m0 0 1) := by
  refine cw_begin R_Mo (by decide) rfl (Nat.le_of_ble_eq_true rfl) ?_
  intro p e s m below meth c ls Z hr hlocks hP hS hl
  have hx := Z.1
  have hb := Z.2.1
  have hK : va_K D cls5 (tyE E) s := Z.2.2.2.2.2
  have hl : lv_has ls 3 [(0, .ref m0), (1, .int cl), (2, .int u)] := hl
  refine lv_aload_n hx hb d_Mo_got_0 rfl (lv_at hl 0 rfl) ?_
  refine lv_iload_n hx hb d_Mo_got_1 rfl (lv_at hl 1 rfl) ?_
  refine cr_S Z ks_Mo_94 (c_Mo_isClient_n l D E La mu hc) hP [.ref m0] rfl rfl hl.1 (Nat.le_of_ble_eq_true rfl) ⟨by decide, by decide⟩ ⟨Nat.le_refl _, Nat.le_refl _⟩ d_Mo_got_2 ?_
  refine lv_if_eq (tgt := 12) hx hb d_Mo_got_5 rfl (fun br5 => ?_) (fun br5 => absurd (by decide) br5)
  refine lv_iconst (v := 1) hx hb d_Mo_got_12 (by decide) ?_
  refine p_f Z kc_Mo hP hS hm.1 rfl 0 (by decide) wl_Mo_56 rfl rfl ⟨rfl, rfl⟩ (Nat.le_of_ble_eq_true rfl) rfl d_Mo_got_13 (fun H locs hP hS => ?_)
  refine lv_aload_n hx hb d_Mo_got_16 rfl (lv_at hl 0 rfl) ?_
  refine g_i (v := 1) Z kc_Mo hP hm.1 rfl 0 (by decide) wl_Mo_56 rfl rfl la_up_s d_Mo_got_17 ?_
  refine lv_if_ne (tgt := 36) hx hb d_Mo_got_20 rfl (fun br20 => ?_) (fun br20 => absurd br20 (by decide))
  refine lv_iconst (v := 0) hx hb d_Mo_got_36 (by decide) ?_
  exact W.iret hx hb hr (fun t ht hW => ⟨rfl, by rw [ht]; exact cvm hP (rfl), hS.F ht⟩) hS.2.2 d_Mo_got_37
set_option maxHeartbeats 4000000 in
set_option maxRecDepth 100000 in
theorem c_Mo_got_0 (l : Launch) (D : va_G) (E : Nat → ClassId) (La : la_L) {m0 : Nat} (hm : isMo E La m0) (mu : la_M) {k : Nat} (hk : k < 3) {u : Int32} {L : Nat} (hL : L < 6) (hln : cr l y_Mo_line b_Mo_line 2 (some .int) 0 0 D E La [.int (nI (k + 1)), .int u] (la_up mu m0 0 0) (some (.int (nI L)))) : cw l y_Mo_got b_Mo_got 3 (some .int) 1 21 D E La [.ref m0, .int (nI (k + 1)), .int u] mu (some (.int (mu (m0 + 4) L))) (la_up mu m0 0 0) := by
  refine cw_begin R_Mo (by decide) rfl (Nat.le_of_ble_eq_true rfl) ?_
  intro p e s m below meth c ls Z hr hlocks hP hS hl
  have hx := Z.1
  have hb := Z.2.1
  have hK : va_K D cls5 (tyE E) s := Z.2.2.2.2.2
  have hl : lv_has ls 3 [(0, .ref m0), (1, .int (nI (k + 1))), (2, .int u)] := hl
  refine lv_aload_n hx hb d_Mo_got_0 rfl (lv_at hl 0 rfl) ?_
  refine lv_iload_n hx hb d_Mo_got_1 rfl (lv_at hl 1 rfl) ?_
  refine cr_S Z ks_Mo_94 (c_Mo_isClient_y l D E La mu hk) hP [.ref m0] rfl rfl hl.1 (Nat.le_of_ble_eq_true rfl) ⟨by decide, by decide⟩ ⟨Nat.le_refl _, Nat.le_refl _⟩ d_Mo_got_2 ?_
  refine lv_if_eq (tgt := 12) hx hb d_Mo_got_5 rfl (fun br5 => absurd br5 (by decide)) (fun br5 => ?_)
  refine lv_iconst (v := 0) hx hb d_Mo_got_8 (by decide) ?_
  refine lv_goto (tgt := 13) hx hb d_Mo_got_9 rfl ?_
  refine p_f Z kc_Mo hP hS hm.1 rfl 0 (by decide) wl_Mo_56 rfl rfl ⟨rfl, rfl⟩ (Nat.le_of_ble_eq_true rfl) rfl d_Mo_got_13 (fun H locs hP hS => ?_)
  refine lv_aload_n hx hb d_Mo_got_16 rfl (lv_at hl 0 rfl) ?_
  refine g_i (v := 0) Z kc_Mo hP hm.1 rfl 0 (by decide) wl_Mo_56 rfl rfl la_up_s d_Mo_got_17 ?_
  refine lv_if_ne (tgt := 36) hx hb d_Mo_got_20 rfl (fun br20 => absurd (rfl) br20) (fun br20 => ?_)
  refine lv_aload_n hx hb d_Mo_got_23 rfl (lv_at hl 0 rfl) ?_
  refine g_f (v := .ref (m0 + 4)) Z kc_Mo hP hm.1 rfl 4 (by decide) wl_Mo_20 rfl rfl d_Mo_got_24 ?_
  refine lv_iload_n hx hb d_Mo_got_27 rfl (lv_at hl 1 rfl) ?_
  refine lv_iload_n hx hb d_Mo_got_28 rfl (lv_at hl 2 rfl) ?_
  refine cr_S Z ks_Mo_87 (hln) hP [.ref (m0 + 4)] rfl rfl hl.1 (Nat.le_of_ble_eq_true rfl) ⟨by decide, by decide⟩ ⟨Nat.le_refl _, Nat.le_refl _⟩ d_Mo_got_29 ?_
  refine la_ialdv (v := (mu (m0 + 4) L)) hx hb hK hP 0 hm.2.2.2.2.1 rfl rfl L rfl hL (by decide) (congrFun (la_up_n (by omega)) L) d_Mo_got_32 ?_
  refine lv_goto (tgt := 37) hx hb d_Mo_got_33 rfl ?_
  exact W.iret hx hb hr (fun t ht hW => ⟨rfl, by rw [ht]; exact cvm hP (rfl), hS.F ht⟩) hS.2.2 d_Mo_got_37
set_option maxHeartbeats 4000000 in
set_option maxRecDepth 100000 in
theorem c_Mo_open_1 (l : Launch) (D : va_G) (E : Nat → ClassId) (La : la_L) {m0 : Nat} (hm : isMo E La m0) (mu : la_M) {cl u : Int32} (hc : cl < 1 ∨ 3 < cl) : cw l y_Mo_open b_Mo_open 3 (some .int) 1 21 D E La [.ref m0, .int cl, .int u] mu (some (.int 0)) (la_up mu m0 0 1) := by
  refine cw_begin R_Mo (by decide) rfl (Nat.le_of_ble_eq_true rfl) ?_
  intro p e s m below meth c ls Z hr hlocks hP hS hl
  have hx := Z.1
  have hb := Z.2.1
  have hK : va_K D cls5 (tyE E) s := Z.2.2.2.2.2
  have hl : lv_has ls 3 [(0, .ref m0), (1, .int cl), (2, .int u)] := hl
  refine lv_aload_n hx hb d_Mo_open_0 rfl (lv_at hl 0 rfl) ?_
  refine lv_iload_n hx hb d_Mo_open_1 rfl (lv_at hl 1 rfl) ?_
  refine cr_S Z ks_Mo_94 (c_Mo_isClient_n l D E La mu hc) hP [.ref m0] rfl rfl hl.1 (Nat.le_of_ble_eq_true rfl) ⟨by decide, by decide⟩ ⟨Nat.le_refl _, Nat.le_refl _⟩ d_Mo_open_2 ?_
  refine lv_if_eq (tgt := 12) hx hb d_Mo_open_5 rfl (fun br5 => ?_) (fun br5 => absurd (by decide) br5)
  refine lv_iconst (v := 1) hx hb d_Mo_open_12 (by decide) ?_
  refine p_f Z kc_Mo hP hS hm.1 rfl 0 (by decide) wl_Mo_56 rfl rfl ⟨rfl, rfl⟩ (Nat.le_of_ble_eq_true rfl) rfl d_Mo_open_13 (fun H locs hP hS => ?_)
  refine lv_aload_n hx hb d_Mo_open_16 rfl (lv_at hl 0 rfl) ?_
  refine g_i (v := 1) Z kc_Mo hP hm.1 rfl 0 (by decide) wl_Mo_56 rfl rfl la_up_s d_Mo_open_17 ?_
  refine lv_if_ne (tgt := 36) hx hb d_Mo_open_20 rfl (fun br20 => ?_) (fun br20 => absurd br20 (by decide))
  refine lv_iconst (v := 0) hx hb d_Mo_open_36 (by decide) ?_
  exact W.iret hx hb hr (fun t ht hW => ⟨rfl, by rw [ht]; exact cvm hP (rfl), hS.F ht⟩) hS.2.2 d_Mo_open_37
set_option maxHeartbeats 4000000 in
set_option maxRecDepth 100000 in
theorem c_Mo_open_0 (l : Launch) (D : va_G) (E : Nat → ClassId) (La : la_L) {m0 : Nat} (hm : isMo E La m0) (mu : la_M) {k : Nat} (hk : k < 3) {u : Int32} {L : Nat} (hL : L < 6) (hln : cr l y_Mo_line b_Mo_line 2 (some .int) 0 0 D E La [.int (nI (k + 1)), .int u] (la_up mu m0 0 0) (some (.int (nI L)))) : cw l y_Mo_open b_Mo_open 3 (some .int) 1 21 D E La [.ref m0, .int (nI (k + 1)), .int u] mu (some (.int (mu (m0 + 11) L))) (la_up mu m0 0 0) := by
  refine cw_begin R_Mo (by decide) rfl (Nat.le_of_ble_eq_true rfl) ?_
  intro p e s m below meth c ls Z hr hlocks hP hS hl
  have hx := Z.1
  have hb := Z.2.1
  have hK : va_K D cls5 (tyE E) s := Z.2.2.2.2.2
  have hl : lv_has ls 3 [(0, .ref m0), (1, .int (nI (k + 1))), (2, .int u)] := hl
  refine lv_aload_n hx hb d_Mo_open_0 rfl (lv_at hl 0 rfl) ?_
  refine lv_iload_n hx hb d_Mo_open_1 rfl (lv_at hl 1 rfl) ?_
  refine cr_S Z ks_Mo_94 (c_Mo_isClient_y l D E La mu hk) hP [.ref m0] rfl rfl hl.1 (Nat.le_of_ble_eq_true rfl) ⟨by decide, by decide⟩ ⟨Nat.le_refl _, Nat.le_refl _⟩ d_Mo_open_2 ?_
  refine lv_if_eq (tgt := 12) hx hb d_Mo_open_5 rfl (fun br5 => absurd br5 (by decide)) (fun br5 => ?_)
  refine lv_iconst (v := 0) hx hb d_Mo_open_8 (by decide) ?_
  refine lv_goto (tgt := 13) hx hb d_Mo_open_9 rfl ?_
  refine p_f Z kc_Mo hP hS hm.1 rfl 0 (by decide) wl_Mo_56 rfl rfl ⟨rfl, rfl⟩ (Nat.le_of_ble_eq_true rfl) rfl d_Mo_open_13 (fun H locs hP hS => ?_)
  refine lv_aload_n hx hb d_Mo_open_16 rfl (lv_at hl 0 rfl) ?_
  refine g_i (v := 0) Z kc_Mo hP hm.1 rfl 0 (by decide) wl_Mo_56 rfl rfl la_up_s d_Mo_open_17 ?_
  refine lv_if_ne (tgt := 36) hx hb d_Mo_open_20 rfl (fun br20 => absurd (rfl) br20) (fun br20 => ?_)
  refine lv_aload_n hx hb d_Mo_open_23 rfl (lv_at hl 0 rfl) ?_
  refine g_f (v := .ref (m0 + 11)) Z kc_Mo hP hm.1 rfl 11 (by decide) wl_Mo_41 rfl rfl d_Mo_open_24 ?_
  refine lv_iload_n hx hb d_Mo_open_27 rfl (lv_at hl 1 rfl) ?_
  refine lv_iload_n hx hb d_Mo_open_28 rfl (lv_at hl 2 rfl) ?_
  refine cr_S Z ks_Mo_87 (hln) hP [.ref (m0 + 11)] rfl rfl hl.1 (Nat.le_of_ble_eq_true rfl) ⟨by decide, by decide⟩ ⟨Nat.le_refl _, Nat.le_refl _⟩ d_Mo_open_29 ?_
  refine la_ialdv (v := (mu (m0 + 11) L)) hx hb hK hP 0 hm.2.2.2.2.2.2.2.2.2.2.2.1 rfl rfl L rfl hL (by decide) (congrFun (la_up_n (by omega)) L) d_Mo_open_32 ?_
  refine lv_goto (tgt := 37) hx hb d_Mo_open_33 rfl ?_
  exact W.iret hx hb hr (fun t ht hW => ⟨rfl, by rw [ht]; exact cvm hP (rfl), hS.F ht⟩) hS.2.2 d_Mo_open_37
set_option maxHeartbeats 4000000 in
set_option maxRecDepth 100000 in
theorem c_Mo_change_1 (l : Launch) (D : va_G) (E : Nat → ClassId) (La : la_L) {m0 : Nat} (hm : isMo E La m0) (mu : la_M) {cl u i9 : Int32} (hc : cl < 1 ∨ 3 < cl) : cw l y_Mo_change b_Mo_change 5 (some .int) 1 21 D E La [.ref m0, .int cl, .int u, .int i9] mu (some (.int 0)) (la_up mu m0 0 1) := by
  refine cw_begin R_Mo (by decide) rfl (Nat.le_of_ble_eq_true rfl) ?_
  intro p e s m below meth c ls Z hr hlocks hP hS hl
  have hx := Z.1
  have hb := Z.2.1
  have hK : va_K D cls5 (tyE E) s := Z.2.2.2.2.2
  have hl : lv_has ls 5 [(0, .ref m0), (1, .int cl), (2, .int u), (3, .int i9)] := hl
  refine lv_aload_n hx hb d_Mo_change_0 rfl (lv_at hl 0 rfl) ?_
  refine lv_iload_n hx hb d_Mo_change_1 rfl (lv_at hl 1 rfl) ?_
  refine cr_S Z ks_Mo_94 (c_Mo_isClient_n l D E La mu hc) hP [.ref m0] rfl rfl hl.1 (Nat.le_of_ble_eq_true rfl) ⟨by decide, by decide⟩ ⟨Nat.le_refl _, Nat.le_refl _⟩ d_Mo_change_2 ?_
  refine lv_if_ne (tgt := 12) hx hb d_Mo_change_5 rfl (fun br5 => absurd (rfl) br5) (fun br5 => ?_)
  refine lv_iconst (v := 1) hx hb d_Mo_change_8 (by decide) ?_
  refine lv_goto (tgt := 35) hx hb d_Mo_change_9 rfl ?_
  refine p_f Z kc_Mo hP hS hm.1 rfl 0 (by decide) wl_Mo_56 rfl rfl ⟨rfl, rfl⟩ (Nat.le_of_ble_eq_true rfl) rfl d_Mo_change_35 (fun H locs hP hS => ?_)
  refine lv_aload_n hx hb d_Mo_change_38 rfl (lv_at hl 0 rfl) ?_
  refine g_i (v := 1) Z kc_Mo hP hm.1 rfl 0 (by decide) wl_Mo_56 rfl rfl la_up_s d_Mo_change_39 ?_
  refine lv_if_eq (tgt := 47) hx hb d_Mo_change_42 rfl (fun br42 => absurd br42 (by decide)) (fun br42 => ?_)
  refine lv_iconst (v := 0) hx hb d_Mo_change_45 (by decide) ?_
  exact W.iret hx hb hr (fun t ht hW => ⟨rfl, by rw [ht]; exact cvm hP (rfl), hS.F ht⟩) hS.2.2 d_Mo_change_46
set_option maxHeartbeats 4000000 in
set_option maxRecDepth 100000 in
theorem c_Mo_change_2 (l : Launch) (D : va_G) (E : Nat → ClassId) (La : la_L) {m0 : Nat} (hm : isMo E La m0) (mu : la_M) {k : Nat} (hk : k < 3) {u : Int32} {L : Nat} (hL : L < 6) (hln : ∀ mu : la_M, cr l y_Mo_line b_Mo_line 2 (some .int) 0 0 D E La [.int (nI (k + 1)), .int u] mu (some (.int (nI L)))) {i9 : Int32} {o0 : Nat} (ho : mu (m0 + 11) L = nI o0) (hi : i9 < 0 ∨ nI o0 ≤ i9) : cw l y_Mo_change b_Mo_change 5 (some .int) 1 21 D E La [.ref m0, .int (nI (k + 1)), .int u, .int i9] mu (some (.int 0)) (la_up mu m0 0 2) := by
  refine cw_begin R_Mo (by decide) rfl (Nat.le_of_ble_eq_true rfl) ?_
  intro p e s m below meth c ls Z hr hlocks hP hS hl
  have hx := Z.1
  have hb := Z.2.1
  have hK : va_K D cls5 (tyE E) s := Z.2.2.2.2.2
  have hl : lv_has ls 5 [(0, .ref m0), (1, .int (nI (k + 1))), (2, .int u), (3, .int i9)] := hl
  refine lv_aload_n hx hb d_Mo_change_0 rfl (lv_at hl 0 rfl) ?_
  refine lv_iload_n hx hb d_Mo_change_1 rfl (lv_at hl 1 rfl) ?_
  refine cr_S Z ks_Mo_94 (c_Mo_isClient_y l D E La mu hk) hP [.ref m0] rfl rfl hl.1 (Nat.le_of_ble_eq_true rfl) ⟨by decide, by decide⟩ ⟨Nat.le_refl _, Nat.le_refl _⟩ d_Mo_change_2 ?_
  refine lv_if_ne (tgt := 12) hx hb d_Mo_change_5 rfl (fun br5 => ?_) (fun br5 => absurd br5 (by decide))
  refine lv_iload_n hx hb d_Mo_change_12 rfl (lv_at hl 3 rfl) ?_
  refine lv_if_lt (tgt := 30) hx hb d_Mo_change_13 rfl (fun br13 => ?_) (fun br13 => ?_)
  · skip
    refine lv_iconst (v := 2) hx hb d_Mo_change_30 (by decide) ?_
    refine lv_goto (tgt := 35) hx hb d_Mo_change_31 rfl ?_
    refine p_f Z kc_Mo hP hS hm.1 rfl 0 (by decide) wl_Mo_56 rfl rfl ⟨rfl, rfl⟩ (Nat.le_of_ble_eq_true rfl) rfl d_Mo_change_35 (fun H locs hP hS => ?_)
    refine lv_aload_n hx hb d_Mo_change_38 rfl (lv_at hl 0 rfl) ?_
    refine g_i (v := 2) Z kc_Mo hP hm.1 rfl 0 (by decide) wl_Mo_56 rfl rfl la_up_s d_Mo_change_39 ?_
    refine lv_if_eq (tgt := 47) hx hb d_Mo_change_42 rfl (fun br42 => absurd br42 (by decide)) (fun br42 => ?_)
    refine lv_iconst (v := 0) hx hb d_Mo_change_45 (by decide) ?_
    exact W.iret hx hb hr (fun t ht hW => ⟨rfl, by rw [ht]; exact cvm hP (rfl), hS.F ht⟩) hS.2.2 d_Mo_change_46
  · skip
    refine lv_iload_n hx hb d_Mo_change_16 rfl (lv_at hl 3 rfl) ?_
    refine lv_aload_n hx hb d_Mo_change_17 rfl (lv_at hl 0 rfl) ?_
    refine g_f (v := .ref (m0 + 11)) Z kc_Mo hP hm.1 rfl 11 (by decide) wl_Mo_41 rfl rfl d_Mo_change_18 ?_
    refine lv_iload_n hx hb d_Mo_change_21 rfl (lv_at hl 1 rfl) ?_
    refine lv_iload_n hx hb d_Mo_change_22 rfl (lv_at hl 2 rfl) ?_
    refine cr_S Z ks_Mo_87 (hln mu) hP [.ref (m0 + 11), .int i9, .ref m0] rfl rfl hl.1 (Nat.le_of_ble_eq_true rfl) ⟨by decide, by decide⟩ ⟨Nat.le_refl _, Nat.le_refl _⟩ d_Mo_change_23 ?_
    refine la_ialdv (v := (nI o0)) hx hb hK hP 0 hm.2.2.2.2.2.2.2.2.2.2.2.1 rfl rfl L rfl hL (by decide) ho d_Mo_change_26 ?_
    refine lv_icmp_lt (tgt := 34) hx hb d_Mo_change_27 rfl (fun br27 => absurd br27 (Int32.not_lt.mpr (hi.resolve_left br13))) (fun br27 => ?_)
    refine lv_iconst (v := 2) hx hb d_Mo_change_30 (by decide) ?_
    refine lv_goto (tgt := 35) hx hb d_Mo_change_31 rfl ?_
    refine p_f Z kc_Mo hP hS hm.1 rfl 0 (by decide) wl_Mo_56 rfl rfl ⟨rfl, rfl⟩ (Nat.le_of_ble_eq_true rfl) rfl d_Mo_change_35 (fun H locs hP hS => ?_)
    refine lv_aload_n hx hb d_Mo_change_38 rfl (lv_at hl 0 rfl) ?_
    refine g_i (v := 2) Z kc_Mo hP hm.1 rfl 0 (by decide) wl_Mo_56 rfl rfl la_up_s d_Mo_change_39 ?_
    refine lv_if_eq (tgt := 47) hx hb d_Mo_change_42 rfl (fun br42 => absurd br42 (by decide)) (fun br42 => ?_)
    refine lv_iconst (v := 0) hx hb d_Mo_change_45 (by decide) ?_
    exact W.iret hx hb hr (fun t ht hW => ⟨rfl, by rw [ht]; exact cvm hP (rfl), hS.F ht⟩) hS.2.2 d_Mo_change_46
set_option maxHeartbeats 4000000 in
set_option maxRecDepth 100000 in
theorem c_Mo_change_0n (l : Launch) (D : va_G) (E : Nat → ClassId) (La : la_L) {m0 : Nat} (hm : isMo E La m0) (mu : la_M) {k : Nat} (hk : k < 3) {u : Int32} {L : Nat} (hL : L < 6) (hln : ∀ mu : la_M, cr l y_Mo_line b_Mo_line 2 (some .int) 0 0 D E La [.int (nI (k + 1)), .int u] mu (some (.int (nI L)))) {i0 o0 : Nat} (ho : mu (m0 + 11) L = nI o0) (hi : i0 < o0) (ho4 : o0 < 40) (hk2 : mu (m0 + 12) (40 * L + i0) = 2) : cw l y_Mo_change b_Mo_change 5 (some .int) 1 21 D E La [.ref m0, .int (nI (k + 1)), .int u, .int (nI i0)] mu (some (.int (1000 * 2 + 0 + mu (m0 + 15) (40 * L + i0)))) (la_up mu m0 0 0) := by
  refine cw_begin R_Mo (by decide) rfl (Nat.le_of_ble_eq_true rfl) ?_
  intro p e s m below meth c ls Z hr hlocks hP hS hl
  have hx := Z.1
  have hb := Z.2.1
  have hK : va_K D cls5 (tyE E) s := Z.2.2.2.2.2
  have hl : lv_has ls 5 [(0, .ref m0), (1, .int (nI (k + 1))), (2, .int u), (3, .int (nI i0))] := hl
  refine lv_aload_n hx hb d_Mo_change_0 rfl (lv_at hl 0 rfl) ?_
  refine lv_iload_n hx hb d_Mo_change_1 rfl (lv_at hl 1 rfl) ?_
  refine cr_S Z ks_Mo_94 (c_Mo_isClient_y l D E La mu hk) hP [.ref m0] rfl rfl hl.1 (Nat.le_of_ble_eq_true rfl) ⟨by decide, by decide⟩ ⟨Nat.le_refl _, Nat.le_refl _⟩ d_Mo_change_2 ?_
  refine lv_if_ne (tgt := 12) hx hb d_Mo_change_5 rfl (fun br5 => ?_) (fun br5 => absurd br5 (by decide))
  refine lv_iload_n hx hb d_Mo_change_12 rfl (lv_at hl 3 rfl) ?_
  refine lv_if_lt (tgt := 30) hx hb d_Mo_change_13 rfl (fun br13 => absurd br13 (nI_pos (by omega))) (fun br13 => ?_)
  refine lv_iload_n hx hb d_Mo_change_16 rfl (lv_at hl 3 rfl) ?_
  refine lv_aload_n hx hb d_Mo_change_17 rfl (lv_at hl 0 rfl) ?_
  refine g_f (v := .ref (m0 + 11)) Z kc_Mo hP hm.1 rfl 11 (by decide) wl_Mo_41 rfl rfl d_Mo_change_18 ?_
  refine lv_iload_n hx hb d_Mo_change_21 rfl (lv_at hl 1 rfl) ?_
  refine lv_iload_n hx hb d_Mo_change_22 rfl (lv_at hl 2 rfl) ?_
  refine cr_S Z ks_Mo_87 (hln mu) hP [.ref (m0 + 11), .int (nI i0), .ref m0] rfl rfl hl.1 (Nat.le_of_ble_eq_true rfl) ⟨by decide, by decide⟩ ⟨Nat.le_refl _, Nat.le_refl _⟩ d_Mo_change_23 ?_
  refine la_ialdv (v := (nI o0)) hx hb hK hP 0 hm.2.2.2.2.2.2.2.2.2.2.2.1 rfl rfl L rfl hL (by decide) ho d_Mo_change_26 ?_
  refine lv_icmp_lt (tgt := 34) hx hb d_Mo_change_27 rfl (fun br27 => ?_) (fun br27 => absurd (nI_lt hi (by omega)) br27)
  refine lv_iconst (v := 0) hx hb d_Mo_change_34 (by decide) ?_
  refine p_f Z kc_Mo hP hS hm.1 rfl 0 (by decide) wl_Mo_56 rfl rfl ⟨rfl, rfl⟩ (Nat.le_of_ble_eq_true rfl) rfl d_Mo_change_35 (fun H locs hP hS => ?_)
  refine lv_aload_n hx hb d_Mo_change_38 rfl (lv_at hl 0 rfl) ?_
  refine g_i (v := 0) Z kc_Mo hP hm.1 rfl 0 (by decide) wl_Mo_56 rfl rfl la_up_s d_Mo_change_39 ?_
  refine lv_if_eq (tgt := 47) hx hb d_Mo_change_42 rfl (fun br42 => ?_) (fun br42 => absurd (by decide) br42)
  refine lv_bipush (v := 40) hx hb d_Mo_change_47 (by decide) ?_
  refine lv_iload_n hx hb d_Mo_change_49 rfl (lv_at hl 1 rfl) ?_
  refine lv_iload_n hx hb d_Mo_change_50 rfl (lv_at hl 2 rfl) ?_
  refine cr_S Z ks_Mo_87 (hln (la_up mu m0 0 0)) hP [.int 40] rfl rfl hl.1 (Nat.le_of_ble_eq_true rfl) ⟨by decide, by decide⟩ ⟨Nat.le_refl _, Nat.le_refl _⟩ d_Mo_change_51 ?_
  refine lv_imul hx hb d_Mo_change_54 ?_
  rw [show (40 : Int32) * nI L = nI (40 * L) from pk_mul 40 L]
  refine lv_iload_n hx hb d_Mo_change_55 rfl (lv_at hl 3 rfl) ?_
  refine lv_iadd hx hb d_Mo_change_56 ?_
  rw [nI_add]
  refine lv_istore hx hb d_Mo_change_57 hl (by decide) rfl (fun ls hl => ?_)
  have hl : lv_has ls 5 [(4, .int (nI (40 * L + i0))), (0, .ref m0), (1, .int (nI (k + 1))), (2, .int u), (3, .int (nI i0))] := hl
  refine lv_sipush (v := 1000) hx hb d_Mo_change_59 (by decide) ?_
  refine lv_aload_n hx hb d_Mo_change_62 rfl (lv_at hl 1 rfl) ?_
  refine g_f (v := .ref (m0 + 12)) Z kc_Mo hP hm.1 rfl 12 (by decide) wl_Mo_44 rfl rfl d_Mo_change_63 ?_
  refine lv_iload hx hb d_Mo_change_66 (lv_at hl 0 rfl) ?_
  refine la_ialdv (v := 2) hx hb hK hP 0 hm.2.2.2.2.2.2.2.2.2.2.2.2.1 rfl rfl (40 * L + i0) rfl (by omega) (by decide) ((congrFun (la_up_n (by omega)) (40 * L + i0)).trans hk2) d_Mo_change_68 ?_
  refine lv_imul hx hb d_Mo_change_69 ?_
  refine lv_aload_n hx hb d_Mo_change_70 rfl (lv_at hl 1 rfl) ?_
  refine g_f (v := .ref (m0 + 12)) Z kc_Mo hP hm.1 rfl 12 (by decide) wl_Mo_44 rfl rfl d_Mo_change_71 ?_
  refine lv_iload hx hb d_Mo_change_74 (lv_at hl 0 rfl) ?_
  refine la_ialdv (v := 2) hx hb hK hP 0 hm.2.2.2.2.2.2.2.2.2.2.2.2.1 rfl rfl (40 * L + i0) rfl (by omega) (by decide) ((congrFun (la_up_n (by omega)) (40 * L + i0)).trans hk2) d_Mo_change_76 ?_
  refine lv_iconst (v := 2) hx hb d_Mo_change_77 (by decide) ?_
  refine lv_icmp_ne (tgt := 85) hx hb d_Mo_change_78 rfl (fun br78 => absurd (rfl) br78) (fun br78 => ?_)
  refine lv_iconst (v := 0) hx hb d_Mo_change_81 (by decide) ?_
  refine lv_goto (tgt := 95) hx hb d_Mo_change_82 rfl ?_
  refine lv_iadd hx hb d_Mo_change_95 ?_
  refine lv_aload_n hx hb d_Mo_change_96 rfl (lv_at hl 1 rfl) ?_
  refine g_f (v := .ref (m0 + 15)) Z kc_Mo hP hm.1 rfl 15 (by decide) wl_Mo_53 rfl rfl d_Mo_change_97 ?_
  refine lv_iload hx hb d_Mo_change_100 (lv_at hl 0 rfl) ?_
  refine la_ialdv (v := (mu (m0 + 15) (40 * L + i0))) hx hb hK hP 0 hm.2.2.2.2.2.2.2.2.2.2.2.2.2.2.2 rfl rfl (40 * L + i0) rfl (by omega) (by decide) (congrFun (la_up_n (by omega)) (40 * L + i0)) d_Mo_change_102 ?_
  refine lv_iadd hx hb d_Mo_change_103 ?_
  exact W.iret hx hb hr (fun t ht hW => ⟨rfl, by rw [ht]; exact cvm hP (rfl), hS.F ht⟩) hS.2.2 d_Mo_change_104
set_option maxHeartbeats 4000000 in
set_option maxRecDepth 100000 in
theorem c_Mo_change_0k (l : Launch) (D : va_G) (E : Nat → ClassId) (La : la_L) {m0 : Nat} (hm : isMo E La m0) (mu : la_M) {k : Nat} (hk : k < 3) {u : Int32} {L : Nat} (hL : L < 6) (hln : ∀ mu : la_M, cr l y_Mo_line b_Mo_line 2 (some .int) 0 0 D E La [.int (nI (k + 1)), .int u] mu (some (.int (nI L)))) {i0 o0 : Nat} (ho : mu (m0 + 11) L = nI o0) (hi : i0 < o0) (ho4 : o0 < 40) (hk2 : ¬ mu (m0 + 12) (40 * L + i0) = 2) : cw l y_Mo_change b_Mo_change 5 (some .int) 1 21 D E La [.ref m0, .int (nI (k + 1)), .int u, .int (nI i0)] mu (some (.int (1000 * mu (m0 + 12) (40 * L + i0) + 10 * mu (m0 + 13) (40 * L + i0) + mu (m0 + 15) (40 * L + i0)))) (la_up mu m0 0 0) := by
  refine cw_begin R_Mo (by decide) rfl (Nat.le_of_ble_eq_true rfl) ?_
  intro p e s m below meth c ls Z hr hlocks hP hS hl
  have hx := Z.1
  have hb := Z.2.1
  have hK : va_K D cls5 (tyE E) s := Z.2.2.2.2.2
  have hl : lv_has ls 5 [(0, .ref m0), (1, .int (nI (k + 1))), (2, .int u), (3, .int (nI i0))] := hl
  refine lv_aload_n hx hb d_Mo_change_0 rfl (lv_at hl 0 rfl) ?_
  refine lv_iload_n hx hb d_Mo_change_1 rfl (lv_at hl 1 rfl) ?_
  refine cr_S Z ks_Mo_94 (c_Mo_isClient_y l D E La mu hk) hP [.ref m0] rfl rfl hl.1 (Nat.le_of_ble_eq_true rfl) ⟨by decide, by decide⟩ ⟨Nat.le_refl _, Nat.le_refl _⟩ d_Mo_change_2 ?_
  refine lv_if_ne (tgt := 12) hx hb d_Mo_change_5 rfl (fun br5 => ?_) (fun br5 => absurd br5 (by decide))
  refine lv_iload_n hx hb d_Mo_change_12 rfl (lv_at hl 3 rfl) ?_
  refine lv_if_lt (tgt := 30) hx hb d_Mo_change_13 rfl (fun br13 => absurd br13 (nI_pos (by omega))) (fun br13 => ?_)
  refine lv_iload_n hx hb d_Mo_change_16 rfl (lv_at hl 3 rfl) ?_
  refine lv_aload_n hx hb d_Mo_change_17 rfl (lv_at hl 0 rfl) ?_
  refine g_f (v := .ref (m0 + 11)) Z kc_Mo hP hm.1 rfl 11 (by decide) wl_Mo_41 rfl rfl d_Mo_change_18 ?_
  refine lv_iload_n hx hb d_Mo_change_21 rfl (lv_at hl 1 rfl) ?_
  refine lv_iload_n hx hb d_Mo_change_22 rfl (lv_at hl 2 rfl) ?_
  refine cr_S Z ks_Mo_87 (hln mu) hP [.ref (m0 + 11), .int (nI i0), .ref m0] rfl rfl hl.1 (Nat.le_of_ble_eq_true rfl) ⟨by decide, by decide⟩ ⟨Nat.le_refl _, Nat.le_refl _⟩ d_Mo_change_23 ?_
  refine la_ialdv (v := (nI o0)) hx hb hK hP 0 hm.2.2.2.2.2.2.2.2.2.2.2.1 rfl rfl L rfl hL (by decide) ho d_Mo_change_26 ?_
  refine lv_icmp_lt (tgt := 34) hx hb d_Mo_change_27 rfl (fun br27 => ?_) (fun br27 => absurd (nI_lt hi (by omega)) br27)
  refine lv_iconst (v := 0) hx hb d_Mo_change_34 (by decide) ?_
  refine p_f Z kc_Mo hP hS hm.1 rfl 0 (by decide) wl_Mo_56 rfl rfl ⟨rfl, rfl⟩ (Nat.le_of_ble_eq_true rfl) rfl d_Mo_change_35 (fun H locs hP hS => ?_)
  refine lv_aload_n hx hb d_Mo_change_38 rfl (lv_at hl 0 rfl) ?_
  refine g_i (v := 0) Z kc_Mo hP hm.1 rfl 0 (by decide) wl_Mo_56 rfl rfl la_up_s d_Mo_change_39 ?_
  refine lv_if_eq (tgt := 47) hx hb d_Mo_change_42 rfl (fun br42 => ?_) (fun br42 => absurd (by decide) br42)
  refine lv_bipush (v := 40) hx hb d_Mo_change_47 (by decide) ?_
  refine lv_iload_n hx hb d_Mo_change_49 rfl (lv_at hl 1 rfl) ?_
  refine lv_iload_n hx hb d_Mo_change_50 rfl (lv_at hl 2 rfl) ?_
  refine cr_S Z ks_Mo_87 (hln (la_up mu m0 0 0)) hP [.int 40] rfl rfl hl.1 (Nat.le_of_ble_eq_true rfl) ⟨by decide, by decide⟩ ⟨Nat.le_refl _, Nat.le_refl _⟩ d_Mo_change_51 ?_
  refine lv_imul hx hb d_Mo_change_54 ?_
  rw [show (40 : Int32) * nI L = nI (40 * L) from pk_mul 40 L]
  refine lv_iload_n hx hb d_Mo_change_55 rfl (lv_at hl 3 rfl) ?_
  refine lv_iadd hx hb d_Mo_change_56 ?_
  rw [nI_add]
  refine lv_istore hx hb d_Mo_change_57 hl (by decide) rfl (fun ls hl => ?_)
  have hl : lv_has ls 5 [(4, .int (nI (40 * L + i0))), (0, .ref m0), (1, .int (nI (k + 1))), (2, .int u), (3, .int (nI i0))] := hl
  refine lv_sipush (v := 1000) hx hb d_Mo_change_59 (by decide) ?_
  refine lv_aload_n hx hb d_Mo_change_62 rfl (lv_at hl 1 rfl) ?_
  refine g_f (v := .ref (m0 + 12)) Z kc_Mo hP hm.1 rfl 12 (by decide) wl_Mo_44 rfl rfl d_Mo_change_63 ?_
  refine lv_iload hx hb d_Mo_change_66 (lv_at hl 0 rfl) ?_
  refine la_ialdv (v := (mu (m0 + 12) (40 * L + i0))) hx hb hK hP 0 hm.2.2.2.2.2.2.2.2.2.2.2.2.1 rfl rfl (40 * L + i0) rfl (by omega) (by decide) (congrFun (la_up_n (by omega)) (40 * L + i0)) d_Mo_change_68 ?_
  refine lv_imul hx hb d_Mo_change_69 ?_
  refine lv_aload_n hx hb d_Mo_change_70 rfl (lv_at hl 1 rfl) ?_
  refine g_f (v := .ref (m0 + 12)) Z kc_Mo hP hm.1 rfl 12 (by decide) wl_Mo_44 rfl rfl d_Mo_change_71 ?_
  refine lv_iload hx hb d_Mo_change_74 (lv_at hl 0 rfl) ?_
  refine la_ialdv (v := (mu (m0 + 12) (40 * L + i0))) hx hb hK hP 0 hm.2.2.2.2.2.2.2.2.2.2.2.2.1 rfl rfl (40 * L + i0) rfl (by omega) (by decide) (congrFun (la_up_n (by omega)) (40 * L + i0)) d_Mo_change_76 ?_
  refine lv_iconst (v := 2) hx hb d_Mo_change_77 (by decide) ?_
  refine lv_icmp_ne (tgt := 85) hx hb d_Mo_change_78 rfl (fun br78 => ?_) (fun br78 => absurd br78 (hk2))
  refine lv_bipush (v := 10) hx hb d_Mo_change_85 (by decide) ?_
  refine lv_aload_n hx hb d_Mo_change_87 rfl (lv_at hl 1 rfl) ?_
  refine g_f (v := .ref (m0 + 13)) Z kc_Mo hP hm.1 rfl 13 (by decide) wl_Mo_47 rfl rfl d_Mo_change_88 ?_
  refine lv_iload hx hb d_Mo_change_91 (lv_at hl 0 rfl) ?_
  refine la_ialdv (v := (mu (m0 + 13) (40 * L + i0))) hx hb hK hP 0 hm.2.2.2.2.2.2.2.2.2.2.2.2.2.1 rfl rfl (40 * L + i0) rfl (by omega) (by decide) (congrFun (la_up_n (by omega)) (40 * L + i0)) d_Mo_change_93 ?_
  refine lv_imul hx hb d_Mo_change_94 ?_
  refine lv_iadd hx hb d_Mo_change_95 ?_
  refine lv_aload_n hx hb d_Mo_change_96 rfl (lv_at hl 1 rfl) ?_
  refine g_f (v := .ref (m0 + 15)) Z kc_Mo hP hm.1 rfl 15 (by decide) wl_Mo_53 rfl rfl d_Mo_change_97 ?_
  refine lv_iload hx hb d_Mo_change_100 (lv_at hl 0 rfl) ?_
  refine la_ialdv (v := (mu (m0 + 15) (40 * L + i0))) hx hb hK hP 0 hm.2.2.2.2.2.2.2.2.2.2.2.2.2.2.2 rfl rfl (40 * L + i0) rfl (by omega) (by decide) (congrFun (la_up_n (by omega)) (40 * L + i0)) d_Mo_change_102 ?_
  refine lv_iadd hx hb d_Mo_change_103 ?_
  exact W.iret hx hb hr (fun t ht hW => ⟨rfl, by rw [ht]; exact cvm hP (rfl), hS.F ht⟩) hS.2.2 d_Mo_change_104
set_option maxHeartbeats 4000000 in
set_option maxRecDepth 100000 in
theorem c_Mo_size_1 (l : Launch) (D : va_G) (E : Nat → ClassId) (La : la_L) {m0 : Nat} (hm : isMo E La m0) (mu : la_M) {cl : Int32} (hc : cl < 0 ∨ 3 < cl) : cw l y_Mo_size b_Mo_size 2 (some .int) 1 20 D E La [.ref m0, .int cl] mu (some (.int 0)) (la_up mu m0 0 1) := by
  refine cw_begin R_Mo (by decide) rfl (Nat.le_of_ble_eq_true rfl) ?_
  intro p e s m below meth c ls Z hr hlocks hP hS hl
  have hx := Z.1
  have hb := Z.2.1
  have hK : va_K D cls5 (tyE E) s := Z.2.2.2.2.2
  have hl : lv_has ls 2 [(0, .ref m0), (1, .int cl)] := hl
  refine lv_aload_n hx hb d_Mo_size_0 rfl (lv_at hl 0 rfl) ?_
  refine lv_iload_n hx hb d_Mo_size_1 rfl (lv_at hl 1 rfl) ?_
  refine cr_S Z ks_Mo_109 (c_Mo_isSite_n l D E La mu hc) hP [.ref m0] rfl rfl hl.1 (Nat.le_of_ble_eq_true rfl) ⟨by decide, by decide⟩ ⟨Nat.le_refl _, Nat.le_refl _⟩ d_Mo_size_2 ?_
  refine lv_if_eq (tgt := 12) hx hb d_Mo_size_5 rfl (fun br5 => ?_) (fun br5 => absurd (by decide) br5)
  refine lv_iconst (v := 1) hx hb d_Mo_size_12 (by decide) ?_
  refine p_f Z kc_Mo hP hS hm.1 rfl 0 (by decide) wl_Mo_56 rfl rfl ⟨rfl, rfl⟩ (Nat.le_of_ble_eq_true rfl) rfl d_Mo_size_13 (fun H locs hP hS => ?_)
  refine lv_aload_n hx hb d_Mo_size_16 rfl (lv_at hl 0 rfl) ?_
  refine g_i (v := 1) Z kc_Mo hP hm.1 rfl 0 (by decide) wl_Mo_56 rfl rfl la_up_s d_Mo_size_17 ?_
  refine lv_if_ne (tgt := 32) hx hb d_Mo_size_20 rfl (fun br20 => ?_) (fun br20 => absurd br20 (by decide))
  refine lv_iconst (v := 0) hx hb d_Mo_size_32 (by decide) ?_
  exact W.iret hx hb hr (fun t ht hW => ⟨rfl, by rw [ht]; exact cvm hP (rfl), hS.F ht⟩) hS.2.2 d_Mo_size_33
set_option maxHeartbeats 4000000 in
set_option maxRecDepth 100000 in
theorem c_Mo_size_0 (l : Launch) (D : va_G) (E : Nat → ClassId) (La : la_L) {m0 : Nat} (hm : isMo E La m0) (mu : la_M) {k : Nat} (hk : k < 4) : cw l y_Mo_size b_Mo_size 2 (some .int) 1 20 D E La [.ref m0, .int (nI k)] mu (some (.int (mu (m0 + 1) k))) (la_up mu m0 0 0) := by
  refine cw_begin R_Mo (by decide) rfl (Nat.le_of_ble_eq_true rfl) ?_
  intro p e s m below meth c ls Z hr hlocks hP hS hl
  have hx := Z.1
  have hb := Z.2.1
  have hK : va_K D cls5 (tyE E) s := Z.2.2.2.2.2
  have hl : lv_has ls 2 [(0, .ref m0), (1, .int (nI k))] := hl
  refine lv_aload_n hx hb d_Mo_size_0 rfl (lv_at hl 0 rfl) ?_
  refine lv_iload_n hx hb d_Mo_size_1 rfl (lv_at hl 1 rfl) ?_
  refine cr_S Z ks_Mo_109 (c_Mo_isSite_y l D E La mu hk) hP [.ref m0] rfl rfl hl.1 (Nat.le_of_ble_eq_true rfl) ⟨by decide, by decide⟩ ⟨Nat.le_refl _, Nat.le_refl _⟩ d_Mo_size_2 ?_
  refine lv_if_eq (tgt := 12) hx hb d_Mo_size_5 rfl (fun br5 => absurd br5 (by decide)) (fun br5 => ?_)
  refine lv_iconst (v := 0) hx hb d_Mo_size_8 (by decide) ?_
  refine lv_goto (tgt := 13) hx hb d_Mo_size_9 rfl ?_
  refine p_f Z kc_Mo hP hS hm.1 rfl 0 (by decide) wl_Mo_56 rfl rfl ⟨rfl, rfl⟩ (Nat.le_of_ble_eq_true rfl) rfl d_Mo_size_13 (fun H locs hP hS => ?_)
  refine lv_aload_n hx hb d_Mo_size_16 rfl (lv_at hl 0 rfl) ?_
  refine g_i (v := 0) Z kc_Mo hP hm.1 rfl 0 (by decide) wl_Mo_56 rfl rfl la_up_s d_Mo_size_17 ?_
  refine lv_if_ne (tgt := 32) hx hb d_Mo_size_20 rfl (fun br20 => absurd (rfl) br20) (fun br20 => ?_)
  refine lv_aload_n hx hb d_Mo_size_23 rfl (lv_at hl 0 rfl) ?_
  refine g_f (v := .ref (m0 + 1)) Z kc_Mo hP hm.1 rfl 1 (by decide) wl_Mo_7 rfl rfl d_Mo_size_24 ?_
  refine lv_iload_n hx hb d_Mo_size_27 rfl (lv_at hl 1 rfl) ?_
  refine la_ialdv (v := (mu (m0 + 1) k)) hx hb hK hP 0 hm.2.1 rfl rfl k rfl hk (by decide) (congrFun (la_up_n (by omega)) k) d_Mo_size_28 ?_
  refine lv_goto (tgt := 33) hx hb d_Mo_size_29 rfl ?_
  exact W.iret hx hb hr (fun t ht hW => ⟨rfl, by rw [ht]; exact cvm hP (rfl), hS.F ht⟩) hS.2.2 d_Mo_size_33
set_option maxHeartbeats 4000000 in
set_option maxRecDepth 100000 in
theorem c_Mo_letter_1 (l : Launch) (D : va_G) (E : Nat → ClassId) (La : la_L) {m0 : Nat} (hm : isMo E La m0) (mu : la_M) {cl at0 : Int32} (hc : cl < 0 ∨ 3 < cl) : cw l y_Mo_letter b_Mo_letter 3 (some .int) 1 20 D E La [.ref m0, .int cl, .int at0] mu (some (.int 0)) (la_up mu m0 0 1) := by
  refine cw_begin R_Mo (by decide) rfl (Nat.le_of_ble_eq_true rfl) ?_
  intro p e s m below meth c ls Z hr hlocks hP hS hl
  have hx := Z.1
  have hb := Z.2.1
  have hK : va_K D cls5 (tyE E) s := Z.2.2.2.2.2
  have hl : lv_has ls 3 [(0, .ref m0), (1, .int cl), (2, .int at0)] := hl
  refine lv_aload_n hx hb d_Mo_letter_0 rfl (lv_at hl 0 rfl) ?_
  refine lv_iload_n hx hb d_Mo_letter_1 rfl (lv_at hl 1 rfl) ?_
  refine cr_S Z ks_Mo_109 (c_Mo_isSite_n l D E La mu hc) hP [.ref m0] rfl rfl hl.1 (Nat.le_of_ble_eq_true rfl) ⟨by decide, by decide⟩ ⟨Nat.le_refl _, Nat.le_refl _⟩ d_Mo_letter_2 ?_
  refine lv_if_ne (tgt := 12) hx hb d_Mo_letter_5 rfl (fun br5 => absurd (rfl) br5) (fun br5 => ?_)
  refine lv_iconst (v := 1) hx hb d_Mo_letter_8 (by decide) ?_
  refine lv_goto (tgt := 31) hx hb d_Mo_letter_9 rfl ?_
  refine p_f Z kc_Mo hP hS hm.1 rfl 0 (by decide) wl_Mo_56 rfl rfl ⟨rfl, rfl⟩ (Nat.le_of_ble_eq_true rfl) rfl d_Mo_letter_31 (fun H locs hP hS => ?_)
  refine lv_aload_n hx hb d_Mo_letter_34 rfl (lv_at hl 0 rfl) ?_
  refine g_i (v := 1) Z kc_Mo hP hm.1 rfl 0 (by decide) wl_Mo_56 rfl rfl la_up_s d_Mo_letter_35 ?_
  refine lv_if_ne (tgt := 56) hx hb d_Mo_letter_38 rfl (fun br38 => ?_) (fun br38 => absurd br38 (by decide))
  refine lv_iconst (v := 0) hx hb d_Mo_letter_56 (by decide) ?_
  exact W.iret hx hb hr (fun t ht hW => ⟨rfl, by rw [ht]; exact cvm hP (rfl), hS.F ht⟩) hS.2.2 d_Mo_letter_57
set_option maxHeartbeats 4000000 in
set_option maxRecDepth 100000 in
theorem c_Mo_letter_2 (l : Launch) (D : va_G) (E : Nat → ClassId) (La : la_L) {m0 : Nat} (hm : isMo E La m0) (mu : la_M) {k n : Nat} {at0 : Int32} (hk : k < 4) (hn : mu (m0 + 1) k = nI n) (hat : at0 < 0 ∨ nI n ≤ at0) : cw l y_Mo_letter b_Mo_letter 3 (some .int) 1 20 D E La [.ref m0, .int (nI k), .int at0] mu (some (.int 0)) (la_up mu m0 0 2) := by
  refine cw_begin R_Mo (by decide) rfl (Nat.le_of_ble_eq_true rfl) ?_
  intro p e s m below meth c ls Z hr hlocks hP hS hl
  have hx := Z.1
  have hb := Z.2.1
  have hK : va_K D cls5 (tyE E) s := Z.2.2.2.2.2
  have hl : lv_has ls 3 [(0, .ref m0), (1, .int (nI k)), (2, .int at0)] := hl
  refine lv_aload_n hx hb d_Mo_letter_0 rfl (lv_at hl 0 rfl) ?_
  refine lv_iload_n hx hb d_Mo_letter_1 rfl (lv_at hl 1 rfl) ?_
  refine cr_S Z ks_Mo_109 (c_Mo_isSite_y l D E La mu hk) hP [.ref m0] rfl rfl hl.1 (Nat.le_of_ble_eq_true rfl) ⟨by decide, by decide⟩ ⟨Nat.le_refl _, Nat.le_refl _⟩ d_Mo_letter_2 ?_
  refine lv_if_ne (tgt := 12) hx hb d_Mo_letter_5 rfl (fun br5 => ?_) (fun br5 => absurd br5 (by decide))
  refine lv_iload_n hx hb d_Mo_letter_12 rfl (lv_at hl 2 rfl) ?_
  refine lv_if_lt (tgt := 26) hx hb d_Mo_letter_13 rfl (fun br13 => ?_) (fun br13 => ?_)
  · skip
    refine lv_iconst (v := 2) hx hb d_Mo_letter_26 (by decide) ?_
    refine lv_goto (tgt := 31) hx hb d_Mo_letter_27 rfl ?_
    refine p_f Z kc_Mo hP hS hm.1 rfl 0 (by decide) wl_Mo_56 rfl rfl ⟨rfl, rfl⟩ (Nat.le_of_ble_eq_true rfl) rfl d_Mo_letter_31 (fun H locs hP hS => ?_)
    refine lv_aload_n hx hb d_Mo_letter_34 rfl (lv_at hl 0 rfl) ?_
    refine g_i (v := 2) Z kc_Mo hP hm.1 rfl 0 (by decide) wl_Mo_56 rfl rfl la_up_s d_Mo_letter_35 ?_
    refine lv_if_ne (tgt := 56) hx hb d_Mo_letter_38 rfl (fun br38 => ?_) (fun br38 => absurd br38 (by decide))
    refine lv_iconst (v := 0) hx hb d_Mo_letter_56 (by decide) ?_
    exact W.iret hx hb hr (fun t ht hW => ⟨rfl, by rw [ht]; exact cvm hP (rfl), hS.F ht⟩) hS.2.2 d_Mo_letter_57
  · skip
    refine lv_iload_n hx hb d_Mo_letter_16 rfl (lv_at hl 2 rfl) ?_
    refine lv_aload_n hx hb d_Mo_letter_17 rfl (lv_at hl 0 rfl) ?_
    refine g_f (v := .ref (m0 + 1)) Z kc_Mo hP hm.1 rfl 1 (by decide) wl_Mo_7 rfl rfl d_Mo_letter_18 ?_
    refine lv_iload_n hx hb d_Mo_letter_21 rfl (lv_at hl 1 rfl) ?_
    refine la_ialdv (v := (nI n)) hx hb hK hP 0 hm.2.1 rfl rfl k rfl hk (by decide) hn d_Mo_letter_22 ?_
    refine lv_icmp_lt (tgt := 30) hx hb d_Mo_letter_23 rfl (fun br23 => absurd br23 (Int32.not_lt.mpr (hat.resolve_left br13))) (fun br23 => ?_)
    refine lv_iconst (v := 2) hx hb d_Mo_letter_26 (by decide) ?_
    refine lv_goto (tgt := 31) hx hb d_Mo_letter_27 rfl ?_
    refine p_f Z kc_Mo hP hS hm.1 rfl 0 (by decide) wl_Mo_56 rfl rfl ⟨rfl, rfl⟩ (Nat.le_of_ble_eq_true rfl) rfl d_Mo_letter_31 (fun H locs hP hS => ?_)
    refine lv_aload_n hx hb d_Mo_letter_34 rfl (lv_at hl 0 rfl) ?_
    refine g_i (v := 2) Z kc_Mo hP hm.1 rfl 0 (by decide) wl_Mo_56 rfl rfl la_up_s d_Mo_letter_35 ?_
    refine lv_if_ne (tgt := 56) hx hb d_Mo_letter_38 rfl (fun br38 => ?_) (fun br38 => absurd br38 (by decide))
    refine lv_iconst (v := 0) hx hb d_Mo_letter_56 (by decide) ?_
    exact W.iret hx hb hr (fun t ht hW => ⟨rfl, by rw [ht]; exact cvm hP (rfl), hS.F ht⟩) hS.2.2 d_Mo_letter_57
set_option maxHeartbeats 4000000 in
set_option maxRecDepth 100000 in
theorem c_Mo_letter_0 (l : Launch) (D : va_G) (E : Nat → ClassId) (La : la_L) {m0 : Nat} (hm : isMo E La m0) (mu : la_M) {k n q : Nat} (hk : k < 4) (hn : mu (m0 + 1) k = nI n) (hq : q < n) (h64 : n ≤ 64) : cw l y_Mo_letter b_Mo_letter 3 (some .int) 1 20 D E La [.ref m0, .int (nI k), .int (nI q)] mu (some (.int (mu (m0 + 2) (200 * k + q)))) (la_up mu m0 0 0) := by
  refine cw_begin R_Mo (by decide) rfl (Nat.le_of_ble_eq_true rfl) ?_
  intro p e s m below meth c ls Z hr hlocks hP hS hl
  have hx := Z.1
  have hb := Z.2.1
  have hK : va_K D cls5 (tyE E) s := Z.2.2.2.2.2
  have hl : lv_has ls 3 [(0, .ref m0), (1, .int (nI k)), (2, .int (nI q))] := hl
  refine lv_aload_n hx hb d_Mo_letter_0 rfl (lv_at hl 0 rfl) ?_
  refine lv_iload_n hx hb d_Mo_letter_1 rfl (lv_at hl 1 rfl) ?_
  refine cr_S Z ks_Mo_109 (c_Mo_isSite_y l D E La mu hk) hP [.ref m0] rfl rfl hl.1 (Nat.le_of_ble_eq_true rfl) ⟨by decide, by decide⟩ ⟨Nat.le_refl _, Nat.le_refl _⟩ d_Mo_letter_2 ?_
  refine lv_if_ne (tgt := 12) hx hb d_Mo_letter_5 rfl (fun br5 => ?_) (fun br5 => absurd br5 (by decide))
  refine lv_iload_n hx hb d_Mo_letter_12 rfl (lv_at hl 2 rfl) ?_
  refine lv_if_lt (tgt := 26) hx hb d_Mo_letter_13 rfl (fun br13 => absurd br13 (nI_pos (by omega))) (fun br13 => ?_)
  refine lv_iload_n hx hb d_Mo_letter_16 rfl (lv_at hl 2 rfl) ?_
  refine lv_aload_n hx hb d_Mo_letter_17 rfl (lv_at hl 0 rfl) ?_
  refine g_f (v := .ref (m0 + 1)) Z kc_Mo hP hm.1 rfl 1 (by decide) wl_Mo_7 rfl rfl d_Mo_letter_18 ?_
  refine lv_iload_n hx hb d_Mo_letter_21 rfl (lv_at hl 1 rfl) ?_
  refine la_ialdv (v := (nI n)) hx hb hK hP 0 hm.2.1 rfl rfl k rfl hk (by decide) hn d_Mo_letter_22 ?_
  refine lv_icmp_lt (tgt := 30) hx hb d_Mo_letter_23 rfl (fun br23 => ?_) (fun br23 => absurd (nI_lt hq (by omega)) br23)
  refine lv_iconst (v := 0) hx hb d_Mo_letter_30 (by decide) ?_
  refine p_f Z kc_Mo hP hS hm.1 rfl 0 (by decide) wl_Mo_56 rfl rfl ⟨rfl, rfl⟩ (Nat.le_of_ble_eq_true rfl) rfl d_Mo_letter_31 (fun H locs hP hS => ?_)
  refine lv_aload_n hx hb d_Mo_letter_34 rfl (lv_at hl 0 rfl) ?_
  refine g_i (v := 0) Z kc_Mo hP hm.1 rfl 0 (by decide) wl_Mo_56 rfl rfl la_up_s d_Mo_letter_35 ?_
  refine lv_if_ne (tgt := 56) hx hb d_Mo_letter_38 rfl (fun br38 => absurd (rfl) br38) (fun br38 => ?_)
  refine lv_aload_n hx hb d_Mo_letter_41 rfl (lv_at hl 0 rfl) ?_
  refine g_f (v := .ref (m0 + 2)) Z kc_Mo hP hm.1 rfl 2 (by decide) wl_Mo_13 rfl rfl d_Mo_letter_42 ?_
  refine lv_sipush (v := 200) hx hb d_Mo_letter_45 (by decide) ?_
  refine lv_iload_n hx hb d_Mo_letter_48 rfl (lv_at hl 1 rfl) ?_
  refine lv_imul hx hb d_Mo_letter_49 ?_
  rw [show (200 : Int32) * nI k = nI (200 * k) from pk_mul 200 k]
  refine lv_iload_n hx hb d_Mo_letter_50 rfl (lv_at hl 2 rfl) ?_
  refine lv_iadd hx hb d_Mo_letter_51 ?_
  rw [nI_add]
  refine la_caldv (v := (mu (m0 + 2) (200 * k + q))) hx hb hK hP 1 hm.2.2.1 rfl rfl (200 * k + q) rfl (by omega) (by decide) (congrFun (la_up_n (by omega)) (200 * k + q)) d_Mo_letter_52 ?_
  refine lv_goto (tgt := 57) hx hb d_Mo_letter_53 rfl ?_
  exact W.iret hx hb hr (fun t ht hW => ⟨rfl, by rw [ht]; exact cvm hP (rfl), hS.F ht⟩) hS.2.2 d_Mo_letter_57
set_option maxHeartbeats 4000000 in
set_option maxRecDepth 100000 in
theorem c_Mo_quiet_y (l : Launch) (D : va_G) (E : Nat → ClassId) (La : la_L) {m0 : Nat} (hm : isMo E La m0) (mu : la_M) {w0 w1 w2 w3 w4 w5 : Nat} (hw0 : mu (m0 + 5) 0 = nI w0) (hv0 : w0 < 40) (hw1 : mu (m0 + 5) 1 = nI w1) (hv1 : w1 < 40) (hw2 : mu (m0 + 5) 2 = nI w2) (hv2 : w2 < 40) (hw3 : mu (m0 + 5) 3 = nI w3) (hv3 : w3 < 40) (hw4 : mu (m0 + 5) 4 = nI w4) (hv4 : w4 < 40) (hw5 : mu (m0 + 5) 5 = nI w5) (hv5 : w5 < 40) (hs : 0 + w0 + w1 + w2 + w3 + w4 + w5 = 0) : cw l y_Mo_quiet b_Mo_quiet 3 (some .boolean) 0 0 D E La [.ref m0] mu (some (.int 1)) (la_up mu m0 0 0) := by
  refine cw_begin R_Mo (by decide) rfl (Nat.le_of_ble_eq_true rfl) ?_
  intro p e s m below meth c ls Z hr hlocks hP hS hl
  have hx := Z.1
  have hb := Z.2.1
  have hK : va_K D cls5 (tyE E) s := Z.2.2.2.2.2
  have hl : lv_has ls 3 [(0, .ref m0)] := hl
  refine lv_aload_n hx hb d_Mo_quiet_0 rfl (lv_at hl 0 rfl) ?_
  refine lv_iconst (v := 0) hx hb d_Mo_quiet_1 (by decide) ?_
  refine p_f Z kc_Mo hP hS hm.1 rfl 0 (by decide) wl_Mo_56 rfl rfl ⟨rfl, rfl⟩ (Nat.le_of_ble_eq_true rfl) rfl d_Mo_quiet_2 (fun H locs hP hS => ?_)
  refine lv_iconst (v := 0) hx hb d_Mo_quiet_5 (by decide) ?_
  refine lv_istore_n hx hb d_Mo_quiet_6 rfl hl (by decide) rfl (fun ls hl => ?_)
  have hl : lv_has ls 3 [(1, .int 0), (0, .ref m0)] := hl
  refine lv_iconst (v := 0) hx hb d_Mo_quiet_7 (by decide) ?_
  refine lv_istore_n hx hb d_Mo_quiet_8 rfl hl (by decide) rfl (fun ls hl => ?_)
  have hl : lv_has ls 3 [(2, .int 0), (1, .int 0), (0, .ref m0)] := hl
  refine lv_iload_n hx hb d_Mo_quiet_9 rfl (lv_at hl 0 rfl) ?_
  refine lv_bipush (v := 6) hx hb d_Mo_quiet_10 (by decide) ?_
  refine lv_icmp_ge (tgt := 30) hx hb d_Mo_quiet_12 rfl (fun br12 => absurd br12 (by decide)) (fun br12 => ?_)
  refine lv_iload_n hx hb d_Mo_quiet_15 rfl (lv_at hl 1 rfl) ?_
  refine lv_aload_n hx hb d_Mo_quiet_16 rfl (lv_at hl 2 rfl) ?_
  refine g_f (v := .ref (m0 + 5)) Z kc_Mo hP hm.1 rfl 5 (by decide) wl_Mo_23 rfl rfl d_Mo_quiet_17 ?_
  refine lv_iload_n hx hb d_Mo_quiet_20 rfl (lv_at hl 0 rfl) ?_
  refine la_ialdv (v := (nI w0)) hx hb hK hP 0 hm.2.2.2.2.2.1 rfl rfl 0 rfl (by decide) (by decide) ((congrFun (la_up_n (by omega)) 0).trans hw0) d_Mo_quiet_21 ?_
  refine lv_iadd hx hb d_Mo_quiet_22 ?_
  rw [show (0 : Int32) + nI w0 = nI (0 + w0) from nI_add _ _]
  refine lv_istore_n hx hb d_Mo_quiet_23 rfl hl (by decide) rfl (fun ls hl => ?_)
  have hl : lv_has ls 3 [(1, .int (nI (0 + w0))), (2, .int 0), (0, .ref m0)] := hl
  refine lv_iinc (k := 1) (v := 1) hx hb d_Mo_quiet_24 hl rfl (by decide) (by decide) rfl (fun ls hl => ?_)
  have hl : lv_has ls 3 [(2, .int 1), (1, .int (nI (0 + w0))), (0, .ref m0)] := hl
  refine lv_goto (tgt := 9) hx hb d_Mo_quiet_27 rfl ?_
  refine lv_iload_n hx hb d_Mo_quiet_9 rfl (lv_at hl 0 rfl) ?_
  refine lv_bipush (v := 6) hx hb d_Mo_quiet_10 (by decide) ?_
  refine lv_icmp_ge (tgt := 30) hx hb d_Mo_quiet_12 rfl (fun br12 => absurd br12 (by decide)) (fun br12 => ?_)
  refine lv_iload_n hx hb d_Mo_quiet_15 rfl (lv_at hl 1 rfl) ?_
  refine lv_aload_n hx hb d_Mo_quiet_16 rfl (lv_at hl 2 rfl) ?_
  refine g_f (v := .ref (m0 + 5)) Z kc_Mo hP hm.1 rfl 5 (by decide) wl_Mo_23 rfl rfl d_Mo_quiet_17 ?_
  refine lv_iload_n hx hb d_Mo_quiet_20 rfl (lv_at hl 0 rfl) ?_
  refine la_ialdv (v := (nI w1)) hx hb hK hP 0 hm.2.2.2.2.2.1 rfl rfl 1 rfl (by decide) (by decide) ((la_up_k (by decide)).trans hw1) d_Mo_quiet_21 ?_
  refine lv_iadd hx hb d_Mo_quiet_22 ?_
  rw [show (nI (0 + w0)) + nI w1 = nI (0 + w0 + w1) from nI_add _ _]
  refine lv_istore_n hx hb d_Mo_quiet_23 rfl hl (by decide) rfl (fun ls hl => ?_)
  have hl : lv_has ls 3 [(1, .int (nI (0 + w0 + w1))), (2, .int 1), (0, .ref m0)] := hl
  refine lv_iinc (k := 1) (v := 2) hx hb d_Mo_quiet_24 hl rfl (by decide) (by decide) rfl (fun ls hl => ?_)
  have hl : lv_has ls 3 [(2, .int 2), (1, .int (nI (0 + w0 + w1))), (0, .ref m0)] := hl
  refine lv_goto (tgt := 9) hx hb d_Mo_quiet_27 rfl ?_
  refine lv_iload_n hx hb d_Mo_quiet_9 rfl (lv_at hl 0 rfl) ?_
  refine lv_bipush (v := 6) hx hb d_Mo_quiet_10 (by decide) ?_
  refine lv_icmp_ge (tgt := 30) hx hb d_Mo_quiet_12 rfl (fun br12 => absurd br12 (by decide)) (fun br12 => ?_)
  refine lv_iload_n hx hb d_Mo_quiet_15 rfl (lv_at hl 1 rfl) ?_
  refine lv_aload_n hx hb d_Mo_quiet_16 rfl (lv_at hl 2 rfl) ?_
  refine g_f (v := .ref (m0 + 5)) Z kc_Mo hP hm.1 rfl 5 (by decide) wl_Mo_23 rfl rfl d_Mo_quiet_17 ?_
  refine lv_iload_n hx hb d_Mo_quiet_20 rfl (lv_at hl 0 rfl) ?_
  refine la_ialdv (v := (nI w2)) hx hb hK hP 0 hm.2.2.2.2.2.1 rfl rfl 2 rfl (by decide) (by decide) ((la_up_k (by decide)).trans hw2) d_Mo_quiet_21 ?_
  refine lv_iadd hx hb d_Mo_quiet_22 ?_
  rw [show (nI (0 + w0 + w1)) + nI w2 = nI (0 + w0 + w1 + w2) from nI_add _ _]
  refine lv_istore_n hx hb d_Mo_quiet_23 rfl hl (by decide) rfl (fun ls hl => ?_)
  have hl : lv_has ls 3 [(1, .int (nI (0 + w0 + w1 + w2))), (2, .int 2), (0, .ref m0)] := hl
  refine lv_iinc (k := 1) (v := 3) hx hb d_Mo_quiet_24 hl rfl (by decide) (by decide) rfl (fun ls hl => ?_)
  have hl : lv_has ls 3 [(2, .int 3), (1, .int (nI (0 + w0 + w1 + w2))), (0, .ref m0)] := hl
  refine lv_goto (tgt := 9) hx hb d_Mo_quiet_27 rfl ?_
  refine lv_iload_n hx hb d_Mo_quiet_9 rfl (lv_at hl 0 rfl) ?_
  refine lv_bipush (v := 6) hx hb d_Mo_quiet_10 (by decide) ?_
  refine lv_icmp_ge (tgt := 30) hx hb d_Mo_quiet_12 rfl (fun br12 => absurd br12 (by decide)) (fun br12 => ?_)
  refine lv_iload_n hx hb d_Mo_quiet_15 rfl (lv_at hl 1 rfl) ?_
  refine lv_aload_n hx hb d_Mo_quiet_16 rfl (lv_at hl 2 rfl) ?_
  refine g_f (v := .ref (m0 + 5)) Z kc_Mo hP hm.1 rfl 5 (by decide) wl_Mo_23 rfl rfl d_Mo_quiet_17 ?_
  refine lv_iload_n hx hb d_Mo_quiet_20 rfl (lv_at hl 0 rfl) ?_
  refine la_ialdv (v := (nI w3)) hx hb hK hP 0 hm.2.2.2.2.2.1 rfl rfl 3 rfl (by decide) (by decide) ((la_up_k (by decide)).trans hw3) d_Mo_quiet_21 ?_
  refine lv_iadd hx hb d_Mo_quiet_22 ?_
  rw [show (nI (0 + w0 + w1 + w2)) + nI w3 = nI (0 + w0 + w1 + w2 + w3) from nI_add _ _]
  refine lv_istore_n hx hb d_Mo_quiet_23 rfl hl (by decide) rfl (fun ls hl => ?_)
  have hl : lv_has ls 3 [(1, .int (nI (0 + w0 + w1 + w2 + w3))), (2, .int 3), (0, .ref m0)] := hl
  refine lv_iinc (k := 1) (v := 4) hx hb d_Mo_quiet_24 hl rfl (by decide) (by decide) rfl (fun ls hl => ?_)
  have hl : lv_has ls 3 [(2, .int 4), (1, .int (nI (0 + w0 + w1 + w2 + w3))), (0, .ref m0)] := hl
  refine lv_goto (tgt := 9) hx hb d_Mo_quiet_27 rfl ?_
  refine lv_iload_n hx hb d_Mo_quiet_9 rfl (lv_at hl 0 rfl) ?_
  refine lv_bipush (v := 6) hx hb d_Mo_quiet_10 (by decide) ?_
  refine lv_icmp_ge (tgt := 30) hx hb d_Mo_quiet_12 rfl (fun br12 => absurd br12 (by decide)) (fun br12 => ?_)
  refine lv_iload_n hx hb d_Mo_quiet_15 rfl (lv_at hl 1 rfl) ?_
  refine lv_aload_n hx hb d_Mo_quiet_16 rfl (lv_at hl 2 rfl) ?_
  refine g_f (v := .ref (m0 + 5)) Z kc_Mo hP hm.1 rfl 5 (by decide) wl_Mo_23 rfl rfl d_Mo_quiet_17 ?_
  refine lv_iload_n hx hb d_Mo_quiet_20 rfl (lv_at hl 0 rfl) ?_
  refine la_ialdv (v := (nI w4)) hx hb hK hP 0 hm.2.2.2.2.2.1 rfl rfl 4 rfl (by decide) (by decide) ((la_up_k (by decide)).trans hw4) d_Mo_quiet_21 ?_
  refine lv_iadd hx hb d_Mo_quiet_22 ?_
  rw [show (nI (0 + w0 + w1 + w2 + w3)) + nI w4 = nI (0 + w0 + w1 + w2 + w3 + w4) from nI_add _ _]
  refine lv_istore_n hx hb d_Mo_quiet_23 rfl hl (by decide) rfl (fun ls hl => ?_)
  have hl : lv_has ls 3 [(1, .int (nI (0 + w0 + w1 + w2 + w3 + w4))), (2, .int 4), (0, .ref m0)] := hl
  refine lv_iinc (k := 1) (v := 5) hx hb d_Mo_quiet_24 hl rfl (by decide) (by decide) rfl (fun ls hl => ?_)
  have hl : lv_has ls 3 [(2, .int 5), (1, .int (nI (0 + w0 + w1 + w2 + w3 + w4))), (0, .ref m0)] := hl
  refine lv_goto (tgt := 9) hx hb d_Mo_quiet_27 rfl ?_
  refine lv_iload_n hx hb d_Mo_quiet_9 rfl (lv_at hl 0 rfl) ?_
  refine lv_bipush (v := 6) hx hb d_Mo_quiet_10 (by decide) ?_
  refine lv_icmp_ge (tgt := 30) hx hb d_Mo_quiet_12 rfl (fun br12 => absurd br12 (by decide)) (fun br12 => ?_)
  refine lv_iload_n hx hb d_Mo_quiet_15 rfl (lv_at hl 1 rfl) ?_
  refine lv_aload_n hx hb d_Mo_quiet_16 rfl (lv_at hl 2 rfl) ?_
  refine g_f (v := .ref (m0 + 5)) Z kc_Mo hP hm.1 rfl 5 (by decide) wl_Mo_23 rfl rfl d_Mo_quiet_17 ?_
  refine lv_iload_n hx hb d_Mo_quiet_20 rfl (lv_at hl 0 rfl) ?_
  refine la_ialdv (v := (nI w5)) hx hb hK hP 0 hm.2.2.2.2.2.1 rfl rfl 5 rfl (by decide) (by decide) ((la_up_k (by decide)).trans hw5) d_Mo_quiet_21 ?_
  refine lv_iadd hx hb d_Mo_quiet_22 ?_
  rw [show (nI (0 + w0 + w1 + w2 + w3 + w4)) + nI w5 = nI (0 + w0 + w1 + w2 + w3 + w4 + w5) from nI_add _ _]
  refine lv_istore_n hx hb d_Mo_quiet_23 rfl hl (by decide) rfl (fun ls hl => ?_)
  have hl : lv_has ls 3 [(1, .int (nI (0 + w0 + w1 + w2 + w3 + w4 + w5))), (2, .int 5), (0, .ref m0)] := hl
  refine lv_iinc (k := 1) (v := 6) hx hb d_Mo_quiet_24 hl rfl (by decide) (by decide) rfl (fun ls hl => ?_)
  have hl : lv_has ls 3 [(2, .int 6), (1, .int (nI (0 + w0 + w1 + w2 + w3 + w4 + w5))), (0, .ref m0)] := hl
  refine lv_goto (tgt := 9) hx hb d_Mo_quiet_27 rfl ?_
  refine lv_iload_n hx hb d_Mo_quiet_9 rfl (lv_at hl 0 rfl) ?_
  refine lv_bipush (v := 6) hx hb d_Mo_quiet_10 (by decide) ?_
  refine lv_icmp_ge (tgt := 30) hx hb d_Mo_quiet_12 rfl (fun br12 => ?_) (fun br12 => absurd (by decide) br12)
  refine lv_iload_n hx hb d_Mo_quiet_30 rfl (lv_at hl 1 rfl) ?_
  refine lv_if_ne (tgt := 38) hx hb d_Mo_quiet_31 rfl (fun br31 => absurd (by rw [hs]; rfl) br31) (fun br31 => ?_)
  refine lv_iconst (v := 1) hx hb d_Mo_quiet_34 (by decide) ?_
  refine lv_goto (tgt := 39) hx hb d_Mo_quiet_35 rfl ?_
  exact W.zret hx hb hr (by decide) (fun t ht hW => ⟨rfl, by rw [ht]; exact cvm hP (rfl), hS.F ht⟩) hS.2.2 d_Mo_quiet_39
set_option maxHeartbeats 4000000 in
set_option maxRecDepth 100000 in
theorem c_Mo_quiet_n (l : Launch) (D : va_G) (E : Nat → ClassId) (La : la_L) {m0 : Nat} (hm : isMo E La m0) (mu : la_M) {w0 w1 w2 w3 w4 w5 : Nat} (hw0 : mu (m0 + 5) 0 = nI w0) (hv0 : w0 < 40) (hw1 : mu (m0 + 5) 1 = nI w1) (hv1 : w1 < 40) (hw2 : mu (m0 + 5) 2 = nI w2) (hv2 : w2 < 40) (hw3 : mu (m0 + 5) 3 = nI w3) (hv3 : w3 < 40) (hw4 : mu (m0 + 5) 4 = nI w4) (hv4 : w4 < 40) (hw5 : mu (m0 + 5) 5 = nI w5) (hv5 : w5 < 40) (hs : ¬ 0 + w0 + w1 + w2 + w3 + w4 + w5 = 0) : cw l y_Mo_quiet b_Mo_quiet 3 (some .boolean) 0 0 D E La [.ref m0] mu (some (.int 0)) (la_up mu m0 0 0) := by
  refine cw_begin R_Mo (by decide) rfl (Nat.le_of_ble_eq_true rfl) ?_
  intro p e s m below meth c ls Z hr hlocks hP hS hl
  have hx := Z.1
  have hb := Z.2.1
  have hK : va_K D cls5 (tyE E) s := Z.2.2.2.2.2
  have hl : lv_has ls 3 [(0, .ref m0)] := hl
  refine lv_aload_n hx hb d_Mo_quiet_0 rfl (lv_at hl 0 rfl) ?_
  refine lv_iconst (v := 0) hx hb d_Mo_quiet_1 (by decide) ?_
  refine p_f Z kc_Mo hP hS hm.1 rfl 0 (by decide) wl_Mo_56 rfl rfl ⟨rfl, rfl⟩ (Nat.le_of_ble_eq_true rfl) rfl d_Mo_quiet_2 (fun H locs hP hS => ?_)
  refine lv_iconst (v := 0) hx hb d_Mo_quiet_5 (by decide) ?_
  refine lv_istore_n hx hb d_Mo_quiet_6 rfl hl (by decide) rfl (fun ls hl => ?_)
  have hl : lv_has ls 3 [(1, .int 0), (0, .ref m0)] := hl
  refine lv_iconst (v := 0) hx hb d_Mo_quiet_7 (by decide) ?_
  refine lv_istore_n hx hb d_Mo_quiet_8 rfl hl (by decide) rfl (fun ls hl => ?_)
  have hl : lv_has ls 3 [(2, .int 0), (1, .int 0), (0, .ref m0)] := hl
  refine lv_iload_n hx hb d_Mo_quiet_9 rfl (lv_at hl 0 rfl) ?_
  refine lv_bipush (v := 6) hx hb d_Mo_quiet_10 (by decide) ?_
  refine lv_icmp_ge (tgt := 30) hx hb d_Mo_quiet_12 rfl (fun br12 => absurd br12 (by decide)) (fun br12 => ?_)
  refine lv_iload_n hx hb d_Mo_quiet_15 rfl (lv_at hl 1 rfl) ?_
  refine lv_aload_n hx hb d_Mo_quiet_16 rfl (lv_at hl 2 rfl) ?_
  refine g_f (v := .ref (m0 + 5)) Z kc_Mo hP hm.1 rfl 5 (by decide) wl_Mo_23 rfl rfl d_Mo_quiet_17 ?_
  refine lv_iload_n hx hb d_Mo_quiet_20 rfl (lv_at hl 0 rfl) ?_
  refine la_ialdv (v := (nI w0)) hx hb hK hP 0 hm.2.2.2.2.2.1 rfl rfl 0 rfl (by decide) (by decide) ((congrFun (la_up_n (by omega)) 0).trans hw0) d_Mo_quiet_21 ?_
  refine lv_iadd hx hb d_Mo_quiet_22 ?_
  rw [show (0 : Int32) + nI w0 = nI (0 + w0) from nI_add _ _]
  refine lv_istore_n hx hb d_Mo_quiet_23 rfl hl (by decide) rfl (fun ls hl => ?_)
  have hl : lv_has ls 3 [(1, .int (nI (0 + w0))), (2, .int 0), (0, .ref m0)] := hl
  refine lv_iinc (k := 1) (v := 1) hx hb d_Mo_quiet_24 hl rfl (by decide) (by decide) rfl (fun ls hl => ?_)
  have hl : lv_has ls 3 [(2, .int 1), (1, .int (nI (0 + w0))), (0, .ref m0)] := hl
  refine lv_goto (tgt := 9) hx hb d_Mo_quiet_27 rfl ?_
  refine lv_iload_n hx hb d_Mo_quiet_9 rfl (lv_at hl 0 rfl) ?_
  refine lv_bipush (v := 6) hx hb d_Mo_quiet_10 (by decide) ?_
  refine lv_icmp_ge (tgt := 30) hx hb d_Mo_quiet_12 rfl (fun br12 => absurd br12 (by decide)) (fun br12 => ?_)
  refine lv_iload_n hx hb d_Mo_quiet_15 rfl (lv_at hl 1 rfl) ?_
  refine lv_aload_n hx hb d_Mo_quiet_16 rfl (lv_at hl 2 rfl) ?_
  refine g_f (v := .ref (m0 + 5)) Z kc_Mo hP hm.1 rfl 5 (by decide) wl_Mo_23 rfl rfl d_Mo_quiet_17 ?_
  refine lv_iload_n hx hb d_Mo_quiet_20 rfl (lv_at hl 0 rfl) ?_
  refine la_ialdv (v := (nI w1)) hx hb hK hP 0 hm.2.2.2.2.2.1 rfl rfl 1 rfl (by decide) (by decide) ((la_up_k (by decide)).trans hw1) d_Mo_quiet_21 ?_
  refine lv_iadd hx hb d_Mo_quiet_22 ?_
  rw [show (nI (0 + w0)) + nI w1 = nI (0 + w0 + w1) from nI_add _ _]
  refine lv_istore_n hx hb d_Mo_quiet_23 rfl hl (by decide) rfl (fun ls hl => ?_)
  have hl : lv_has ls 3 [(1, .int (nI (0 + w0 + w1))), (2, .int 1), (0, .ref m0)] := hl
  refine lv_iinc (k := 1) (v := 2) hx hb d_Mo_quiet_24 hl rfl (by decide) (by decide) rfl (fun ls hl => ?_)
  have hl : lv_has ls 3 [(2, .int 2), (1, .int (nI (0 + w0 + w1))), (0, .ref m0)] := hl
  refine lv_goto (tgt := 9) hx hb d_Mo_quiet_27 rfl ?_
  refine lv_iload_n hx hb d_Mo_quiet_9 rfl (lv_at hl 0 rfl) ?_
  refine lv_bipush (v := 6) hx hb d_Mo_quiet_10 (by decide) ?_
  refine lv_icmp_ge (tgt := 30) hx hb d_Mo_quiet_12 rfl (fun br12 => absurd br12 (by decide)) (fun br12 => ?_)
  refine lv_iload_n hx hb d_Mo_quiet_15 rfl (lv_at hl 1 rfl) ?_
  refine lv_aload_n hx hb d_Mo_quiet_16 rfl (lv_at hl 2 rfl) ?_
  refine g_f (v := .ref (m0 + 5)) Z kc_Mo hP hm.1 rfl 5 (by decide) wl_Mo_23 rfl rfl d_Mo_quiet_17 ?_
  refine lv_iload_n hx hb d_Mo_quiet_20 rfl (lv_at hl 0 rfl) ?_
  refine la_ialdv (v := (nI w2)) hx hb hK hP 0 hm.2.2.2.2.2.1 rfl rfl 2 rfl (by decide) (by decide) ((la_up_k (by decide)).trans hw2) d_Mo_quiet_21 ?_
  refine lv_iadd hx hb d_Mo_quiet_22 ?_
  rw [show (nI (0 + w0 + w1)) + nI w2 = nI (0 + w0 + w1 + w2) from nI_add _ _]
  refine lv_istore_n hx hb d_Mo_quiet_23 rfl hl (by decide) rfl (fun ls hl => ?_)
  have hl : lv_has ls 3 [(1, .int (nI (0 + w0 + w1 + w2))), (2, .int 2), (0, .ref m0)] := hl
  refine lv_iinc (k := 1) (v := 3) hx hb d_Mo_quiet_24 hl rfl (by decide) (by decide) rfl (fun ls hl => ?_)
  have hl : lv_has ls 3 [(2, .int 3), (1, .int (nI (0 + w0 + w1 + w2))), (0, .ref m0)] := hl
  refine lv_goto (tgt := 9) hx hb d_Mo_quiet_27 rfl ?_
  refine lv_iload_n hx hb d_Mo_quiet_9 rfl (lv_at hl 0 rfl) ?_
  refine lv_bipush (v := 6) hx hb d_Mo_quiet_10 (by decide) ?_
  refine lv_icmp_ge (tgt := 30) hx hb d_Mo_quiet_12 rfl (fun br12 => absurd br12 (by decide)) (fun br12 => ?_)
  refine lv_iload_n hx hb d_Mo_quiet_15 rfl (lv_at hl 1 rfl) ?_
  refine lv_aload_n hx hb d_Mo_quiet_16 rfl (lv_at hl 2 rfl) ?_
  refine g_f (v := .ref (m0 + 5)) Z kc_Mo hP hm.1 rfl 5 (by decide) wl_Mo_23 rfl rfl d_Mo_quiet_17 ?_
  refine lv_iload_n hx hb d_Mo_quiet_20 rfl (lv_at hl 0 rfl) ?_
  refine la_ialdv (v := (nI w3)) hx hb hK hP 0 hm.2.2.2.2.2.1 rfl rfl 3 rfl (by decide) (by decide) ((la_up_k (by decide)).trans hw3) d_Mo_quiet_21 ?_
  refine lv_iadd hx hb d_Mo_quiet_22 ?_
  rw [show (nI (0 + w0 + w1 + w2)) + nI w3 = nI (0 + w0 + w1 + w2 + w3) from nI_add _ _]
  refine lv_istore_n hx hb d_Mo_quiet_23 rfl hl (by decide) rfl (fun ls hl => ?_)
  have hl : lv_has ls 3 [(1, .int (nI (0 + w0 + w1 + w2 + w3))), (2, .int 3), (0, .ref m0)] := hl
  refine lv_iinc (k := 1) (v := 4) hx hb d_Mo_quiet_24 hl rfl (by decide) (by decide) rfl (fun ls hl => ?_)
  have hl : lv_has ls 3 [(2, .int 4), (1, .int (nI (0 + w0 + w1 + w2 + w3))), (0, .ref m0)] := hl
  refine lv_goto (tgt := 9) hx hb d_Mo_quiet_27 rfl ?_
  refine lv_iload_n hx hb d_Mo_quiet_9 rfl (lv_at hl 0 rfl) ?_
  refine lv_bipush (v := 6) hx hb d_Mo_quiet_10 (by decide) ?_
  refine lv_icmp_ge (tgt := 30) hx hb d_Mo_quiet_12 rfl (fun br12 => absurd br12 (by decide)) (fun br12 => ?_)
  refine lv_iload_n hx hb d_Mo_quiet_15 rfl (lv_at hl 1 rfl) ?_
  refine lv_aload_n hx hb d_Mo_quiet_16 rfl (lv_at hl 2 rfl) ?_
  refine g_f (v := .ref (m0 + 5)) Z kc_Mo hP hm.1 rfl 5 (by decide) wl_Mo_23 rfl rfl d_Mo_quiet_17 ?_
  refine lv_iload_n hx hb d_Mo_quiet_20 rfl (lv_at hl 0 rfl) ?_
  refine la_ialdv (v := (nI w4)) hx hb hK hP 0 hm.2.2.2.2.2.1 rfl rfl 4 rfl (by decide) (by decide) ((la_up_k (by decide)).trans hw4) d_Mo_quiet_21 ?_
  refine lv_iadd hx hb d_Mo_quiet_22 ?_
  rw [show (nI (0 + w0 + w1 + w2 + w3)) + nI w4 = nI (0 + w0 + w1 + w2 + w3 + w4) from nI_add _ _]
  refine lv_istore_n hx hb d_Mo_quiet_23 rfl hl (by decide) rfl (fun ls hl => ?_)
  have hl : lv_has ls 3 [(1, .int (nI (0 + w0 + w1 + w2 + w3 + w4))), (2, .int 4), (0, .ref m0)] := hl
  refine lv_iinc (k := 1) (v := 5) hx hb d_Mo_quiet_24 hl rfl (by decide) (by decide) rfl (fun ls hl => ?_)
  have hl : lv_has ls 3 [(2, .int 5), (1, .int (nI (0 + w0 + w1 + w2 + w3 + w4))), (0, .ref m0)] := hl
  refine lv_goto (tgt := 9) hx hb d_Mo_quiet_27 rfl ?_
  refine lv_iload_n hx hb d_Mo_quiet_9 rfl (lv_at hl 0 rfl) ?_
  refine lv_bipush (v := 6) hx hb d_Mo_quiet_10 (by decide) ?_
  refine lv_icmp_ge (tgt := 30) hx hb d_Mo_quiet_12 rfl (fun br12 => absurd br12 (by decide)) (fun br12 => ?_)
  refine lv_iload_n hx hb d_Mo_quiet_15 rfl (lv_at hl 1 rfl) ?_
  refine lv_aload_n hx hb d_Mo_quiet_16 rfl (lv_at hl 2 rfl) ?_
  refine g_f (v := .ref (m0 + 5)) Z kc_Mo hP hm.1 rfl 5 (by decide) wl_Mo_23 rfl rfl d_Mo_quiet_17 ?_
  refine lv_iload_n hx hb d_Mo_quiet_20 rfl (lv_at hl 0 rfl) ?_
  refine la_ialdv (v := (nI w5)) hx hb hK hP 0 hm.2.2.2.2.2.1 rfl rfl 5 rfl (by decide) (by decide) ((la_up_k (by decide)).trans hw5) d_Mo_quiet_21 ?_
  refine lv_iadd hx hb d_Mo_quiet_22 ?_
  rw [show (nI (0 + w0 + w1 + w2 + w3 + w4)) + nI w5 = nI (0 + w0 + w1 + w2 + w3 + w4 + w5) from nI_add _ _]
  refine lv_istore_n hx hb d_Mo_quiet_23 rfl hl (by decide) rfl (fun ls hl => ?_)
  have hl : lv_has ls 3 [(1, .int (nI (0 + w0 + w1 + w2 + w3 + w4 + w5))), (2, .int 5), (0, .ref m0)] := hl
  refine lv_iinc (k := 1) (v := 6) hx hb d_Mo_quiet_24 hl rfl (by decide) (by decide) rfl (fun ls hl => ?_)
  have hl : lv_has ls 3 [(2, .int 6), (1, .int (nI (0 + w0 + w1 + w2 + w3 + w4 + w5))), (0, .ref m0)] := hl
  refine lv_goto (tgt := 9) hx hb d_Mo_quiet_27 rfl ?_
  refine lv_iload_n hx hb d_Mo_quiet_9 rfl (lv_at hl 0 rfl) ?_
  refine lv_bipush (v := 6) hx hb d_Mo_quiet_10 (by decide) ?_
  refine lv_icmp_ge (tgt := 30) hx hb d_Mo_quiet_12 rfl (fun br12 => ?_) (fun br12 => absurd (by decide) br12)
  refine lv_iload_n hx hb d_Mo_quiet_30 rfl (lv_at hl 1 rfl) ?_
  refine lv_if_ne (tgt := 38) hx hb d_Mo_quiet_31 rfl (fun br31 => ?_) (fun br31 => absurd br31 (nI_ne0 (by omega) (by omega)))
  refine lv_iconst (v := 0) hx hb d_Mo_quiet_38 (by decide) ?_
  exact W.zret hx hb hr (by decide) (fun t ht hW => ⟨rfl, by rw [ht]; exact cvm hP (rfl), hS.F ht⟩) hS.2.2 d_Mo_quiet_39
end
section
/-! The reference's alike (written by wip/whole/p18.py) -/
def md_sm (mu : la_M) (m0 : Nat) (nn : Nat → Nat) (j : Nat) : Prop := nn j = nn 0 ∧ ∀ i, i < nn 0 → mu (m0 + 2) i = mu (m0 + 2) (200 * j + i)
set_option maxHeartbeats 4000000 in
set_option maxRecDepth 100000 in
theorem c_Mo_alike (l : Launch) (D : va_G) (E : Nat → ClassId) (La : la_L) {m0 : Nat} (hm : isMo E La m0) (mu : la_M) {nn : Nat → Nat} (hn : ∀ j, j < 4 → mu (m0 + 1) j = nI (nn j)) (h64 : ∀ j, j < 4 → nn j ≤ 64) {v : Int32} (hv1 : (∀ j, 1 ≤ j → j ≤ 3 → md_sm mu m0 nn j) → v = 1) (hv0 : ∀ j, 1 ≤ j → j ≤ 3 → ¬ md_sm mu m0 nn j → v = 0) : cw l y_Mo_alike b_Mo_alike 4 (some .boolean) 0 0 D E La [.ref m0] mu (some (.int v)) (la_up mu m0 0 0) := by
  refine cw_begin R_Mo (by decide) rfl (Nat.le_of_ble_eq_true rfl) ?_
  intro p e s m below meth c ls Z hr hlocks hP hS hl
  have hx := Z.1
  have hb := Z.2.1
  have hK : va_K D cls5 (tyE E) s := Z.2.2.2.2.2
  have hl : lv_has ls 4 [(0, .ref m0)] := hl
  refine lv_aload_n hx hb d_Mo_alike_0 rfl (lv_at hl 0 rfl) ?_
  refine lv_iconst (v := 0) hx hb d_Mo_alike_1 (by decide) ?_
  refine p_f Z kc_Mo hP hS hm.1 rfl 0 (by decide) wl_Mo_56 rfl rfl ⟨rfl, rfl⟩ (Nat.le_of_ble_eq_true rfl) rfl d_Mo_alike_2 (fun H locs hP hS => ?_)
  have z0 := h64 0 (by decide)
  have inner : ∀ (j : Nat), 1 ≤ j → j ≤ 3 → ∀ (t i : Nat) (ls : Array Slot), i + t = nn 0 → lv_has ls 4 [(3, .int (nI i)), (1, .int 1), (2, .int (nI j)), (0, .ref m0)] → ((∀ i9, i ≤ i9 → i9 < nn 0 → mu (m0 + 2) i9 = mu (m0 + 2) (200 * j + i9)) → ∀ ls, lv_has ls 4 [(1, .int 1), (2, .int (nI j)), (0, .ref m0)] → W p l e (rmm 0 0) s m ([.ref m0] : List Value).toArray below meth c H locs 0 0 (MQ below (cw_Q (some (.int v)) (la_P D cls5 La (la_up mu m0 0 0)) (la_A La)) ([.ref m0] : List Value).toArray s 0 0 (la_A La)) (F0 m 88 ls [])) → ((∃ i9, i ≤ i9 ∧ i9 < nn 0 ∧ ¬ mu (m0 + 2) i9 = mu (m0 + 2) (200 * j + i9)) → ∀ ls, lv_has ls 4 [(1, .int 0), (2, .int (nI j)), (0, .ref m0)] → W p l e (rmm 0 0) s m ([.ref m0] : List Value).toArray below meth c H locs 0 0 (MQ below (cw_Q (some (.int v)) (la_P D cls5 La (la_up mu m0 0 0)) (la_A La)) ([.ref m0] : List Value).toArray s 0 0 (la_A La)) (F0 m 88 ls [])) → W p l e (rmm 0 0) s m ([.ref m0] : List Value).toArray below meth c H locs 0 0 (MQ below (cw_Q (some (.int v)) (la_P D cls5 La (la_up mu m0 0 0)) (la_A La)) ([.ref m0] : List Value).toArray s 0 0 (la_A La)) (F0 m 41 ls []) := by
    intro j hj1 hj3 t
    induction t with
    | zero =>
      intro i ls hi hl k1 k0
      refine lv_iload_n hx hb d_Mo_alike_41 rfl (lv_at hl 0 rfl) ?_
      refine lv_aload_n hx hb d_Mo_alike_42 rfl (lv_at hl 3 rfl) ?_
      refine g_f (v := .ref (m0 + 1)) Z kc_Mo hP hm.1 rfl 1 (by decide) wl_Mo_7 rfl rfl d_Mo_alike_43 ?_
      refine lv_iconst (v := 0) hx hb d_Mo_alike_46 (by decide) ?_
      refine la_ialdv (v := (nI (nn 0))) hx hb hK hP 0 hm.2.1 rfl rfl 0 rfl (by decide) (by decide) ((congrFun (la_up_n (by omega)) 0).trans (hn 0 (by decide))) d_Mo_alike_47 ?_
      refine lv_icmp_ge (tgt := 88) hx hb d_Mo_alike_48 rfl (fun br48 => ?_) (fun br48 => absurd (nI_le (by omega) (by omega)) br48)
      exact k1 (fun i9 h1 h2 => by omega) ls (lv_sub hl [1, 2, 3] rfl)
    | succ t ih =>
      intro i ls hi hl k1 k0
      refine lv_iload_n hx hb d_Mo_alike_41 rfl (lv_at hl 0 rfl) ?_
      refine lv_aload_n hx hb d_Mo_alike_42 rfl (lv_at hl 3 rfl) ?_
      refine g_f (v := .ref (m0 + 1)) Z kc_Mo hP hm.1 rfl 1 (by decide) wl_Mo_7 rfl rfl d_Mo_alike_43 ?_
      refine lv_iconst (v := 0) hx hb d_Mo_alike_46 (by decide) ?_
      refine la_ialdv (v := (nI (nn 0))) hx hb hK hP 0 hm.2.1 rfl rfl 0 rfl (by decide) (by decide) ((congrFun (la_up_n (by omega)) 0).trans (hn 0 (by decide))) d_Mo_alike_47 ?_
      refine lv_icmp_ge (tgt := 88) hx hb d_Mo_alike_48 rfl (fun br48 => absurd br48 (nI_ge (by omega) (by omega))) (fun br48 => ?_)
      refine lv_iload_n hx hb d_Mo_alike_51 rfl (lv_at hl 1 rfl) ?_
      refine lv_if_eq (tgt := 88) hx hb d_Mo_alike_52 rfl (fun br52 => absurd br52 (by decide)) (fun br52 => ?_)
      refine lv_aload_n hx hb d_Mo_alike_55 rfl (lv_at hl 3 rfl) ?_
      refine g_f (v := .ref (m0 + 2)) Z kc_Mo hP hm.1 rfl 2 (by decide) wl_Mo_13 rfl rfl d_Mo_alike_56 ?_
      refine lv_iload_n hx hb d_Mo_alike_59 rfl (lv_at hl 0 rfl) ?_
      refine la_caldv (v := (mu (m0 + 2) i)) hx hb hK hP 1 hm.2.2.1 rfl rfl i rfl (by omega) (by decide) (congrFun (la_up_n (by omega)) i) d_Mo_alike_60 ?_
      refine lv_aload_n hx hb d_Mo_alike_61 rfl (lv_at hl 3 rfl) ?_
      refine g_f (v := .ref (m0 + 2)) Z kc_Mo hP hm.1 rfl 2 (by decide) wl_Mo_13 rfl rfl d_Mo_alike_62 ?_
      refine lv_sipush (v := 200) hx hb d_Mo_alike_65 (by decide) ?_
      refine lv_iload_n hx hb d_Mo_alike_68 rfl (lv_at hl 2 rfl) ?_
      refine lv_imul hx hb d_Mo_alike_69 ?_
      rw [show (200 : Int32) * nI j = nI (200 * j) from pk_mul 200 j]
      refine lv_iload_n hx hb d_Mo_alike_70 rfl (lv_at hl 0 rfl) ?_
      refine lv_iadd hx hb d_Mo_alike_71 ?_
      rw [nI_add]
      refine la_caldv (v := (mu (m0 + 2) (200 * j + i))) hx hb hK hP 1 hm.2.2.1 rfl rfl (200 * j + i) rfl (by omega) (by decide) (congrFun (la_up_n (by omega)) (200 * j + i)) d_Mo_alike_72 ?_
      refine lv_icmp_ne (tgt := 80) hx hb d_Mo_alike_73 rfl (fun br73 => ?_) (fun br73 => ?_)
      · skip
        refine lv_iconst (v := 0) hx hb d_Mo_alike_80 (by decide) ?_
        refine lv_istore_n hx hb d_Mo_alike_81 rfl hl (by decide) rfl (fun ls hl => ?_)
        have hl : lv_has ls 4 [(1, .int 0), (3, .int (nI i)), (2, .int (nI j)), (0, .ref m0)] := hl
        refine lv_iinc (k := 1) (v := (nI (i + 1))) hx hb d_Mo_alike_82 hl rfl (nI_1 i) (by decide) rfl (fun ls hl => ?_)
        have hl : lv_has ls 4 [(3, .int (nI (i + 1))), (1, .int 0), (2, .int (nI j)), (0, .ref m0)] := hl
        refine lv_goto (tgt := 41) hx hb d_Mo_alike_85 rfl ?_
        refine lv_iload_n hx hb d_Mo_alike_41 rfl (lv_at hl 0 rfl) ?_
        refine lv_aload_n hx hb d_Mo_alike_42 rfl (lv_at hl 3 rfl) ?_
        refine g_f (v := .ref (m0 + 1)) Z kc_Mo hP hm.1 rfl 1 (by decide) wl_Mo_7 rfl rfl d_Mo_alike_43 ?_
        refine lv_iconst (v := 0) hx hb d_Mo_alike_46 (by decide) ?_
        refine la_ialdv (v := (nI (nn 0))) hx hb hK hP 0 hm.2.1 rfl rfl 0 rfl (by decide) (by decide) ((congrFun (la_up_n (by omega)) 0).trans (hn 0 (by decide))) d_Mo_alike_47 ?_
        refine lv_icmp_ge (tgt := 88) hx hb d_Mo_alike_48 rfl (fun br48 => ?_) (fun br48 => ?_)
        · skip
          exact k0 ⟨i, Nat.le_refl _, by omega, br73⟩ ls (lv_sub hl [1, 2, 3] rfl)
        · skip
          refine lv_iload_n hx hb d_Mo_alike_51 rfl (lv_at hl 1 rfl) ?_
          refine lv_if_eq (tgt := 88) hx hb d_Mo_alike_52 rfl (fun br52 => ?_) (fun br52 => absurd (rfl) br52)
          exact k0 ⟨i, Nat.le_refl _, by omega, br73⟩ ls (lv_sub hl [1, 2, 3] rfl)
      · skip
        refine lv_iconst (v := 1) hx hb d_Mo_alike_76 (by decide) ?_
        refine lv_goto (tgt := 81) hx hb d_Mo_alike_77 rfl ?_
        refine lv_istore_n hx hb d_Mo_alike_81 rfl hl (by decide) rfl (fun ls hl => ?_)
        have hl : lv_has ls 4 [(1, .int 1), (3, .int (nI i)), (2, .int (nI j)), (0, .ref m0)] := hl
        refine lv_iinc (k := 1) (v := (nI (i + 1))) hx hb d_Mo_alike_82 hl rfl (nI_1 i) (by decide) rfl (fun ls hl => ?_)
        have hl : lv_has ls 4 [(3, .int (nI (i + 1))), (1, .int 1), (2, .int (nI j)), (0, .ref m0)] := hl
        refine lv_goto (tgt := 41) hx hb d_Mo_alike_85 rfl ?_
        exact ih (i + 1) ls (by omega) hl (fun h => k1 (fun i9 h1 h2 => (Nat.eq_or_lt_of_le h1).elim (fun h9 => by subst h9; exact br73) (fun h9 => h i9 h9 h2))) (fun ⟨i9, h1, h2, h3⟩ => k0 ⟨i9, by omega, h2, h3⟩)
  have body : ∀ (j : Nat), 1 ≤ j → j ≤ 3 → ∀ (ls : Array Slot), lv_has ls 4 [(1, .int 1), (2, .int (nI j)), (0, .ref m0)] → (md_sm mu m0 nn j → ∀ ls, lv_has ls 4 [(1, .int 1), (2, .int (nI j)), (0, .ref m0)] → W p l e (rmm 0 0) s m ([.ref m0] : List Value).toArray below meth c H locs 0 0 (MQ below (cw_Q (some (.int v)) (la_P D cls5 La (la_up mu m0 0 0)) (la_A La)) ([.ref m0] : List Value).toArray s 0 0 (la_A La)) (F0 m 88 ls [])) → (¬ md_sm mu m0 nn j → ∀ ls, lv_has ls 4 [(1, .int 0), (2, .int (nI j)), (0, .ref m0)] → W p l e (rmm 0 0) s m ([.ref m0] : List Value).toArray below meth c H locs 0 0 (MQ below (cw_Q (some (.int v)) (la_P D cls5 La (la_up mu m0 0 0)) (la_A La)) ([.ref m0] : List Value).toArray s 0 0 (la_A La)) (F0 m 88 ls [])) → W p l e (rmm 0 0) s m ([.ref m0] : List Value).toArray below meth c H locs 0 0 (MQ below (cw_Q (some (.int v)) (la_P D cls5 La (la_up mu m0 0 0)) (la_A La)) ([.ref m0] : List Value).toArray s 0 0 (la_A La)) (F0 m 14 ls []) := by
    intro j hj1 hj3 ls hl k1 k0
    have zj := h64 j (by omega)
    refine lv_iload_n hx hb d_Mo_alike_14 rfl (lv_at hl 0 rfl) ?_
    refine lv_if_eq (tgt := 37) hx hb d_Mo_alike_15 rfl (fun br15 => absurd br15 (by decide)) (fun br15 => ?_)
    refine lv_aload_n hx hb d_Mo_alike_18 rfl (lv_at hl 2 rfl) ?_
    refine g_f (v := .ref (m0 + 1)) Z kc_Mo hP hm.1 rfl 1 (by decide) wl_Mo_7 rfl rfl d_Mo_alike_19 ?_
    refine lv_iload_n hx hb d_Mo_alike_22 rfl (lv_at hl 1 rfl) ?_
    refine la_ialdv (v := (nI (nn j))) hx hb hK hP 0 hm.2.1 rfl rfl j rfl (by omega) (by decide) ((congrFun (la_up_n (by omega)) j).trans (hn j (by omega))) d_Mo_alike_23 ?_
    refine lv_aload_n hx hb d_Mo_alike_24 rfl (lv_at hl 2 rfl) ?_
    refine g_f (v := .ref (m0 + 1)) Z kc_Mo hP hm.1 rfl 1 (by decide) wl_Mo_7 rfl rfl d_Mo_alike_25 ?_
    refine lv_iconst (v := 0) hx hb d_Mo_alike_28 (by decide) ?_
    refine la_ialdv (v := (nI (nn 0))) hx hb hK hP 0 hm.2.1 rfl rfl 0 rfl (by decide) (by decide) ((congrFun (la_up_n (by omega)) 0).trans (hn 0 (by decide))) d_Mo_alike_29 ?_
    refine lv_icmp_ne (tgt := 37) hx hb d_Mo_alike_30 rfl (fun br30 => ?_) (fun br30 => ?_)
    · skip
      refine lv_iconst (v := 0) hx hb d_Mo_alike_37 (by decide) ?_
      refine lv_istore_n hx hb d_Mo_alike_38 rfl hl (by decide) rfl (fun ls hl => ?_)
      have hl : lv_has ls 4 [(1, .int 0), (2, .int (nI j)), (0, .ref m0)] := hl
      refine lv_iconst (v := 0) hx hb d_Mo_alike_39 (by decide) ?_
      refine lv_istore_n hx hb d_Mo_alike_40 rfl hl (by decide) rfl (fun ls hl => ?_)
      have hl : lv_has ls 4 [(3, .int 0), (1, .int 0), (2, .int (nI j)), (0, .ref m0)] := hl
      refine lv_iload_n hx hb d_Mo_alike_41 rfl (lv_at hl 0 rfl) ?_
      refine lv_aload_n hx hb d_Mo_alike_42 rfl (lv_at hl 3 rfl) ?_
      refine g_f (v := .ref (m0 + 1)) Z kc_Mo hP hm.1 rfl 1 (by decide) wl_Mo_7 rfl rfl d_Mo_alike_43 ?_
      refine lv_iconst (v := 0) hx hb d_Mo_alike_46 (by decide) ?_
      refine la_ialdv (v := (nI (nn 0))) hx hb hK hP 0 hm.2.1 rfl rfl 0 rfl (by decide) (by decide) ((congrFun (la_up_n (by omega)) 0).trans (hn 0 (by decide))) d_Mo_alike_47 ?_
      refine lv_icmp_ge (tgt := 88) hx hb d_Mo_alike_48 rfl (fun br48 => ?_) (fun br48 => ?_)
      · skip
        exact k0 (fun h => br30 (by rw [h.1])) ls (lv_sub hl [1, 2, 3] rfl)
      · skip
        refine lv_iload_n hx hb d_Mo_alike_51 rfl (lv_at hl 1 rfl) ?_
        refine lv_if_eq (tgt := 88) hx hb d_Mo_alike_52 rfl (fun br52 => ?_) (fun br52 => absurd (rfl) br52)
        exact k0 (fun h => br30 (by rw [h.1])) ls (lv_sub hl [1, 2, 3] rfl)
    · skip
      refine lv_iconst (v := 1) hx hb d_Mo_alike_33 (by decide) ?_
      refine lv_goto (tgt := 38) hx hb d_Mo_alike_34 rfl ?_
      refine lv_istore_n hx hb d_Mo_alike_38 rfl hl (by decide) rfl (fun ls hl => ?_)
      have hl : lv_has ls 4 [(1, .int 1), (2, .int (nI j)), (0, .ref m0)] := hl
      refine lv_iconst (v := 0) hx hb d_Mo_alike_39 (by decide) ?_
      refine lv_istore_n hx hb d_Mo_alike_40 rfl hl (by decide) rfl (fun ls hl => ?_)
      have hl : lv_has ls 4 [(3, .int 0), (1, .int 1), (2, .int (nI j)), (0, .ref m0)] := hl
      exact inner j hj1 hj3 (nn 0) 0 ls (by omega) hl (fun h => k1 ⟨(nI_eq (by omega) (by omega)).mp br30, fun i9 h2 => h i9 (by omega) h2⟩) (fun ⟨i9, h1, h2, h3⟩ => k0 (fun h => h3 (h.2 i9 h2)))
  have bodz : ∀ (j : Nat), 1 ≤ j → j ≤ 3 → ∀ (ls : Array Slot), lv_has ls 4 [(1, .int 0), (2, .int (nI j)), (0, .ref m0)] → (∀ ls, lv_has ls 4 [(1, .int 0), (2, .int (nI j)), (0, .ref m0)] → W p l e (rmm 0 0) s m ([.ref m0] : List Value).toArray below meth c H locs 0 0 (MQ below (cw_Q (some (.int v)) (la_P D cls5 La (la_up mu m0 0 0)) (la_A La)) ([.ref m0] : List Value).toArray s 0 0 (la_A La)) (F0 m 88 ls [])) → W p l e (rmm 0 0) s m ([.ref m0] : List Value).toArray below meth c H locs 0 0 (MQ below (cw_Q (some (.int v)) (la_P D cls5 La (la_up mu m0 0 0)) (la_A La)) ([.ref m0] : List Value).toArray s 0 0 (la_A La)) (F0 m 14 ls []) := by
    intro j hj1 hj3 ls hl k0
    refine lv_iload_n hx hb d_Mo_alike_14 rfl (lv_at hl 0 rfl) ?_
    refine lv_if_eq (tgt := 37) hx hb d_Mo_alike_15 rfl (fun br15 => ?_) (fun br15 => absurd (rfl) br15)
    refine lv_iconst (v := 0) hx hb d_Mo_alike_37 (by decide) ?_
    refine lv_istore_n hx hb d_Mo_alike_38 rfl hl (by decide) rfl (fun ls hl => ?_)
    have hl : lv_has ls 4 [(1, .int 0), (2, .int (nI j)), (0, .ref m0)] := hl
    refine lv_iconst (v := 0) hx hb d_Mo_alike_39 (by decide) ?_
    refine lv_istore_n hx hb d_Mo_alike_40 rfl hl (by decide) rfl (fun ls hl => ?_)
    have hl : lv_has ls 4 [(3, .int 0), (1, .int 0), (2, .int (nI j)), (0, .ref m0)] := hl
    refine lv_iload_n hx hb d_Mo_alike_41 rfl (lv_at hl 0 rfl) ?_
    refine lv_aload_n hx hb d_Mo_alike_42 rfl (lv_at hl 3 rfl) ?_
    refine g_f (v := .ref (m0 + 1)) Z kc_Mo hP hm.1 rfl 1 (by decide) wl_Mo_7 rfl rfl d_Mo_alike_43 ?_
    refine lv_iconst (v := 0) hx hb d_Mo_alike_46 (by decide) ?_
    refine la_ialdv (v := (nI (nn 0))) hx hb hK hP 0 hm.2.1 rfl rfl 0 rfl (by decide) (by decide) ((congrFun (la_up_n (by omega)) 0).trans (hn 0 (by decide))) d_Mo_alike_47 ?_
    refine lv_icmp_ge (tgt := 88) hx hb d_Mo_alike_48 rfl (fun br48 => ?_) (fun br48 => ?_)
    · skip
      exact k0 ls (lv_sub hl [1, 2, 3] rfl)
    · skip
      refine lv_iload_n hx hb d_Mo_alike_51 rfl (lv_at hl 1 rfl) ?_
      refine lv_if_eq (tgt := 88) hx hb d_Mo_alike_52 rfl (fun br52 => ?_) (fun br52 => absurd (rfl) br52)
      exact k0 ls (lv_sub hl [1, 2, 3] rfl)
  refine lv_iconst (v := 1) hx hb d_Mo_alike_5 (by decide) ?_
  refine lv_istore_n hx hb d_Mo_alike_6 rfl hl (by decide) rfl (fun ls hl => ?_)
  have hl : lv_has ls 4 [(1, .int 1), (0, .ref m0)] := hl
  refine lv_iconst (v := 1) hx hb d_Mo_alike_7 (by decide) ?_
  refine lv_istore_n hx hb d_Mo_alike_8 rfl hl (by decide) rfl (fun ls hl => ?_)
  have hl : lv_has ls 4 [(2, .int 1), (1, .int 1), (0, .ref m0)] := hl
  refine lv_iload_n hx hb d_Mo_alike_9 rfl (lv_at hl 0 rfl) ?_
  refine lv_iconst (v := 3) hx hb d_Mo_alike_10 (by decide) ?_
  refine lv_icmp_gt (tgt := 94) hx hb d_Mo_alike_11 rfl (fun br11 => absurd br11 (by decide)) (fun br11 => ?_)
  refine body 1 (by decide) (by decide) ls (lv_sub hl [1, 0, 2] rfl) (fun g1 ls hl => ?_) (fun g1 ls hl => ?_)
  · skip
    have hl : lv_has ls 4 [(1, .int 1), (2, .int 1), (0, .ref m0)] := hl
    refine lv_iinc (k := 1) (v := 2) hx hb d_Mo_alike_88 hl rfl (by decide) (by decide) rfl (fun ls hl => ?_)
    have hl : lv_has ls 4 [(2, .int 2), (1, .int 1), (0, .ref m0)] := hl
    refine lv_goto (tgt := 9) hx hb d_Mo_alike_91 rfl ?_
    refine lv_iload_n hx hb d_Mo_alike_9 rfl (lv_at hl 0 rfl) ?_
    refine lv_iconst (v := 3) hx hb d_Mo_alike_10 (by decide) ?_
    refine lv_icmp_gt (tgt := 94) hx hb d_Mo_alike_11 rfl (fun br11 => absurd br11 (by decide)) (fun br11 => ?_)
    refine body 2 (by decide) (by decide) ls (lv_sub hl [1, 0, 2] rfl) (fun g2 ls hl => ?_) (fun g2 ls hl => ?_)
    · skip
      have hl : lv_has ls 4 [(1, .int 1), (2, .int 2), (0, .ref m0)] := hl
      refine lv_iinc (k := 1) (v := 3) hx hb d_Mo_alike_88 hl rfl (by decide) (by decide) rfl (fun ls hl => ?_)
      have hl : lv_has ls 4 [(2, .int 3), (1, .int 1), (0, .ref m0)] := hl
      refine lv_goto (tgt := 9) hx hb d_Mo_alike_91 rfl ?_
      refine lv_iload_n hx hb d_Mo_alike_9 rfl (lv_at hl 0 rfl) ?_
      refine lv_iconst (v := 3) hx hb d_Mo_alike_10 (by decide) ?_
      refine lv_icmp_gt (tgt := 94) hx hb d_Mo_alike_11 rfl (fun br11 => absurd br11 (by decide)) (fun br11 => ?_)
      refine body 3 (by decide) (by decide) ls (lv_sub hl [1, 0, 2] rfl) (fun g3 ls hl => ?_) (fun g3 ls hl => ?_)
      · skip
        have hl : lv_has ls 4 [(1, .int 1), (2, .int 3), (0, .ref m0)] := hl
        refine lv_iinc (k := 1) (v := 4) hx hb d_Mo_alike_88 hl rfl (by decide) (by decide) rfl (fun ls hl => ?_)
        have hl : lv_has ls 4 [(2, .int 4), (1, .int 1), (0, .ref m0)] := hl
        refine lv_goto (tgt := 9) hx hb d_Mo_alike_91 rfl ?_
        refine lv_iload_n hx hb d_Mo_alike_9 rfl (lv_at hl 0 rfl) ?_
        refine lv_iconst (v := 3) hx hb d_Mo_alike_10 (by decide) ?_
        refine lv_icmp_gt (tgt := 94) hx hb d_Mo_alike_11 rfl (fun br11 => ?_) (fun br11 => absurd (by decide) br11)
        have hvv := congrArg (fun z => Outcome.returned (some (Value.int z))) (hv1 (fun j h1 h2 => by match j, h1, h2 with | 1, _, _ => exact g1 | 2, _, _ => exact g2 | 3, _, _ => exact g3)).symm
        refine lv_iload_n hx hb d_Mo_alike_94 rfl (lv_at hl 1 rfl) ?_
        exact W.zret hx hb hr (by decide) (fun t ht hW => ⟨hvv, by rw [ht]; exact cvm hP (rfl), hS.F ht⟩) hS.2.2 d_Mo_alike_95
      · skip
        have hl : lv_has ls 4 [(1, .int 0), (2, .int 3), (0, .ref m0)] := hl
        have g0 := hv0 3 (by decide) (by decide) g3
        refine lv_iinc (k := 1) (v := 4) hx hb d_Mo_alike_88 hl rfl (by decide) (by decide) rfl (fun ls hl => ?_)
        have hl : lv_has ls 4 [(2, .int 4), (1, .int 0), (0, .ref m0)] := hl
        refine lv_goto (tgt := 9) hx hb d_Mo_alike_91 rfl ?_
        refine lv_iload_n hx hb d_Mo_alike_9 rfl (lv_at hl 0 rfl) ?_
        refine lv_iconst (v := 3) hx hb d_Mo_alike_10 (by decide) ?_
        refine lv_icmp_gt (tgt := 94) hx hb d_Mo_alike_11 rfl (fun br11 => ?_) (fun br11 => absurd (by decide) br11)
        have hvv := congrArg (fun z => Outcome.returned (some (Value.int z))) g0.symm
        refine lv_iload_n hx hb d_Mo_alike_94 rfl (lv_at hl 1 rfl) ?_
        exact W.zret hx hb hr (by decide) (fun t ht hW => ⟨hvv, by rw [ht]; exact cvm hP (rfl), hS.F ht⟩) hS.2.2 d_Mo_alike_95
    · skip
      have hl : lv_has ls 4 [(1, .int 0), (2, .int 2), (0, .ref m0)] := hl
      have g0 := hv0 2 (by decide) (by decide) g2
      refine lv_iinc (k := 1) (v := 3) hx hb d_Mo_alike_88 hl rfl (by decide) (by decide) rfl (fun ls hl => ?_)
      have hl : lv_has ls 4 [(2, .int 3), (1, .int 0), (0, .ref m0)] := hl
      refine lv_goto (tgt := 9) hx hb d_Mo_alike_91 rfl ?_
      refine lv_iload_n hx hb d_Mo_alike_9 rfl (lv_at hl 0 rfl) ?_
      refine lv_iconst (v := 3) hx hb d_Mo_alike_10 (by decide) ?_
      refine lv_icmp_gt (tgt := 94) hx hb d_Mo_alike_11 rfl (fun br11 => absurd br11 (by decide)) (fun br11 => ?_)
      refine bodz 3 (by decide) (by decide) ls (lv_sub hl [1, 0, 2] rfl) (fun ls hl => ?_)
      have hl : lv_has ls 4 [(1, .int 0), (2, .int 3), (0, .ref m0)] := hl
      refine lv_iinc (k := 1) (v := 4) hx hb d_Mo_alike_88 hl rfl (by decide) (by decide) rfl (fun ls hl => ?_)
      have hl : lv_has ls 4 [(2, .int 4), (1, .int 0), (0, .ref m0)] := hl
      refine lv_goto (tgt := 9) hx hb d_Mo_alike_91 rfl ?_
      refine lv_iload_n hx hb d_Mo_alike_9 rfl (lv_at hl 0 rfl) ?_
      refine lv_iconst (v := 3) hx hb d_Mo_alike_10 (by decide) ?_
      refine lv_icmp_gt (tgt := 94) hx hb d_Mo_alike_11 rfl (fun br11 => ?_) (fun br11 => absurd (by decide) br11)
      have hvv := congrArg (fun z => Outcome.returned (some (Value.int z))) g0.symm
      refine lv_iload_n hx hb d_Mo_alike_94 rfl (lv_at hl 1 rfl) ?_
      exact W.zret hx hb hr (by decide) (fun t ht hW => ⟨hvv, by rw [ht]; exact cvm hP (rfl), hS.F ht⟩) hS.2.2 d_Mo_alike_95
  · skip
    have hl : lv_has ls 4 [(1, .int 0), (2, .int 1), (0, .ref m0)] := hl
    have g0 := hv0 1 (by decide) (by decide) g1
    refine lv_iinc (k := 1) (v := 2) hx hb d_Mo_alike_88 hl rfl (by decide) (by decide) rfl (fun ls hl => ?_)
    have hl : lv_has ls 4 [(2, .int 2), (1, .int 0), (0, .ref m0)] := hl
    refine lv_goto (tgt := 9) hx hb d_Mo_alike_91 rfl ?_
    refine lv_iload_n hx hb d_Mo_alike_9 rfl (lv_at hl 0 rfl) ?_
    refine lv_iconst (v := 3) hx hb d_Mo_alike_10 (by decide) ?_
    refine lv_icmp_gt (tgt := 94) hx hb d_Mo_alike_11 rfl (fun br11 => absurd br11 (by decide)) (fun br11 => ?_)
    refine bodz 2 (by decide) (by decide) ls (lv_sub hl [1, 0, 2] rfl) (fun ls hl => ?_)
    have hl : lv_has ls 4 [(1, .int 0), (2, .int 2), (0, .ref m0)] := hl
    refine lv_iinc (k := 1) (v := 3) hx hb d_Mo_alike_88 hl rfl (by decide) (by decide) rfl (fun ls hl => ?_)
    have hl : lv_has ls 4 [(2, .int 3), (1, .int 0), (0, .ref m0)] := hl
    refine lv_goto (tgt := 9) hx hb d_Mo_alike_91 rfl ?_
    refine lv_iload_n hx hb d_Mo_alike_9 rfl (lv_at hl 0 rfl) ?_
    refine lv_iconst (v := 3) hx hb d_Mo_alike_10 (by decide) ?_
    refine lv_icmp_gt (tgt := 94) hx hb d_Mo_alike_11 rfl (fun br11 => absurd br11 (by decide)) (fun br11 => ?_)
    refine bodz 3 (by decide) (by decide) ls (lv_sub hl [1, 0, 2] rfl) (fun ls hl => ?_)
    have hl : lv_has ls 4 [(1, .int 0), (2, .int 3), (0, .ref m0)] := hl
    refine lv_iinc (k := 1) (v := 4) hx hb d_Mo_alike_88 hl rfl (by decide) (by decide) rfl (fun ls hl => ?_)
    have hl : lv_has ls 4 [(2, .int 4), (1, .int 0), (0, .ref m0)] := hl
    refine lv_goto (tgt := 9) hx hb d_Mo_alike_91 rfl ?_
    refine lv_iload_n hx hb d_Mo_alike_9 rfl (lv_at hl 0 rfl) ?_
    refine lv_iconst (v := 3) hx hb d_Mo_alike_10 (by decide) ?_
    refine lv_icmp_gt (tgt := 94) hx hb d_Mo_alike_11 rfl (fun br11 => ?_) (fun br11 => absurd (by decide) br11)
    have hvv := congrArg (fun z => Outcome.returned (some (Value.int z))) g0.symm
    refine lv_iload_n hx hb d_Mo_alike_94 rfl (lv_at hl 1 rfl) ?_
    exact W.zret hx hb hr (by decide) (fun t ht hW => ⟨hvv, by rw [ht]; exact cvm hP (rfl), hS.F ht⟩) hS.2.2 d_Mo_alike_95
end
