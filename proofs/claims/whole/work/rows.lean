section
-- ===== PART A: goes FIRST, ahead of the names: the tables' words, and 'selects' of the private methods out of them =====
/-- a private method of a class that the tables say can be made, by its rows of tables_1 -/
def lw_okq (q : MethodName × Nat) : Prop := (q.1.cls ≠ "java/lang/invoke/MethodHandle" ∧ q.1.cls ≠ "java/lang/invoke/VarHandle") ∧ Cond.instantiable q.1.cls q.2 ∈ tables_1 ∧ Cond.privateMethod q.1 ∈ tables_1 ∧ Cond.instanceMethod q.1 ∈ tables_1
theorem lw_p0 : lw_okq (⟨"EditRelay", "way", "(IZ)LEditRelay$Way;"⟩, 4) := ⟨⟨by decide +kernel, by decide +kernel⟩, List.mem_of_getElem? (i := 16) (by decide +kernel), List.mem_of_getElem? (i := 126) (by decide +kernel), List.mem_of_getElem? (i := 127) (by decide +kernel)⟩
theorem lw_p1 : lw_okq (⟨"java/lang/Throwable", "fillInStackTrace", "(I)Ljava/lang/Throwable;"⟩, 6) := ⟨⟨by decide +kernel, by decide +kernel⟩, List.mem_of_getElem? (i := 186) (by decide +kernel), List.mem_of_getElem? (i := 184) (by decide +kernel), List.mem_of_getElem? (i := 185) (by decide +kernel)⟩
theorem lw_p2 : lw_okq (⟨"EditRelay", "checkMayMakeChange", "(I)V"⟩, 4) := ⟨⟨by decide +kernel, by decide +kernel⟩, List.mem_of_getElem? (i := 16) (by decide +kernel), List.mem_of_getElem? (i := 249) (by decide +kernel), List.mem_of_getElem? (i := 250) (by decide +kernel)⟩
theorem lw_p3 : lw_okq (⟨"EditRelay", "makeChange", "(IIIC)V"⟩, 4) := ⟨⟨by decide +kernel, by decide +kernel⟩, List.mem_of_getElem? (i := 16) (by decide +kernel), List.mem_of_getElem? (i := 262) (by decide +kernel), List.mem_of_getElem? (i := 263) (by decide +kernel)⟩
theorem lw_p4 : lw_okq (⟨"EditRelay$Text", "put", "(IC)V"⟩, 2) := ⟨⟨by decide +kernel, by decide +kernel⟩, List.mem_of_getElem? (i := 25) (by decide +kernel), List.mem_of_getElem? (i := 270) (by decide +kernel), List.mem_of_getElem? (i := 271) (by decide +kernel)⟩
theorem lw_p5 : lw_okq (⟨"EditRelay$Text", "remove", "(I)V"⟩, 2) := ⟨⟨by decide +kernel, by decide +kernel⟩, List.mem_of_getElem? (i := 25) (by decide +kernel), List.mem_of_getElem? (i := 277) (by decide +kernel), List.mem_of_getElem? (i := 278) (by decide +kernel)⟩
theorem lw_p6 : lw_okq (⟨"EditRelay$Way", "slotOf", "(I)I"⟩, 7) := ⟨⟨by decide +kernel, by decide +kernel⟩, List.mem_of_getElem? (i := 42) (by decide +kernel), List.mem_of_getElem? (i := 285) (by decide +kernel), List.mem_of_getElem? (i := 286) (by decide +kernel)⟩
theorem lw_p7 : lw_okq (⟨"EditRelay", "receive", "(ILEditRelay$Way;LEditRelay$Way;)LEditRelay$Change;"⟩, 4) := ⟨⟨by decide +kernel, by decide +kernel⟩, List.mem_of_getElem? (i := 16) (by decide +kernel), List.mem_of_getElem? (i := 342) (by decide +kernel), List.mem_of_getElem? (i := 343) (by decide +kernel)⟩
theorem lw_p8 : lw_okq (⟨"EditRelay$Change", "fitTo", "(III)V"⟩, 4) := ⟨⟨by decide +kernel, by decide +kernel⟩, List.mem_of_getElem? (i := 49) (by decide +kernel), List.mem_of_getElem? (i := 372) (by decide +kernel), List.mem_of_getElem? (i := 373) (by decide +kernel)⟩
theorem lw_p9 : lw_okq (⟨"EditRelay$Change", "fitToInsert", "(II)V"⟩, 4) := ⟨⟨by decide +kernel, by decide +kernel⟩, List.mem_of_getElem? (i := 49) (by decide +kernel), List.mem_of_getElem? (i := 376) (by decide +kernel), List.mem_of_getElem? (i := 377) (by decide +kernel)⟩
theorem lw_p10 : lw_okq (⟨"EditRelay$Change", "fitToDelete", "(I)V"⟩, 4) := ⟨⟨by decide +kernel, by decide +kernel⟩, List.mem_of_getElem? (i := 49) (by decide +kernel), List.mem_of_getElem? (i := 380) (by decide +kernel), List.mem_of_getElem? (i := 381) (by decide +kernel)⟩
theorem lw_p11 : lw_okq (⟨"EditRelayModel", "loaded", "(I)Z"⟩, 20) := ⟨⟨by decide +kernel, by decide +kernel⟩, List.mem_of_getElem? (i := 440) (by decide +kernel), List.mem_of_getElem? (i := 518) (by decide +kernel), List.mem_of_getElem? (i := 519) (by decide +kernel)⟩
theorem lw_p12 : lw_okq (⟨"EditRelayModel", "begin", "(IIII)V"⟩, 20) := ⟨⟨by decide +kernel, by decide +kernel⟩, List.mem_of_getElem? (i := 440) (by decide +kernel), List.mem_of_getElem? (i := 525) (by decide +kernel), List.mem_of_getElem? (i := 526) (by decide +kernel)⟩
theorem lw_p13 : lw_okq (⟨"EditRelayModel", "apply", "(I)V"⟩, 20) := ⟨⟨by decide +kernel, by decide +kernel⟩, List.mem_of_getElem? (i := 440) (by decide +kernel), List.mem_of_getElem? (i := 529) (by decide +kernel), List.mem_of_getElem? (i := 530) (by decide +kernel)⟩
theorem lw_p14 : lw_okq (⟨"EditRelayModel", "send", "(I)V"⟩, 20) := ⟨⟨by decide +kernel, by decide +kernel⟩, List.mem_of_getElem? (i := 440) (by decide +kernel), List.mem_of_getElem? (i := 533) (by decide +kernel), List.mem_of_getElem? (i := 534) (by decide +kernel)⟩
theorem lw_p15 : lw_okq (⟨"EditRelayModel", "get", "(II)V"⟩, 20) := ⟨⟨by decide +kernel, by decide +kernel⟩, List.mem_of_getElem? (i := 440) (by decide +kernel), List.mem_of_getElem? (i := 552) (by decide +kernel), List.mem_of_getElem? (i := 553) (by decide +kernel)⟩
def lw_privs_1 : List (MethodName × Nat) := [(⟨"EditRelay", "way", "(IZ)LEditRelay$Way;"⟩, 4), (⟨"java/lang/Throwable", "fillInStackTrace", "(I)Ljava/lang/Throwable;"⟩, 6), (⟨"EditRelay", "checkMayMakeChange", "(I)V"⟩, 4), (⟨"EditRelay", "makeChange", "(IIIC)V"⟩, 4), (⟨"EditRelay$Text", "put", "(IC)V"⟩, 2), (⟨"EditRelay$Text", "remove", "(I)V"⟩, 2), (⟨"EditRelay$Way", "slotOf", "(I)I"⟩, 7), (⟨"EditRelay", "receive", "(ILEditRelay$Way;LEditRelay$Way;)LEditRelay$Change;"⟩, 4), (⟨"EditRelay$Change", "fitTo", "(III)V"⟩, 4), (⟨"EditRelay$Change", "fitToInsert", "(II)V"⟩, 4), (⟨"EditRelay$Change", "fitToDelete", "(I)V"⟩, 4), (⟨"EditRelayModel", "loaded", "(I)Z"⟩, 20), (⟨"EditRelayModel", "begin", "(IIII)V"⟩, 20), (⟨"EditRelayModel", "apply", "(I)V"⟩, 20), (⟨"EditRelayModel", "send", "(I)V"⟩, 20), (⟨"EditRelayModel", "get", "(II)V"⟩, 20)]
theorem lw_r1 : ∀ q ∈ lw_privs_1, lw_okq q := List.forall_mem_cons.mpr ⟨lw_p0, List.forall_mem_cons.mpr ⟨lw_p1, List.forall_mem_cons.mpr ⟨lw_p2, List.forall_mem_cons.mpr ⟨lw_p3, List.forall_mem_cons.mpr ⟨lw_p4, List.forall_mem_cons.mpr ⟨lw_p5, List.forall_mem_cons.mpr ⟨lw_p6, List.forall_mem_cons.mpr ⟨lw_p7, List.forall_mem_cons.mpr ⟨lw_p8, List.forall_mem_cons.mpr ⟨lw_p9, List.forall_mem_cons.mpr ⟨lw_p10, List.forall_mem_cons.mpr ⟨lw_p11, List.forall_mem_cons.mpr ⟨lw_p12, List.forall_mem_cons.mpr ⟨lw_p13, List.forall_mem_cons.mpr ⟨lw_p14, List.forall_mem_cons.mpr ⟨lw_p15, fun _ h => absurd h List.not_mem_nil⟩⟩⟩⟩⟩⟩⟩⟩⟩⟩⟩⟩⟩⟩⟩⟩
theorem lw_p16 : lw_okq (⟨"EditRelayModel", "forget", "(I)V"⟩, 20) := ⟨⟨by decide +kernel, by decide +kernel⟩, List.mem_of_getElem? (i := 440) (by decide +kernel), List.mem_of_getElem? (i := 556) (by decide +kernel), List.mem_of_getElem? (i := 557) (by decide +kernel)⟩
def lw_privs_2 : List (MethodName × Nat) := [(⟨"EditRelayModel", "forget", "(I)V"⟩, 20)]
theorem lw_r2 : ∀ q ∈ lw_privs_2, lw_okq q := List.forall_mem_cons.mpr ⟨lw_p16, fun _ h => absurd h List.not_mem_nil⟩
def lw_privs : List (MethodName × Nat) := lw_privs_1 ++ (lw_privs_2)
def lw_tbl : List Cond := k2_sels lw_privs ++ tables_1
theorem lw_privs_ok : ∀ q ∈ lw_privs, lw_okq q := by
  show ∀ q ∈ lw_privs_1 ++ (lw_privs_2), lw_okq q
  exact List.forall_mem_append.mpr ⟨lw_r1, lw_r2⟩

/-! the words of the tables that stay true under warmer tables -/
def gw : List Cond := lw_tbl.filter goodWord
theorem gw_t {w : Cond} (i : Nat) (h : tables_1[i]? = some w) (hg : goodWord w = true) : w ∈ gw := List.mem_filter.mpr ⟨List.mem_append_right _ (List.mem_of_getElem? h), hg⟩
theorem gw_s {q : MethodName × Nat} (i : Nat) (h : lw_privs[i]? = some q) : Cond.selects q.1.cls q.1 q.1 ∈ gw := List.mem_filter.mpr ⟨List.mem_append_left _ (List.mem_map.mpr ⟨q, List.mem_of_getElem? h, rfl⟩), rfl⟩
theorem gw_good : ∀ w ∈ gw, goodWord w = true := fun w h => (List.mem_filter.mp h).2
end
section
/-! names: classes, fields, methods; the words of the tables by name (written by wip/whole/names.py) -/
def R_Ch : String := "EditRelay$Change"
def F_Ch : u_T := fun k => match k with
  | 0 => ("EditRelay$Change", "kind", "I", false)
  | 1 => ("EditRelay$Change", "place", "I", false)
  | 2 => ("EditRelay$Change", "letter", "C", false)
  | _ => ("EditRelay$Change", "origin", "I", false)
def t_Ch : Nat → FieldType := fun k => match k with
  | 0 => .int
  | 1 => .int
  | 2 => .char
  | _ => .int
theorem n_Ch : ∀ a, a < 4 → ∀ b, b < 4 → a ≠ b → (F_Ch a).2.1 ≠ (F_Ch b).2.1 := by decide +kernel
theorem t_Ch_ok : ∀ k, k < 4 → parseFieldDescriptor (F_Ch k).2.2.1 = some (t_Ch k) := by decide +kernel
def R_Tx : String := "EditRelay$Text"
def F_Tx : u_T := fun k => match k with
  | 0 => ("EditRelay$Text", "letters", "[C", true)
  | _ => ("EditRelay$Text", "count", "I", false)
def t_Tx : Nat → FieldType := fun k => match k with
  | 0 => .array .char
  | _ => .int
theorem n_Tx : ∀ a, a < 2 → ∀ b, b < 2 → a ≠ b → (F_Tx a).2.1 ≠ (F_Tx b).2.1 := by decide +kernel
theorem t_Tx_ok : ∀ k, k < 2 → parseFieldDescriptor (F_Tx k).2.2.1 = some (t_Tx k) := by decide +kernel
def R_Wy : String := "EditRelay$Way"
def F_Wy : u_T := fun k => match k with
  | 0 => ("EditRelay$Way", "room", "I", true)
  | 1 => ("EditRelay$Way", "messages", "[LEditRelay$Change;", true)
  | 2 => ("EditRelay$Way", "opens", "[LEditRelay$Change;", true)
  | 3 => ("EditRelay$Way", "heards", "[I", true)
  | 4 => ("EditRelay$Way", "sent", "I", false)
  | 5 => ("EditRelay$Way", "known", "I", false)
  | _ => ("EditRelay$Way", "got", "I", false)
def t_Wy : Nat → FieldType := fun k => match k with
  | 0 => .int
  | 1 => .array (.object "EditRelay$Change")
  | 2 => .array (.object "EditRelay$Change")
  | 3 => .array .int
  | 4 => .int
  | 5 => .int
  | _ => .int
theorem n_Wy : ∀ a, a < 7 → ∀ b, b < 7 → a ≠ b → (F_Wy a).2.1 ≠ (F_Wy b).2.1 := by decide +kernel
theorem t_Wy_ok : ∀ k, k < 7 → parseFieldDescriptor (F_Wy k).2.2.1 = some (t_Wy k) := by decide +kernel
def R_Er : String := "EditRelay"
def F_Er : u_T := fun k => match k with
  | 0 => ("EditRelay", "texts", "[LEditRelay$Text;", true)
  | 1 => ("EditRelay", "ups", "[LEditRelay$Way;", true)
  | 2 => ("EditRelay", "downs", "[LEditRelay$Way;", true)
  | _ => ("EditRelay", "made", "LEditRelay$Change;", true)
def t_Er : Nat → FieldType := fun k => match k with
  | 0 => .array (.object "EditRelay$Text")
  | 1 => .array (.object "EditRelay$Way")
  | 2 => .array (.object "EditRelay$Way")
  | _ => .object "EditRelay$Change"
theorem n_Er : ∀ a, a < 4 → ∀ b, b < 4 → a ≠ b → (F_Er a).2.1 ≠ (F_Er b).2.1 := by decide +kernel
theorem t_Er_ok : ∀ k, k < 4 → parseFieldDescriptor (F_Er k).2.2.1 = some (t_Er k) := by decide +kernel
def R_Mo : String := "EditRelayModel"
def F_Mo : u_T := fun k => match k with
  | 0 => ("EditRelayModel", "thrown", "I", false)
  | 1 => ("EditRelayModel", "sizes", "[I", true)
  | 2 => ("EditRelayModel", "texts", "[C", true)
  | 3 => ("EditRelayModel", "sent", "[I", true)
  | 4 => ("EditRelayModel", "got", "[I", true)
  | 5 => ("EditRelayModel", "waits", "[I", true)
  | 6 => ("EditRelayModel", "kinds", "[I", true)
  | 7 => ("EditRelayModel", "places", "[I", true)
  | 8 => ("EditRelayModel", "letters", "[I", true)
  | 9 => ("EditRelayModel", "origins", "[I", true)
  | 10 => ("EditRelayModel", "counts", "[I", true)
  | 11 => ("EditRelayModel", "opens", "[I", true)
  | 12 => ("EditRelayModel", "openKinds", "[I", true)
  | 13 => ("EditRelayModel", "openPlaces", "[I", true)
  | 14 => ("EditRelayModel", "openLetters", "[I", true)
  | 15 => ("EditRelayModel", "openOrigins", "[I", true)
  | 16 => ("EditRelayModel", "kind", "I", false)
  | 17 => ("EditRelayModel", "place", "I", false)
  | 18 => ("EditRelayModel", "letter0", "I", false)
  | _ => ("EditRelayModel", "origin", "I", false)
def t_Mo : Nat → FieldType := fun k => match k with
  | 0 => .int
  | 1 => .array .int
  | 2 => .array .char
  | 3 => .array .int
  | 4 => .array .int
  | 5 => .array .int
  | 6 => .array .int
  | 7 => .array .int
  | 8 => .array .int
  | 9 => .array .int
  | 10 => .array .int
  | 11 => .array .int
  | 12 => .array .int
  | 13 => .array .int
  | 14 => .array .int
  | 15 => .array .int
  | 16 => .int
  | 17 => .int
  | 18 => .int
  | _ => .int
theorem n_Mo : ∀ a, a < 20 → ∀ b, b < 20 → a ≠ b → (F_Mo a).2.1 ≠ (F_Mo b).2.1 := by decide +kernel
theorem t_Mo_ok : ∀ k, k < 20 → parseFieldDescriptor (F_Mo k).2.2.1 = some (t_Mo k) := by decide +kernel
def R_Lw : String := "EditRelayLaw"
def R_Ma : String := "java/lang/Math"
abbrev cls5 : List vw_C := [(R_Ch, F_Ch, 4), (R_Tx, F_Tx, 2), (R_Wy, F_Wy, 7), (R_Er, F_Er, 4), (R_Mo, F_Mo, 20)]
abbrev b_Ch_copyFrom : ByteArray := prog_2_method_2_code
def y_Ch_copyFrom : MethodName := ⟨R_Ch, "copyFrom", "(LEditRelay$Change;)V"⟩
abbrev b_Ch_fitTo : ByteArray := prog_2_method_4_code
def y_Ch_fitTo : MethodName := ⟨R_Ch, "fitTo", "(III)V"⟩
abbrev b_Ch_fitToDelete : ByteArray := prog_2_method_6_code
def y_Ch_fitToDelete : MethodName := ⟨R_Ch, "fitToDelete", "(I)V"⟩
abbrev b_Ch_fitToEachOther : ByteArray := prog_2_method_3_code
def y_Ch_fitToEachOther : MethodName := ⟨R_Ch, "fitToEachOther", "(LEditRelay$Change;LEditRelay$Change;)V"⟩
abbrev b_Ch_fitToInsert : ByteArray := prog_2_method_5_code
def y_Ch_fitToInsert : MethodName := ⟨R_Ch, "fitToInsert", "(II)V"⟩
abbrev b_Ch_init : ByteArray := prog_2_method_1_code
def y_Ch_init : MethodName := ⟨R_Ch, "<init>", "()V"⟩
abbrev b_Er_alike : ByteArray := prog_1_method_13_code
def y_Er_alike : MethodName := ⟨R_Er, "alike", "()Z"⟩
abbrev b_Er_change : ByteArray := prog_1_method_10_code
def y_Er_change : MethodName := ⟨R_Er, "change", "(IZI)I"⟩
abbrev b_Er_checkClient : ByteArray := prog_1_method_15_code
def y_Er_checkClient : MethodName := ⟨R_Er, "checkClient", "(I)V"⟩
abbrev b_Er_checkHasLetter : ByteArray := prog_1_method_17_code
def y_Er_checkHasLetter : MethodName := ⟨R_Er, "checkHasLetter", "(LEditRelay$Text;I)V"⟩
abbrev b_Er_checkMayMakeChange : ByteArray := prog_1_method_19_code
def y_Er_checkMayMakeChange : MethodName := ⟨R_Er, "checkMayMakeChange", "(I)V"⟩
abbrev b_Er_checkSite : ByteArray := prog_1_method_16_code
def y_Er_checkSite : MethodName := ⟨R_Er, "checkSite", "(I)V"⟩
abbrev b_Er_checkSomeWaits : ByteArray := prog_1_method_18_code
def y_Er_checkSomeWaits : MethodName := ⟨R_Er, "checkSomeWaits", "(LEditRelay$Way;)V"⟩
abbrev b_Er_delete : ByteArray := prog_1_method_3_code
def y_Er_delete : MethodName := ⟨R_Er, "delete", "(II)I"⟩
abbrev b_Er_got : ByteArray := prog_1_method_8_code
def y_Er_got : MethodName := ⟨R_Er, "got", "(IZ)I"⟩
abbrev b_Er_init : ByteArray := prog_1_method_1_code
def y_Er_init : MethodName := ⟨R_Er, "<init>", "()V"⟩
abbrev b_Er_insert : ByteArray := prog_1_method_2_code
def y_Er_insert : MethodName := ⟨R_Er, "insert", "(IIC)I"⟩
abbrev b_Er_letter : ByteArray := prog_1_method_12_code
def y_Er_letter : MethodName := ⟨R_Er, "letter", "(II)I"⟩
abbrev b_Er_makeChange : ByteArray := prog_1_method_21_code
def y_Er_makeChange : MethodName := ⟨R_Er, "makeChange", "(IIIC)V"⟩
abbrev b_Er_nod : ByteArray := prog_1_method_4_code
def y_Er_nod : MethodName := ⟨R_Er, "nod", "(I)V"⟩
abbrev b_Er_open : ByteArray := prog_1_method_9_code
def y_Er_open : MethodName := ⟨R_Er, "open", "(IZ)I"⟩
abbrev b_Er_pull : ByteArray := prog_1_method_6_code
def y_Er_pull : MethodName := ⟨R_Er, "pull", "(I)I"⟩
abbrev b_Er_push : ByteArray := prog_1_method_5_code
def y_Er_push : MethodName := ⟨R_Er, "push", "(I)I"⟩
abbrev b_Er_quiet : ByteArray := prog_1_method_14_code
def y_Er_quiet : MethodName := ⟨R_Er, "quiet", "()Z"⟩
abbrev b_Er_receive : ByteArray := prog_1_method_22_code
def y_Er_receive : MethodName := ⟨R_Er, "receive", "(ILEditRelay$Way;LEditRelay$Way;)LEditRelay$Change;"⟩
abbrev b_Er_size : ByteArray := prog_1_method_11_code
def y_Er_size : MethodName := ⟨R_Er, "size", "(I)I"⟩
abbrev b_Er_waiting : ByteArray := prog_1_method_7_code
def y_Er_waiting : MethodName := ⟨R_Er, "waiting", "(IZ)I"⟩
abbrev b_Er_way : ByteArray := prog_1_method_20_code
def y_Er_way : MethodName := ⟨R_Er, "way", "(IZ)LEditRelay$Way;"⟩
abbrev b_Lw_change : ByteArray := method_11_code
def y_Lw_change : MethodName := ⟨R_Lw, "change", "(LEditRelay;IZI[J)I"⟩
abbrev b_Lw_delete : ByteArray := method_4_code
def y_Lw_delete : MethodName := ⟨R_Lw, "delete", "(LEditRelay;II[J)I"⟩
abbrev b_Lw_got : ByteArray := method_9_code
def y_Lw_got : MethodName := ⟨R_Lw, "got", "(LEditRelay;IZ[J)I"⟩
abbrev b_Lw_insert : ByteArray := method_3_code
def y_Lw_insert : MethodName := ⟨R_Lw, "insert", "(LEditRelay;IIC[J)I"⟩
abbrev b_Lw_letter : ByteArray := method_13_code
def y_Lw_letter : MethodName := ⟨R_Lw, "letter", "(LEditRelay;II[J)I"⟩
abbrev b_Lw_nod : ByteArray := method_5_code
def y_Lw_nod : MethodName := ⟨R_Lw, "nod", "(LEditRelay;I)I"⟩
abbrev b_Lw_open : ByteArray := method_10_code
def y_Lw_open : MethodName := ⟨R_Lw, "open", "(LEditRelay;IZ[J)I"⟩
abbrev b_Lw_pull : ByteArray := method_7_code
def y_Lw_pull : MethodName := ⟨R_Lw, "pull", "(LEditRelay;I[J)I"⟩
abbrev b_Lw_push : ByteArray := method_6_code
def y_Lw_push : MethodName := ⟨R_Lw, "push", "(LEditRelay;I[J)I"⟩
abbrev b_Lw_size : ByteArray := method_12_code
def y_Lw_size : MethodName := ⟨R_Lw, "size", "(LEditRelay;I[J)I"⟩
abbrev b_Lw_waiting : ByteArray := method_8_code
def y_Lw_waiting : MethodName := ⟨R_Lw, "waiting", "(LEditRelay;IZ[J)I"⟩
abbrev b_Ma_floorMod : ByteArray := prog_11_method_50_code
def y_Ma_floorMod : MethodName := ⟨R_Ma, "floorMod", "(II)I"⟩
abbrev b_Ma_max : ByteArray := prog_11_method_65_code
def y_Ma_max : MethodName := ⟨R_Ma, "max", "(II)I"⟩
abbrev b_Mo_alike : ByteArray := prog_6_method_25_code
def y_Mo_alike : MethodName := ⟨R_Mo, "alike", "()Z"⟩
abbrev b_Mo_apply : ByteArray := prog_6_method_6_code
def y_Mo_apply : MethodName := ⟨R_Mo, "apply", "(I)V"⟩
abbrev b_Mo_back : ByteArray := prog_6_method_5_code
def y_Mo_back : MethodName := ⟨R_Mo, "back", "(I)I"⟩
abbrev b_Mo_begin : ByteArray := prog_6_method_11_code
def y_Mo_begin : MethodName := ⟨R_Mo, "begin", "(IIII)V"⟩
abbrev b_Mo_change : ByteArray := prog_6_method_21_code
def y_Mo_change : MethodName := ⟨R_Mo, "change", "(IZI)I"⟩
abbrev b_Mo_delete : ByteArray := prog_6_method_14_code
def y_Mo_delete : MethodName := ⟨R_Mo, "delete", "(II)I"⟩
abbrev b_Mo_fitted : ByteArray := prog_6_method_8_code
def y_Mo_fitted : MethodName := ⟨R_Mo, "fitted", "(IIIIII)I"⟩
abbrev b_Mo_forget : ByteArray := prog_6_method_9_code
def y_Mo_forget : MethodName := ⟨R_Mo, "forget", "(I)V"⟩
abbrev b_Mo_get : ByteArray := prog_6_method_10_code
def y_Mo_get : MethodName := ⟨R_Mo, "get", "(II)V"⟩
abbrev b_Mo_got : ByteArray := prog_6_method_19_code
def y_Mo_got : MethodName := ⟨R_Mo, "got", "(IZ)I"⟩
abbrev b_Mo_init : ByteArray := prog_6_method_1_code
def y_Mo_init : MethodName := ⟨R_Mo, "<init>", "()V"⟩
abbrev b_Mo_insert : ByteArray := prog_6_method_13_code
def y_Mo_insert : MethodName := ⟨R_Mo, "insert", "(IIC)I"⟩
abbrev b_Mo_isClient : ByteArray := prog_6_method_3_code
def y_Mo_isClient : MethodName := ⟨R_Mo, "isClient", "(I)Z"⟩
abbrev b_Mo_isSite : ByteArray := prog_6_method_22_code
def y_Mo_isSite : MethodName := ⟨R_Mo, "isSite", "(I)Z"⟩
abbrev b_Mo_letter : ByteArray := prog_6_method_24_code
def y_Mo_letter : MethodName := ⟨R_Mo, "letter", "(II)I"⟩
abbrev b_Mo_line : ByteArray := prog_6_method_4_code
def y_Mo_line : MethodName := ⟨R_Mo, "line", "(IZ)I"⟩
abbrev b_Mo_loaded : ByteArray := prog_6_method_12_code
def y_Mo_loaded : MethodName := ⟨R_Mo, "loaded", "(I)Z"⟩
abbrev b_Mo_nod : ByteArray := prog_6_method_15_code
def y_Mo_nod : MethodName := ⟨R_Mo, "nod", "(I)V"⟩
abbrev b_Mo_open : ByteArray := prog_6_method_20_code
def y_Mo_open : MethodName := ⟨R_Mo, "open", "(IZ)I"⟩
abbrev b_Mo_pull : ByteArray := prog_6_method_17_code
def y_Mo_pull : MethodName := ⟨R_Mo, "pull", "(I)I"⟩
abbrev b_Mo_push : ByteArray := prog_6_method_16_code
def y_Mo_push : MethodName := ⟨R_Mo, "push", "(I)I"⟩
abbrev b_Mo_quiet : ByteArray := prog_6_method_26_code
def y_Mo_quiet : MethodName := ⟨R_Mo, "quiet", "()Z"⟩
abbrev b_Mo_send : ByteArray := prog_6_method_7_code
def y_Mo_send : MethodName := ⟨R_Mo, "send", "(I)V"⟩
abbrev b_Mo_size : ByteArray := prog_6_method_23_code
def y_Mo_size : MethodName := ⟨R_Mo, "size", "(I)I"⟩
abbrev b_Mo_thrown : ByteArray := prog_6_method_2_code
def y_Mo_thrown : MethodName := ⟨R_Mo, "thrown", "()I"⟩
abbrev b_Mo_waiting : ByteArray := prog_6_method_18_code
def y_Mo_waiting : MethodName := ⟨R_Mo, "waiting", "(IZ)I"⟩
abbrev b_Tx_init : ByteArray := prog_3_method_1_code
def y_Tx_init : MethodName := ⟨R_Tx, "<init>", "()V"⟩
abbrev b_Tx_isSameAs : ByteArray := prog_3_method_3_code
def y_Tx_isSameAs : MethodName := ⟨R_Tx, "isSameAs", "(LEditRelay$Text;)Z"⟩
abbrev b_Tx_perform : ByteArray := prog_3_method_2_code
def y_Tx_perform : MethodName := ⟨R_Tx, "perform", "(LEditRelay$Change;)V"⟩
abbrev b_Tx_put : ByteArray := prog_3_method_4_code
def y_Tx_put : MethodName := ⟨R_Tx, "put", "(IC)V"⟩
abbrev b_Tx_remove : ByteArray := prog_3_method_5_code
def y_Tx_remove : MethodName := ⟨R_Tx, "remove", "(I)V"⟩
abbrev b_Wy_fitOpenChanges : ByteArray := prog_4_method_10_code
def y_Wy_fitOpenChanges : MethodName := ⟨R_Wy, "fitOpenChanges", "(LEditRelay$Change;)V"⟩
abbrev b_Wy_forget : ByteArray := prog_4_method_9_code
def y_Wy_forget : MethodName := ⟨R_Wy, "forget", "(I)V"⟩
abbrev b_Wy_init : ByteArray := prog_4_method_1_code
def y_Wy_init : MethodName := ⟨R_Wy, "<init>", "(I)V"⟩
abbrev b_Wy_isFull : ByteArray := prog_4_method_4_code
def y_Wy_isFull : MethodName := ⟨R_Wy, "isFull", "()Z"⟩
abbrev b_Wy_oldestChange : ByteArray := prog_4_method_7_code
def y_Wy_oldestChange : MethodName := ⟨R_Wy, "oldestChange", "()LEditRelay$Change;"⟩
abbrev b_Wy_oldestHeard : ByteArray := prog_4_method_8_code
def y_Wy_oldestHeard : MethodName := ⟨R_Wy, "oldestHeard", "()I"⟩
abbrev b_Wy_openChange : ByteArray := prog_4_method_5_code
def y_Wy_openChange : MethodName := ⟨R_Wy, "openChange", "(I)LEditRelay$Change;"⟩
abbrev b_Wy_openCount : ByteArray := prog_4_method_3_code
def y_Wy_openCount : MethodName := ⟨R_Wy, "openCount", "()I"⟩
abbrev b_Wy_send : ByteArray := prog_4_method_6_code
def y_Wy_send : MethodName := ⟨R_Wy, "send", "(LEditRelay$Change;I)V"⟩
abbrev b_Wy_slotOf : ByteArray := prog_4_method_11_code
def y_Wy_slotOf : MethodName := ⟨R_Wy, "slotOf", "(I)I"⟩
abbrev b_Wy_waitingCount : ByteArray := prog_4_method_2_code
def y_Wy_waitingCount : MethodName := ⟨R_Wy, "waitingCount", "()I"⟩
abbrev b_Lw_law : ByteArray := code
theorem wi_Lw : Cond.initialized R_Lw ∈ gw := gw_t 0 (by decide +kernel) (by decide +kernel)
theorem wi_Er : Cond.initialized R_Er ∈ gw := gw_t 1 (by decide +kernel) (by decide +kernel)
theorem wi_Tx : Cond.initialized R_Tx ∈ gw := gw_t 2 (by decide +kernel) (by decide +kernel)
theorem wi_Wy : Cond.initialized R_Wy ∈ gw := gw_t 3 (by decide +kernel) (by decide +kernel)
theorem wi_Ch : Cond.initialized R_Ch ∈ gw := gw_t 4 (by decide +kernel) (by decide +kernel)
theorem wi_Mo : Cond.initialized R_Mo ∈ gw := gw_t 5 (by decide +kernel) (by decide +kernel)
theorem wi_Throwable : Cond.initialized "java/lang/Throwable" ∈ gw := gw_t 6 (by decide +kernel) (by decide +kernel)
theorem wi_Exception : Cond.initialized "java/lang/Exception" ∈ gw := gw_t 7 (by decide +kernel) (by decide +kernel)
theorem wi_RuntimeException : Cond.initialized "java/lang/RuntimeException" ∈ gw := gw_t 8 (by decide +kernel) (by decide +kernel)
theorem wi_IllegalArgumentException : Cond.initialized "java/lang/IllegalArgumentException" ∈ gw := gw_t 9 (by decide +kernel) (by decide +kernel)
theorem wi_IndexOutOfBoundsException : Cond.initialized "java/lang/IndexOutOfBoundsException" ∈ gw := gw_t 10 (by decide +kernel) (by decide +kernel)
theorem wi_UnsupportedOperationException : Cond.initialized "java/lang/UnsupportedOperationException" ∈ gw := gw_t 11 (by decide +kernel) (by decide +kernel)
theorem wi_System : Cond.initialized "java/lang/System" ∈ gw := gw_t 12 (by decide +kernel) (by decide +kernel)
theorem wi_Ma : Cond.initialized R_Ma ∈ gw := gw_t 13 (by decide +kernel) (by decide +kernel)
theorem wi_IllegalStateException : Cond.initialized "java/lang/IllegalStateException" ∈ gw := gw_t 14 (by decide +kernel) (by decide +kernel)
theorem wl_Lw_8 : Cond.classLink R_Lw 8 R_Er ∈ gw := gw_t 15 (by decide +kernel) (by decide +kernel)
theorem wn_Er : Cond.instantiable R_Er 4 ∈ gw := gw_t 16 (by decide +kernel) (by decide +kernel)
theorem wl_Lw_56 : Cond.methodLink R_Lw 56 y_Er_init ∈ gw := gw_t 17 (by decide +kernel) (by decide +kernel)
theorem wim_Er_init : Cond.instanceMethod y_Er_init ∈ gw := gw_t 18 (by decide +kernel) (by decide +kernel)
theorem wc_Er_init : Cond.code y_Er_init b_Er_init 2 none ∈ gw := gw_t 19 (by decide +kernel) (by decide +kernel)
theorem wl_Er_3 : Cond.methodLink R_Er 3 objectInit ∈ gw := gw_t 20 (by decide +kernel) (by decide +kernel)
theorem wim_Object : Cond.instanceMethod objectInit ∈ gw := gw_t 21 (by decide +kernel) (by decide +kernel)
theorem wc_Object : Cond.code objectInit ⟨#[0xb1]⟩ 1 none ∈ gw := gw_t 22 (by decide +kernel) (by decide +kernel)
theorem wl_Er_9 : Cond.classLink R_Er 9 R_Tx ∈ gw := gw_t 23 (by decide +kernel) (by decide +kernel)
theorem wn_Tx : Cond.instantiable R_Tx 2 ∈ gw := gw_t 25 (by decide +kernel) (by decide +kernel)
theorem wim_Tx_init : Cond.instanceMethod y_Tx_init ∈ gw := gw_t 27 (by decide +kernel) (by decide +kernel)
theorem wc_Tx_init : Cond.code y_Tx_init b_Tx_init 1 none ∈ gw := gw_t 28 (by decide +kernel) (by decide +kernel)
theorem wl_Tx_3 : Cond.methodLink R_Tx 3 objectInit ∈ gw := gw_t 29 (by decide +kernel) (by decide +kernel)
theorem wl_Tx_9 : Cond.fieldLink R_Tx 9 R_Tx "letters" "[C" ∈ gw := gw_t 30 (by decide +kernel) (by decide +kernel)
theorem wl_Er_70 : Cond.fieldLink R_Er 70 R_Tx "letters" "[C" ∈ gw := gw_t 31 (by decide +kernel) (by decide +kernel)
theorem wl_Er_45 : Cond.fieldLink R_Er 45 R_Tx "count" "I" ∈ gw := gw_t 32 (by decide +kernel) (by decide +kernel)
theorem wl_Tx_36 : Cond.fieldLink R_Tx 36 R_Tx "count" "I" ∈ gw := gw_t 33 (by decide +kernel) (by decide +kernel)
theorem wa_char : Cond.arrayClass .char ∈ gw := gw_t 39 (by decide +kernel) (by decide +kernel)
theorem wl_Er_16 : Cond.classLink R_Er 16 R_Wy ∈ gw := gw_t 40 (by decide +kernel) (by decide +kernel)
theorem wn_Wy : Cond.instantiable R_Wy 7 ∈ gw := gw_t 42 (by decide +kernel) (by decide +kernel)
theorem wl_Er_25 : Cond.methodLink R_Er 25 y_Wy_init ∈ gw := gw_t 43 (by decide +kernel) (by decide +kernel)
theorem wim_Wy_init : Cond.instanceMethod y_Wy_init ∈ gw := gw_t 44 (by decide +kernel) (by decide +kernel)
theorem wc_Wy_init : Cond.code y_Wy_init b_Wy_init 3 none ∈ gw := gw_t 45 (by decide +kernel) (by decide +kernel)
theorem wl_Wy_1 : Cond.methodLink R_Wy 1 objectInit ∈ gw := gw_t 46 (by decide +kernel) (by decide +kernel)
theorem wl_Wy_13 : Cond.classLink R_Wy 13 R_Ch ∈ gw := gw_t 47 (by decide +kernel) (by decide +kernel)
theorem wn_Ch : Cond.instantiable R_Ch 4 ∈ gw := gw_t 49 (by decide +kernel) (by decide +kernel)
theorem wim_Ch_init : Cond.instanceMethod y_Ch_init ∈ gw := gw_t 51 (by decide +kernel) (by decide +kernel)
theorem wc_Ch_init : Cond.code y_Ch_init b_Ch_init 1 none ∈ gw := gw_t 52 (by decide +kernel) (by decide +kernel)
theorem wl_Ch_3 : Cond.methodLink R_Ch 3 objectInit ∈ gw := gw_t 53 (by decide +kernel) (by decide +kernel)
theorem wl_Tx_15 : Cond.fieldLink R_Tx 15 R_Ch "kind" "I" ∈ gw := gw_t 54 (by decide +kernel) (by decide +kernel)
theorem wl_Ch_9 : Cond.fieldLink R_Ch 9 R_Ch "kind" "I" ∈ gw := gw_t 55 (by decide +kernel) (by decide +kernel)
theorem wl_Er_99 : Cond.fieldLink R_Er 99 R_Ch "kind" "I" ∈ gw := gw_t 56 (by decide +kernel) (by decide +kernel)
theorem wl_Tx_21 : Cond.fieldLink R_Tx 21 R_Ch "place" "I" ∈ gw := gw_t 57 (by decide +kernel) (by decide +kernel)
theorem wl_Ch_15 : Cond.fieldLink R_Ch 15 R_Ch "place" "I" ∈ gw := gw_t 58 (by decide +kernel) (by decide +kernel)
theorem wl_Er_115 : Cond.fieldLink R_Er 115 R_Ch "place" "I" ∈ gw := gw_t 59 (by decide +kernel) (by decide +kernel)
theorem wl_Tx_24 : Cond.fieldLink R_Tx 24 R_Ch "letter" "C" ∈ gw := gw_t 60 (by decide +kernel) (by decide +kernel)
theorem wl_Ch_18 : Cond.fieldLink R_Ch 18 R_Ch "letter" "C" ∈ gw := gw_t 61 (by decide +kernel) (by decide +kernel)
theorem wl_Er_141 : Cond.fieldLink R_Er 141 R_Ch "letter" "C" ∈ gw := gw_t 62 (by decide +kernel) (by decide +kernel)
theorem wl_Ch_22 : Cond.fieldLink R_Ch 22 R_Ch "origin" "I" ∈ gw := gw_t 63 (by decide +kernel) (by decide +kernel)
theorem wl_Er_118 : Cond.fieldLink R_Er 118 R_Ch "origin" "I" ∈ gw := gw_t 64 (by decide +kernel) (by decide +kernel)
theorem wa_int : Cond.arrayClass .int ∈ gw := gw_t 74 (by decide +kernel) (by decide +kernel)
theorem wl_Wy_7 : Cond.fieldLink R_Wy 7 R_Wy "room" "I" ∈ gw := gw_t 75 (by decide +kernel) (by decide +kernel)
theorem wl_Wy_15 : Cond.fieldLink R_Wy 15 R_Wy "messages" "[LEditRelay$Change;" ∈ gw := gw_t 76 (by decide +kernel) (by decide +kernel)
theorem wl_Wy_19 : Cond.fieldLink R_Wy 19 R_Wy "opens" "[LEditRelay$Change;" ∈ gw := gw_t 77 (by decide +kernel) (by decide +kernel)
theorem wl_Wy_22 : Cond.fieldLink R_Wy 22 R_Wy "heards" "[I" ∈ gw := gw_t 78 (by decide +kernel) (by decide +kernel)
theorem wl_Wy_27 : Cond.fieldLink R_Wy 27 R_Wy "sent" "I" ∈ gw := gw_t 79 (by decide +kernel) (by decide +kernel)
theorem wl_Wy_33 : Cond.fieldLink R_Wy 33 R_Wy "known" "I" ∈ gw := gw_t 80 (by decide +kernel) (by decide +kernel)
theorem wl_Wy_30 : Cond.fieldLink R_Wy 30 R_Wy "got" "I" ∈ gw := gw_t 81 (by decide +kernel) (by decide +kernel)
theorem wl_Er_92 : Cond.fieldLink R_Er 92 R_Wy "got" "I" ∈ gw := gw_t 82 (by decide +kernel) (by decide +kernel)
theorem wl_Er_28 : Cond.classLink R_Er 28 R_Ch ∈ gw := gw_t 98 (by decide +kernel) (by decide +kernel)
theorem wl_Er_11 : Cond.fieldLink R_Er 11 R_Er "texts" "[LEditRelay$Text;" ∈ gw := gw_t 100 (by decide +kernel) (by decide +kernel)
theorem wl_Er_18 : Cond.fieldLink R_Er 18 R_Er "ups" "[LEditRelay$Way;" ∈ gw := gw_t 101 (by decide +kernel) (by decide +kernel)
theorem wl_Er_22 : Cond.fieldLink R_Er 22 R_Er "downs" "[LEditRelay$Way;" ∈ gw := gw_t 102 (by decide +kernel) (by decide +kernel)
theorem wl_Er_31 : Cond.fieldLink R_Er 31 R_Er "made" "LEditRelay$Change;" ∈ gw := gw_t 103 (by decide +kernel) (by decide +kernel)
theorem wl_Lw_105 : Cond.methodLink R_Lw 105 y_Er_alike ∈ gw := gw_t 113 (by decide +kernel) (by decide +kernel)
theorem wim_Er_alike : Cond.instanceMethod y_Er_alike ∈ gw := gw_t 114 (by decide +kernel) (by decide +kernel)
theorem ws_Er_alike : Cond.selects R_Er y_Er_alike y_Er_alike ∈ gw := gw_t 115 (by decide +kernel) (by decide +kernel)
theorem wc_Er_alike : Cond.code y_Er_alike b_Er_alike 2 (some .boolean) ∈ gw := gw_t 116 (by decide +kernel) (by decide +kernel)
theorem wl_Er_124 : Cond.methodLink R_Er 124 y_Tx_isSameAs ∈ gw := gw_t 117 (by decide +kernel) (by decide +kernel)
theorem wim_Tx_isSameAs : Cond.instanceMethod y_Tx_isSameAs ∈ gw := gw_t 118 (by decide +kernel) (by decide +kernel)
theorem ws_Tx_isSameAs : Cond.selects R_Tx y_Tx_isSameAs y_Tx_isSameAs ∈ gw := gw_t 119 (by decide +kernel) (by decide +kernel)
theorem wc_Tx_isSameAs : Cond.code y_Tx_isSameAs b_Tx_isSameAs 3 (some .boolean) ∈ gw := gw_t 120 (by decide +kernel) (by decide +kernel)
theorem wl_Lw_110 : Cond.methodLink R_Lw 110 y_Er_quiet ∈ gw := gw_t 121 (by decide +kernel) (by decide +kernel)
theorem wim_Er_quiet : Cond.instanceMethod y_Er_quiet ∈ gw := gw_t 122 (by decide +kernel) (by decide +kernel)
theorem ws_Er_quiet : Cond.selects R_Er y_Er_quiet y_Er_quiet ∈ gw := gw_t 123 (by decide +kernel) (by decide +kernel)
theorem wc_Er_quiet : Cond.code y_Er_quiet b_Er_quiet 2 (some .boolean) ∈ gw := gw_t 124 (by decide +kernel) (by decide +kernel)
theorem wl_Er_74 : Cond.methodLink R_Er 74 y_Er_way ∈ gw := gw_t 125 (by decide +kernel) (by decide +kernel)
theorem wim_Er_way : Cond.instanceMethod y_Er_way ∈ gw := gw_t 127 (by decide +kernel) (by decide +kernel)
theorem wc_Er_way : Cond.code y_Er_way b_Er_way 3 (some (.object "EditRelay$Way")) ∈ gw := gw_t 128 (by decide +kernel) (by decide +kernel)
theorem wl_Er_102 : Cond.methodLink R_Er 102 y_Wy_waitingCount ∈ gw := gw_t 129 (by decide +kernel) (by decide +kernel)
theorem wim_Wy_waitingCount : Cond.instanceMethod y_Wy_waitingCount ∈ gw := gw_t 130 (by decide +kernel) (by decide +kernel)
theorem ws_Wy_waitingCount : Cond.selects R_Wy y_Wy_waitingCount y_Wy_waitingCount ∈ gw := gw_t 131 (by decide +kernel) (by decide +kernel)
theorem wc_Wy_waitingCount : Cond.code y_Wy_waitingCount b_Wy_waitingCount 1 (some .int) ∈ gw := gw_t 132 (by decide +kernel) (by decide +kernel)
theorem wl_Lw_60 : Cond.methodLink R_Lw 60 y_Lw_insert ∈ gw := gw_t 133 (by decide +kernel) (by decide +kernel)
theorem wsm_Lw_insert : Cond.static y_Lw_insert ∈ gw := gw_t 134 (by decide +kernel) (by decide +kernel)
theorem wc_Lw_insert : Cond.codeWith y_Lw_insert b_Lw_insert 6 (some .int) [(0, 12, 15, 13), (0, 12, 19, 15), (0, 12, 23, 17)] ∈ gw := gw_t 135 (by decide +kernel) (by decide +kernel)
theorem wl_Lw_13 : Cond.classLink R_Lw 13 "java/lang/IllegalArgumentException" ∈ gw := gw_t 136 (by decide +kernel) (by decide +kernel)
theorem wl_Lw_15 : Cond.classLink R_Lw 15 "java/lang/IndexOutOfBoundsException" ∈ gw := gw_t 137 (by decide +kernel) (by decide +kernel)
theorem wl_Lw_17 : Cond.classLink R_Lw 17 "java/lang/UnsupportedOperationException" ∈ gw := gw_t 138 (by decide +kernel) (by decide +kernel)
theorem wl_Lw_7 : Cond.methodLink R_Lw 7 y_Er_insert ∈ gw := gw_t 139 (by decide +kernel) (by decide +kernel)
theorem wim_Er_insert : Cond.instanceMethod y_Er_insert ∈ gw := gw_t 140 (by decide +kernel) (by decide +kernel)
theorem ws_Er_insert : Cond.selects R_Er y_Er_insert y_Er_insert ∈ gw := gw_t 141 (by decide +kernel) (by decide +kernel)
theorem wc_Er_insert : Cond.code y_Er_insert b_Er_insert 5 (some .int) ∈ gw := gw_t 142 (by decide +kernel) (by decide +kernel)
theorem wl_Er_35 : Cond.methodLink R_Er 35 y_Er_checkClient ∈ gw := gw_t 143 (by decide +kernel) (by decide +kernel)
theorem wsm_Er_checkClient : Cond.static y_Er_checkClient ∈ gw := gw_t 144 (by decide +kernel) (by decide +kernel)
theorem wc_Er_checkClient : Cond.code y_Er_checkClient b_Er_checkClient 1 none ∈ gw := gw_t 145 (by decide +kernel) (by decide +kernel)
theorem wl_Er_38 : Cond.classLink R_Er 38 "java/lang/IllegalArgumentException" ∈ gw := gw_t 146 (by decide +kernel) (by decide +kernel)
theorem wa_byte : Cond.arrayClass .byte ∈ gw := gw_t 214 (by decide +kernel) (by decide +kernel)
theorem wl_Er_49 : Cond.classLink R_Er 49 "java/lang/IndexOutOfBoundsException" ∈ gw := gw_t 216 (by decide +kernel) (by decide +kernel)
theorem wl_Er_54 : Cond.classLink R_Er 54 "java/lang/UnsupportedOperationException" ∈ gw := gw_t 232 (by decide +kernel) (by decide +kernel)
theorem wl_Er_59 : Cond.methodLink R_Er 59 y_Er_checkMayMakeChange ∈ gw := gw_t 248 (by decide +kernel) (by decide +kernel)
theorem wim_Er_checkMayMakeChange : Cond.instanceMethod y_Er_checkMayMakeChange ∈ gw := gw_t 250 (by decide +kernel) (by decide +kernel)
theorem wc_Er_checkMayMakeChange : Cond.code y_Er_checkMayMakeChange b_Er_checkMayMakeChange 2 none ∈ gw := gw_t 251 (by decide +kernel) (by decide +kernel)
theorem wl_Er_82 : Cond.methodLink R_Er 82 y_Wy_isFull ∈ gw := gw_t 252 (by decide +kernel) (by decide +kernel)
theorem wim_Wy_isFull : Cond.instanceMethod y_Wy_isFull ∈ gw := gw_t 253 (by decide +kernel) (by decide +kernel)
theorem ws_Wy_isFull : Cond.selects R_Wy y_Wy_isFull y_Wy_isFull ∈ gw := gw_t 254 (by decide +kernel) (by decide +kernel)
theorem wc_Wy_isFull : Cond.code y_Wy_isFull b_Wy_isFull 1 (some .boolean) ∈ gw := gw_t 255 (by decide +kernel) (by decide +kernel)
theorem wl_Wy_36 : Cond.methodLink R_Wy 36 y_Wy_openCount ∈ gw := gw_t 256 (by decide +kernel) (by decide +kernel)
theorem wim_Wy_openCount : Cond.instanceMethod y_Wy_openCount ∈ gw := gw_t 257 (by decide +kernel) (by decide +kernel)
theorem ws_Wy_openCount : Cond.selects R_Wy y_Wy_openCount y_Wy_openCount ∈ gw := gw_t 258 (by decide +kernel) (by decide +kernel)
theorem wc_Wy_openCount : Cond.code y_Wy_openCount b_Wy_openCount 1 (some .int) ∈ gw := gw_t 259 (by decide +kernel) (by decide +kernel)
theorem wl_Er_62 : Cond.methodLink R_Er 62 y_Er_makeChange ∈ gw := gw_t 261 (by decide +kernel) (by decide +kernel)
theorem wim_Er_makeChange : Cond.instanceMethod y_Er_makeChange ∈ gw := gw_t 263 (by decide +kernel) (by decide +kernel)
theorem wc_Er_makeChange : Cond.code y_Er_makeChange b_Er_makeChange 5 none ∈ gw := gw_t 264 (by decide +kernel) (by decide +kernel)
theorem wl_Er_145 : Cond.methodLink R_Er 145 y_Tx_perform ∈ gw := gw_t 265 (by decide +kernel) (by decide +kernel)
theorem wim_Tx_perform : Cond.instanceMethod y_Tx_perform ∈ gw := gw_t 266 (by decide +kernel) (by decide +kernel)
theorem ws_Tx_perform : Cond.selects R_Tx y_Tx_perform y_Tx_perform ∈ gw := gw_t 267 (by decide +kernel) (by decide +kernel)
theorem wc_Tx_perform : Cond.code y_Tx_perform b_Tx_perform 2 none ∈ gw := gw_t 268 (by decide +kernel) (by decide +kernel)
theorem wl_Tx_28 : Cond.methodLink R_Tx 28 y_Tx_put ∈ gw := gw_t 269 (by decide +kernel) (by decide +kernel)
theorem wim_Tx_put : Cond.instanceMethod y_Tx_put ∈ gw := gw_t 271 (by decide +kernel) (by decide +kernel)
theorem wc_Tx_put : Cond.code y_Tx_put b_Tx_put 3 none ∈ gw := gw_t 272 (by decide +kernel) (by decide +kernel)
theorem wl_Tx_39 : Cond.methodLink R_Tx 39 arraycopyName ∈ gw := gw_t 273 (by decide +kernel) (by decide +kernel)
theorem wsm_arraycopy : Cond.static arraycopyName ∈ gw := gw_t 274 (by decide +kernel) (by decide +kernel)
theorem wna_arraycopy : Cond.native arraycopyName ∈ gw := gw_t 275 (by decide +kernel) (by decide +kernel)
theorem wl_Tx_32 : Cond.methodLink R_Tx 32 y_Tx_remove ∈ gw := gw_t 276 (by decide +kernel) (by decide +kernel)
theorem wim_Tx_remove : Cond.instanceMethod y_Tx_remove ∈ gw := gw_t 278 (by decide +kernel) (by decide +kernel)
theorem wc_Tx_remove : Cond.code y_Tx_remove b_Tx_remove 2 none ∈ gw := gw_t 279 (by decide +kernel) (by decide +kernel)
theorem wl_Er_95 : Cond.methodLink R_Er 95 y_Wy_send ∈ gw := gw_t 280 (by decide +kernel) (by decide +kernel)
theorem wim_Wy_send : Cond.instanceMethod y_Wy_send ∈ gw := gw_t 281 (by decide +kernel) (by decide +kernel)
theorem ws_Wy_send : Cond.selects R_Wy y_Wy_send y_Wy_send ∈ gw := gw_t 282 (by decide +kernel) (by decide +kernel)
theorem wc_Wy_send : Cond.code y_Wy_send b_Wy_send 4 none ∈ gw := gw_t 283 (by decide +kernel) (by decide +kernel)
theorem wl_Wy_40 : Cond.methodLink R_Wy 40 y_Wy_slotOf ∈ gw := gw_t 284 (by decide +kernel) (by decide +kernel)
theorem wim_Wy_slotOf : Cond.instanceMethod y_Wy_slotOf ∈ gw := gw_t 286 (by decide +kernel) (by decide +kernel)
theorem wc_Wy_slotOf : Cond.code y_Wy_slotOf b_Wy_slotOf 2 (some .int) ∈ gw := gw_t 287 (by decide +kernel) (by decide +kernel)
theorem wl_Wy_62 : Cond.methodLink R_Wy 62 y_Ma_floorMod ∈ gw := gw_t 288 (by decide +kernel) (by decide +kernel)
theorem wsm_Ma_floorMod : Cond.static y_Ma_floorMod ∈ gw := gw_t 289 (by decide +kernel) (by decide +kernel)
theorem wc_Ma_floorMod : Cond.code y_Ma_floorMod b_Ma_floorMod 3 (some .int) ∈ gw := gw_t 290 (by decide +kernel) (by decide +kernel)
theorem wl_Wy_44 : Cond.methodLink R_Wy 44 y_Ch_copyFrom ∈ gw := gw_t 291 (by decide +kernel) (by decide +kernel)
theorem wim_Ch_copyFrom : Cond.instanceMethod y_Ch_copyFrom ∈ gw := gw_t 292 (by decide +kernel) (by decide +kernel)
theorem ws_Ch_copyFrom : Cond.selects R_Ch y_Ch_copyFrom y_Ch_copyFrom ∈ gw := gw_t 293 (by decide +kernel) (by decide +kernel)
theorem wc_Ch_copyFrom : Cond.code y_Ch_copyFrom b_Ch_copyFrom 2 none ∈ gw := gw_t 294 (by decide +kernel) (by decide +kernel)
theorem wl_Lw_70 : Cond.methodLink R_Lw 70 y_Lw_delete ∈ gw := gw_t 295 (by decide +kernel) (by decide +kernel)
theorem wsm_Lw_delete : Cond.static y_Lw_delete ∈ gw := gw_t 296 (by decide +kernel) (by decide +kernel)
theorem wc_Lw_delete : Cond.codeWith y_Lw_delete b_Lw_delete 5 (some .int) [(0, 10, 13, 13), (0, 10, 17, 15), (0, 10, 21, 17)] ∈ gw := gw_t 297 (by decide +kernel) (by decide +kernel)
theorem wl_Lw_19 : Cond.methodLink R_Lw 19 y_Er_delete ∈ gw := gw_t 298 (by decide +kernel) (by decide +kernel)
theorem wim_Er_delete : Cond.instanceMethod y_Er_delete ∈ gw := gw_t 299 (by decide +kernel) (by decide +kernel)
theorem ws_Er_delete : Cond.selects R_Er y_Er_delete y_Er_delete ∈ gw := gw_t 300 (by decide +kernel) (by decide +kernel)
theorem wc_Er_delete : Cond.code y_Er_delete b_Er_delete 5 (some .int) ∈ gw := gw_t 301 (by decide +kernel) (by decide +kernel)
theorem wl_Er_66 : Cond.methodLink R_Er 66 y_Er_checkHasLetter ∈ gw := gw_t 302 (by decide +kernel) (by decide +kernel)
theorem wsm_Er_checkHasLetter : Cond.static y_Er_checkHasLetter ∈ gw := gw_t 303 (by decide +kernel) (by decide +kernel)
theorem wc_Er_checkHasLetter : Cond.code y_Er_checkHasLetter b_Er_checkHasLetter 2 none ∈ gw := gw_t 304 (by decide +kernel) (by decide +kernel)
theorem wl_Lw_74 : Cond.methodLink R_Lw 74 y_Lw_nod ∈ gw := gw_t 306 (by decide +kernel) (by decide +kernel)
theorem wsm_Lw_nod : Cond.static y_Lw_nod ∈ gw := gw_t 307 (by decide +kernel) (by decide +kernel)
theorem wc_Lw_nod : Cond.codeWith y_Lw_nod b_Lw_nod 3 (some .int) [(0, 5, 8, 13), (0, 5, 11, 17)] ∈ gw := gw_t 308 (by decide +kernel) (by decide +kernel)
theorem wl_Lw_23 : Cond.methodLink R_Lw 23 y_Er_nod ∈ gw := gw_t 309 (by decide +kernel) (by decide +kernel)
theorem wim_Er_nod : Cond.instanceMethod y_Er_nod ∈ gw := gw_t 310 (by decide +kernel) (by decide +kernel)
theorem ws_Er_nod : Cond.selects R_Er y_Er_nod y_Er_nod ∈ gw := gw_t 311 (by decide +kernel) (by decide +kernel)
theorem wc_Er_nod : Cond.code y_Er_nod b_Er_nod 2 none ∈ gw := gw_t 312 (by decide +kernel) (by decide +kernel)
theorem wl_Lw_78 : Cond.methodLink R_Lw 78 y_Lw_push ∈ gw := gw_t 313 (by decide +kernel) (by decide +kernel)
theorem wsm_Lw_push : Cond.static y_Lw_push ∈ gw := gw_t 314 (by decide +kernel) (by decide +kernel)
theorem wc_Lw_push : Cond.codeWith y_Lw_push b_Lw_push 4 (some .int) [(0, 9, 12, 13), (0, 9, 15, 31), (0, 9, 18, 17)] ∈ gw := gw_t 315 (by decide +kernel) (by decide +kernel)
theorem wl_Lw_31 : Cond.classLink R_Lw 31 "java/lang/IllegalStateException" ∈ gw := gw_t 316 (by decide +kernel) (by decide +kernel)
theorem wl_Lw_27 : Cond.methodLink R_Lw 27 y_Er_push ∈ gw := gw_t 317 (by decide +kernel) (by decide +kernel)
theorem wim_Er_push : Cond.instanceMethod y_Er_push ∈ gw := gw_t 318 (by decide +kernel) (by decide +kernel)
theorem ws_Er_push : Cond.selects R_Er y_Er_push y_Er_push ∈ gw := gw_t 319 (by decide +kernel) (by decide +kernel)
theorem wc_Er_push : Cond.code y_Er_push b_Er_push 4 (some .int) ∈ gw := gw_t 320 (by decide +kernel) (by decide +kernel)
theorem wl_Er_78 : Cond.methodLink R_Er 78 y_Er_checkSomeWaits ∈ gw := gw_t 321 (by decide +kernel) (by decide +kernel)
theorem wsm_Er_checkSomeWaits : Cond.static y_Er_checkSomeWaits ∈ gw := gw_t 322 (by decide +kernel) (by decide +kernel)
theorem wc_Er_checkSomeWaits : Cond.code y_Er_checkSomeWaits b_Er_checkSomeWaits 1 none ∈ gw := gw_t 323 (by decide +kernel) (by decide +kernel)
theorem wl_Er_134 : Cond.classLink R_Er 134 "java/lang/IllegalStateException" ∈ gw := gw_t 324 (by decide +kernel) (by decide +kernel)
theorem wl_Er_88 : Cond.methodLink R_Er 88 y_Er_receive ∈ gw := gw_t 341 (by decide +kernel) (by decide +kernel)
theorem wim_Er_receive : Cond.instanceMethod y_Er_receive ∈ gw := gw_t 343 (by decide +kernel) (by decide +kernel)
theorem wc_Er_receive : Cond.code y_Er_receive b_Er_receive 5 (some (.object "EditRelay$Change")) ∈ gw := gw_t 344 (by decide +kernel) (by decide +kernel)
theorem wl_Er_149 : Cond.methodLink R_Er 149 y_Wy_oldestChange ∈ gw := gw_t 345 (by decide +kernel) (by decide +kernel)
theorem wim_Wy_oldestChange : Cond.instanceMethod y_Wy_oldestChange ∈ gw := gw_t 346 (by decide +kernel) (by decide +kernel)
theorem ws_Wy_oldestChange : Cond.selects R_Wy y_Wy_oldestChange y_Wy_oldestChange ∈ gw := gw_t 347 (by decide +kernel) (by decide +kernel)
theorem wc_Wy_oldestChange : Cond.code y_Wy_oldestChange b_Wy_oldestChange 1 (some (.object "EditRelay$Change")) ∈ gw := gw_t 348 (by decide +kernel) (by decide +kernel)
theorem wl_Er_153 : Cond.methodLink R_Er 153 y_Wy_oldestHeard ∈ gw := gw_t 349 (by decide +kernel) (by decide +kernel)
theorem wim_Wy_oldestHeard : Cond.instanceMethod y_Wy_oldestHeard ∈ gw := gw_t 350 (by decide +kernel) (by decide +kernel)
theorem ws_Wy_oldestHeard : Cond.selects R_Wy y_Wy_oldestHeard y_Wy_oldestHeard ∈ gw := gw_t 351 (by decide +kernel) (by decide +kernel)
theorem wc_Wy_oldestHeard : Cond.code y_Wy_oldestHeard b_Wy_oldestHeard 1 (some .int) ∈ gw := gw_t 352 (by decide +kernel) (by decide +kernel)
theorem wl_Er_156 : Cond.methodLink R_Er 156 y_Wy_forget ∈ gw := gw_t 353 (by decide +kernel) (by decide +kernel)
theorem wim_Wy_forget : Cond.instanceMethod y_Wy_forget ∈ gw := gw_t 354 (by decide +kernel) (by decide +kernel)
theorem ws_Wy_forget : Cond.selects R_Wy y_Wy_forget y_Wy_forget ∈ gw := gw_t 355 (by decide +kernel) (by decide +kernel)
theorem wc_Wy_forget : Cond.code y_Wy_forget b_Wy_forget 2 none ∈ gw := gw_t 356 (by decide +kernel) (by decide +kernel)
theorem wl_Wy_48 : Cond.methodLink R_Wy 48 y_Ma_max ∈ gw := gw_t 357 (by decide +kernel) (by decide +kernel)
theorem wsm_Ma_max : Cond.static y_Ma_max ∈ gw := gw_t 358 (by decide +kernel) (by decide +kernel)
theorem wc_Ma_max : Cond.code y_Ma_max b_Ma_max 2 (some .int) ∈ gw := gw_t 359 (by decide +kernel) (by decide +kernel)
theorem wl_Er_159 : Cond.methodLink R_Er 159 y_Wy_fitOpenChanges ∈ gw := gw_t 360 (by decide +kernel) (by decide +kernel)
theorem wim_Wy_fitOpenChanges : Cond.instanceMethod y_Wy_fitOpenChanges ∈ gw := gw_t 361 (by decide +kernel) (by decide +kernel)
theorem ws_Wy_fitOpenChanges : Cond.selects R_Wy y_Wy_fitOpenChanges y_Wy_fitOpenChanges ∈ gw := gw_t 362 (by decide +kernel) (by decide +kernel)
theorem wc_Wy_fitOpenChanges : Cond.code y_Wy_fitOpenChanges b_Wy_fitOpenChanges 4 none ∈ gw := gw_t 363 (by decide +kernel) (by decide +kernel)
theorem wl_Wy_54 : Cond.methodLink R_Wy 54 y_Wy_openChange ∈ gw := gw_t 364 (by decide +kernel) (by decide +kernel)
theorem wim_Wy_openChange : Cond.instanceMethod y_Wy_openChange ∈ gw := gw_t 365 (by decide +kernel) (by decide +kernel)
theorem ws_Wy_openChange : Cond.selects R_Wy y_Wy_openChange y_Wy_openChange ∈ gw := gw_t 366 (by decide +kernel) (by decide +kernel)
theorem wc_Wy_openChange : Cond.code y_Wy_openChange b_Wy_openChange 2 (some (.object "EditRelay$Change")) ∈ gw := gw_t 367 (by decide +kernel) (by decide +kernel)
theorem wl_Wy_58 : Cond.methodLink R_Wy 58 y_Ch_fitToEachOther ∈ gw := gw_t 368 (by decide +kernel) (by decide +kernel)
theorem wsm_Ch_fitToEachOther : Cond.static y_Ch_fitToEachOther ∈ gw := gw_t 369 (by decide +kernel) (by decide +kernel)
theorem wc_Ch_fitToEachOther : Cond.code y_Ch_fitToEachOther b_Ch_fitToEachOther 4 none ∈ gw := gw_t 370 (by decide +kernel) (by decide +kernel)
theorem wl_Ch_25 : Cond.methodLink R_Ch 25 y_Ch_fitTo ∈ gw := gw_t 371 (by decide +kernel) (by decide +kernel)
theorem wim_Ch_fitTo : Cond.instanceMethod y_Ch_fitTo ∈ gw := gw_t 373 (by decide +kernel) (by decide +kernel)
theorem wc_Ch_fitTo : Cond.code y_Ch_fitTo b_Ch_fitTo 4 none ∈ gw := gw_t 374 (by decide +kernel) (by decide +kernel)
theorem wl_Ch_29 : Cond.methodLink R_Ch 29 y_Ch_fitToInsert ∈ gw := gw_t 375 (by decide +kernel) (by decide +kernel)
theorem wim_Ch_fitToInsert : Cond.instanceMethod y_Ch_fitToInsert ∈ gw := gw_t 377 (by decide +kernel) (by decide +kernel)
theorem wc_Ch_fitToInsert : Cond.code y_Ch_fitToInsert b_Ch_fitToInsert 4 none ∈ gw := gw_t 378 (by decide +kernel) (by decide +kernel)
theorem wl_Ch_33 : Cond.methodLink R_Ch 33 y_Ch_fitToDelete ∈ gw := gw_t 379 (by decide +kernel) (by decide +kernel)
theorem wim_Ch_fitToDelete : Cond.instanceMethod y_Ch_fitToDelete ∈ gw := gw_t 381 (by decide +kernel) (by decide +kernel)
theorem wc_Ch_fitToDelete : Cond.code y_Ch_fitToDelete b_Ch_fitToDelete 2 none ∈ gw := gw_t 382 (by decide +kernel) (by decide +kernel)
theorem wl_Lw_82 : Cond.methodLink R_Lw 82 y_Lw_pull ∈ gw := gw_t 383 (by decide +kernel) (by decide +kernel)
theorem wsm_Lw_pull : Cond.static y_Lw_pull ∈ gw := gw_t 384 (by decide +kernel) (by decide +kernel)
theorem wc_Lw_pull : Cond.codeWith y_Lw_pull b_Lw_pull 4 (some .int) [(0, 9, 12, 13), (0, 9, 15, 31)] ∈ gw := gw_t 385 (by decide +kernel) (by decide +kernel)
theorem wl_Lw_33 : Cond.methodLink R_Lw 33 y_Er_pull ∈ gw := gw_t 386 (by decide +kernel) (by decide +kernel)
theorem wim_Er_pull : Cond.instanceMethod y_Er_pull ∈ gw := gw_t 387 (by decide +kernel) (by decide +kernel)
theorem ws_Er_pull : Cond.selects R_Er y_Er_pull y_Er_pull ∈ gw := gw_t 388 (by decide +kernel) (by decide +kernel)
theorem wc_Er_pull : Cond.code y_Er_pull b_Er_pull 2 (some .int) ∈ gw := gw_t 389 (by decide +kernel) (by decide +kernel)
theorem wl_Lw_85 : Cond.methodLink R_Lw 85 y_Lw_waiting ∈ gw := gw_t 390 (by decide +kernel) (by decide +kernel)
theorem wsm_Lw_waiting : Cond.static y_Lw_waiting ∈ gw := gw_t 391 (by decide +kernel) (by decide +kernel)
theorem wc_Lw_waiting : Cond.codeWith y_Lw_waiting b_Lw_waiting 5 (some .int) [(0, 10, 13, 13)] ∈ gw := gw_t 392 (by decide +kernel) (by decide +kernel)
theorem wl_Lw_36 : Cond.methodLink R_Lw 36 y_Er_waiting ∈ gw := gw_t 393 (by decide +kernel) (by decide +kernel)
theorem wim_Er_waiting : Cond.instanceMethod y_Er_waiting ∈ gw := gw_t 394 (by decide +kernel) (by decide +kernel)
theorem ws_Er_waiting : Cond.selects R_Er y_Er_waiting y_Er_waiting ∈ gw := gw_t 395 (by decide +kernel) (by decide +kernel)
theorem wc_Er_waiting : Cond.code y_Er_waiting b_Er_waiting 3 (some .int) ∈ gw := gw_t 396 (by decide +kernel) (by decide +kernel)
theorem wl_Lw_89 : Cond.methodLink R_Lw 89 y_Lw_got ∈ gw := gw_t 397 (by decide +kernel) (by decide +kernel)
theorem wsm_Lw_got : Cond.static y_Lw_got ∈ gw := gw_t 398 (by decide +kernel) (by decide +kernel)
theorem wc_Lw_got : Cond.codeWith y_Lw_got b_Lw_got 5 (some .int) [(0, 10, 13, 13)] ∈ gw := gw_t 399 (by decide +kernel) (by decide +kernel)
theorem wl_Lw_40 : Cond.methodLink R_Lw 40 y_Er_got ∈ gw := gw_t 400 (by decide +kernel) (by decide +kernel)
theorem wim_Er_got : Cond.instanceMethod y_Er_got ∈ gw := gw_t 401 (by decide +kernel) (by decide +kernel)
theorem ws_Er_got : Cond.selects R_Er y_Er_got y_Er_got ∈ gw := gw_t 402 (by decide +kernel) (by decide +kernel)
theorem wc_Er_got : Cond.code y_Er_got b_Er_got 3 (some .int) ∈ gw := gw_t 403 (by decide +kernel) (by decide +kernel)
theorem wl_Lw_92 : Cond.methodLink R_Lw 92 y_Lw_open ∈ gw := gw_t 404 (by decide +kernel) (by decide +kernel)
theorem wsm_Lw_open : Cond.static y_Lw_open ∈ gw := gw_t 405 (by decide +kernel) (by decide +kernel)
theorem wc_Lw_open : Cond.codeWith y_Lw_open b_Lw_open 5 (some .int) [(0, 10, 13, 13)] ∈ gw := gw_t 406 (by decide +kernel) (by decide +kernel)
theorem wl_Lw_43 : Cond.methodLink R_Lw 43 y_Er_open ∈ gw := gw_t 407 (by decide +kernel) (by decide +kernel)
theorem wim_Er_open : Cond.instanceMethod y_Er_open ∈ gw := gw_t 408 (by decide +kernel) (by decide +kernel)
theorem ws_Er_open : Cond.selects R_Er y_Er_open y_Er_open ∈ gw := gw_t 409 (by decide +kernel) (by decide +kernel)
theorem wc_Er_open : Cond.code y_Er_open b_Er_open 3 (some .int) ∈ gw := gw_t 410 (by decide +kernel) (by decide +kernel)
theorem wl_Er_106 : Cond.methodLink R_Er 106 y_Wy_openCount ∈ gw := gw_t 411 (by decide +kernel) (by decide +kernel)
theorem wl_Lw_95 : Cond.methodLink R_Lw 95 y_Lw_change ∈ gw := gw_t 412 (by decide +kernel) (by decide +kernel)
theorem wsm_Lw_change : Cond.static y_Lw_change ∈ gw := gw_t 413 (by decide +kernel) (by decide +kernel)
theorem wc_Lw_change : Cond.codeWith y_Lw_change b_Lw_change 6 (some .int) [(0, 12, 15, 13), (0, 12, 19, 15)] ∈ gw := gw_t 414 (by decide +kernel) (by decide +kernel)
theorem wl_Lw_46 : Cond.methodLink R_Lw 46 y_Er_change ∈ gw := gw_t 415 (by decide +kernel) (by decide +kernel)
theorem wim_Er_change : Cond.instanceMethod y_Er_change ∈ gw := gw_t 416 (by decide +kernel) (by decide +kernel)
theorem ws_Er_change : Cond.selects R_Er y_Er_change y_Er_change ∈ gw := gw_t 417 (by decide +kernel) (by decide +kernel)
theorem wc_Er_change : Cond.code y_Er_change b_Er_change 6 (some .int) ∈ gw := gw_t 418 (by decide +kernel) (by decide +kernel)
theorem wl_Er_111 : Cond.methodLink R_Er 111 y_Wy_openChange ∈ gw := gw_t 420 (by decide +kernel) (by decide +kernel)
theorem wl_Lw_99 : Cond.methodLink R_Lw 99 y_Lw_size ∈ gw := gw_t 421 (by decide +kernel) (by decide +kernel)
theorem wsm_Lw_size : Cond.static y_Lw_size ∈ gw := gw_t 422 (by decide +kernel) (by decide +kernel)
theorem wc_Lw_size : Cond.codeWith y_Lw_size b_Lw_size 4 (some .int) [(0, 9, 12, 13)] ∈ gw := gw_t 423 (by decide +kernel) (by decide +kernel)
theorem wl_Lw_50 : Cond.methodLink R_Lw 50 y_Er_size ∈ gw := gw_t 424 (by decide +kernel) (by decide +kernel)
theorem wim_Er_size : Cond.instanceMethod y_Er_size ∈ gw := gw_t 425 (by decide +kernel) (by decide +kernel)
theorem ws_Er_size : Cond.selects R_Er y_Er_size y_Er_size ∈ gw := gw_t 426 (by decide +kernel) (by decide +kernel)
theorem wc_Er_size : Cond.code y_Er_size b_Er_size 2 (some .int) ∈ gw := gw_t 427 (by decide +kernel) (by decide +kernel)
theorem wl_Er_121 : Cond.methodLink R_Er 121 y_Er_checkSite ∈ gw := gw_t 428 (by decide +kernel) (by decide +kernel)
theorem wsm_Er_checkSite : Cond.static y_Er_checkSite ∈ gw := gw_t 429 (by decide +kernel) (by decide +kernel)
theorem wc_Er_checkSite : Cond.code y_Er_checkSite b_Er_checkSite 1 none ∈ gw := gw_t 430 (by decide +kernel) (by decide +kernel)
theorem wl_Lw_102 : Cond.methodLink R_Lw 102 y_Lw_letter ∈ gw := gw_t 432 (by decide +kernel) (by decide +kernel)
theorem wsm_Lw_letter : Cond.static y_Lw_letter ∈ gw := gw_t 433 (by decide +kernel) (by decide +kernel)
theorem wc_Lw_letter : Cond.codeWith y_Lw_letter b_Lw_letter 5 (some .int) [(0, 10, 13, 13), (0, 10, 17, 15)] ∈ gw := gw_t 434 (by decide +kernel) (by decide +kernel)
theorem wl_Lw_53 : Cond.methodLink R_Lw 53 y_Er_letter ∈ gw := gw_t 435 (by decide +kernel) (by decide +kernel)
theorem wim_Er_letter : Cond.instanceMethod y_Er_letter ∈ gw := gw_t 436 (by decide +kernel) (by decide +kernel)
theorem ws_Er_letter : Cond.selects R_Er y_Er_letter y_Er_letter ∈ gw := gw_t 437 (by decide +kernel) (by decide +kernel)
theorem wc_Er_letter : Cond.code y_Er_letter b_Er_letter 4 (some .int) ∈ gw := gw_t 438 (by decide +kernel) (by decide +kernel)
theorem wl_Lw_57 : Cond.classLink R_Lw 57 R_Mo ∈ gw := gw_t 439 (by decide +kernel) (by decide +kernel)
theorem wn_Mo : Cond.instantiable R_Mo 20 ∈ gw := gw_t 440 (by decide +kernel) (by decide +kernel)
theorem wl_Lw_59 : Cond.methodLink R_Lw 59 y_Mo_init ∈ gw := gw_t 441 (by decide +kernel) (by decide +kernel)
theorem wim_Mo_init : Cond.instanceMethod y_Mo_init ∈ gw := gw_t 442 (by decide +kernel) (by decide +kernel)
theorem wc_Mo_init : Cond.code y_Mo_init b_Mo_init 1 none ∈ gw := gw_t 443 (by decide +kernel) (by decide +kernel)
theorem wl_Mo_1 : Cond.methodLink R_Mo 1 objectInit ∈ gw := gw_t 444 (by decide +kernel) (by decide +kernel)
theorem wl_Mo_56 : Cond.fieldLink R_Mo 56 R_Mo "thrown" "I" ∈ gw := gw_t 445 (by decide +kernel) (by decide +kernel)
theorem wl_Mo_7 : Cond.fieldLink R_Mo 7 R_Mo "sizes" "[I" ∈ gw := gw_t 446 (by decide +kernel) (by decide +kernel)
theorem wl_Mo_13 : Cond.fieldLink R_Mo 13 R_Mo "texts" "[C" ∈ gw := gw_t 447 (by decide +kernel) (by decide +kernel)
theorem wl_Mo_17 : Cond.fieldLink R_Mo 17 R_Mo "sent" "[I" ∈ gw := gw_t 448 (by decide +kernel) (by decide +kernel)
theorem wl_Mo_20 : Cond.fieldLink R_Mo 20 R_Mo "got" "[I" ∈ gw := gw_t 449 (by decide +kernel) (by decide +kernel)
theorem wl_Mo_23 : Cond.fieldLink R_Mo 23 R_Mo "waits" "[I" ∈ gw := gw_t 450 (by decide +kernel) (by decide +kernel)
theorem wl_Mo_26 : Cond.fieldLink R_Mo 26 R_Mo "kinds" "[I" ∈ gw := gw_t 451 (by decide +kernel) (by decide +kernel)
theorem wl_Mo_29 : Cond.fieldLink R_Mo 29 R_Mo "places" "[I" ∈ gw := gw_t 452 (by decide +kernel) (by decide +kernel)
theorem wl_Mo_32 : Cond.fieldLink R_Mo 32 R_Mo "letters" "[I" ∈ gw := gw_t 453 (by decide +kernel) (by decide +kernel)
theorem wl_Mo_35 : Cond.fieldLink R_Mo 35 R_Mo "origins" "[I" ∈ gw := gw_t 454 (by decide +kernel) (by decide +kernel)
theorem wl_Mo_38 : Cond.fieldLink R_Mo 38 R_Mo "counts" "[I" ∈ gw := gw_t 455 (by decide +kernel) (by decide +kernel)
theorem wl_Mo_41 : Cond.fieldLink R_Mo 41 R_Mo "opens" "[I" ∈ gw := gw_t 456 (by decide +kernel) (by decide +kernel)
theorem wl_Mo_44 : Cond.fieldLink R_Mo 44 R_Mo "openKinds" "[I" ∈ gw := gw_t 457 (by decide +kernel) (by decide +kernel)
theorem wl_Mo_47 : Cond.fieldLink R_Mo 47 R_Mo "openPlaces" "[I" ∈ gw := gw_t 458 (by decide +kernel) (by decide +kernel)
theorem wl_Mo_50 : Cond.fieldLink R_Mo 50 R_Mo "openLetters" "[I" ∈ gw := gw_t 459 (by decide +kernel) (by decide +kernel)
theorem wl_Mo_53 : Cond.fieldLink R_Mo 53 R_Mo "openOrigins" "[I" ∈ gw := gw_t 460 (by decide +kernel) (by decide +kernel)
theorem wl_Mo_60 : Cond.fieldLink R_Mo 60 R_Mo "kind" "I" ∈ gw := gw_t 461 (by decide +kernel) (by decide +kernel)
theorem wl_Mo_63 : Cond.fieldLink R_Mo 63 R_Mo "place" "I" ∈ gw := gw_t 462 (by decide +kernel) (by decide +kernel)
theorem wl_Mo_66 : Cond.fieldLink R_Mo 66 R_Mo "letter0" "I" ∈ gw := gw_t 463 (by decide +kernel) (by decide +kernel)
theorem wl_Mo_69 : Cond.fieldLink R_Mo 69 R_Mo "origin" "I" ∈ gw := gw_t 464 (by decide +kernel) (by decide +kernel)
theorem wl_Lw_66 : Cond.methodLink R_Lw 66 y_Mo_thrown ∈ gw := gw_t 506 (by decide +kernel) (by decide +kernel)
theorem wim_Mo_thrown : Cond.instanceMethod y_Mo_thrown ∈ gw := gw_t 507 (by decide +kernel) (by decide +kernel)
theorem ws_Mo_thrown : Cond.selects R_Mo y_Mo_thrown y_Mo_thrown ∈ gw := gw_t 508 (by decide +kernel) (by decide +kernel)
theorem wc_Mo_thrown : Cond.code y_Mo_thrown b_Mo_thrown 1 (some .int) ∈ gw := gw_t 509 (by decide +kernel) (by decide +kernel)
theorem wl_Lw_65 : Cond.methodLink R_Lw 65 y_Mo_insert ∈ gw := gw_t 510 (by decide +kernel) (by decide +kernel)
theorem wim_Mo_insert : Cond.instanceMethod y_Mo_insert ∈ gw := gw_t 511 (by decide +kernel) (by decide +kernel)
theorem ws_Mo_insert : Cond.selects R_Mo y_Mo_insert y_Mo_insert ∈ gw := gw_t 512 (by decide +kernel) (by decide +kernel)
theorem wc_Mo_insert : Cond.code y_Mo_insert b_Mo_insert 5 (some .int) ∈ gw := gw_t 513 (by decide +kernel) (by decide +kernel)
theorem wl_Mo_94 : Cond.methodLink R_Mo 94 y_Mo_isClient ∈ gw := gw_t 514 (by decide +kernel) (by decide +kernel)
theorem wsm_Mo_isClient : Cond.static y_Mo_isClient ∈ gw := gw_t 515 (by decide +kernel) (by decide +kernel)
theorem wc_Mo_isClient : Cond.code y_Mo_isClient b_Mo_isClient 1 (some .boolean) ∈ gw := gw_t 516 (by decide +kernel) (by decide +kernel)
theorem wl_Mo_98 : Cond.methodLink R_Mo 98 y_Mo_loaded ∈ gw := gw_t 517 (by decide +kernel) (by decide +kernel)
theorem wim_Mo_loaded : Cond.instanceMethod y_Mo_loaded ∈ gw := gw_t 519 (by decide +kernel) (by decide +kernel)
theorem wc_Mo_loaded : Cond.code y_Mo_loaded b_Mo_loaded 2 (some .boolean) ∈ gw := gw_t 520 (by decide +kernel) (by decide +kernel)
theorem wl_Mo_87 : Cond.methodLink R_Mo 87 y_Mo_line ∈ gw := gw_t 521 (by decide +kernel) (by decide +kernel)
theorem wsm_Mo_line : Cond.static y_Mo_line ∈ gw := gw_t 522 (by decide +kernel) (by decide +kernel)
theorem wc_Mo_line : Cond.code y_Mo_line b_Mo_line 2 (some .int) ∈ gw := gw_t 523 (by decide +kernel) (by decide +kernel)
theorem wl_Mo_101 : Cond.methodLink R_Mo 101 y_Mo_begin ∈ gw := gw_t 524 (by decide +kernel) (by decide +kernel)
theorem wim_Mo_begin : Cond.instanceMethod y_Mo_begin ∈ gw := gw_t 526 (by decide +kernel) (by decide +kernel)
theorem wc_Mo_begin : Cond.code y_Mo_begin b_Mo_begin 5 none ∈ gw := gw_t 527 (by decide +kernel) (by decide +kernel)
theorem wl_Mo_84 : Cond.methodLink R_Mo 84 y_Mo_apply ∈ gw := gw_t 528 (by decide +kernel) (by decide +kernel)
theorem wim_Mo_apply : Cond.instanceMethod y_Mo_apply ∈ gw := gw_t 530 (by decide +kernel) (by decide +kernel)
theorem wc_Mo_apply : Cond.code y_Mo_apply b_Mo_apply 4 none ∈ gw := gw_t 531 (by decide +kernel) (by decide +kernel)
theorem wl_Mo_91 : Cond.methodLink R_Mo 91 y_Mo_send ∈ gw := gw_t 532 (by decide +kernel) (by decide +kernel)
theorem wim_Mo_send : Cond.instanceMethod y_Mo_send ∈ gw := gw_t 534 (by decide +kernel) (by decide +kernel)
theorem wc_Mo_send : Cond.code y_Mo_send b_Mo_send 4 none ∈ gw := gw_t 535 (by decide +kernel) (by decide +kernel)
theorem wl_Mo_72 : Cond.methodLink R_Mo 72 y_Mo_back ∈ gw := gw_t 536 (by decide +kernel) (by decide +kernel)
theorem wsm_Mo_back : Cond.static y_Mo_back ∈ gw := gw_t 537 (by decide +kernel) (by decide +kernel)
theorem wc_Mo_back : Cond.code y_Mo_back b_Mo_back 1 (some .int) ∈ gw := gw_t 538 (by decide +kernel) (by decide +kernel)
theorem wl_Lw_73 : Cond.methodLink R_Lw 73 y_Mo_delete ∈ gw := gw_t 539 (by decide +kernel) (by decide +kernel)
theorem wim_Mo_delete : Cond.instanceMethod y_Mo_delete ∈ gw := gw_t 540 (by decide +kernel) (by decide +kernel)
theorem ws_Mo_delete : Cond.selects R_Mo y_Mo_delete y_Mo_delete ∈ gw := gw_t 541 (by decide +kernel) (by decide +kernel)
theorem wc_Mo_delete : Cond.code y_Mo_delete b_Mo_delete 4 (some .int) ∈ gw := gw_t 542 (by decide +kernel) (by decide +kernel)
theorem wl_Lw_77 : Cond.methodLink R_Lw 77 y_Mo_nod ∈ gw := gw_t 543 (by decide +kernel) (by decide +kernel)
theorem wim_Mo_nod : Cond.instanceMethod y_Mo_nod ∈ gw := gw_t 544 (by decide +kernel) (by decide +kernel)
theorem ws_Mo_nod : Cond.selects R_Mo y_Mo_nod y_Mo_nod ∈ gw := gw_t 545 (by decide +kernel) (by decide +kernel)
theorem wc_Mo_nod : Cond.code y_Mo_nod b_Mo_nod 2 none ∈ gw := gw_t 546 (by decide +kernel) (by decide +kernel)
theorem wl_Lw_81 : Cond.methodLink R_Lw 81 y_Mo_push ∈ gw := gw_t 547 (by decide +kernel) (by decide +kernel)
theorem wim_Mo_push : Cond.instanceMethod y_Mo_push ∈ gw := gw_t 548 (by decide +kernel) (by decide +kernel)
theorem ws_Mo_push : Cond.selects R_Mo y_Mo_push y_Mo_push ∈ gw := gw_t 549 (by decide +kernel) (by decide +kernel)
theorem wc_Mo_push : Cond.code y_Mo_push b_Mo_push 4 (some .int) ∈ gw := gw_t 550 (by decide +kernel) (by decide +kernel)
theorem wl_Mo_105 : Cond.methodLink R_Mo 105 y_Mo_get ∈ gw := gw_t 551 (by decide +kernel) (by decide +kernel)
theorem wim_Mo_get : Cond.instanceMethod y_Mo_get ∈ gw := gw_t 553 (by decide +kernel) (by decide +kernel)
theorem wc_Mo_get : Cond.code y_Mo_get b_Mo_get 9 none ∈ gw := gw_t 554 (by decide +kernel) (by decide +kernel)
theorem wl_Mo_76 : Cond.methodLink R_Mo 76 y_Mo_forget ∈ gw := gw_t 555 (by decide +kernel) (by decide +kernel)
theorem wim_Mo_forget : Cond.instanceMethod y_Mo_forget ∈ gw := gw_t 557 (by decide +kernel) (by decide +kernel)
theorem wc_Mo_forget : Cond.code y_Mo_forget b_Mo_forget 3 none ∈ gw := gw_t 558 (by decide +kernel) (by decide +kernel)
theorem wl_Mo_80 : Cond.methodLink R_Mo 80 y_Mo_fitted ∈ gw := gw_t 559 (by decide +kernel) (by decide +kernel)
theorem wsm_Mo_fitted : Cond.static y_Mo_fitted ∈ gw := gw_t 560 (by decide +kernel) (by decide +kernel)
theorem wc_Mo_fitted : Cond.code y_Mo_fitted b_Mo_fitted 6 (some .int) ∈ gw := gw_t 561 (by decide +kernel) (by decide +kernel)
theorem wl_Lw_84 : Cond.methodLink R_Lw 84 y_Mo_pull ∈ gw := gw_t 562 (by decide +kernel) (by decide +kernel)
theorem wim_Mo_pull : Cond.instanceMethod y_Mo_pull ∈ gw := gw_t 563 (by decide +kernel) (by decide +kernel)
theorem ws_Mo_pull : Cond.selects R_Mo y_Mo_pull y_Mo_pull ∈ gw := gw_t 564 (by decide +kernel) (by decide +kernel)
theorem wc_Mo_pull : Cond.code y_Mo_pull b_Mo_pull 2 (some .int) ∈ gw := gw_t 565 (by decide +kernel) (by decide +kernel)
theorem wl_Lw_88 : Cond.methodLink R_Lw 88 y_Mo_waiting ∈ gw := gw_t 566 (by decide +kernel) (by decide +kernel)
theorem wim_Mo_waiting : Cond.instanceMethod y_Mo_waiting ∈ gw := gw_t 567 (by decide +kernel) (by decide +kernel)
theorem ws_Mo_waiting : Cond.selects R_Mo y_Mo_waiting y_Mo_waiting ∈ gw := gw_t 568 (by decide +kernel) (by decide +kernel)
theorem wc_Mo_waiting : Cond.code y_Mo_waiting b_Mo_waiting 3 (some .int) ∈ gw := gw_t 569 (by decide +kernel) (by decide +kernel)
theorem wl_Lw_91 : Cond.methodLink R_Lw 91 y_Mo_got ∈ gw := gw_t 570 (by decide +kernel) (by decide +kernel)
theorem wim_Mo_got : Cond.instanceMethod y_Mo_got ∈ gw := gw_t 571 (by decide +kernel) (by decide +kernel)
theorem ws_Mo_got : Cond.selects R_Mo y_Mo_got y_Mo_got ∈ gw := gw_t 572 (by decide +kernel) (by decide +kernel)
theorem wc_Mo_got : Cond.code y_Mo_got b_Mo_got 3 (some .int) ∈ gw := gw_t 573 (by decide +kernel) (by decide +kernel)
theorem wl_Lw_94 : Cond.methodLink R_Lw 94 y_Mo_open ∈ gw := gw_t 574 (by decide +kernel) (by decide +kernel)
theorem wim_Mo_open : Cond.instanceMethod y_Mo_open ∈ gw := gw_t 575 (by decide +kernel) (by decide +kernel)
theorem ws_Mo_open : Cond.selects R_Mo y_Mo_open y_Mo_open ∈ gw := gw_t 576 (by decide +kernel) (by decide +kernel)
theorem wc_Mo_open : Cond.code y_Mo_open b_Mo_open 3 (some .int) ∈ gw := gw_t 577 (by decide +kernel) (by decide +kernel)
theorem wl_Lw_98 : Cond.methodLink R_Lw 98 y_Mo_change ∈ gw := gw_t 578 (by decide +kernel) (by decide +kernel)
theorem wim_Mo_change : Cond.instanceMethod y_Mo_change ∈ gw := gw_t 579 (by decide +kernel) (by decide +kernel)
theorem ws_Mo_change : Cond.selects R_Mo y_Mo_change y_Mo_change ∈ gw := gw_t 580 (by decide +kernel) (by decide +kernel)
theorem wc_Mo_change : Cond.code y_Mo_change b_Mo_change 5 (some .int) ∈ gw := gw_t 581 (by decide +kernel) (by decide +kernel)
theorem wl_Lw_101 : Cond.methodLink R_Lw 101 y_Mo_size ∈ gw := gw_t 582 (by decide +kernel) (by decide +kernel)
theorem wim_Mo_size : Cond.instanceMethod y_Mo_size ∈ gw := gw_t 583 (by decide +kernel) (by decide +kernel)
theorem ws_Mo_size : Cond.selects R_Mo y_Mo_size y_Mo_size ∈ gw := gw_t 584 (by decide +kernel) (by decide +kernel)
theorem wc_Mo_size : Cond.code y_Mo_size b_Mo_size 2 (some .int) ∈ gw := gw_t 585 (by decide +kernel) (by decide +kernel)
theorem wl_Mo_109 : Cond.methodLink R_Mo 109 y_Mo_isSite ∈ gw := gw_t 586 (by decide +kernel) (by decide +kernel)
theorem wsm_Mo_isSite : Cond.static y_Mo_isSite ∈ gw := gw_t 587 (by decide +kernel) (by decide +kernel)
theorem wc_Mo_isSite : Cond.code y_Mo_isSite b_Mo_isSite 1 (some .boolean) ∈ gw := gw_t 588 (by decide +kernel) (by decide +kernel)
theorem wl_Lw_104 : Cond.methodLink R_Lw 104 y_Mo_letter ∈ gw := gw_t 589 (by decide +kernel) (by decide +kernel)
theorem wim_Mo_letter : Cond.instanceMethod y_Mo_letter ∈ gw := gw_t 590 (by decide +kernel) (by decide +kernel)
theorem ws_Mo_letter : Cond.selects R_Mo y_Mo_letter y_Mo_letter ∈ gw := gw_t 591 (by decide +kernel) (by decide +kernel)
theorem wc_Mo_letter : Cond.code y_Mo_letter b_Mo_letter 3 (some .int) ∈ gw := gw_t 592 (by decide +kernel) (by decide +kernel)
theorem wl_Lw_109 : Cond.methodLink R_Lw 109 y_Mo_alike ∈ gw := gw_t 593 (by decide +kernel) (by decide +kernel)
theorem wim_Mo_alike : Cond.instanceMethod y_Mo_alike ∈ gw := gw_t 594 (by decide +kernel) (by decide +kernel)
theorem ws_Mo_alike : Cond.selects R_Mo y_Mo_alike y_Mo_alike ∈ gw := gw_t 595 (by decide +kernel) (by decide +kernel)
theorem wc_Mo_alike : Cond.code y_Mo_alike b_Mo_alike 4 (some .boolean) ∈ gw := gw_t 596 (by decide +kernel) (by decide +kernel)
theorem wl_Lw_113 : Cond.methodLink R_Lw 113 y_Mo_quiet ∈ gw := gw_t 597 (by decide +kernel) (by decide +kernel)
theorem wim_Mo_quiet : Cond.instanceMethod y_Mo_quiet ∈ gw := gw_t 598 (by decide +kernel) (by decide +kernel)
theorem ws_Mo_quiet : Cond.selects R_Mo y_Mo_quiet y_Mo_quiet ∈ gw := gw_t 599 (by decide +kernel) (by decide +kernel)
theorem wc_Mo_quiet : Cond.code y_Mo_quiet b_Mo_quiet 3 (some .boolean) ∈ gw := gw_t 600 (by decide +kernel) (by decide +kernel)
theorem wa_long : Cond.arrayClass .long ∈ gw := gw_t 601 (by decide +kernel) (by decide +kernel)
theorem ws_Er_way : Cond.selects R_Er y_Er_way y_Er_way ∈ gw := gw_s (q := (y_Er_way, 4)) 0 rfl
theorem ws_Er_checkMayMakeChange : Cond.selects R_Er y_Er_checkMayMakeChange y_Er_checkMayMakeChange ∈ gw := gw_s (q := (y_Er_checkMayMakeChange, 4)) 2 rfl
theorem ws_Er_makeChange : Cond.selects R_Er y_Er_makeChange y_Er_makeChange ∈ gw := gw_s (q := (y_Er_makeChange, 4)) 3 rfl
theorem ws_Tx_put : Cond.selects R_Tx y_Tx_put y_Tx_put ∈ gw := gw_s (q := (y_Tx_put, 2)) 4 rfl
theorem ws_Tx_remove : Cond.selects R_Tx y_Tx_remove y_Tx_remove ∈ gw := gw_s (q := (y_Tx_remove, 2)) 5 rfl
theorem ws_Wy_slotOf : Cond.selects R_Wy y_Wy_slotOf y_Wy_slotOf ∈ gw := gw_s (q := (y_Wy_slotOf, 7)) 6 rfl
theorem ws_Er_receive : Cond.selects R_Er y_Er_receive y_Er_receive ∈ gw := gw_s (q := (y_Er_receive, 4)) 7 rfl
theorem ws_Ch_fitTo : Cond.selects R_Ch y_Ch_fitTo y_Ch_fitTo ∈ gw := gw_s (q := (y_Ch_fitTo, 4)) 8 rfl
theorem ws_Ch_fitToInsert : Cond.selects R_Ch y_Ch_fitToInsert y_Ch_fitToInsert ∈ gw := gw_s (q := (y_Ch_fitToInsert, 4)) 9 rfl
theorem ws_Ch_fitToDelete : Cond.selects R_Ch y_Ch_fitToDelete y_Ch_fitToDelete ∈ gw := gw_s (q := (y_Ch_fitToDelete, 4)) 10 rfl
theorem ws_Mo_loaded : Cond.selects R_Mo y_Mo_loaded y_Mo_loaded ∈ gw := gw_s (q := (y_Mo_loaded, 20)) 11 rfl
theorem ws_Mo_begin : Cond.selects R_Mo y_Mo_begin y_Mo_begin ∈ gw := gw_s (q := (y_Mo_begin, 20)) 12 rfl
theorem ws_Mo_apply : Cond.selects R_Mo y_Mo_apply y_Mo_apply ∈ gw := gw_s (q := (y_Mo_apply, 20)) 13 rfl
theorem ws_Mo_send : Cond.selects R_Mo y_Mo_send y_Mo_send ∈ gw := gw_s (q := (y_Mo_send, 20)) 14 rfl
theorem ws_Mo_get : Cond.selects R_Mo y_Mo_get y_Mo_get ∈ gw := gw_s (q := (y_Mo_get, 20)) 15 rfl
theorem ws_Mo_forget : Cond.selects R_Mo y_Mo_forget y_Mo_forget ∈ gw := gw_s (q := (y_Mo_forget, 20)) 16 rfl
theorem wy_Ch_0 : u_lay R_Ch F_Ch 0 ∈ gw := gw_t 65 (by decide +kernel) (by decide +kernel)
theorem wy_Ch_1 : u_lay R_Ch F_Ch 1 ∈ gw := gw_t 67 (by decide +kernel) (by decide +kernel)
theorem wy_Ch_2 : u_lay R_Ch F_Ch 2 ∈ gw := gw_t 69 (by decide +kernel) (by decide +kernel)
theorem wy_Ch_3 : u_lay R_Ch F_Ch 3 ∈ gw := gw_t 71 (by decide +kernel) (by decide +kernel)
theorem wy_Ch : ∀ w ∈ u_ws R_Ch F_Ch 4, w ∈ gw := by
  intro w hw
  obtain ⟨k, hk, rfl⟩ := List.mem_map.mp hw
  have hk := List.mem_range.mp hk
  rcases (show k = 0 ∨ k = 1 ∨ k = 2 ∨ k = 3 by omega) with rfl | rfl | rfl | rfl
  · exact wy_Ch_0
  · exact wy_Ch_1
  · exact wy_Ch_2
  · exact wy_Ch_3
theorem wy_Tx_0 : u_lay R_Tx F_Tx 0 ∈ gw := gw_t 34 (by decide +kernel) (by decide +kernel)
theorem wy_Tx_1 : u_lay R_Tx F_Tx 1 ∈ gw := gw_t 36 (by decide +kernel) (by decide +kernel)
theorem wy_Tx : ∀ w ∈ u_ws R_Tx F_Tx 2, w ∈ gw := by
  intro w hw
  obtain ⟨k, hk, rfl⟩ := List.mem_map.mp hw
  have hk := List.mem_range.mp hk
  rcases (show k = 0 ∨ k = 1 by omega) with rfl | rfl
  · exact wy_Tx_0
  · exact wy_Tx_1
theorem wy_Wy_0 : u_lay R_Wy F_Wy 0 ∈ gw := gw_t 83 (by decide +kernel) (by decide +kernel)
theorem wy_Wy_1 : u_lay R_Wy F_Wy 1 ∈ gw := gw_t 85 (by decide +kernel) (by decide +kernel)
theorem wy_Wy_2 : u_lay R_Wy F_Wy 2 ∈ gw := gw_t 87 (by decide +kernel) (by decide +kernel)
theorem wy_Wy_3 : u_lay R_Wy F_Wy 3 ∈ gw := gw_t 89 (by decide +kernel) (by decide +kernel)
theorem wy_Wy_4 : u_lay R_Wy F_Wy 4 ∈ gw := gw_t 91 (by decide +kernel) (by decide +kernel)
theorem wy_Wy_5 : u_lay R_Wy F_Wy 5 ∈ gw := gw_t 93 (by decide +kernel) (by decide +kernel)
theorem wy_Wy_6 : u_lay R_Wy F_Wy 6 ∈ gw := gw_t 95 (by decide +kernel) (by decide +kernel)
theorem wy_Wy : ∀ w ∈ u_ws R_Wy F_Wy 7, w ∈ gw := by
  intro w hw
  obtain ⟨k, hk, rfl⟩ := List.mem_map.mp hw
  have hk := List.mem_range.mp hk
  rcases (show k = 0 ∨ k = 1 ∨ k = 2 ∨ k = 3 ∨ k = 4 ∨ k = 5 ∨ k = 6 by omega) with rfl | rfl | rfl | rfl | rfl | rfl | rfl
  · exact wy_Wy_0
  · exact wy_Wy_1
  · exact wy_Wy_2
  · exact wy_Wy_3
  · exact wy_Wy_4
  · exact wy_Wy_5
  · exact wy_Wy_6
theorem wy_Er_0 : u_lay R_Er F_Er 0 ∈ gw := gw_t 104 (by decide +kernel) (by decide +kernel)
theorem wy_Er_1 : u_lay R_Er F_Er 1 ∈ gw := gw_t 106 (by decide +kernel) (by decide +kernel)
theorem wy_Er_2 : u_lay R_Er F_Er 2 ∈ gw := gw_t 108 (by decide +kernel) (by decide +kernel)
theorem wy_Er_3 : u_lay R_Er F_Er 3 ∈ gw := gw_t 110 (by decide +kernel) (by decide +kernel)
theorem wy_Er : ∀ w ∈ u_ws R_Er F_Er 4, w ∈ gw := by
  intro w hw
  obtain ⟨k, hk, rfl⟩ := List.mem_map.mp hw
  have hk := List.mem_range.mp hk
  rcases (show k = 0 ∨ k = 1 ∨ k = 2 ∨ k = 3 by omega) with rfl | rfl | rfl | rfl
  · exact wy_Er_0
  · exact wy_Er_1
  · exact wy_Er_2
  · exact wy_Er_3
theorem wy_Mo_0 : u_lay R_Mo F_Mo 0 ∈ gw := gw_t 465 (by decide +kernel) (by decide +kernel)
theorem wy_Mo_1 : u_lay R_Mo F_Mo 1 ∈ gw := gw_t 467 (by decide +kernel) (by decide +kernel)
theorem wy_Mo_2 : u_lay R_Mo F_Mo 2 ∈ gw := gw_t 469 (by decide +kernel) (by decide +kernel)
theorem wy_Mo_3 : u_lay R_Mo F_Mo 3 ∈ gw := gw_t 471 (by decide +kernel) (by decide +kernel)
theorem wy_Mo_4 : u_lay R_Mo F_Mo 4 ∈ gw := gw_t 473 (by decide +kernel) (by decide +kernel)
theorem wy_Mo_5 : u_lay R_Mo F_Mo 5 ∈ gw := gw_t 475 (by decide +kernel) (by decide +kernel)
theorem wy_Mo_6 : u_lay R_Mo F_Mo 6 ∈ gw := gw_t 477 (by decide +kernel) (by decide +kernel)
theorem wy_Mo_7 : u_lay R_Mo F_Mo 7 ∈ gw := gw_t 479 (by decide +kernel) (by decide +kernel)
theorem wy_Mo_8 : u_lay R_Mo F_Mo 8 ∈ gw := gw_t 481 (by decide +kernel) (by decide +kernel)
theorem wy_Mo_9 : u_lay R_Mo F_Mo 9 ∈ gw := gw_t 483 (by decide +kernel) (by decide +kernel)
theorem wy_Mo_10 : u_lay R_Mo F_Mo 10 ∈ gw := gw_t 485 (by decide +kernel) (by decide +kernel)
theorem wy_Mo_11 : u_lay R_Mo F_Mo 11 ∈ gw := gw_t 487 (by decide +kernel) (by decide +kernel)
theorem wy_Mo_12 : u_lay R_Mo F_Mo 12 ∈ gw := gw_t 489 (by decide +kernel) (by decide +kernel)
theorem wy_Mo_13 : u_lay R_Mo F_Mo 13 ∈ gw := gw_t 491 (by decide +kernel) (by decide +kernel)
theorem wy_Mo_14 : u_lay R_Mo F_Mo 14 ∈ gw := gw_t 493 (by decide +kernel) (by decide +kernel)
theorem wy_Mo_15 : u_lay R_Mo F_Mo 15 ∈ gw := gw_t 495 (by decide +kernel) (by decide +kernel)
theorem wy_Mo_16 : u_lay R_Mo F_Mo 16 ∈ gw := gw_t 497 (by decide +kernel) (by decide +kernel)
theorem wy_Mo_17 : u_lay R_Mo F_Mo 17 ∈ gw := gw_t 499 (by decide +kernel) (by decide +kernel)
theorem wy_Mo_18 : u_lay R_Mo F_Mo 18 ∈ gw := gw_t 501 (by decide +kernel) (by decide +kernel)
theorem wy_Mo_19 : u_lay R_Mo F_Mo 19 ∈ gw := gw_t 503 (by decide +kernel) (by decide +kernel)
theorem wy_Mo : ∀ w ∈ u_ws R_Mo F_Mo 20, w ∈ gw := by
  intro w hw
  obtain ⟨k, hk, rfl⟩ := List.mem_map.mp hw
  have hk := List.mem_range.mp hk
  rcases (show k = 0 ∨ k = 1 ∨ k = 2 ∨ k = 3 ∨ k = 4 ∨ k = 5 ∨ k = 6 ∨ k = 7 ∨ k = 8 ∨ k = 9 ∨ k = 10 ∨ k = 11 ∨ k = 12 ∨ k = 13 ∨ k = 14 ∨ k = 15 ∨ k = 16 ∨ k = 17 ∨ k = 18 ∨ k = 19 by omega) with rfl | rfl | rfl | rfl | rfl | rfl | rfl | rfl | rfl | rfl | rfl | rfl | rfl | rfl | rfl | rfl | rfl | rfl | rfl | rfl
  · exact wy_Mo_0
  · exact wy_Mo_1
  · exact wy_Mo_2
  · exact wy_Mo_3
  · exact wy_Mo_4
  · exact wy_Mo_5
  · exact wy_Mo_6
  · exact wy_Mo_7
  · exact wy_Mo_8
  · exact wy_Mo_9
  · exact wy_Mo_10
  · exact wy_Mo_11
  · exact wy_Mo_12
  · exact wy_Mo_13
  · exact wy_Mo_14
  · exact wy_Mo_15
  · exact wy_Mo_16
  · exact wy_Mo_17
  · exact wy_Mo_18
  · exact wy_Mo_19
end
section
/-! THE WORLD: a layout La (what lies where; fixed while the system runs) and a memory mu (the ints in it) -/
abbrev la_M : Type := Nat → Nat → Int32
abbrev la_L : Type := Nat → Option ((Nat → Int32) → va_E)
def la_set (mu : la_M) (a : Nat) (g : Nat → Int32) : la_M := fun q => if q = a then g else mu q
def la_up (mu : la_M) (a k : Nat) (v : Int32) : la_M := la_set mu a (upd (mu a) k v)
theorem la_set_s {mu : la_M} {a : Nat} {g : Nat → Int32} : la_set mu a g a = g := if_pos rfl
theorem la_set_n {mu : la_M} {a q : Nat} {g : Nat → Int32} (h : q ≠ a) : la_set mu a g q = mu q := if_neg h
theorem la_up_s {mu : la_M} {a k : Nat} {v : Int32} : la_up mu a k v a k = v := by
  unfold la_up
  rw [la_set_s]
  exact if_pos rfl
theorem la_up_k {mu : la_M} {a q k j : Nat} {v : Int32} (h : j ≠ k) : la_up mu a k v q j = mu q j := by
  unfold la_up
  by_cases hq : q = a
  · subst hq
    rw [la_set_s]
    exact if_neg h
  · rw [la_set_n hq]
theorem la_up_n {mu : la_M} {a q k : Nat} {v : Int32} (h : q ≠ a) : la_up mu a k v q = mu q := la_set_n h
def la_P (D : va_G) (cl : List vw_C) (La : la_L) (mu : la_M) (H : Heap) : Prop := ∀ (a : Nat) (f : (Nat → Int32) → va_E), La a = some f → va_at D cl (a, f (mu a)) H
def la_A (La : la_L) : Nat → Prop := fun q => ∃ f, La q = some f
theorem la_P.one {D : va_G} {cl : List vw_C} {La : la_L} {mu : la_M} {H : Heap} (h : la_P D cl La mu H) {a : Nat} {f : (Nat → Int32) → va_E} (ha : La a = some f) : va_P D cl [(a, f (mu a))] H := by
  intro k q hk
  have hz : k < 1 := (List.getElem?_eq_some_iff.mp hk).1
  rw [show k = 0 by omega] at hk
  cases hk
  exact h a f ha
theorem la_P.lt {D : va_G} {cl : List vw_C} {La : la_L} {mu : la_M} {H : Heap} (h : la_P D cl La mu H) {a : Nat} (ha : la_A La a) : a < H.size := by
  obtain ⟨f, hf⟩ := ha
  exact (h a f hf).lt
theorem la_P.kept {D : va_G} {cl : List vw_C} {La : la_L} {mu : la_M} {H H1 : Heap} (h : la_P D cl La mu H) (hq : ∀ a, la_A La a → H1[a]? = H[a]?) : la_P D cl La mu H1 := fun a f ha => (h a f ha).kept (hq a ⟨f, ha⟩)
theorem la_P.set {D : va_G} {cl : List vw_C} {La : la_L} {mu : la_M} {H H1 : Heap} (h : la_P D cl La mu H) {a : Nat} {f : (Nat → Int32) → va_E} (ha : La a = some f) {g : Nat → Int32} (h1 : va_at D cl (a, f g) H1) (oq : ∀ q : Nat, q ≠ a → H1[q]? = H[q]?) : la_P D cl La (la_set mu a g) H1 := by
  intro b f' hb
  by_cases hq : b = a
  · subst hq
    rw [ha] at hb
    cases hb
    rw [la_set_s]
    exact h1
  · rw [la_set_n hq]
    exact (h b f' hb).kept (oq b hq)
section LAR
variable {p : Program} {l : Launch} {e : Env} {R : Room} {s : State} {m : MethodId} {args : Array Value} {below : List Frame} {meth : Method} {c : Code} {H : Heap} {locs : List Loc} {cells slots : Nat} {Q : State → Prop}
variable {cc : ByteArray} {pc : Nat} {ls : Array Slot} {rest : List Value} {D : va_G} {cl : List vw_C} {La : la_L} {mu : la_M} {a : Nat} {f : (Nat → Int32) → va_E} {tys : List (ClassId × FieldType)} {H0 : Heap}
theorem la_get (hexec : p.tables.exec = Jvm.exec) (hb : c.code = cc) {own ref C : String} {T : u_T} {N ci index : Nat} {Ts : List Cond} (hts : ∀ w ∈ Ts, w.before args s = true) (hin : ∀ w ∈ u_ws C T N, w ∈ Ts) (hown : s.vm.findClass own = some m.cls) (hK : va_K D cl tys s) (hP : la_P D cl La mu H) (ha : La a = some f) {fs : List Value} (hf : f (mu a) = .inr (ci, fs)) (hc : cl[ci]? = some (C, T, N)) (k : Nat) (hk : k < N) (hlink : (Cond.fieldLink own index ref (T k).2.1 (T k).2.2.1).before args s = true) (hsame : ∀ x, s.fieldFound? (T k).1 (T k).2.1 (T k).2.2.1 = some x → s.fieldFound? ref (T k).2.1 (T k).2.2.1 = some x) {v : Value} (hv : fs[k]? = some v) (hdg : decode cc pc = .ok (.getfield index, 3))
    (kk : W p l e R s m args below meth c H locs cells slots Q (F0 m (pc + 3) ls (v :: rest))) : W p l e R s m args below meth c H locs cells slots Q (F0 m pc ls (.ref a :: rest)) :=
  va_get hexec hb hts hin hown hK (hP.one ha) 0 (by rw [hf]; rfl) hc k hk hlink hsame hv hdg kk
theorem la_put (hexec : p.tables.exec = Jvm.exec) (hb : c.code = cc) {own ref C : String} {T : u_T} {N ci index : Nat} {Ts : List Cond} (hts : ∀ w ∈ Ts, w.before args s = true) (hin : ∀ w ∈ u_ws C T N, w ∈ Ts) (ty0 : Nat → FieldType) (hty : ∀ k, k < N → parseFieldDescriptor (T k).2.2.1 = some (ty0 k)) (hnm : ∀ a, a < N → ∀ b, b < N → a ≠ b → (T a).2.1 ≠ (T b).2.1) (hown : s.vm.findClass own = some m.cls) (hK : va_K D cl tys s) (hP : la_P D cl La mu H) (hS0 : va_S (la_A La) H0 H locs) (ha : La a = some f) {fs : List Value} (hf : f (mu a) = .inr (ci, fs)) (hc : cl[ci]? = some (C, T, N)) (k : Nat) (hk : k < N) (hlink : (Cond.fieldLink own index ref (T k).2.1 (T k).2.2.1).before args s = true) (hsame : ∀ x, s.fieldFound? (T k).1 (T k).2.1 (T k).2.2.1 = some x → s.fieldFound? ref (T k).2.1 (T k).2.2.1 = some x) (hfin : (T k).2.2.2 = false) {ty : FieldType} {v : Int32} (hd : parseFieldDescriptor (T k).2.2.1 = some ty) (hn : narrow ty (.int v) = .int v) (hfit : fits ty (.int v) = true) (hl : k < fs.length) (hf' : f (upd (mu a) k v) = .inr (ci, fs.set k (.int v)))
    (hdg : decode cc pc = .ok (.putfield index, 3)) (kk : ∀ (H1 : Heap) (locs1 : List Loc), la_P D cl La (la_up mu a k v) H1 → va_S (la_A La) H0 H1 locs1 → W p l e R s m args below meth c H1 locs1 cells slots Q (F0 m (pc + 3) ls rest)) : W p l e R s m args below meth c H locs cells slots Q (F0 m pc ls (.int v :: .ref a :: rest)) := by
  have hap := va_apart (own := own) hts hin ty0 hty hnm hK hc
  have h0 := hP a f ha
  rw [hf] at h0
  obtain ⟨r, h1, cell, q1, q2, q3, q4⟩ := h0
  have hr : r = (C, T, N) := Option.some.inj (h1.symm.trans hc)
  subst hr
  obtain ⟨hS, hfc, kC, hkC, hkind⟩ := hK.1 ci _ hc
  obtain ⟨cf, kf, fi, fd, hi, hsl⟩ := hS k hk
  have hlay := hts _ (hin _ (u_in_lay hk))
  unfold u_lay at hlay
  rw [if_neg (by rw [hfin]; decide)] at hlay
  have hst := (u_facts hfc hkC (u_lays hts hin hk) hi).1
  have h6 := u_store hfc hkC hkind hlay hi hd hn hfit
  refine W.putK hexec hb (f := fd) ⟨hown, hlink, ⟨_, _, _, hsame _ hi⟩, hst⟩ (by rw [q2]; exact h6) q1 q3 (by rw [hsl]; exact k2_hasslot (q4 k hk)) rfl rfl hdg fun H' e1 e2 e3 => ?_
  rw [hsl] at e1 ⊢
  refine kk H' _ (hP.set ha ?_ e3) (hS0.put e2 e3 ⟨f, ha⟩)
  rw [hf']
  exact ⟨_, hc, t_OB.to (V := updV (vp_V fs) k (.int v)) ⟨_, e1, q2, q3, t_set q4 hap hk (.int v)⟩ (fun j _ => vp_updV_set hl (.int v) j)⟩
theorem la_iald (hexec : p.tables.exec = Jvm.exec) (hb : c.code = cc) (hK : va_K D cl tys s) (hP : la_P D cl La mu H) (t0 : Nat) {cA : ClassId} {n : Nat} (ha : La a = some f) (hf : f (mu a) = .inl (cA, n, .inl (mu a))) (ht : tys[t0]? = some (cA, .int)) {i : Int32} (j : Nat) (hi : i = nI j) (hj : j < n) (hn : n < 2 ^ 31) (hdg : decode cc pc = .ok (.iaload, 1))
    (kk : W p l e R s m args below meth c H locs cells slots Q (F0 m (pc + 1) ls (.int (mu a j) :: rest))) : W p l e R s m args below meth c H locs cells slots Q (F0 m pc ls (.int i :: .ref a :: rest)) := by
  subst hi
  refine va_iald (n := n) (f := mu a) (cA := cA) hexec hb hK (hP.one ha) 0 t0 (by rw [hf]; rfl) ht (vp_in_nI hj hn) hdg ?_
  rw [nI_clamp (by omega)]
  exact kk
theorem la_cald (hexec : p.tables.exec = Jvm.exec) (hb : c.code = cc) (hK : va_K D cl tys s) (hP : la_P D cl La mu H) (t0 : Nat) {cA : ClassId} {n : Nat} (ha : La a = some f) (hf : f (mu a) = .inl (cA, n, .inl (mu a))) (ht : tys[t0]? = some (cA, .char)) {i : Int32} (j : Nat) (hi : i = nI j) (hj : j < n) (hn : n < 2 ^ 31) (hdg : decode cc pc = .ok (.caload, 1))
    (kk : W p l e R s m args below meth c H locs cells slots Q (F0 m (pc + 1) ls (.int (mu a j) :: rest))) : W p l e R s m args below meth c H locs cells slots Q (F0 m pc ls (.int i :: .ref a :: rest)) := by
  subst hi
  refine va_cald (n := n) (f := mu a) (cA := cA) hexec hb hK (hP.one ha) 0 t0 (by rw [hf]; rfl) ht (vp_in_nI hj hn) hdg ?_
  rw [nI_clamp (by omega)]
  exact kk
theorem la_aald (hexec : p.tables.exec = Jvm.exec) (hb : c.code = cc) (hK : va_K D cl tys s) (hP : la_P D cl La mu H) (t0 : Nat) {cA : ClassId} {C : String} {n : Nat} {F : Nat → Nat} (ha : La a = some f) (hf : f (mu a) = .inl (cA, n, .inr (.inr (.inr (.inr (fun k => some (F k))))))) (ht : tys[t0]? = some (cA, .object C)) {i : Int32} (j : Nat) (hi : i = nI j) (hj : j < n) (hn : n < 2 ^ 31) (hdg : decode cc pc = .ok (.aaload, 1))
    (kk : W p l e R s m args below meth c H locs cells slots Q (F0 m (pc + 1) ls (.ref (F j) :: rest))) : W p l e R s m args below meth c H locs cells slots Q (F0 m pc ls (.int i :: .ref a :: rest)) := by
  subst hi
  refine va_aldq (n := n) (f := fun k => some (F k)) (cA := cA) (C := C) hexec hb hK (hP.one ha) 0 t0 (by rw [hf]; rfl) ht (vp_in_nI hj hn) hdg ?_
  rw [nI_clamp (by omega)]
  exact kk
theorem la_iast (hexec : p.tables.exec = Jvm.exec) (hb : c.code = cc) (hK : va_K D cl tys s) (hP : la_P D cl La mu H) (hS : va_S (la_A La) H0 H locs) (t0 : Nat) {cA : ClassId} {n : Nat} (ha : La a = some f) (hf : ∀ g, f g = .inl (cA, n, .inl g)) (ht : tys[t0]? = some (cA, .int)) {i x : Int32} (j : Nat) (hi : i = nI j) (hj : j < n) (hn : n < 2 ^ 31) (hdg : decode cc pc = .ok (.iastore, 1))
    (kk : ∀ (H1 : Heap) (locs1 : List Loc), la_P D cl La (la_up mu a j x) H1 → va_S (la_A La) H0 H1 locs1 → W p l e R s m args below meth c H1 locs1 cells slots Q (F0 m (pc + 1) ls rest)) : W p l e R s m args below meth c H locs cells slots Q (F0 m pc ls (.int x :: .int i :: .ref a :: rest)) := by
  subst hi
  have h0 := hP a f ha
  rw [hf] at h0
  have h1 : H[a]? = some (vp_cell cA (n, .inl (mu a))) := h0
  refine W.iast hexec hb h1 ((hK.2 t0 _ ht).1 n (fun j => .int (mu a j))) (fun q => by cases q) (by show ¬ (nI j < 0 ∨ (arrV _ _ _).slots.size ≤ _); rw [arrV_size]; exact vp_in_nI hj hn) rfl rfl hdg fun H1 e z oq => ?_
  rw [nI_clamp (by omega)] at e ⊢
  refine kk H1 _ (hP.set ha ?_ oq) (hS.put z oq ⟨f, ha⟩)
  rw [hf]
  show H1[a]? = some (vp_cell _ _)
  rw [e, vp_cell_i, vp_cell_i, arrV_store]
  congr 2
  funext q
  by_cases hq : q = j
  · subst hq
    simp [updV, upd]
  · simp [updV, upd, hq]
theorem la_cast (hexec : p.tables.exec = Jvm.exec) (hb : c.code = cc) (hK : va_K D cl tys s) (hP : la_P D cl La mu H) (hS : va_S (la_A La) H0 H locs) (t0 : Nat) {cA : ClassId} {n : Nat} (ha : La a = some f) (hf : ∀ g, f g = .inl (cA, n, .inl g)) (ht : tys[t0]? = some (cA, .char)) {i x : Int32} (hx : vp_nar .char x = x) (j : Nat) (hi : i = nI j) (hj : j < n) (hn : n < 2 ^ 31) (hdg : decode cc pc = .ok (.castore, 1))
    (kk : ∀ (H1 : Heap) (locs1 : List Loc), la_P D cl La (la_up mu a j x) H1 → va_S (la_A La) H0 H1 locs1 → W p l e R s m args below meth c H1 locs1 cells slots Q (F0 m (pc + 1) ls rest)) : W p l e R s m args below meth c H locs cells slots Q (F0 m pc ls (.int x :: .int i :: .ref a :: rest)) := by
  subst hi
  have h0 := hP a f ha
  rw [hf] at h0
  have h1 : H[a]? = some (vp_cell cA (n, .inl (mu a))) := h0
  refine W.cast hexec hb h1 ((hK.2 t0 _ ht).1 n (fun j => .int (mu a j))) (fun q => by cases q) (by show ¬ (nI j < 0 ∨ (arrV _ _ _).slots.size ≤ _); rw [arrV_size]; exact vp_in_nI hj hn) rfl rfl hdg fun H1 e z oq => ?_
  rw [nI_clamp (by omega)] at e ⊢
  refine kk H1 _ (hP.set ha ?_ oq) (hS.put z oq ⟨f, ha⟩)
  rw [hf]
  have hxn : narrow .char (.int x) = .int x := by
    have h2 : narrow .char (.int x) = .int (vp_nar .char x) := rfl
    rw [h2, hx]
  show H1[a]? = some (vp_cell _ _)
  rw [e, hxn, vp_cell_i, vp_cell_i, arrV_store]
  congr 2
  funext q
  by_cases hq : q = j
  · subst hq
    simp [updV, upd]
  · simp [updV, upd, hq]
end LAR
end
section
/-! PURE: changes as (kind, place, origin); what fitting does to lengths and to the places' being valid; the grid of one client -/
abbrev ot_T : Type := Nat × Nat × Nat
def ot_fk (k p k' p' : Nat) : Nat := if k = 1 ∧ k' = 1 ∧ p' = p then 2 else k
def ot_fp (k p o k' p' o' : Nat) : Nat :=
  if k = 0 then
    (if k' = 0 then (if p' < p ∨ (p' = p ∧ o' < o) then p + 1 else p)
     else if k' = 1 then (if p' < p then p - 1 else p) else p)
  else if k = 1 then
    (if k' = 0 then (if p' ≤ p then p + 1 else p)
     else if k' = 1 then (if p' = p then 0 else if p' < p then p - 1 else p) else p)
  else p
def ot_fit (a b : ot_T) : ot_T := (ot_fk a.1 a.2.1 b.1 b.2.1, ot_fp a.1 a.2.1 a.2.2 b.1 b.2.1 b.2.2, a.2.2)
def ot_dl (a : ot_T) : Int := if a.1 = 0 then 1 else if a.1 = 1 then -1 else 0
def ot_ok (n : Int) (a : ot_T) : Prop := (a.1 = 0 → (a.2.1 : Int) ≤ n) ∧ (a.1 = 1 → (a.2.1 : Int) < n)
def ot_up {α : Type} (f : Nat → α) (k : Nat) (v : α) : Nat → α := fun j => if j = k then v else f j
theorem ot_up_s {α : Type} {f : Nat → α} {k : Nat} {v : α} : ot_up f k v k = v := if_pos rfl
theorem ot_up_n {α : Type} {f : Nat → α} {k j : Nat} {v : α} (h : j ≠ k) : ot_up f k v j = f j := if_neg h
theorem ot_ok_fit {n : Int} {a b : ot_T} (ha : ot_ok n a) (hb : ot_ok n b) : ot_ok (n + ot_dl b) (ot_fit a b) := by
  obtain ⟨k, p, o⟩ := a
  obtain ⟨k', p', o'⟩ := b
  obtain ⟨ha0, ha1⟩ := ha
  obtain ⟨hb0, hb1⟩ := hb
  dsimp only at ha0 ha1 hb0 hb1
  by_cases h0 : k = 0
  · subst h0
    have ha := ha0 rfl
    refine ⟨fun _ => ?_, fun h => ?_⟩
    · by_cases h0' : k' = 0
      · subst h0'
        simp only [ot_fit, ot_fp, ot_dl, if_true]
        split <;> omega
      · by_cases h1' : k' = 1
        · subst h1'
          have hb := hb1 rfl
          simp only [ot_fit, ot_fp, ot_dl, if_true, if_neg h0']
          split <;> omega
        · simp only [ot_fit, ot_fp, ot_dl, if_true, if_neg h0', if_neg h1']
          omega
    · simp [ot_fit, ot_fk] at h
  · by_cases h1 : k = 1
    · subst h1
      have ha := ha1 rfl
      refine ⟨fun h => ?_, fun h => ?_⟩
      · simp only [ot_fit, ot_fk] at h
        split at h <;> omega
      · simp only [ot_fit, ot_fk] at h
        by_cases h0' : k' = 0
        · subst h0'
          simp only [ot_fit, ot_fp, ot_dl, if_true, if_neg h0]
          split <;> omega
        · by_cases h1' : k' = 1
          · subst h1'
            have hb := hb1 rfl
            have hne : ¬ p' = p := by
              intro e
              simp [e] at h
            simp only [ot_fit, ot_fp, ot_dl, if_true, if_neg h0, if_neg hne]
            split <;> omega
          · simp only [ot_fit, ot_fp, ot_dl, if_true, if_neg h0, if_neg h0', if_neg h1']
            omega
    · have e : ot_fk k p k' p' = k := if_neg (fun q => h1 q.1)
      refine ⟨fun h => absurd (e.symm.trans h) h0, fun h => absurd (e.symm.trans h) h1⟩
theorem ot_dl_fit (a b : ot_T) : ot_dl a + ot_dl (ot_fit b a) = ot_dl b + ot_dl (ot_fit a b) := by
  obtain ⟨k, p, o⟩ := a
  obtain ⟨k', p', o'⟩ := b
  by_cases hc : k = 1 ∧ k' = 1 ∧ p' = p
  · have hc' : k' = 1 ∧ k = 1 ∧ p = p' := ⟨hc.2.1, hc.1, hc.2.2.symm⟩
    simp only [ot_dl, ot_fit, ot_fk, if_pos hc, if_pos hc']
    obtain ⟨h1, h2, -⟩ := hc
    subst h1; subst h2
    rfl
  · have hc' : ¬ (k' = 1 ∧ k = 1 ∧ p = p') := fun q => hc ⟨q.2.1, q.1, q.2.2.symm⟩
    simp only [ot_dl, ot_fit, ot_fk, if_neg hc, if_neg hc']
    omega
theorem ot_kind_fit (a b : ot_T) : (ot_fit a b).1 = 0 ↔ a.1 = 0 := by
  simp only [ot_fit, ot_fk]
  split
  · rename_i h
    omega
  · exact Iff.rfl
theorem ot_dl_le (a : ot_T) : ot_dl a ≤ 1 := by
  unfold ot_dl
  split
  · omega
  · split <;> omega
theorem ot_dl_np {a : ot_T} (h : a.1 ≠ 0) : ot_dl a ≤ 0 := by
  unfold ot_dl
  rw [if_neg h]
  split <;> omega
/-! the grid -/
def ot_cons (h g : Nat → Nat) (i j : Nat) : Prop := (∀ q, q < i → h q ≤ j) ∧ (∀ q, q < j → g q ≤ i)
def ot_grid (a y : Nat) (u : Nat → ot_T) (h : Nat → Nat) (d : Nat → ot_T) (g : Nat → Nat) (C S : Nat → Nat → ot_T) (ln : Nat → Nat → Int) : Prop :=
  (∀ i, i < a → C i (h i) = u i) ∧ (∀ j, j < y → S (g j) j = d j) ∧
  (∀ i j, i < a → j < y → h i ≤ j → g j ≤ i → C i (j + 1) = ot_fit (C i j) (S i j) ∧ S (i + 1) j = ot_fit (S i j) (C i j)) ∧
  (∀ i j, i < a → j ≤ y → h i ≤ j → ot_cons h g i j → ot_ok (ln i j) (C i j) ∧ ln (i + 1) j = ln i j + ot_dl (C i j)) ∧
  (∀ i j, i ≤ a → j < y → g j ≤ i → ot_cons h g i j → ot_ok (ln i j) (S i j) ∧ ln i (j + 1) = ln i j + ot_dl (S i j))
theorem ot_grid.swap {a y : Nat} {u : Nat → ot_T} {h : Nat → Nat} {d : Nat → ot_T} {g : Nat → Nat} {C S : Nat → Nat → ot_T} {ln : Nat → Nat → Int} (G : ot_grid a y u h d g C S ln) :
    ot_grid y a d g u h (fun j i => S i j) (fun j i => C i j) (fun j i => ln i j) := by
  obtain ⟨E1, E2, E3, E4, E5⟩ := G
  exact ⟨E2, E1, fun j i hj hi hg hh => ⟨(E3 i j hi hj hh hg).2, (E3 i j hi hj hh hg).1⟩, fun j i hj hi hg hc => E5 i j hi hj hg ⟨hc.2, hc.1⟩, fun j i hj hi hh hc => E4 i j hi hj hh ⟨hc.2, hc.1⟩⟩
def ot_cf (S : Nat → ot_T) (v : ot_T) (b : Nat) : Nat → ot_T
  | 0 => v
  | t + 1 => ot_fit (ot_cf S v b t) (S (b + t))
theorem ot_grid.more {a y : Nat} {u : Nat → ot_T} {h : Nat → Nat} {d : Nat → ot_T} {g : Nat → Nat} {C S : Nat → Nat → ot_T} {ln : Nat → Nat → Int} (G : ot_grid a y u h d g C S ln)
    {b : Nat} {v : ot_T} (hb : b ≤ y) (hh : ∀ i, i < a → h i ≤ b) (hg : ∀ j, j < y → g j ≤ a) (hv : ot_ok (ln a b) v) :
    ∃ (C' S' : Nat → Nat → ot_T) (ln' : Nat → Nat → Int), ot_grid (a + 1) y (ot_up u a v) (ot_up h a b) d g C' S' ln' ∧ (∀ i j, i < a → C' i j = C i j) ∧ (∀ i j, i ≤ a → S' i j = S i j) ∧ (∀ i j, i ≤ a → ln' i j = ln i j) ∧ C' a b = v ∧ ln' (a + 1) b = ln a b + ot_dl v := by
  obtain ⟨E1, E2, E3, E4, E5⟩ := G
  have hc0 : ∀ j, b ≤ j → j ≤ y → ot_cons h g a j := fun j h1 h2 => ⟨fun q hq => Nat.le_trans (hh q hq) h1, fun q hq => hg q (Nat.lt_of_lt_of_le hq h2)⟩
  have hok : ∀ t, b + t ≤ y → ot_ok (ln a (b + t)) (ot_cf (S a) v b t) := by
    intro t
    induction t with
    | zero => intro _; exact hv
    | succ t ih =>
      intro ht
      have h1 := ih (by omega)
      obtain ⟨h2, h3⟩ := E5 a (b + t) (Nat.le_refl _) (by omega) (hg _ (by omega)) (hc0 _ (by omega) (by omega))
      have h4 := ot_ok_fit h1 h2
      rw [← h3] at h4
      exact h4
  have hokj : ∀ j, b ≤ j → j ≤ y → ot_ok (ln a j) (ot_cf (S a) v b (j - b)) := by
    intro j h1 h2
    have h3 := hok (j - b) (by omega)
    rw [show b + (j - b) = j by omega] at h3
    exact h3
  have hst : ∀ j, b ≤ j → ot_cf (S a) v b (j + 1 - b) = ot_fit (ot_cf (S a) v b (j - b)) (S a j) := by
    intro j h1
    rw [show j + 1 - b = (j - b) + 1 by omega]
    show ot_fit _ (S a (b + (j - b))) = _
    rw [show b + (j - b) = j by omega]
  have na : ∀ i, i < a → ¬ i = a := fun i hi => Nat.ne_of_lt hi
  have na1 : ∀ i, i ≤ a → ¬ i = a + 1 := fun i hi => by omega
  have hcc : ∀ i j, i ≤ a → ot_cons (ot_up h a b) g i j → ot_cons h g i j := fun i j hi hc => ⟨fun q hq => by
    have h1 := hc.1 q hq
    rw [ot_up_n (by omega)] at h1
    exact h1, hc.2⟩
  refine ⟨fun i j => if i = a then ot_cf (S a) v b (j - b) else C i j, fun i j => if i = a + 1 then ot_fit (S a j) (ot_cf (S a) v b (j - b)) else S i j, fun i j => if i = a + 1 then ln a j + ot_dl (ot_cf (S a) v b (j - b)) else ln i j, ⟨?_, ?_, ?_, ?_, ?_⟩, ?_, ?_, ?_, ?_, ?_⟩
  · intro i hi
    dsimp only
    by_cases hia : i = a
    · subst hia
      rw [if_pos rfl, ot_up_s, ot_up_s, Nat.sub_self]
      rfl
    · rw [if_neg hia, ot_up_n hia, ot_up_n hia]
      exact E1 i (by omega)
  · intro j hj
    dsimp only
    rw [if_neg (na1 _ (hg j hj))]
    exact E2 j hj
  · intro i j hi hj h1 h2
    dsimp only
    by_cases hia : i = a
    · subst hia
      rw [ot_up_s] at h1
      rw [if_pos rfl, if_pos rfl, if_neg (by omega), if_pos rfl]
      exact ⟨hst j h1, rfl⟩
    · rw [ot_up_n hia] at h1
      rw [if_neg hia, if_neg hia, if_neg (by omega), if_neg (by omega)]
      exact E3 i j (by omega) hj h1 h2
  · intro i j hi hj h1 hc
    dsimp only
    by_cases hia : i = a
    · subst hia
      rw [ot_up_s] at h1
      rw [if_pos rfl, if_neg (by omega), if_pos rfl]
      exact ⟨hokj j h1 hj, rfl⟩
    · rw [ot_up_n hia] at h1
      rw [if_neg hia, if_neg (by omega), if_neg (by omega)]
      exact E4 i j (by omega) hj h1 (hcc i j (by omega) hc)
  · intro i j hi hj h1 hc
    dsimp only
    by_cases hia : i = a + 1
    · subst hia
      have hbj : b ≤ j := by
        have h3 := hc.1 a (by omega)
        rw [ot_up_s] at h3
        exact h3
      obtain ⟨h4, h5⟩ := E5 a j (Nat.le_refl _) hj (hg j hj) (hc0 j hbj (by omega))
      rw [if_pos rfl, if_pos rfl, if_pos rfl]
      refine ⟨ot_ok_fit h4 (hokj j hbj (by omega)), ?_⟩
      rw [hst j hbj, h5]
      have h6 := ot_dl_fit (ot_cf (S a) v b (j - b)) (S a j)
      omega
    · rw [if_neg hia, if_neg hia, if_neg hia]
      exact E5 i j (by omega) hj h1 (hcc i j (by omega) hc)
  · intro i j hi
    exact if_neg (na i hi)
  · intro i j hi
    exact if_neg (na1 i hi)
  · intro i j hi
    exact if_neg (na1 i hi)
  · dsimp only
    rw [if_pos rfl, Nat.sub_self]
    rfl
  · dsimp only
    rw [if_pos rfl, Nat.sub_self]
    rfl
theorem ot_grid.moreD {a y : Nat} {u : Nat → ot_T} {h : Nat → Nat} {d : Nat → ot_T} {g : Nat → Nat} {C S : Nat → Nat → ot_T} {ln : Nat → Nat → Int} (G : ot_grid a y u h d g C S ln)
    {x : Nat} {v : ot_T} (hx : x ≤ a) (hg : ∀ j, j < y → g j ≤ x) (hh : ∀ i, i < a → h i ≤ y) (hv : ot_ok (ln x y) v) :
    ∃ (C' S' : Nat → Nat → ot_T) (ln' : Nat → Nat → Int), ot_grid a (y + 1) u h (ot_up d y v) (ot_up g y x) C' S' ln' ∧ (∀ i j, j < y → S' i j = S i j) ∧ (∀ i j, j ≤ y → C' i j = C i j) ∧ (∀ i j, j ≤ y → ln' i j = ln i j) ∧ S' x y = v ∧ ln' x (y + 1) = ln x y + ot_dl v := by
  obtain ⟨C1, S1, l1, G1, e1, e2, e3, e4, e5⟩ := G.swap.more (b := x) (v := v) hx hg hh hv
  exact ⟨fun i j => S1 j i, fun i j => C1 j i, fun i j => l1 j i, G1.swap, fun i j hj => e1 j i hj, fun i j hj => e2 j i hj, fun i j hj => e3 j i hj, e4, e5⟩
theorem ot_grid.kind {a y : Nat} {u : Nat → ot_T} {h : Nat → Nat} {d : Nat → ot_T} {g : Nat → Nat} {C S : Nat → Nat → ot_T} {ln : Nat → Nat → Int} (G : ot_grid a y u h d g C S ln)
    {i : Nat} (hi : i < a) : ∀ t, (∀ j, h i ≤ j → j < h i + t → j < y ∧ g j ≤ i) → ((C i (h i + t)).1 = 0 ↔ (u i).1 = 0) := by
  intro t
  induction t with
  | zero =>
    intro _
    rw [Nat.add_zero, G.1 i hi]
  | succ t ih =>
    intro hj
    obtain ⟨h1, h2⟩ := hj (h i + t) (by omega) (by omega)
    rw [← Nat.add_assoc, (G.2.2.1 i (h i + t) hi h1 (by omega) h2).1, ot_kind_fit]
    exact ih (fun j h3 h4 => hj j h3 (by omega))
theorem ot_grid.growS {a y : Nat} {u : Nat → ot_T} {h : Nat → Nat} {d : Nat → ot_T} {g : Nat → Nat} {C S : Nat → Nat → ot_T} {ln : Nat → Nat → Int} (G : ot_grid a y u h d g C S ln)
    {i j : Nat} (hi : i ≤ a) (h0 : ∀ q, q < i → h q ≤ j) : ∀ t, (∀ q, q < j + t → g q ≤ i) → j + t ≤ y → ln i (j + t) ≤ ln i j + t := by
  intro t
  induction t with
  | zero =>
    intro _ _
    simp
  | succ t ih =>
    intro hg hy
    have h1 := ih (fun q hq => hg q (by omega)) (by omega)
    have h2 := (G.2.2.2.2 i (j + t) hi (by omega) (hg _ (by omega)) ⟨fun q hq => Nat.le_trans (h0 q hq) (by omega), fun q hq => hg q (by omega)⟩).2
    have h3 := ot_dl_le (S i (j + t))
    rw [← Nat.add_assoc, h2]
    omega
end
section
/-! PURE: what holds between the server and ONE client. a: sent up, x: got up, y: sent down, b: got down, kU, kD: known up, down; mu, hu / md, hd: the messages by number; ou, od: the open changes by number; nC, nS: the letters of the client's and of the server's text -/
def ot_cli (a x y b kU kD : Nat) (mu : Nat → ot_T) (hu : Nat → Nat) (md : Nat → ot_T) (hd : Nat → Nat) (ou od : Nat → ot_T) (nC nS : Int) : Prop :=
  ∃ (u : Nat → ot_T) (h : Nat → Nat) (d : Nat → ot_T) (g : Nat → Nat) (C S : Nat → Nat → ot_T) (ln : Nat → Nat → Int), ot_grid a y u h d g C S ln ∧
    (x ≤ a ∧ b ≤ y ∧ kU ≤ x ∧ kD ≤ b ∧ y ≤ kD + 24 ∧ a ≤ kU + 16) ∧
    (∀ i, x ≤ i → i < a → mu i = u i ∧ hu i = h i) ∧ (∀ j, b ≤ j → j < y → md j = d j ∧ hd j = g j) ∧
    (∀ i, kU ≤ i → i < a → ou i = C i b) ∧ (∀ j, kD ≤ j → j < y → od j = S x j) ∧
    (ln a b = nC ∧ ln x y = nS ∧ nC ≤ 64 ∧ nS ≤ 64) ∧
    (∀ i, i < a → h i ≤ b) ∧ (∀ j, j < y → g j ≤ x) ∧
    (∀ i, x ≤ i → i < a → kD ≤ h i) ∧ (∀ j, b ≤ j → j < y → kU ≤ g j) ∧
    (∀ i i', i ≤ i' → i' < a → h i ≤ h i') ∧ (∀ j j', j ≤ j' → j' < y → g j ≤ g j') ∧
    (∀ i, i < a → (u i).1 = 0 → ln (i + 1) (h i) ≤ 40) ∧
    (∀ j, b ≤ j → j < y → ln (g j) (j + 1) ≤ 64 ∧ ∀ i, g j ≤ i → i < a → j + 1 ≤ 24 + h i)
theorem ot_cli_0 {mu md ou od : Nat → ot_T} {hu hd : Nat → Nat} : ot_cli 0 0 0 0 0 0 mu hu md hd ou od 0 0 := by
  refine ⟨mu, hu, md, hd, fun i _ => mu i, fun _ j => md j, fun _ _ => 0, ⟨?_, ?_, ?_, ?_, ?_⟩, ⟨by omega, by omega, by omega, by omega, by omega, by omega⟩, ?_, ?_, ?_, ?_, ⟨rfl, rfl, by omega, by omega⟩, ?_, ?_, ?_, ?_, ?_, ?_, ?_, ?_⟩
  all_goals (intros; omega)
/-- a client makes a change -/
theorem ot_cli.make {a x y b kU kD : Nat} {mu md ou od : Nat → ot_T} {hu hd : Nat → Nat} {nC nS : Int} (I : ot_cli a x y b kU kD mu hu md hd ou od nC nS) {v : ot_T}
    (hv : ot_ok nC v) (h16 : a < kU + 16) (h40 : v.1 = 0 → nC < 40) :
    ot_cli (a + 1) x y b kU kD (ot_up mu a v) (ot_up hu a b) md hd (ot_up ou a v) od (nC + ot_dl v) nS := by
  obtain ⟨u, h, d, g, C, S, ln, G, ⟨p1, p2, p3, p4, p5, p6⟩, q1, q2, q3, q4, ⟨r1, r2, r3, r4⟩, s1, s2, s3, s4, s5, s6, s7, s8⟩ := I
  obtain ⟨C', S', ln', G', e1, e2, e3, e4, e5⟩ := G.more (b := b) (v := v) p2 s1 (fun j hj => Nat.le_trans (s2 j hj) p1) (by rw [r1]; exact hv)
  have h64 : nC + ot_dl v ≤ 64 := by
    by_cases h0 : v.1 = 0
    · have := h40 h0
      have := ot_dl_le v
      omega
    · have := ot_dl_np h0
      omega
  refine ⟨ot_up u a v, ot_up h a b, d, g, C', S', ln', G', ⟨by omega, p2, p3, p4, p5, by omega⟩, ?_, q2, ?_, ?_, ⟨by rw [e5, r1], by rw [e3 _ _ p1, r2], h64, r4⟩, ?_, s2, ?_, s4, ?_, s6, ?_, ?_⟩
  · intro i h1 h2
    by_cases hi : i = a
    · subst hi
      exact ⟨by rw [ot_up_s, ot_up_s], by rw [ot_up_s, ot_up_s]⟩
    · rw [ot_up_n hi, ot_up_n hi, ot_up_n hi, ot_up_n hi]
      exact q1 i h1 (by omega)
  · intro i h1 h2
    by_cases hi : i = a
    · subst hi
      rw [ot_up_s, e4]
    · rw [ot_up_n hi, e1 i b (by omega)]
      exact q3 i h1 (by omega)
  · intro j h1 h2
    rw [e2 x j p1]
    exact q4 j h1 h2
  · intro i h1
    by_cases hi : i = a
    · subst hi
      rw [ot_up_s]
      exact Nat.le_refl _
    · rw [ot_up_n hi]
      exact s1 i (by omega)
  · intro i h1 h2
    by_cases hi : i = a
    · subst hi
      rw [ot_up_s]
      exact p4
    · rw [ot_up_n hi]
      exact s3 i h1 (by omega)
  · intro i i' h1 h2
    by_cases hi : i' = a
    · subst hi
      rw [ot_up_s]
      by_cases hj : i = i'
      · subst hj
        rw [ot_up_s]
        exact Nat.le_refl _
      · rw [ot_up_n hj]
        exact s1 i (by omega)
    · rw [ot_up_n hi, ot_up_n (by omega)]
      exact s5 i i' h1 (by omega)
  · intro i h1 h2
    by_cases hi : i = a
    · subst hi
      rw [ot_up_s] at h2
      rw [ot_up_s, e5, r1]
      have := h40 h2
      have := ot_dl_le v
      omega
    · rw [ot_up_n hi] at h2
      rw [ot_up_n hi, e3 _ _ (by omega)]
      exact s7 i (by omega) h2
  · intro j h1 h2
    obtain ⟨h3, h4⟩ := s8 j h1 h2
    refine ⟨by rw [e3 _ _ (Nat.le_trans (s2 j h2) p1)]; exact h3, fun i h5 h6 => ?_⟩
    by_cases hi : i = a
    · subst hi
      rw [ot_up_s]
      omega
    · rw [ot_up_n hi]
      exact h4 i h5 (by omega)
/-- the server sends a change that it has just done: v, on its text of nS letters -/
theorem ot_cli.sent {a x y b kU kD : Nat} {mu md ou od : Nat → ot_T} {hu hd : Nat → Nat} {nC nS : Int} (I : ot_cli a x y b kU kD mu hu md hd ou od nC nS) {v : ot_T}
    (hv : ot_ok nS v) (h24 : y < kD + 24) (h64 : nS + ot_dl v ≤ 64) :
    ot_cli a x (y + 1) b kU kD mu hu (ot_up md y v) (ot_up hd y x) ou (ot_up od y v) nC (nS + ot_dl v) := by
  obtain ⟨u, h, d, g, C, S, ln, G, ⟨p1, p2, p3, p4, p5, p6⟩, q1, q2, q3, q4, ⟨r1, r2, r3, r4⟩, s1, s2, s3, s4, s5, s6, s7, s8⟩ := I
  obtain ⟨C', S', ln', G', e1, e2, e3, e4, e5⟩ := G.moreD (x := x) (v := v) p1 s2 (fun i hi => Nat.le_trans (s1 i hi) p2) (by rw [r2]; exact hv)
  refine ⟨u, h, ot_up d y v, ot_up g y x, C', S', ln', G', ⟨p1, by omega, p3, p4, by omega, p6⟩, q1, ?_, ?_, ?_, ⟨by rw [e3 _ _ p2, r1], by rw [e5, r2], r3, h64⟩, s1, ?_, s3, ?_, s5, ?_, ?_, ?_⟩
  · intro j h1 h2
    by_cases hj : j = y
    · subst hj
      exact ⟨by rw [ot_up_s, ot_up_s], by rw [ot_up_s, ot_up_s]⟩
    · rw [ot_up_n hj, ot_up_n hj, ot_up_n hj, ot_up_n hj]
      exact q2 j h1 (by omega)
  · intro i h1 h2
    rw [e2 i b p2]
    exact q3 i h1 h2
  · intro j h1 h2
    by_cases hj : j = y
    · subst hj
      rw [ot_up_s, e4]
    · rw [ot_up_n hj, e1 x j (by omega)]
      exact q4 j h1 (by omega)
  · intro j h1
    by_cases hj : j = y
    · subst hj
      rw [ot_up_s]
      exact Nat.le_refl _
    · rw [ot_up_n hj]
      exact s2 j (by omega)
  · intro j h1 h2
    by_cases hj : j = y
    · subst hj
      rw [ot_up_s]
      exact p3
    · rw [ot_up_n hj]
      exact s4 j h1 (by omega)
  · intro j j' h1 h2
    by_cases hj : j' = y
    · subst hj
      rw [ot_up_s]
      by_cases hi : j = j'
      · subst hi
        rw [ot_up_s]
        exact Nat.le_refl _
      · rw [ot_up_n hi]
        exact s2 j (by omega)
    · rw [ot_up_n hj, ot_up_n (by omega)]
      exact s6 j j' h1 (by omega)
  · intro i h1 h2
    rw [e3 _ _ (Nat.le_trans (s1 i h1) p2)]
    exact s7 i h1 h2
  · intro j h1 h2
    by_cases hj : j = y
    · subst hj
      rw [ot_up_s, e5, r2]
      refine ⟨h64, fun i h5 h6 => ?_⟩
      have := s3 i h5 h6
      omega
    · obtain ⟨h3, h4⟩ := s8 j h1 (by omega)
      rw [ot_up_n hj, e3 _ _ (by omega)]
      exact ⟨h3, h4⟩
/-- a message m fitted through n open changes from number k on -/
def ot_rm (m : ot_T) (o : Nat → ot_T) (k : Nat) : Nat → ot_T
  | 0 => m
  | t + 1 => ot_fit (ot_rm m o k t) (o (k + t))
/-- the open changes behind it -/
def ot_ro (m : ot_T) (o : Nat → ot_T) (k n : Nat) : Nat → ot_T := fun j => if k ≤ j ∧ j < n then ot_fit (o j) (ot_rm m o k (j - k)) else o j
/-- the server gets the client's oldest message -/
theorem ot_cli.serverGets {a x y b kU kD : Nat} {mu md ou od : Nat → ot_T} {hu hd : Nat → Nat} {nC nS : Int} (I : ot_cli a x y b kU kD mu hu md hd ou od nC nS) (hx : x < a) :
    ot_ok nS (ot_rm (mu x) od (max kD (hu x)) (y - max kD (hu x))) ∧ nS + ot_dl (ot_rm (mu x) od (max kD (hu x)) (y - max kD (hu x))) ≤ 64 ∧ max kD (hu x) ≤ y ∧ kD ≤ hu x ∧
      ot_cli a (x + 1) y b kU (max kD (hu x)) mu hu md hd ou (ot_ro (mu x) od (max kD (hu x)) y) nC (nS + ot_dl (ot_rm (mu x) od (max kD (hu x)) (y - max kD (hu x)))) := by
  obtain ⟨u, h, d, g, C, S, ln, G, ⟨p1, p2, p3, p4, p5, p6⟩, q1, q2, q3, q4, ⟨r1, r2, r3, r4⟩, s1, s2, s3, s4, s5, s6, s7, s8⟩ := I
  obtain ⟨m1, m2⟩ := q1 x (Nat.le_refl _) hx
  have k1 : kD ≤ h x := s3 x (Nat.le_refl _) hx
  have hk : max kD (hu x) = h x := by rw [m2]; omega
  have hb := s1 x hx
  rw [hk]
  have hrm : ∀ t, h x + t ≤ y → ot_rm (mu x) od (h x) t = C x (h x + t) := by
    intro t
    induction t with
    | zero =>
      intro _
      show mu x = _
      rw [m1, Nat.add_zero, G.1 x hx]
    | succ t ih =>
      intro ht
      show ot_fit (ot_rm (mu x) od (h x) t) (od (h x + t)) = _
      rw [ih (by omega), q4 _ (by omega) (by omega), ← Nat.add_assoc, (G.2.2.1 x (h x + t) hx (by omega) (by omega) (s2 _ (by omega))).1]
  have hm : ot_rm (mu x) od (h x) (y - h x) = C x y := by
    rw [hrm (y - h x) (by omega), show h x + (y - h x) = y by omega]
  rw [hm]
  have hcons : ot_cons h g x y := ⟨fun q hq => Nat.le_trans (s1 q (by omega)) p2, fun q hq => s2 q hq⟩
  obtain ⟨g1, g2⟩ := G.2.2.2.1 x y hx (Nat.le_refl _) (by omega) hcons
  rw [r2] at g1 g2
  have h64 : nS + ot_dl (C x y) ≤ 64 := by
    by_cases h0 : (C x y).1 = 0
    · have h1 := G.kind hx (y - h x) (fun j h1 h2 => ⟨by omega, s2 j (by omega)⟩)
      rw [show h x + (y - h x) = y by omega] at h1
      have h2 := s7 x hx (h1.mp h0)
      have h3 := G.growS (i := x + 1) (j := h x) (by omega) (fun q hq => s5 q x (by omega) hx) (y - h x) (fun q hq => Nat.le_trans (s2 q (by omega)) (by omega)) (by omega)
      rw [show h x + (y - h x) = y by omega] at h3
      omega
    · have := ot_dl_np h0
      omega
  refine ⟨g1, h64, by omega, by omega, ?_⟩
  refine ⟨u, h, d, g, C, S, ln, G, ⟨hx, p2, by omega, hb, by omega, p6⟩, fun i h1 h2 => q1 i (by omega) h2, q2, q3, ?_, ⟨r1, g2, r3, h64⟩, s1, fun j hj => Nat.le_trans (s2 j hj) (by omega), fun i h1 h2 => s5 x i (by omega) h2, s4, s5, s6, s7, s8⟩
  intro j h1 h2
  unfold ot_ro
  rw [if_pos ⟨h1, h2⟩, hrm (j - h x) (by omega), show h x + (j - h x) = j by omega, q4 j (by omega) h2, (G.2.2.1 x j hx h2 h1 (s2 j h2)).2]
/-- the client gets the server's oldest message -/
theorem ot_cli.clientGets {a x y b kU kD : Nat} {mu md ou od : Nat → ot_T} {hu hd : Nat → Nat} {nC nS : Int} (I : ot_cli a x y b kU kD mu hu md hd ou od nC nS) (hb : b < y) :
    ot_ok nC (ot_rm (md b) ou (max kU (hd b)) (a - max kU (hd b))) ∧ nC + ot_dl (ot_rm (md b) ou (max kU (hd b)) (a - max kU (hd b))) ≤ 64 ∧ max kU (hd b) ≤ a ∧ kU ≤ hd b ∧
      ot_cli a x y (b + 1) (max kU (hd b)) kD mu hu md hd (ot_ro (md b) ou (max kU (hd b)) a) od (nC + ot_dl (ot_rm (md b) ou (max kU (hd b)) (a - max kU (hd b)))) nS := by
  obtain ⟨u, h, d, g, C, S, ln, G, ⟨p1, p2, p3, p4, p5, p6⟩, q1, q2, q3, q4, ⟨r1, r2, r3, r4⟩, s1, s2, s3, s4, s5, s6, s7, s8⟩ := I
  obtain ⟨m1, m2⟩ := q2 b (Nat.le_refl _) hb
  have k1 : kU ≤ g b := s4 b (Nat.le_refl _) hb
  have hk : max kU (hd b) = g b := by rw [m2]; omega
  have hx := s2 b hb
  rw [hk]
  have hrm : ∀ t, g b + t ≤ a → ot_rm (md b) ou (g b) t = S (g b + t) b := by
    intro t
    induction t with
    | zero =>
      intro _
      show md b = _
      rw [m1, Nat.add_zero, G.2.1 b hb]
    | succ t ih =>
      intro ht
      show ot_fit (ot_rm (md b) ou (g b) t) (ou (g b + t)) = _
      rw [ih (by omega), q3 _ (by omega) (by omega), ← Nat.add_assoc, (G.2.2.1 (g b + t) b (by omega) hb (s1 _ (by omega)) (by omega)).2]
  have hm : ot_rm (md b) ou (g b) (a - g b) = S a b := by
    rw [hrm (a - g b) (by omega), show g b + (a - g b) = a by omega]
  rw [hm]
  have hcons : ot_cons h g a b := ⟨fun q hq => s1 q hq, fun q hq => Nat.le_trans (s2 q (by omega)) p1⟩
  obtain ⟨g1, g2⟩ := G.2.2.2.2 a b (Nat.le_refl _) hb (by omega) hcons
  rw [r1] at g1 g2
  obtain ⟨t1, t2⟩ := s8 b (Nat.le_refl _) hb
  have hall : ∀ t, g b + t ≤ a → ln (g b + t) (b + 1) ≤ 64 := by
    intro t
    induction t with
    | zero => intro _; exact t1
    | succ t ih =>
      intro ht
      have h1 := ih (by omega)
      have h2 := (G.2.2.2.1 (g b + t) (b + 1) (by omega) (by omega) (Nat.le_trans (s1 _ (by omega)) (by omega)) ⟨fun q hq => Nat.le_trans (s1 q (by omega)) (by omega), fun q hq => Nat.le_trans (s6 q b (by omega) hb) (by omega)⟩).2
      rw [← Nat.add_assoc]
      by_cases h0 : (C (g b + t) (b + 1)).1 = 0
      · have hhb := s1 (g b + t) (by omega)
        have h3 := G.kind (i := g b + t) (by omega) (b + 1 - h (g b + t)) (fun j h3 h4 => ⟨by omega, Nat.le_trans (s6 j b (by omega) hb) (by omega)⟩)
        rw [show h (g b + t) + (b + 1 - h (g b + t)) = b + 1 by omega] at h3
        have h4 := s7 (g b + t) (by omega) (h3.mp h0)
        have h5 := G.growS (i := g b + t + 1) (j := h (g b + t)) (by omega) (fun q hq => s5 q (g b + t) (by omega) (by omega)) (b + 1 - h (g b + t)) (fun q hq => Nat.le_trans (s6 q b (by omega) hb) (by omega)) (by omega)
        rw [show h (g b + t) + (b + 1 - h (g b + t)) = b + 1 by omega] at h5
        have h6 := t2 (g b + t) (by omega) (by omega)
        omega
      · have := ot_dl_np h0
        omega
  have h64 : nC + ot_dl (S a b) ≤ 64 := by
    have h1 := hall (a - g b) (by omega)
    rw [show g b + (a - g b) = a by omega, g2] at h1
    exact h1
  refine ⟨g1, h64, by omega, by omega, ?_⟩
  refine ⟨u, h, d, g, C, S, ln, G, ⟨p1, hb, hx, by omega, p5, by omega⟩, q1, fun j h1 h2 => q2 j (by omega) h2, ?_, q4, ⟨g2, r2, h64, r4⟩, fun i hi => Nat.le_trans (s1 i hi) (by omega), s2, s3, fun j h1 h2 => s6 b j (by omega) h2, s5, s6, s7, fun j h1 h2 => s8 j (by omega) h2⟩
  intro i h1 h2
  unfold ot_ro
  rw [if_pos ⟨h1, h2⟩, hrm (i - g b) (by omega), show g b + (i - g b) = i by omega, q3 i (by omega) h2, (G.2.2.1 i b h2 hb (s1 i h2) h1).1]
end
