/-! each instruction, decoded (written by wip/whole/names.py) -/
theorem d_Ch_copyFrom_0 : decode b_Ch_copyFrom 0 = .ok (.aload_n 0, 1) := by decide +kernel
theorem d_Ch_copyFrom_1 : decode b_Ch_copyFrom 1 = .ok (.aload_n 1, 1) := by decide +kernel
theorem d_Ch_copyFrom_2 : decode b_Ch_copyFrom 2 = .ok (.getfield 9, 3) := by decide +kernel
theorem d_Ch_copyFrom_5 : decode b_Ch_copyFrom 5 = .ok (.putfield 9, 3) := by decide +kernel
theorem d_Ch_copyFrom_8 : decode b_Ch_copyFrom 8 = .ok (.aload_n 0, 1) := by decide +kernel
theorem d_Ch_copyFrom_9 : decode b_Ch_copyFrom 9 = .ok (.aload_n 1, 1) := by decide +kernel
theorem d_Ch_copyFrom_10 : decode b_Ch_copyFrom 10 = .ok (.getfield 15, 3) := by decide +kernel
theorem d_Ch_copyFrom_13 : decode b_Ch_copyFrom 13 = .ok (.putfield 15, 3) := by decide +kernel
theorem d_Ch_copyFrom_16 : decode b_Ch_copyFrom 16 = .ok (.aload_n 0, 1) := by decide +kernel
theorem d_Ch_copyFrom_17 : decode b_Ch_copyFrom 17 = .ok (.aload_n 1, 1) := by decide +kernel
theorem d_Ch_copyFrom_18 : decode b_Ch_copyFrom 18 = .ok (.getfield 18, 3) := by decide +kernel
theorem d_Ch_copyFrom_21 : decode b_Ch_copyFrom 21 = .ok (.putfield 18, 3) := by decide +kernel
theorem d_Ch_copyFrom_24 : decode b_Ch_copyFrom 24 = .ok (.aload_n 0, 1) := by decide +kernel
theorem d_Ch_copyFrom_25 : decode b_Ch_copyFrom 25 = .ok (.aload_n 1, 1) := by decide +kernel
theorem d_Ch_copyFrom_26 : decode b_Ch_copyFrom 26 = .ok (.getfield 22, 3) := by decide +kernel
theorem d_Ch_copyFrom_29 : decode b_Ch_copyFrom 29 = .ok (.putfield 22, 3) := by decide +kernel
theorem d_Ch_copyFrom_32 : decode b_Ch_copyFrom 32 = .ok (.return_, 1) := by decide +kernel
theorem d_Ch_fitTo_0 : decode b_Ch_fitTo 0 = .ok (.aload_n 0, 1) := by decide +kernel
theorem d_Ch_fitTo_1 : decode b_Ch_fitTo 1 = .ok (.getfield 9, 3) := by decide +kernel
theorem d_Ch_fitTo_4 : decode b_Ch_fitTo 4 = .ok (.iconst 2, 1) := by decide +kernel
theorem d_Ch_fitTo_5 : decode b_Ch_fitTo 5 = .ok (.if_icmp .ne 4, 3) := by decide +kernel
theorem d_Ch_fitTo_8 : decode b_Ch_fitTo 8 = .ok (.return_, 1) := by decide +kernel
theorem d_Ch_fitTo_9 : decode b_Ch_fitTo 9 = .ok (.iload_n 1, 1) := by decide +kernel
theorem d_Ch_fitTo_10 : decode b_Ch_fitTo 10 = .ok (.ifCond .ne 12, 3) := by decide +kernel
theorem d_Ch_fitTo_13 : decode b_Ch_fitTo 13 = .ok (.aload_n 0, 1) := by decide +kernel
theorem d_Ch_fitTo_14 : decode b_Ch_fitTo 14 = .ok (.iload_n 2, 1) := by decide +kernel
theorem d_Ch_fitTo_15 : decode b_Ch_fitTo 15 = .ok (.iload_n 3, 1) := by decide +kernel
theorem d_Ch_fitTo_16 : decode b_Ch_fitTo 16 = .ok (.invokevirtual 29, 3) := by decide +kernel
theorem d_Ch_fitTo_19 : decode b_Ch_fitTo 19 = .ok (.goto 13, 3) := by decide +kernel
theorem d_Ch_fitTo_22 : decode b_Ch_fitTo 22 = .ok (.iload_n 1, 1) := by decide +kernel
theorem d_Ch_fitTo_23 : decode b_Ch_fitTo 23 = .ok (.iconst 1, 1) := by decide +kernel
theorem d_Ch_fitTo_24 : decode b_Ch_fitTo 24 = .ok (.if_icmp .ne 8, 3) := by decide +kernel
theorem d_Ch_fitTo_27 : decode b_Ch_fitTo 27 = .ok (.aload_n 0, 1) := by decide +kernel
theorem d_Ch_fitTo_28 : decode b_Ch_fitTo 28 = .ok (.iload_n 2, 1) := by decide +kernel
theorem d_Ch_fitTo_29 : decode b_Ch_fitTo 29 = .ok (.invokevirtual 33, 3) := by decide +kernel
theorem d_Ch_fitTo_32 : decode b_Ch_fitTo 32 = .ok (.return_, 1) := by decide +kernel
theorem d_Ch_fitToDelete_0 : decode b_Ch_fitToDelete 0 = .ok (.iload_n 1, 1) := by decide +kernel
theorem d_Ch_fitToDelete_1 : decode b_Ch_fitToDelete 1 = .ok (.aload_n 0, 1) := by decide +kernel
theorem d_Ch_fitToDelete_2 : decode b_Ch_fitToDelete 2 = .ok (.getfield 15, 3) := by decide +kernel
theorem d_Ch_fitToDelete_5 : decode b_Ch_fitToDelete 5 = .ok (.if_icmp .ge 16, 3) := by decide +kernel
theorem d_Ch_fitToDelete_8 : decode b_Ch_fitToDelete 8 = .ok (.aload_n 0, 1) := by decide +kernel
theorem d_Ch_fitToDelete_9 : decode b_Ch_fitToDelete 9 = .ok (.dup, 1) := by decide +kernel
theorem d_Ch_fitToDelete_10 : decode b_Ch_fitToDelete 10 = .ok (.getfield 15, 3) := by decide +kernel
theorem d_Ch_fitToDelete_13 : decode b_Ch_fitToDelete 13 = .ok (.iconst 1, 1) := by decide +kernel
theorem d_Ch_fitToDelete_14 : decode b_Ch_fitToDelete 14 = .ok (.isub, 1) := by decide +kernel
theorem d_Ch_fitToDelete_15 : decode b_Ch_fitToDelete 15 = .ok (.putfield 15, 3) := by decide +kernel
theorem d_Ch_fitToDelete_18 : decode b_Ch_fitToDelete 18 = .ok (.goto 29, 3) := by decide +kernel
theorem d_Ch_fitToDelete_21 : decode b_Ch_fitToDelete 21 = .ok (.iload_n 1, 1) := by decide +kernel
theorem d_Ch_fitToDelete_22 : decode b_Ch_fitToDelete 22 = .ok (.aload_n 0, 1) := by decide +kernel
theorem d_Ch_fitToDelete_23 : decode b_Ch_fitToDelete 23 = .ok (.getfield 15, 3) := by decide +kernel
theorem d_Ch_fitToDelete_26 : decode b_Ch_fitToDelete 26 = .ok (.if_icmp .ne 21, 3) := by decide +kernel
theorem d_Ch_fitToDelete_29 : decode b_Ch_fitToDelete 29 = .ok (.aload_n 0, 1) := by decide +kernel
theorem d_Ch_fitToDelete_30 : decode b_Ch_fitToDelete 30 = .ok (.getfield 9, 3) := by decide +kernel
theorem d_Ch_fitToDelete_33 : decode b_Ch_fitToDelete 33 = .ok (.iconst 1, 1) := by decide +kernel
theorem d_Ch_fitToDelete_34 : decode b_Ch_fitToDelete 34 = .ok (.if_icmp .ne 13, 3) := by decide +kernel
theorem d_Ch_fitToDelete_37 : decode b_Ch_fitToDelete 37 = .ok (.aload_n 0, 1) := by decide +kernel
theorem d_Ch_fitToDelete_38 : decode b_Ch_fitToDelete 38 = .ok (.iconst 2, 1) := by decide +kernel
theorem d_Ch_fitToDelete_39 : decode b_Ch_fitToDelete 39 = .ok (.putfield 9, 3) := by decide +kernel
theorem d_Ch_fitToDelete_42 : decode b_Ch_fitToDelete 42 = .ok (.aload_n 0, 1) := by decide +kernel
theorem d_Ch_fitToDelete_43 : decode b_Ch_fitToDelete 43 = .ok (.iconst 0, 1) := by decide +kernel
theorem d_Ch_fitToDelete_44 : decode b_Ch_fitToDelete 44 = .ok (.putfield 15, 3) := by decide +kernel
theorem d_Ch_fitToDelete_47 : decode b_Ch_fitToDelete 47 = .ok (.return_, 1) := by decide +kernel
theorem d_Ch_fitToEachOther_0 : decode b_Ch_fitToEachOther 0 = .ok (.aload_n 0, 1) := by decide +kernel
theorem d_Ch_fitToEachOther_1 : decode b_Ch_fitToEachOther 1 = .ok (.getfield 9, 3) := by decide +kernel
theorem d_Ch_fitToEachOther_4 : decode b_Ch_fitToEachOther 4 = .ok (.istore_n 2, 1) := by decide +kernel
theorem d_Ch_fitToEachOther_5 : decode b_Ch_fitToEachOther 5 = .ok (.aload_n 0, 1) := by decide +kernel
theorem d_Ch_fitToEachOther_6 : decode b_Ch_fitToEachOther 6 = .ok (.getfield 15, 3) := by decide +kernel
theorem d_Ch_fitToEachOther_9 : decode b_Ch_fitToEachOther 9 = .ok (.istore_n 3, 1) := by decide +kernel
theorem d_Ch_fitToEachOther_10 : decode b_Ch_fitToEachOther 10 = .ok (.aload_n 0, 1) := by decide +kernel
theorem d_Ch_fitToEachOther_11 : decode b_Ch_fitToEachOther 11 = .ok (.aload_n 1, 1) := by decide +kernel
theorem d_Ch_fitToEachOther_12 : decode b_Ch_fitToEachOther 12 = .ok (.getfield 9, 3) := by decide +kernel
theorem d_Ch_fitToEachOther_15 : decode b_Ch_fitToEachOther 15 = .ok (.aload_n 1, 1) := by decide +kernel
theorem d_Ch_fitToEachOther_16 : decode b_Ch_fitToEachOther 16 = .ok (.getfield 15, 3) := by decide +kernel
theorem d_Ch_fitToEachOther_19 : decode b_Ch_fitToEachOther 19 = .ok (.aload_n 1, 1) := by decide +kernel
theorem d_Ch_fitToEachOther_20 : decode b_Ch_fitToEachOther 20 = .ok (.getfield 22, 3) := by decide +kernel
theorem d_Ch_fitToEachOther_23 : decode b_Ch_fitToEachOther 23 = .ok (.invokevirtual 25, 3) := by decide +kernel
theorem d_Ch_fitToEachOther_26 : decode b_Ch_fitToEachOther 26 = .ok (.aload_n 1, 1) := by decide +kernel
theorem d_Ch_fitToEachOther_27 : decode b_Ch_fitToEachOther 27 = .ok (.iload_n 2, 1) := by decide +kernel
theorem d_Ch_fitToEachOther_28 : decode b_Ch_fitToEachOther 28 = .ok (.iload_n 3, 1) := by decide +kernel
theorem d_Ch_fitToEachOther_29 : decode b_Ch_fitToEachOther 29 = .ok (.aload_n 0, 1) := by decide +kernel
theorem d_Ch_fitToEachOther_30 : decode b_Ch_fitToEachOther 30 = .ok (.getfield 22, 3) := by decide +kernel
theorem d_Ch_fitToEachOther_33 : decode b_Ch_fitToEachOther 33 = .ok (.invokevirtual 25, 3) := by decide +kernel
theorem d_Ch_fitToEachOther_36 : decode b_Ch_fitToEachOther 36 = .ok (.return_, 1) := by decide +kernel
theorem d_Ch_fitToInsert_0 : decode b_Ch_fitToInsert 0 = .ok (.aload_n 0, 1) := by decide +kernel
theorem d_Ch_fitToInsert_1 : decode b_Ch_fitToInsert 1 = .ok (.getfield 9, 3) := by decide +kernel
theorem d_Ch_fitToInsert_4 : decode b_Ch_fitToInsert 4 = .ok (.iconst 1, 1) := by decide +kernel
theorem d_Ch_fitToInsert_5 : decode b_Ch_fitToInsert 5 = .ok (.if_icmp .eq 11, 3) := by decide +kernel
theorem d_Ch_fitToInsert_8 : decode b_Ch_fitToInsert 8 = .ok (.iload_n 2, 1) := by decide +kernel
theorem d_Ch_fitToInsert_9 : decode b_Ch_fitToInsert 9 = .ok (.aload_n 0, 1) := by decide +kernel
theorem d_Ch_fitToInsert_10 : decode b_Ch_fitToInsert 10 = .ok (.getfield 22, 3) := by decide +kernel
theorem d_Ch_fitToInsert_13 : decode b_Ch_fitToInsert 13 = .ok (.if_icmp .ge 7, 3) := by decide +kernel
theorem d_Ch_fitToInsert_16 : decode b_Ch_fitToInsert 16 = .ok (.iconst 1, 1) := by decide +kernel
theorem d_Ch_fitToInsert_17 : decode b_Ch_fitToInsert 17 = .ok (.goto 4, 3) := by decide +kernel
theorem d_Ch_fitToInsert_20 : decode b_Ch_fitToInsert 20 = .ok (.iconst 0, 1) := by decide +kernel
theorem d_Ch_fitToInsert_21 : decode b_Ch_fitToInsert 21 = .ok (.istore_n 3, 1) := by decide +kernel
theorem d_Ch_fitToInsert_22 : decode b_Ch_fitToInsert 22 = .ok (.iload_n 1, 1) := by decide +kernel
theorem d_Ch_fitToInsert_23 : decode b_Ch_fitToInsert 23 = .ok (.aload_n 0, 1) := by decide +kernel
theorem d_Ch_fitToInsert_24 : decode b_Ch_fitToInsert 24 = .ok (.getfield 15, 3) := by decide +kernel
theorem d_Ch_fitToInsert_27 : decode b_Ch_fitToInsert 27 = .ok (.if_icmp .lt 15, 3) := by decide +kernel
theorem d_Ch_fitToInsert_30 : decode b_Ch_fitToInsert 30 = .ok (.iload_n 1, 1) := by decide +kernel
theorem d_Ch_fitToInsert_31 : decode b_Ch_fitToInsert 31 = .ok (.aload_n 0, 1) := by decide +kernel
theorem d_Ch_fitToInsert_32 : decode b_Ch_fitToInsert 32 = .ok (.getfield 15, 3) := by decide +kernel
theorem d_Ch_fitToInsert_35 : decode b_Ch_fitToInsert 35 = .ok (.if_icmp .ne 17, 3) := by decide +kernel
theorem d_Ch_fitToInsert_38 : decode b_Ch_fitToInsert 38 = .ok (.iload_n 3, 1) := by decide +kernel
theorem d_Ch_fitToInsert_39 : decode b_Ch_fitToInsert 39 = .ok (.ifCond .eq 13, 3) := by decide +kernel
theorem d_Ch_fitToInsert_42 : decode b_Ch_fitToInsert 42 = .ok (.aload_n 0, 1) := by decide +kernel
theorem d_Ch_fitToInsert_43 : decode b_Ch_fitToInsert 43 = .ok (.dup, 1) := by decide +kernel
theorem d_Ch_fitToInsert_44 : decode b_Ch_fitToInsert 44 = .ok (.getfield 15, 3) := by decide +kernel
theorem d_Ch_fitToInsert_47 : decode b_Ch_fitToInsert 47 = .ok (.iconst 1, 1) := by decide +kernel
theorem d_Ch_fitToInsert_48 : decode b_Ch_fitToInsert 48 = .ok (.iadd, 1) := by decide +kernel
theorem d_Ch_fitToInsert_49 : decode b_Ch_fitToInsert 49 = .ok (.putfield 15, 3) := by decide +kernel
theorem d_Ch_fitToInsert_52 : decode b_Ch_fitToInsert 52 = .ok (.return_, 1) := by decide +kernel
theorem d_Ch_init_0 : decode b_Ch_init 0 = .ok (.aload_n 0, 1) := by decide +kernel
theorem d_Ch_init_1 : decode b_Ch_init 1 = .ok (.invokespecial 3, 3) := by decide +kernel
theorem d_Ch_init_4 : decode b_Ch_init 4 = .ok (.return_, 1) := by decide +kernel
theorem d_Er_alike_0 : decode b_Er_alike 0 = .ok (.iconst 1, 1) := by decide +kernel
theorem d_Er_alike_1 : decode b_Er_alike 1 = .ok (.istore_n 1, 1) := by decide +kernel
theorem d_Er_alike_2 : decode b_Er_alike 2 = .ok (.iload_n 1, 1) := by decide +kernel
theorem d_Er_alike_3 : decode b_Er_alike 3 = .ok (.iconst 3, 1) := by decide +kernel
theorem d_Er_alike_4 : decode b_Er_alike 4 = .ok (.if_icmp .gt 29, 3) := by decide +kernel
theorem d_Er_alike_7 : decode b_Er_alike 7 = .ok (.aload_n 0, 1) := by decide +kernel
theorem d_Er_alike_8 : decode b_Er_alike 8 = .ok (.getfield 11, 3) := by decide +kernel
theorem d_Er_alike_11 : decode b_Er_alike 11 = .ok (.iload_n 1, 1) := by decide +kernel
theorem d_Er_alike_12 : decode b_Er_alike 12 = .ok (.aaload, 1) := by decide +kernel
theorem d_Er_alike_13 : decode b_Er_alike 13 = .ok (.aload_n 0, 1) := by decide +kernel
theorem d_Er_alike_14 : decode b_Er_alike 14 = .ok (.getfield 11, 3) := by decide +kernel
theorem d_Er_alike_17 : decode b_Er_alike 17 = .ok (.iconst 0, 1) := by decide +kernel
theorem d_Er_alike_18 : decode b_Er_alike 18 = .ok (.aaload, 1) := by decide +kernel
theorem d_Er_alike_19 : decode b_Er_alike 19 = .ok (.invokevirtual 124, 3) := by decide +kernel
theorem d_Er_alike_22 : decode b_Er_alike 22 = .ok (.ifCond .ne 5, 3) := by decide +kernel
theorem d_Er_alike_25 : decode b_Er_alike 25 = .ok (.iconst 0, 1) := by decide +kernel
theorem d_Er_alike_26 : decode b_Er_alike 26 = .ok (.ireturn, 1) := by decide +kernel
theorem d_Er_alike_27 : decode b_Er_alike 27 = .ok (.iinc 1 1, 3) := by decide +kernel
theorem d_Er_alike_30 : decode b_Er_alike 30 = .ok (.goto (-28), 3) := by decide +kernel
theorem d_Er_alike_33 : decode b_Er_alike 33 = .ok (.iconst 1, 1) := by decide +kernel
theorem d_Er_alike_34 : decode b_Er_alike 34 = .ok (.ireturn, 1) := by decide +kernel
theorem d_Er_change_0 : decode b_Er_change 0 = .ok (.iload_n 1, 1) := by decide +kernel
theorem d_Er_change_1 : decode b_Er_change 1 = .ok (.invokestatic 35, 3) := by decide +kernel
theorem d_Er_change_4 : decode b_Er_change 4 = .ok (.aload_n 0, 1) := by decide +kernel
theorem d_Er_change_5 : decode b_Er_change 5 = .ok (.iload_n 1, 1) := by decide +kernel
theorem d_Er_change_6 : decode b_Er_change 6 = .ok (.iload_n 2, 1) := by decide +kernel
theorem d_Er_change_7 : decode b_Er_change 7 = .ok (.invokevirtual 74, 3) := by decide +kernel
theorem d_Er_change_10 : decode b_Er_change 10 = .ok (.astore 4, 2) := by decide +kernel
theorem d_Er_change_12 : decode b_Er_change 12 = .ok (.iload_n 3, 1) := by decide +kernel
theorem d_Er_change_13 : decode b_Er_change 13 = .ok (.ifCond .lt 12, 3) := by decide +kernel
theorem d_Er_change_16 : decode b_Er_change 16 = .ok (.iload_n 3, 1) := by decide +kernel
theorem d_Er_change_17 : decode b_Er_change 17 = .ok (.aload 4, 2) := by decide +kernel
theorem d_Er_change_19 : decode b_Er_change 19 = .ok (.invokevirtual 106, 3) := by decide +kernel
theorem d_Er_change_22 : decode b_Er_change 22 = .ok (.if_icmp .lt 13, 3) := by decide +kernel
theorem d_Er_change_25 : decode b_Er_change 25 = .ok (.new 49, 3) := by decide +kernel
theorem d_Er_change_28 : decode b_Er_change 28 = .ok (.dup, 1) := by decide +kernel
theorem d_Er_change_29 : decode b_Er_change 29 = .ok (.ldc 109, 2) := by decide +kernel
theorem d_Er_change_31 : decode b_Er_change 31 = .ok (.invokespecial 53, 3) := by decide +kernel
theorem d_Er_change_34 : decode b_Er_change 34 = .ok (.athrow, 1) := by decide +kernel
theorem d_Er_change_35 : decode b_Er_change 35 = .ok (.aload 4, 2) := by decide +kernel
theorem d_Er_change_37 : decode b_Er_change 37 = .ok (.iload_n 3, 1) := by decide +kernel
theorem d_Er_change_38 : decode b_Er_change 38 = .ok (.invokevirtual 111, 3) := by decide +kernel
theorem d_Er_change_41 : decode b_Er_change 41 = .ok (.astore 5, 2) := by decide +kernel
theorem d_Er_change_43 : decode b_Er_change 43 = .ok (.sipush 1000, 3) := by decide +kernel
theorem d_Er_change_46 : decode b_Er_change 46 = .ok (.aload 5, 2) := by decide +kernel
theorem d_Er_change_48 : decode b_Er_change 48 = .ok (.getfield 99, 3) := by decide +kernel
theorem d_Er_change_51 : decode b_Er_change 51 = .ok (.imul, 1) := by decide +kernel
theorem d_Er_change_52 : decode b_Er_change 52 = .ok (.bipush 10, 2) := by decide +kernel
theorem d_Er_change_54 : decode b_Er_change 54 = .ok (.aload 5, 2) := by decide +kernel
theorem d_Er_change_56 : decode b_Er_change 56 = .ok (.getfield 115, 3) := by decide +kernel
theorem d_Er_change_59 : decode b_Er_change 59 = .ok (.imul, 1) := by decide +kernel
theorem d_Er_change_60 : decode b_Er_change 60 = .ok (.iadd, 1) := by decide +kernel
theorem d_Er_change_61 : decode b_Er_change 61 = .ok (.aload 5, 2) := by decide +kernel
theorem d_Er_change_63 : decode b_Er_change 63 = .ok (.getfield 118, 3) := by decide +kernel
theorem d_Er_change_66 : decode b_Er_change 66 = .ok (.iadd, 1) := by decide +kernel
theorem d_Er_change_67 : decode b_Er_change 67 = .ok (.ireturn, 1) := by decide +kernel
theorem d_Er_checkClient_0 : decode b_Er_checkClient 0 = .ok (.iload_n 0, 1) := by decide +kernel
theorem d_Er_checkClient_1 : decode b_Er_checkClient 1 = .ok (.iconst 1, 1) := by decide +kernel
theorem d_Er_checkClient_2 : decode b_Er_checkClient 2 = .ok (.if_icmp .lt 8, 3) := by decide +kernel
theorem d_Er_checkClient_5 : decode b_Er_checkClient 5 = .ok (.iload_n 0, 1) := by decide +kernel
theorem d_Er_checkClient_6 : decode b_Er_checkClient 6 = .ok (.iconst 3, 1) := by decide +kernel
theorem d_Er_checkClient_7 : decode b_Er_checkClient 7 = .ok (.if_icmp .le 13, 3) := by decide +kernel
theorem d_Er_checkClient_10 : decode b_Er_checkClient 10 = .ok (.new 38, 3) := by decide +kernel
theorem d_Er_checkClient_13 : decode b_Er_checkClient 13 = .ok (.dup, 1) := by decide +kernel
theorem d_Er_checkClient_14 : decode b_Er_checkClient 14 = .ok (.ldc 128, 2) := by decide +kernel
theorem d_Er_checkClient_16 : decode b_Er_checkClient 16 = .ok (.invokespecial 42, 3) := by decide +kernel
theorem d_Er_checkClient_19 : decode b_Er_checkClient 19 = .ok (.athrow, 1) := by decide +kernel
theorem d_Er_checkClient_20 : decode b_Er_checkClient 20 = .ok (.return_, 1) := by decide +kernel
theorem d_Er_checkHasLetter_0 : decode b_Er_checkHasLetter 0 = .ok (.iload_n 1, 1) := by decide +kernel
theorem d_Er_checkHasLetter_1 : decode b_Er_checkHasLetter 1 = .ok (.ifCond .lt 11, 3) := by decide +kernel
theorem d_Er_checkHasLetter_4 : decode b_Er_checkHasLetter 4 = .ok (.iload_n 1, 1) := by decide +kernel
theorem d_Er_checkHasLetter_5 : decode b_Er_checkHasLetter 5 = .ok (.aload_n 0, 1) := by decide +kernel
theorem d_Er_checkHasLetter_6 : decode b_Er_checkHasLetter 6 = .ok (.getfield 45, 3) := by decide +kernel
theorem d_Er_checkHasLetter_9 : decode b_Er_checkHasLetter 9 = .ok (.if_icmp .lt 13, 3) := by decide +kernel
theorem d_Er_checkHasLetter_12 : decode b_Er_checkHasLetter 12 = .ok (.new 49, 3) := by decide +kernel
theorem d_Er_checkHasLetter_15 : decode b_Er_checkHasLetter 15 = .ok (.dup, 1) := by decide +kernel
theorem d_Er_checkHasLetter_16 : decode b_Er_checkHasLetter 16 = .ok (.ldc 132, 2) := by decide +kernel
theorem d_Er_checkHasLetter_18 : decode b_Er_checkHasLetter 18 = .ok (.invokespecial 53, 3) := by decide +kernel
theorem d_Er_checkHasLetter_21 : decode b_Er_checkHasLetter 21 = .ok (.athrow, 1) := by decide +kernel
theorem d_Er_checkHasLetter_22 : decode b_Er_checkHasLetter 22 = .ok (.return_, 1) := by decide +kernel
theorem d_Er_checkMayMakeChange_0 : decode b_Er_checkMayMakeChange 0 = .ok (.aload_n 0, 1) := by decide +kernel
theorem d_Er_checkMayMakeChange_1 : decode b_Er_checkMayMakeChange 1 = .ok (.iload_n 1, 1) := by decide +kernel
theorem d_Er_checkMayMakeChange_2 : decode b_Er_checkMayMakeChange 2 = .ok (.iconst 1, 1) := by decide +kernel
theorem d_Er_checkMayMakeChange_3 : decode b_Er_checkMayMakeChange 3 = .ok (.invokevirtual 74, 3) := by decide +kernel
theorem d_Er_checkMayMakeChange_6 : decode b_Er_checkMayMakeChange 6 = .ok (.invokevirtual 82, 3) := by decide +kernel
theorem d_Er_checkMayMakeChange_9 : decode b_Er_checkMayMakeChange 9 = .ok (.ifCond .eq 13, 3) := by decide +kernel
theorem d_Er_checkMayMakeChange_12 : decode b_Er_checkMayMakeChange 12 = .ok (.new 54, 3) := by decide +kernel
theorem d_Er_checkMayMakeChange_15 : decode b_Er_checkMayMakeChange 15 = .ok (.dup, 1) := by decide +kernel
theorem d_Er_checkMayMakeChange_16 : decode b_Er_checkMayMakeChange 16 = .ok (.ldc 139, 2) := by decide +kernel
theorem d_Er_checkMayMakeChange_18 : decode b_Er_checkMayMakeChange 18 = .ok (.invokespecial 58, 3) := by decide +kernel
theorem d_Er_checkMayMakeChange_21 : decode b_Er_checkMayMakeChange 21 = .ok (.athrow, 1) := by decide +kernel
theorem d_Er_checkMayMakeChange_22 : decode b_Er_checkMayMakeChange 22 = .ok (.return_, 1) := by decide +kernel
theorem d_Er_checkSite_0 : decode b_Er_checkSite 0 = .ok (.iload_n 0, 1) := by decide +kernel
theorem d_Er_checkSite_1 : decode b_Er_checkSite 1 = .ok (.ifCond .lt 8, 3) := by decide +kernel
theorem d_Er_checkSite_4 : decode b_Er_checkSite 4 = .ok (.iload_n 0, 1) := by decide +kernel
theorem d_Er_checkSite_5 : decode b_Er_checkSite 5 = .ok (.iconst 3, 1) := by decide +kernel
theorem d_Er_checkSite_6 : decode b_Er_checkSite 6 = .ok (.if_icmp .le 13, 3) := by decide +kernel
theorem d_Er_checkSite_9 : decode b_Er_checkSite 9 = .ok (.new 38, 3) := by decide +kernel
theorem d_Er_checkSite_12 : decode b_Er_checkSite 12 = .ok (.dup, 1) := by decide +kernel
theorem d_Er_checkSite_13 : decode b_Er_checkSite 13 = .ok (.ldc 130, 2) := by decide +kernel
theorem d_Er_checkSite_15 : decode b_Er_checkSite 15 = .ok (.invokespecial 42, 3) := by decide +kernel
theorem d_Er_checkSite_18 : decode b_Er_checkSite 18 = .ok (.athrow, 1) := by decide +kernel
theorem d_Er_checkSite_19 : decode b_Er_checkSite 19 = .ok (.return_, 1) := by decide +kernel
theorem d_Er_checkSomeWaits_0 : decode b_Er_checkSomeWaits 0 = .ok (.aload_n 0, 1) := by decide +kernel
theorem d_Er_checkSomeWaits_1 : decode b_Er_checkSomeWaits 1 = .ok (.invokevirtual 102, 3) := by decide +kernel
theorem d_Er_checkSomeWaits_4 : decode b_Er_checkSomeWaits 4 = .ok (.ifCond .ne 13, 3) := by decide +kernel
theorem d_Er_checkSomeWaits_7 : decode b_Er_checkSomeWaits 7 = .ok (.new 134, 3) := by decide +kernel
theorem d_Er_checkSomeWaits_10 : decode b_Er_checkSomeWaits 10 = .ok (.dup, 1) := by decide +kernel
theorem d_Er_checkSomeWaits_11 : decode b_Er_checkSomeWaits 11 = .ok (.ldc 136, 2) := by decide +kernel
theorem d_Er_checkSomeWaits_13 : decode b_Er_checkSomeWaits 13 = .ok (.invokespecial 138, 3) := by decide +kernel
theorem d_Er_checkSomeWaits_16 : decode b_Er_checkSomeWaits 16 = .ok (.athrow, 1) := by decide +kernel
theorem d_Er_checkSomeWaits_17 : decode b_Er_checkSomeWaits 17 = .ok (.return_, 1) := by decide +kernel
theorem d_Er_delete_0 : decode b_Er_delete 0 = .ok (.iload_n 1, 1) := by decide +kernel
theorem d_Er_delete_1 : decode b_Er_delete 1 = .ok (.invokestatic 35, 3) := by decide +kernel
theorem d_Er_delete_4 : decode b_Er_delete 4 = .ok (.aload_n 0, 1) := by decide +kernel
theorem d_Er_delete_5 : decode b_Er_delete 5 = .ok (.getfield 11, 3) := by decide +kernel
theorem d_Er_delete_8 : decode b_Er_delete 8 = .ok (.iload_n 1, 1) := by decide +kernel
theorem d_Er_delete_9 : decode b_Er_delete 9 = .ok (.aaload, 1) := by decide +kernel
theorem d_Er_delete_10 : decode b_Er_delete 10 = .ok (.astore_n 3, 1) := by decide +kernel
theorem d_Er_delete_11 : decode b_Er_delete 11 = .ok (.aload_n 3, 1) := by decide +kernel
theorem d_Er_delete_12 : decode b_Er_delete 12 = .ok (.iload_n 2, 1) := by decide +kernel
theorem d_Er_delete_13 : decode b_Er_delete 13 = .ok (.invokestatic 66, 3) := by decide +kernel
theorem d_Er_delete_16 : decode b_Er_delete 16 = .ok (.aload_n 0, 1) := by decide +kernel
theorem d_Er_delete_17 : decode b_Er_delete 17 = .ok (.iload_n 1, 1) := by decide +kernel
theorem d_Er_delete_18 : decode b_Er_delete 18 = .ok (.invokevirtual 59, 3) := by decide +kernel
theorem d_Er_delete_21 : decode b_Er_delete 21 = .ok (.aload_n 3, 1) := by decide +kernel
theorem d_Er_delete_22 : decode b_Er_delete 22 = .ok (.getfield 70, 3) := by decide +kernel
theorem d_Er_delete_25 : decode b_Er_delete 25 = .ok (.iload_n 2, 1) := by decide +kernel
theorem d_Er_delete_26 : decode b_Er_delete 26 = .ok (.caload, 1) := by decide +kernel
theorem d_Er_delete_27 : decode b_Er_delete 27 = .ok (.istore 4, 2) := by decide +kernel
theorem d_Er_delete_29 : decode b_Er_delete 29 = .ok (.aload_n 0, 1) := by decide +kernel
theorem d_Er_delete_30 : decode b_Er_delete 30 = .ok (.iload_n 1, 1) := by decide +kernel
theorem d_Er_delete_31 : decode b_Er_delete 31 = .ok (.iconst 1, 1) := by decide +kernel
theorem d_Er_delete_32 : decode b_Er_delete 32 = .ok (.iload_n 2, 1) := by decide +kernel
theorem d_Er_delete_33 : decode b_Er_delete 33 = .ok (.iload 4, 2) := by decide +kernel
theorem d_Er_delete_35 : decode b_Er_delete 35 = .ok (.invokevirtual 62, 3) := by decide +kernel
theorem d_Er_delete_38 : decode b_Er_delete 38 = .ok (.iload 4, 2) := by decide +kernel
theorem d_Er_delete_40 : decode b_Er_delete 40 = .ok (.ireturn, 1) := by decide +kernel
theorem d_Er_got_0 : decode b_Er_got 0 = .ok (.iload_n 1, 1) := by decide +kernel
theorem d_Er_got_1 : decode b_Er_got 1 = .ok (.invokestatic 35, 3) := by decide +kernel
theorem d_Er_got_4 : decode b_Er_got 4 = .ok (.aload_n 0, 1) := by decide +kernel
theorem d_Er_got_5 : decode b_Er_got 5 = .ok (.iload_n 1, 1) := by decide +kernel
theorem d_Er_got_6 : decode b_Er_got 6 = .ok (.iload_n 2, 1) := by decide +kernel
theorem d_Er_got_7 : decode b_Er_got 7 = .ok (.invokevirtual 74, 3) := by decide +kernel
theorem d_Er_got_10 : decode b_Er_got 10 = .ok (.getfield 92, 3) := by decide +kernel
theorem d_Er_got_13 : decode b_Er_got 13 = .ok (.ireturn, 1) := by decide +kernel
theorem d_Er_init_0 : decode b_Er_init 0 = .ok (.aload_n 0, 1) := by decide +kernel
theorem d_Er_init_1 : decode b_Er_init 1 = .ok (.invokespecial 3, 3) := by decide +kernel
theorem d_Er_init_4 : decode b_Er_init 4 = .ok (.aload_n 0, 1) := by decide +kernel
theorem d_Er_init_5 : decode b_Er_init 5 = .ok (.iconst 4, 1) := by decide +kernel
theorem d_Er_init_6 : decode b_Er_init 6 = .ok (.anewarray 9, 3) := by decide +kernel
theorem d_Er_init_9 : decode b_Er_init 9 = .ok (.putfield 11, 3) := by decide +kernel
theorem d_Er_init_12 : decode b_Er_init 12 = .ok (.iconst 0, 1) := by decide +kernel
theorem d_Er_init_13 : decode b_Er_init 13 = .ok (.istore_n 1, 1) := by decide +kernel
theorem d_Er_init_14 : decode b_Er_init 14 = .ok (.iload_n 1, 1) := by decide +kernel
theorem d_Er_init_15 : decode b_Er_init 15 = .ok (.iconst 3, 1) := by decide +kernel
theorem d_Er_init_16 : decode b_Er_init 16 = .ok (.if_icmp .gt 22, 3) := by decide +kernel
theorem d_Er_init_19 : decode b_Er_init 19 = .ok (.aload_n 0, 1) := by decide +kernel
theorem d_Er_init_20 : decode b_Er_init 20 = .ok (.getfield 11, 3) := by decide +kernel
theorem d_Er_init_23 : decode b_Er_init 23 = .ok (.iload_n 1, 1) := by decide +kernel
theorem d_Er_init_24 : decode b_Er_init 24 = .ok (.new 9, 3) := by decide +kernel
theorem d_Er_init_27 : decode b_Er_init 27 = .ok (.dup, 1) := by decide +kernel
theorem d_Er_init_28 : decode b_Er_init 28 = .ok (.invokespecial 15, 3) := by decide +kernel
theorem d_Er_init_31 : decode b_Er_init 31 = .ok (.aastore, 1) := by decide +kernel
theorem d_Er_init_32 : decode b_Er_init 32 = .ok (.iinc 1 1, 3) := by decide +kernel
theorem d_Er_init_35 : decode b_Er_init 35 = .ok (.goto (-21), 3) := by decide +kernel
theorem d_Er_init_38 : decode b_Er_init 38 = .ok (.aload_n 0, 1) := by decide +kernel
theorem d_Er_init_39 : decode b_Er_init 39 = .ok (.iconst 3, 1) := by decide +kernel
theorem d_Er_init_40 : decode b_Er_init 40 = .ok (.anewarray 16, 3) := by decide +kernel
theorem d_Er_init_43 : decode b_Er_init 43 = .ok (.putfield 18, 3) := by decide +kernel
theorem d_Er_init_46 : decode b_Er_init 46 = .ok (.aload_n 0, 1) := by decide +kernel
theorem d_Er_init_47 : decode b_Er_init 47 = .ok (.iconst 3, 1) := by decide +kernel
theorem d_Er_init_48 : decode b_Er_init 48 = .ok (.anewarray 16, 3) := by decide +kernel
theorem d_Er_init_51 : decode b_Er_init 51 = .ok (.putfield 22, 3) := by decide +kernel
theorem d_Er_init_54 : decode b_Er_init 54 = .ok (.iconst 0, 1) := by decide +kernel
theorem d_Er_init_55 : decode b_Er_init 55 = .ok (.istore_n 1, 1) := by decide +kernel
theorem d_Er_init_56 : decode b_Er_init 56 = .ok (.iload_n 1, 1) := by decide +kernel
theorem d_Er_init_57 : decode b_Er_init 57 = .ok (.iconst 3, 1) := by decide +kernel
theorem d_Er_init_58 : decode b_Er_init 58 = .ok (.if_icmp .ge 39, 3) := by decide +kernel
theorem d_Er_init_61 : decode b_Er_init 61 = .ok (.aload_n 0, 1) := by decide +kernel
theorem d_Er_init_62 : decode b_Er_init 62 = .ok (.getfield 18, 3) := by decide +kernel
theorem d_Er_init_65 : decode b_Er_init 65 = .ok (.iload_n 1, 1) := by decide +kernel
theorem d_Er_init_66 : decode b_Er_init 66 = .ok (.new 16, 3) := by decide +kernel
theorem d_Er_init_69 : decode b_Er_init 69 = .ok (.dup, 1) := by decide +kernel
theorem d_Er_init_70 : decode b_Er_init 70 = .ok (.bipush 16, 2) := by decide +kernel
theorem d_Er_init_72 : decode b_Er_init 72 = .ok (.invokespecial 25, 3) := by decide +kernel
theorem d_Er_init_75 : decode b_Er_init 75 = .ok (.aastore, 1) := by decide +kernel
theorem d_Er_init_76 : decode b_Er_init 76 = .ok (.aload_n 0, 1) := by decide +kernel
theorem d_Er_init_77 : decode b_Er_init 77 = .ok (.getfield 22, 3) := by decide +kernel
theorem d_Er_init_80 : decode b_Er_init 80 = .ok (.iload_n 1, 1) := by decide +kernel
theorem d_Er_init_81 : decode b_Er_init 81 = .ok (.new 16, 3) := by decide +kernel
theorem d_Er_init_84 : decode b_Er_init 84 = .ok (.dup, 1) := by decide +kernel
theorem d_Er_init_85 : decode b_Er_init 85 = .ok (.bipush 24, 2) := by decide +kernel
theorem d_Er_init_87 : decode b_Er_init 87 = .ok (.invokespecial 25, 3) := by decide +kernel
theorem d_Er_init_90 : decode b_Er_init 90 = .ok (.aastore, 1) := by decide +kernel
theorem d_Er_init_91 : decode b_Er_init 91 = .ok (.iinc 1 1, 3) := by decide +kernel
theorem d_Er_init_94 : decode b_Er_init 94 = .ok (.goto (-38), 3) := by decide +kernel
theorem d_Er_init_97 : decode b_Er_init 97 = .ok (.aload_n 0, 1) := by decide +kernel
theorem d_Er_init_98 : decode b_Er_init 98 = .ok (.new 28, 3) := by decide +kernel
theorem d_Er_init_101 : decode b_Er_init 101 = .ok (.dup, 1) := by decide +kernel
theorem d_Er_init_102 : decode b_Er_init 102 = .ok (.invokespecial 30, 3) := by decide +kernel
theorem d_Er_init_105 : decode b_Er_init 105 = .ok (.putfield 31, 3) := by decide +kernel
theorem d_Er_init_108 : decode b_Er_init 108 = .ok (.return_, 1) := by decide +kernel
theorem d_Er_insert_0 : decode b_Er_insert 0 = .ok (.iload_n 1, 1) := by decide +kernel
theorem d_Er_insert_1 : decode b_Er_insert 1 = .ok (.invokestatic 35, 3) := by decide +kernel
theorem d_Er_insert_4 : decode b_Er_insert 4 = .ok (.iload_n 3, 1) := by decide +kernel
theorem d_Er_insert_5 : decode b_Er_insert 5 = .ok (.bipush 32, 2) := by decide +kernel
theorem d_Er_insert_7 : decode b_Er_insert 7 = .ok (.if_icmp .lt 9, 3) := by decide +kernel
theorem d_Er_insert_10 : decode b_Er_insert 10 = .ok (.iload_n 3, 1) := by decide +kernel
theorem d_Er_insert_11 : decode b_Er_insert 11 = .ok (.bipush 126, 2) := by decide +kernel
theorem d_Er_insert_13 : decode b_Er_insert 13 = .ok (.if_icmp .le 13, 3) := by decide +kernel
theorem d_Er_insert_16 : decode b_Er_insert 16 = .ok (.new 38, 3) := by decide +kernel
theorem d_Er_insert_19 : decode b_Er_insert 19 = .ok (.dup, 1) := by decide +kernel
theorem d_Er_insert_20 : decode b_Er_insert 20 = .ok (.ldc 40, 2) := by decide +kernel
theorem d_Er_insert_22 : decode b_Er_insert 22 = .ok (.invokespecial 42, 3) := by decide +kernel
theorem d_Er_insert_25 : decode b_Er_insert 25 = .ok (.athrow, 1) := by decide +kernel
theorem d_Er_insert_26 : decode b_Er_insert 26 = .ok (.aload_n 0, 1) := by decide +kernel
theorem d_Er_insert_27 : decode b_Er_insert 27 = .ok (.getfield 11, 3) := by decide +kernel
theorem d_Er_insert_30 : decode b_Er_insert 30 = .ok (.iload_n 1, 1) := by decide +kernel
theorem d_Er_insert_31 : decode b_Er_insert 31 = .ok (.aaload, 1) := by decide +kernel
theorem d_Er_insert_32 : decode b_Er_insert 32 = .ok (.astore 4, 2) := by decide +kernel
theorem d_Er_insert_34 : decode b_Er_insert 34 = .ok (.iload_n 2, 1) := by decide +kernel
theorem d_Er_insert_35 : decode b_Er_insert 35 = .ok (.ifCond .lt 12, 3) := by decide +kernel
theorem d_Er_insert_38 : decode b_Er_insert 38 = .ok (.iload_n 2, 1) := by decide +kernel
theorem d_Er_insert_39 : decode b_Er_insert 39 = .ok (.aload 4, 2) := by decide +kernel
theorem d_Er_insert_41 : decode b_Er_insert 41 = .ok (.getfield 45, 3) := by decide +kernel
theorem d_Er_insert_44 : decode b_Er_insert 44 = .ok (.if_icmp .le 13, 3) := by decide +kernel
theorem d_Er_insert_47 : decode b_Er_insert 47 = .ok (.new 49, 3) := by decide +kernel
theorem d_Er_insert_50 : decode b_Er_insert 50 = .ok (.dup, 1) := by decide +kernel
theorem d_Er_insert_51 : decode b_Er_insert 51 = .ok (.ldc 51, 2) := by decide +kernel
theorem d_Er_insert_53 : decode b_Er_insert 53 = .ok (.invokespecial 53, 3) := by decide +kernel
theorem d_Er_insert_56 : decode b_Er_insert 56 = .ok (.athrow, 1) := by decide +kernel
theorem d_Er_insert_57 : decode b_Er_insert 57 = .ok (.aload 4, 2) := by decide +kernel
theorem d_Er_insert_59 : decode b_Er_insert 59 = .ok (.getfield 45, 3) := by decide +kernel
theorem d_Er_insert_62 : decode b_Er_insert 62 = .ok (.bipush 40, 2) := by decide +kernel
theorem d_Er_insert_64 : decode b_Er_insert 64 = .ok (.if_icmp .lt 13, 3) := by decide +kernel
theorem d_Er_insert_67 : decode b_Er_insert 67 = .ok (.new 54, 3) := by decide +kernel
theorem d_Er_insert_70 : decode b_Er_insert 70 = .ok (.dup, 1) := by decide +kernel
theorem d_Er_insert_71 : decode b_Er_insert 71 = .ok (.ldc 56, 2) := by decide +kernel
theorem d_Er_insert_73 : decode b_Er_insert 73 = .ok (.invokespecial 58, 3) := by decide +kernel
theorem d_Er_insert_76 : decode b_Er_insert 76 = .ok (.athrow, 1) := by decide +kernel
theorem d_Er_insert_77 : decode b_Er_insert 77 = .ok (.aload_n 0, 1) := by decide +kernel
theorem d_Er_insert_78 : decode b_Er_insert 78 = .ok (.iload_n 1, 1) := by decide +kernel
theorem d_Er_insert_79 : decode b_Er_insert 79 = .ok (.invokevirtual 59, 3) := by decide +kernel
theorem d_Er_insert_82 : decode b_Er_insert 82 = .ok (.aload_n 0, 1) := by decide +kernel
theorem d_Er_insert_83 : decode b_Er_insert 83 = .ok (.iload_n 1, 1) := by decide +kernel
theorem d_Er_insert_84 : decode b_Er_insert 84 = .ok (.iconst 0, 1) := by decide +kernel
theorem d_Er_insert_85 : decode b_Er_insert 85 = .ok (.iload_n 2, 1) := by decide +kernel
theorem d_Er_insert_86 : decode b_Er_insert 86 = .ok (.iload_n 3, 1) := by decide +kernel
theorem d_Er_insert_87 : decode b_Er_insert 87 = .ok (.invokevirtual 62, 3) := by decide +kernel
theorem d_Er_insert_90 : decode b_Er_insert 90 = .ok (.aload 4, 2) := by decide +kernel
theorem d_Er_insert_92 : decode b_Er_insert 92 = .ok (.getfield 45, 3) := by decide +kernel
theorem d_Er_insert_95 : decode b_Er_insert 95 = .ok (.ireturn, 1) := by decide +kernel
theorem d_Er_letter_0 : decode b_Er_letter 0 = .ok (.iload_n 1, 1) := by decide +kernel
theorem d_Er_letter_1 : decode b_Er_letter 1 = .ok (.invokestatic 121, 3) := by decide +kernel
theorem d_Er_letter_4 : decode b_Er_letter 4 = .ok (.aload_n 0, 1) := by decide +kernel
theorem d_Er_letter_5 : decode b_Er_letter 5 = .ok (.getfield 11, 3) := by decide +kernel
theorem d_Er_letter_8 : decode b_Er_letter 8 = .ok (.iload_n 1, 1) := by decide +kernel
theorem d_Er_letter_9 : decode b_Er_letter 9 = .ok (.aaload, 1) := by decide +kernel
theorem d_Er_letter_10 : decode b_Er_letter 10 = .ok (.astore_n 3, 1) := by decide +kernel
theorem d_Er_letter_11 : decode b_Er_letter 11 = .ok (.aload_n 3, 1) := by decide +kernel
theorem d_Er_letter_12 : decode b_Er_letter 12 = .ok (.iload_n 2, 1) := by decide +kernel
theorem d_Er_letter_13 : decode b_Er_letter 13 = .ok (.invokestatic 66, 3) := by decide +kernel
theorem d_Er_letter_16 : decode b_Er_letter 16 = .ok (.aload_n 3, 1) := by decide +kernel
theorem d_Er_letter_17 : decode b_Er_letter 17 = .ok (.getfield 70, 3) := by decide +kernel
theorem d_Er_letter_20 : decode b_Er_letter 20 = .ok (.iload_n 2, 1) := by decide +kernel
theorem d_Er_letter_21 : decode b_Er_letter 21 = .ok (.caload, 1) := by decide +kernel
theorem d_Er_letter_22 : decode b_Er_letter 22 = .ok (.ireturn, 1) := by decide +kernel
theorem d_Er_makeChange_0 : decode b_Er_makeChange 0 = .ok (.aload_n 0, 1) := by decide +kernel
theorem d_Er_makeChange_1 : decode b_Er_makeChange 1 = .ok (.getfield 31, 3) := by decide +kernel
theorem d_Er_makeChange_4 : decode b_Er_makeChange 4 = .ok (.iload_n 2, 1) := by decide +kernel
theorem d_Er_makeChange_5 : decode b_Er_makeChange 5 = .ok (.putfield 99, 3) := by decide +kernel
theorem d_Er_makeChange_8 : decode b_Er_makeChange 8 = .ok (.aload_n 0, 1) := by decide +kernel
theorem d_Er_makeChange_9 : decode b_Er_makeChange 9 = .ok (.getfield 31, 3) := by decide +kernel
theorem d_Er_makeChange_12 : decode b_Er_makeChange 12 = .ok (.iload_n 3, 1) := by decide +kernel
theorem d_Er_makeChange_13 : decode b_Er_makeChange 13 = .ok (.putfield 115, 3) := by decide +kernel
theorem d_Er_makeChange_16 : decode b_Er_makeChange 16 = .ok (.aload_n 0, 1) := by decide +kernel
theorem d_Er_makeChange_17 : decode b_Er_makeChange 17 = .ok (.getfield 31, 3) := by decide +kernel
theorem d_Er_makeChange_20 : decode b_Er_makeChange 20 = .ok (.iload 4, 2) := by decide +kernel
theorem d_Er_makeChange_22 : decode b_Er_makeChange 22 = .ok (.putfield 141, 3) := by decide +kernel
theorem d_Er_makeChange_25 : decode b_Er_makeChange 25 = .ok (.aload_n 0, 1) := by decide +kernel
theorem d_Er_makeChange_26 : decode b_Er_makeChange 26 = .ok (.getfield 31, 3) := by decide +kernel
theorem d_Er_makeChange_29 : decode b_Er_makeChange 29 = .ok (.iload_n 1, 1) := by decide +kernel
theorem d_Er_makeChange_30 : decode b_Er_makeChange 30 = .ok (.putfield 118, 3) := by decide +kernel
theorem d_Er_makeChange_33 : decode b_Er_makeChange 33 = .ok (.aload_n 0, 1) := by decide +kernel
theorem d_Er_makeChange_34 : decode b_Er_makeChange 34 = .ok (.getfield 11, 3) := by decide +kernel
theorem d_Er_makeChange_37 : decode b_Er_makeChange 37 = .ok (.iload_n 1, 1) := by decide +kernel
theorem d_Er_makeChange_38 : decode b_Er_makeChange 38 = .ok (.aaload, 1) := by decide +kernel
theorem d_Er_makeChange_39 : decode b_Er_makeChange 39 = .ok (.aload_n 0, 1) := by decide +kernel
theorem d_Er_makeChange_40 : decode b_Er_makeChange 40 = .ok (.getfield 31, 3) := by decide +kernel
theorem d_Er_makeChange_43 : decode b_Er_makeChange 43 = .ok (.invokevirtual 145, 3) := by decide +kernel
theorem d_Er_makeChange_46 : decode b_Er_makeChange 46 = .ok (.aload_n 0, 1) := by decide +kernel
theorem d_Er_makeChange_47 : decode b_Er_makeChange 47 = .ok (.iload_n 1, 1) := by decide +kernel
theorem d_Er_makeChange_48 : decode b_Er_makeChange 48 = .ok (.iconst 1, 1) := by decide +kernel
theorem d_Er_makeChange_49 : decode b_Er_makeChange 49 = .ok (.invokevirtual 74, 3) := by decide +kernel
theorem d_Er_makeChange_52 : decode b_Er_makeChange 52 = .ok (.aload_n 0, 1) := by decide +kernel
theorem d_Er_makeChange_53 : decode b_Er_makeChange 53 = .ok (.getfield 31, 3) := by decide +kernel
theorem d_Er_makeChange_56 : decode b_Er_makeChange 56 = .ok (.aload_n 0, 1) := by decide +kernel
theorem d_Er_makeChange_57 : decode b_Er_makeChange 57 = .ok (.iload_n 1, 1) := by decide +kernel
theorem d_Er_makeChange_58 : decode b_Er_makeChange 58 = .ok (.iconst 0, 1) := by decide +kernel
theorem d_Er_makeChange_59 : decode b_Er_makeChange 59 = .ok (.invokevirtual 74, 3) := by decide +kernel
theorem d_Er_makeChange_62 : decode b_Er_makeChange 62 = .ok (.getfield 92, 3) := by decide +kernel
theorem d_Er_makeChange_65 : decode b_Er_makeChange 65 = .ok (.invokevirtual 95, 3) := by decide +kernel
theorem d_Er_makeChange_68 : decode b_Er_makeChange 68 = .ok (.return_, 1) := by decide +kernel
theorem d_Er_nod_0 : decode b_Er_nod 0 = .ok (.iload_n 1, 1) := by decide +kernel
theorem d_Er_nod_1 : decode b_Er_nod 1 = .ok (.invokestatic 35, 3) := by decide +kernel
theorem d_Er_nod_4 : decode b_Er_nod 4 = .ok (.aload_n 0, 1) := by decide +kernel
theorem d_Er_nod_5 : decode b_Er_nod 5 = .ok (.iload_n 1, 1) := by decide +kernel
theorem d_Er_nod_6 : decode b_Er_nod 6 = .ok (.invokevirtual 59, 3) := by decide +kernel
theorem d_Er_nod_9 : decode b_Er_nod 9 = .ok (.aload_n 0, 1) := by decide +kernel
theorem d_Er_nod_10 : decode b_Er_nod 10 = .ok (.iload_n 1, 1) := by decide +kernel
theorem d_Er_nod_11 : decode b_Er_nod 11 = .ok (.iconst 2, 1) := by decide +kernel
theorem d_Er_nod_12 : decode b_Er_nod 12 = .ok (.iconst 0, 1) := by decide +kernel
theorem d_Er_nod_13 : decode b_Er_nod 13 = .ok (.bipush 32, 2) := by decide +kernel
theorem d_Er_nod_15 : decode b_Er_nod 15 = .ok (.invokevirtual 62, 3) := by decide +kernel
theorem d_Er_nod_18 : decode b_Er_nod 18 = .ok (.return_, 1) := by decide +kernel
theorem d_Er_open_0 : decode b_Er_open 0 = .ok (.iload_n 1, 1) := by decide +kernel
theorem d_Er_open_1 : decode b_Er_open 1 = .ok (.invokestatic 35, 3) := by decide +kernel
theorem d_Er_open_4 : decode b_Er_open 4 = .ok (.aload_n 0, 1) := by decide +kernel
theorem d_Er_open_5 : decode b_Er_open 5 = .ok (.iload_n 1, 1) := by decide +kernel
theorem d_Er_open_6 : decode b_Er_open 6 = .ok (.iload_n 2, 1) := by decide +kernel
theorem d_Er_open_7 : decode b_Er_open 7 = .ok (.invokevirtual 74, 3) := by decide +kernel
theorem d_Er_open_10 : decode b_Er_open 10 = .ok (.invokevirtual 106, 3) := by decide +kernel
theorem d_Er_open_13 : decode b_Er_open 13 = .ok (.ireturn, 1) := by decide +kernel
theorem d_Er_pull_0 : decode b_Er_pull 0 = .ok (.iload_n 1, 1) := by decide +kernel
theorem d_Er_pull_1 : decode b_Er_pull 1 = .ok (.invokestatic 35, 3) := by decide +kernel
theorem d_Er_pull_4 : decode b_Er_pull 4 = .ok (.aload_n 0, 1) := by decide +kernel
theorem d_Er_pull_5 : decode b_Er_pull 5 = .ok (.iload_n 1, 1) := by decide +kernel
theorem d_Er_pull_6 : decode b_Er_pull 6 = .ok (.iconst 0, 1) := by decide +kernel
theorem d_Er_pull_7 : decode b_Er_pull 7 = .ok (.invokevirtual 74, 3) := by decide +kernel
theorem d_Er_pull_10 : decode b_Er_pull 10 = .ok (.invokestatic 78, 3) := by decide +kernel
theorem d_Er_pull_13 : decode b_Er_pull 13 = .ok (.aload_n 0, 1) := by decide +kernel
theorem d_Er_pull_14 : decode b_Er_pull 14 = .ok (.iload_n 1, 1) := by decide +kernel
theorem d_Er_pull_15 : decode b_Er_pull 15 = .ok (.aload_n 0, 1) := by decide +kernel
theorem d_Er_pull_16 : decode b_Er_pull 16 = .ok (.iload_n 1, 1) := by decide +kernel
theorem d_Er_pull_17 : decode b_Er_pull 17 = .ok (.iconst 0, 1) := by decide +kernel
theorem d_Er_pull_18 : decode b_Er_pull 18 = .ok (.invokevirtual 74, 3) := by decide +kernel
theorem d_Er_pull_21 : decode b_Er_pull 21 = .ok (.aload_n 0, 1) := by decide +kernel
theorem d_Er_pull_22 : decode b_Er_pull 22 = .ok (.iload_n 1, 1) := by decide +kernel
theorem d_Er_pull_23 : decode b_Er_pull 23 = .ok (.iconst 1, 1) := by decide +kernel
theorem d_Er_pull_24 : decode b_Er_pull 24 = .ok (.invokevirtual 74, 3) := by decide +kernel
theorem d_Er_pull_27 : decode b_Er_pull 27 = .ok (.invokevirtual 88, 3) := by decide +kernel
theorem d_Er_pull_30 : decode b_Er_pull 30 = .ok (.getfield 99, 3) := by decide +kernel
theorem d_Er_pull_33 : decode b_Er_pull 33 = .ok (.ireturn, 1) := by decide +kernel
theorem d_Er_push_0 : decode b_Er_push 0 = .ok (.iload_n 1, 1) := by decide +kernel
theorem d_Er_push_1 : decode b_Er_push 1 = .ok (.invokestatic 35, 3) := by decide +kernel
theorem d_Er_push_4 : decode b_Er_push 4 = .ok (.aload_n 0, 1) := by decide +kernel
theorem d_Er_push_5 : decode b_Er_push 5 = .ok (.iload_n 1, 1) := by decide +kernel
theorem d_Er_push_6 : decode b_Er_push 6 = .ok (.iconst 1, 1) := by decide +kernel
theorem d_Er_push_7 : decode b_Er_push 7 = .ok (.invokevirtual 74, 3) := by decide +kernel
theorem d_Er_push_10 : decode b_Er_push 10 = .ok (.invokestatic 78, 3) := by decide +kernel
theorem d_Er_push_13 : decode b_Er_push 13 = .ok (.iconst 1, 1) := by decide +kernel
theorem d_Er_push_14 : decode b_Er_push 14 = .ok (.istore_n 2, 1) := by decide +kernel
theorem d_Er_push_15 : decode b_Er_push 15 = .ok (.iload_n 2, 1) := by decide +kernel
theorem d_Er_push_16 : decode b_Er_push 16 = .ok (.iconst 3, 1) := by decide +kernel
theorem d_Er_push_17 : decode b_Er_push 17 = .ok (.if_icmp .gt 36, 3) := by decide +kernel
theorem d_Er_push_20 : decode b_Er_push 20 = .ok (.iload_n 2, 1) := by decide +kernel
theorem d_Er_push_21 : decode b_Er_push 21 = .ok (.iload_n 1, 1) := by decide +kernel
theorem d_Er_push_22 : decode b_Er_push 22 = .ok (.if_icmp .eq 25, 3) := by decide +kernel
theorem d_Er_push_25 : decode b_Er_push 25 = .ok (.aload_n 0, 1) := by decide +kernel
theorem d_Er_push_26 : decode b_Er_push 26 = .ok (.iload_n 2, 1) := by decide +kernel
theorem d_Er_push_27 : decode b_Er_push 27 = .ok (.iconst 0, 1) := by decide +kernel
theorem d_Er_push_28 : decode b_Er_push 28 = .ok (.invokevirtual 74, 3) := by decide +kernel
theorem d_Er_push_31 : decode b_Er_push 31 = .ok (.invokevirtual 82, 3) := by decide +kernel
theorem d_Er_push_34 : decode b_Er_push 34 = .ok (.ifCond .eq 13, 3) := by decide +kernel
theorem d_Er_push_37 : decode b_Er_push 37 = .ok (.new 54, 3) := by decide +kernel
theorem d_Er_push_40 : decode b_Er_push 40 = .ok (.dup, 1) := by decide +kernel
theorem d_Er_push_41 : decode b_Er_push 41 = .ok (.ldc 86, 2) := by decide +kernel
theorem d_Er_push_43 : decode b_Er_push 43 = .ok (.invokespecial 58, 3) := by decide +kernel
theorem d_Er_push_46 : decode b_Er_push 46 = .ok (.athrow, 1) := by decide +kernel
theorem d_Er_push_47 : decode b_Er_push 47 = .ok (.iinc 2 1, 3) := by decide +kernel
theorem d_Er_push_50 : decode b_Er_push 50 = .ok (.goto (-35), 3) := by decide +kernel
theorem d_Er_push_53 : decode b_Er_push 53 = .ok (.aload_n 0, 1) := by decide +kernel
theorem d_Er_push_54 : decode b_Er_push 54 = .ok (.iconst 0, 1) := by decide +kernel
theorem d_Er_push_55 : decode b_Er_push 55 = .ok (.aload_n 0, 1) := by decide +kernel
theorem d_Er_push_56 : decode b_Er_push 56 = .ok (.iload_n 1, 1) := by decide +kernel
theorem d_Er_push_57 : decode b_Er_push 57 = .ok (.iconst 1, 1) := by decide +kernel
theorem d_Er_push_58 : decode b_Er_push 58 = .ok (.invokevirtual 74, 3) := by decide +kernel
theorem d_Er_push_61 : decode b_Er_push 61 = .ok (.aload_n 0, 1) := by decide +kernel
theorem d_Er_push_62 : decode b_Er_push 62 = .ok (.iload_n 1, 1) := by decide +kernel
theorem d_Er_push_63 : decode b_Er_push 63 = .ok (.iconst 0, 1) := by decide +kernel
theorem d_Er_push_64 : decode b_Er_push 64 = .ok (.invokevirtual 74, 3) := by decide +kernel
theorem d_Er_push_67 : decode b_Er_push 67 = .ok (.invokevirtual 88, 3) := by decide +kernel
theorem d_Er_push_70 : decode b_Er_push 70 = .ok (.astore_n 2, 1) := by decide +kernel
theorem d_Er_push_71 : decode b_Er_push 71 = .ok (.iconst 1, 1) := by decide +kernel
theorem d_Er_push_72 : decode b_Er_push 72 = .ok (.istore_n 3, 1) := by decide +kernel
theorem d_Er_push_73 : decode b_Er_push 73 = .ok (.iload_n 3, 1) := by decide +kernel
theorem d_Er_push_74 : decode b_Er_push 74 = .ok (.iconst 3, 1) := by decide +kernel
theorem d_Er_push_75 : decode b_Er_push 75 = .ok (.if_icmp .gt 33, 3) := by decide +kernel
theorem d_Er_push_78 : decode b_Er_push 78 = .ok (.iload_n 3, 1) := by decide +kernel
theorem d_Er_push_79 : decode b_Er_push 79 = .ok (.iload_n 1, 1) := by decide +kernel
theorem d_Er_push_80 : decode b_Er_push 80 = .ok (.if_icmp .eq 22, 3) := by decide +kernel
theorem d_Er_push_83 : decode b_Er_push 83 = .ok (.aload_n 0, 1) := by decide +kernel
theorem d_Er_push_84 : decode b_Er_push 84 = .ok (.iload_n 3, 1) := by decide +kernel
theorem d_Er_push_85 : decode b_Er_push 85 = .ok (.iconst 0, 1) := by decide +kernel
theorem d_Er_push_86 : decode b_Er_push 86 = .ok (.invokevirtual 74, 3) := by decide +kernel
theorem d_Er_push_89 : decode b_Er_push 89 = .ok (.aload_n 2, 1) := by decide +kernel
theorem d_Er_push_90 : decode b_Er_push 90 = .ok (.aload_n 0, 1) := by decide +kernel
theorem d_Er_push_91 : decode b_Er_push 91 = .ok (.iload_n 3, 1) := by decide +kernel
theorem d_Er_push_92 : decode b_Er_push 92 = .ok (.iconst 1, 1) := by decide +kernel
theorem d_Er_push_93 : decode b_Er_push 93 = .ok (.invokevirtual 74, 3) := by decide +kernel
theorem d_Er_push_96 : decode b_Er_push 96 = .ok (.getfield 92, 3) := by decide +kernel
theorem d_Er_push_99 : decode b_Er_push 99 = .ok (.invokevirtual 95, 3) := by decide +kernel
theorem d_Er_push_102 : decode b_Er_push 102 = .ok (.iinc 3 1, 3) := by decide +kernel
theorem d_Er_push_105 : decode b_Er_push 105 = .ok (.goto (-32), 3) := by decide +kernel
theorem d_Er_push_108 : decode b_Er_push 108 = .ok (.aload_n 2, 1) := by decide +kernel
theorem d_Er_push_109 : decode b_Er_push 109 = .ok (.getfield 99, 3) := by decide +kernel
theorem d_Er_push_112 : decode b_Er_push 112 = .ok (.ireturn, 1) := by decide +kernel
theorem d_Er_quiet_0 : decode b_Er_quiet 0 = .ok (.iconst 1, 1) := by decide +kernel
theorem d_Er_quiet_1 : decode b_Er_quiet 1 = .ok (.istore_n 1, 1) := by decide +kernel
theorem d_Er_quiet_2 : decode b_Er_quiet 2 = .ok (.iload_n 1, 1) := by decide +kernel
theorem d_Er_quiet_3 : decode b_Er_quiet 3 = .ok (.iconst 3, 1) := by decide +kernel
theorem d_Er_quiet_4 : decode b_Er_quiet 4 = .ok (.if_icmp .gt 35, 3) := by decide +kernel
theorem d_Er_quiet_7 : decode b_Er_quiet 7 = .ok (.aload_n 0, 1) := by decide +kernel
theorem d_Er_quiet_8 : decode b_Er_quiet 8 = .ok (.iload_n 1, 1) := by decide +kernel
theorem d_Er_quiet_9 : decode b_Er_quiet 9 = .ok (.iconst 1, 1) := by decide +kernel
theorem d_Er_quiet_10 : decode b_Er_quiet 10 = .ok (.invokevirtual 74, 3) := by decide +kernel
theorem d_Er_quiet_13 : decode b_Er_quiet 13 = .ok (.invokevirtual 102, 3) := by decide +kernel
theorem d_Er_quiet_16 : decode b_Er_quiet 16 = .ok (.ifCond .gt 15, 3) := by decide +kernel
theorem d_Er_quiet_19 : decode b_Er_quiet 19 = .ok (.aload_n 0, 1) := by decide +kernel
theorem d_Er_quiet_20 : decode b_Er_quiet 20 = .ok (.iload_n 1, 1) := by decide +kernel
theorem d_Er_quiet_21 : decode b_Er_quiet 21 = .ok (.iconst 0, 1) := by decide +kernel
theorem d_Er_quiet_22 : decode b_Er_quiet 22 = .ok (.invokevirtual 74, 3) := by decide +kernel
theorem d_Er_quiet_25 : decode b_Er_quiet 25 = .ok (.invokevirtual 102, 3) := by decide +kernel
theorem d_Er_quiet_28 : decode b_Er_quiet 28 = .ok (.ifCond .le 5, 3) := by decide +kernel
theorem d_Er_quiet_31 : decode b_Er_quiet 31 = .ok (.iconst 0, 1) := by decide +kernel
theorem d_Er_quiet_32 : decode b_Er_quiet 32 = .ok (.ireturn, 1) := by decide +kernel
theorem d_Er_quiet_33 : decode b_Er_quiet 33 = .ok (.iinc 1 1, 3) := by decide +kernel
theorem d_Er_quiet_36 : decode b_Er_quiet 36 = .ok (.goto (-34), 3) := by decide +kernel
theorem d_Er_quiet_39 : decode b_Er_quiet 39 = .ok (.iconst 1, 1) := by decide +kernel
theorem d_Er_quiet_40 : decode b_Er_quiet 40 = .ok (.ireturn, 1) := by decide +kernel
theorem d_Er_receive_0 : decode b_Er_receive 0 = .ok (.aload_n 2, 1) := by decide +kernel
theorem d_Er_receive_1 : decode b_Er_receive 1 = .ok (.invokevirtual 149, 3) := by decide +kernel
theorem d_Er_receive_4 : decode b_Er_receive 4 = .ok (.astore 4, 2) := by decide +kernel
theorem d_Er_receive_6 : decode b_Er_receive 6 = .ok (.aload_n 3, 1) := by decide +kernel
theorem d_Er_receive_7 : decode b_Er_receive 7 = .ok (.aload_n 2, 1) := by decide +kernel
theorem d_Er_receive_8 : decode b_Er_receive 8 = .ok (.invokevirtual 153, 3) := by decide +kernel
theorem d_Er_receive_11 : decode b_Er_receive 11 = .ok (.invokevirtual 156, 3) := by decide +kernel
theorem d_Er_receive_14 : decode b_Er_receive 14 = .ok (.aload_n 3, 1) := by decide +kernel
theorem d_Er_receive_15 : decode b_Er_receive 15 = .ok (.aload 4, 2) := by decide +kernel
theorem d_Er_receive_17 : decode b_Er_receive 17 = .ok (.invokevirtual 159, 3) := by decide +kernel
theorem d_Er_receive_20 : decode b_Er_receive 20 = .ok (.aload_n 0, 1) := by decide +kernel
theorem d_Er_receive_21 : decode b_Er_receive 21 = .ok (.getfield 11, 3) := by decide +kernel
theorem d_Er_receive_24 : decode b_Er_receive 24 = .ok (.iload_n 1, 1) := by decide +kernel
theorem d_Er_receive_25 : decode b_Er_receive 25 = .ok (.aaload, 1) := by decide +kernel
theorem d_Er_receive_26 : decode b_Er_receive 26 = .ok (.aload 4, 2) := by decide +kernel
theorem d_Er_receive_28 : decode b_Er_receive 28 = .ok (.invokevirtual 145, 3) := by decide +kernel
theorem d_Er_receive_31 : decode b_Er_receive 31 = .ok (.aload_n 2, 1) := by decide +kernel
theorem d_Er_receive_32 : decode b_Er_receive 32 = .ok (.dup, 1) := by decide +kernel
theorem d_Er_receive_33 : decode b_Er_receive 33 = .ok (.getfield 92, 3) := by decide +kernel
theorem d_Er_receive_36 : decode b_Er_receive 36 = .ok (.iconst 1, 1) := by decide +kernel
theorem d_Er_receive_37 : decode b_Er_receive 37 = .ok (.iadd, 1) := by decide +kernel
theorem d_Er_receive_38 : decode b_Er_receive 38 = .ok (.putfield 92, 3) := by decide +kernel
theorem d_Er_receive_41 : decode b_Er_receive 41 = .ok (.aload 4, 2) := by decide +kernel
theorem d_Er_receive_43 : decode b_Er_receive 43 = .ok (.areturn, 1) := by decide +kernel
theorem d_Er_size_0 : decode b_Er_size 0 = .ok (.iload_n 1, 1) := by decide +kernel
theorem d_Er_size_1 : decode b_Er_size 1 = .ok (.invokestatic 121, 3) := by decide +kernel
theorem d_Er_size_4 : decode b_Er_size 4 = .ok (.aload_n 0, 1) := by decide +kernel
theorem d_Er_size_5 : decode b_Er_size 5 = .ok (.getfield 11, 3) := by decide +kernel
theorem d_Er_size_8 : decode b_Er_size 8 = .ok (.iload_n 1, 1) := by decide +kernel
theorem d_Er_size_9 : decode b_Er_size 9 = .ok (.aaload, 1) := by decide +kernel
theorem d_Er_size_10 : decode b_Er_size 10 = .ok (.getfield 45, 3) := by decide +kernel
theorem d_Er_size_13 : decode b_Er_size 13 = .ok (.ireturn, 1) := by decide +kernel
theorem d_Er_waiting_0 : decode b_Er_waiting 0 = .ok (.iload_n 1, 1) := by decide +kernel
theorem d_Er_waiting_1 : decode b_Er_waiting 1 = .ok (.invokestatic 35, 3) := by decide +kernel
theorem d_Er_waiting_4 : decode b_Er_waiting 4 = .ok (.aload_n 0, 1) := by decide +kernel
theorem d_Er_waiting_5 : decode b_Er_waiting 5 = .ok (.iload_n 1, 1) := by decide +kernel
theorem d_Er_waiting_6 : decode b_Er_waiting 6 = .ok (.iload_n 2, 1) := by decide +kernel
theorem d_Er_waiting_7 : decode b_Er_waiting 7 = .ok (.invokevirtual 74, 3) := by decide +kernel
theorem d_Er_waiting_10 : decode b_Er_waiting 10 = .ok (.invokevirtual 102, 3) := by decide +kernel
theorem d_Er_waiting_13 : decode b_Er_waiting 13 = .ok (.ireturn, 1) := by decide +kernel
theorem d_Er_way_0 : decode b_Er_way 0 = .ok (.iload_n 2, 1) := by decide +kernel
theorem d_Er_way_1 : decode b_Er_way 1 = .ok (.ifCond .eq 14, 3) := by decide +kernel
theorem d_Er_way_4 : decode b_Er_way 4 = .ok (.aload_n 0, 1) := by decide +kernel
theorem d_Er_way_5 : decode b_Er_way 5 = .ok (.getfield 18, 3) := by decide +kernel
theorem d_Er_way_8 : decode b_Er_way 8 = .ok (.iload_n 1, 1) := by decide +kernel
theorem d_Er_way_9 : decode b_Er_way 9 = .ok (.iconst 1, 1) := by decide +kernel
theorem d_Er_way_10 : decode b_Er_way 10 = .ok (.isub, 1) := by decide +kernel
theorem d_Er_way_11 : decode b_Er_way 11 = .ok (.aaload, 1) := by decide +kernel
theorem d_Er_way_12 : decode b_Er_way 12 = .ok (.goto 11, 3) := by decide +kernel
theorem d_Er_way_15 : decode b_Er_way 15 = .ok (.aload_n 0, 1) := by decide +kernel
theorem d_Er_way_16 : decode b_Er_way 16 = .ok (.getfield 22, 3) := by decide +kernel
theorem d_Er_way_19 : decode b_Er_way 19 = .ok (.iload_n 1, 1) := by decide +kernel
theorem d_Er_way_20 : decode b_Er_way 20 = .ok (.iconst 1, 1) := by decide +kernel
theorem d_Er_way_21 : decode b_Er_way 21 = .ok (.isub, 1) := by decide +kernel
theorem d_Er_way_22 : decode b_Er_way 22 = .ok (.aaload, 1) := by decide +kernel
theorem d_Er_way_23 : decode b_Er_way 23 = .ok (.areturn, 1) := by decide +kernel
theorem d_Ma_floorMod_0 : decode b_Ma_floorMod 0 = .ok (.iload_n 0, 1) := by decide +kernel
theorem d_Ma_floorMod_1 : decode b_Ma_floorMod 1 = .ok (.iload_n 1, 1) := by decide +kernel
theorem d_Ma_floorMod_2 : decode b_Ma_floorMod 2 = .ok (.irem, 1) := by decide +kernel
theorem d_Ma_floorMod_3 : decode b_Ma_floorMod 3 = .ok (.istore_n 2, 1) := by decide +kernel
theorem d_Ma_floorMod_4 : decode b_Ma_floorMod 4 = .ok (.iload_n 0, 1) := by decide +kernel
theorem d_Ma_floorMod_5 : decode b_Ma_floorMod 5 = .ok (.iload_n 1, 1) := by decide +kernel
theorem d_Ma_floorMod_6 : decode b_Ma_floorMod 6 = .ok (.ixor, 1) := by decide +kernel
theorem d_Ma_floorMod_7 : decode b_Ma_floorMod 7 = .ok (.ifCond .ge 11, 3) := by decide +kernel
theorem d_Ma_floorMod_10 : decode b_Ma_floorMod 10 = .ok (.iload_n 2, 1) := by decide +kernel
theorem d_Ma_floorMod_11 : decode b_Ma_floorMod 11 = .ok (.ifCond .eq 7, 3) := by decide +kernel
theorem d_Ma_floorMod_14 : decode b_Ma_floorMod 14 = .ok (.iload_n 2, 1) := by decide +kernel
theorem d_Ma_floorMod_15 : decode b_Ma_floorMod 15 = .ok (.iload_n 1, 1) := by decide +kernel
theorem d_Ma_floorMod_16 : decode b_Ma_floorMod 16 = .ok (.iadd, 1) := by decide +kernel
theorem d_Ma_floorMod_17 : decode b_Ma_floorMod 17 = .ok (.ireturn, 1) := by decide +kernel
theorem d_Ma_floorMod_18 : decode b_Ma_floorMod 18 = .ok (.iload_n 2, 1) := by decide +kernel
theorem d_Ma_floorMod_19 : decode b_Ma_floorMod 19 = .ok (.ireturn, 1) := by decide +kernel
theorem d_Ma_max_0 : decode b_Ma_max 0 = .ok (.iload_n 0, 1) := by decide +kernel
theorem d_Ma_max_1 : decode b_Ma_max 1 = .ok (.iload_n 1, 1) := by decide +kernel
theorem d_Ma_max_2 : decode b_Ma_max 2 = .ok (.if_icmp .lt 7, 3) := by decide +kernel
theorem d_Ma_max_5 : decode b_Ma_max 5 = .ok (.iload_n 0, 1) := by decide +kernel
theorem d_Ma_max_6 : decode b_Ma_max 6 = .ok (.goto 4, 3) := by decide +kernel
theorem d_Ma_max_9 : decode b_Ma_max 9 = .ok (.iload_n 1, 1) := by decide +kernel
theorem d_Ma_max_10 : decode b_Ma_max 10 = .ok (.ireturn, 1) := by decide +kernel
theorem d_Tx_init_0 : decode b_Tx_init 0 = .ok (.aload_n 0, 1) := by decide +kernel
theorem d_Tx_init_1 : decode b_Tx_init 1 = .ok (.invokespecial 3, 3) := by decide +kernel
theorem d_Tx_init_4 : decode b_Tx_init 4 = .ok (.aload_n 0, 1) := by decide +kernel
theorem d_Tx_init_5 : decode b_Tx_init 5 = .ok (.bipush 64, 2) := by decide +kernel
theorem d_Tx_init_7 : decode b_Tx_init 7 = .ok (.newarray .char, 2) := by decide +kernel
theorem d_Tx_init_9 : decode b_Tx_init 9 = .ok (.putfield 9, 3) := by decide +kernel
theorem d_Tx_init_12 : decode b_Tx_init 12 = .ok (.return_, 1) := by decide +kernel
theorem d_Tx_isSameAs_0 : decode b_Tx_isSameAs 0 = .ok (.aload_n 0, 1) := by decide +kernel
theorem d_Tx_isSameAs_1 : decode b_Tx_isSameAs 1 = .ok (.getfield 36, 3) := by decide +kernel
theorem d_Tx_isSameAs_4 : decode b_Tx_isSameAs 4 = .ok (.aload_n 1, 1) := by decide +kernel
theorem d_Tx_isSameAs_5 : decode b_Tx_isSameAs 5 = .ok (.getfield 36, 3) := by decide +kernel
theorem d_Tx_isSameAs_8 : decode b_Tx_isSameAs 8 = .ok (.if_icmp .eq 5, 3) := by decide +kernel
theorem d_Tx_isSameAs_11 : decode b_Tx_isSameAs 11 = .ok (.iconst 0, 1) := by decide +kernel
theorem d_Tx_isSameAs_12 : decode b_Tx_isSameAs 12 = .ok (.ireturn, 1) := by decide +kernel
theorem d_Tx_isSameAs_13 : decode b_Tx_isSameAs 13 = .ok (.iconst 0, 1) := by decide +kernel
theorem d_Tx_isSameAs_14 : decode b_Tx_isSameAs 14 = .ok (.istore_n 2, 1) := by decide +kernel
theorem d_Tx_isSameAs_15 : decode b_Tx_isSameAs 15 = .ok (.iload_n 2, 1) := by decide +kernel
theorem d_Tx_isSameAs_16 : decode b_Tx_isSameAs 16 = .ok (.aload_n 0, 1) := by decide +kernel
theorem d_Tx_isSameAs_17 : decode b_Tx_isSameAs 17 = .ok (.getfield 36, 3) := by decide +kernel
theorem d_Tx_isSameAs_20 : decode b_Tx_isSameAs 20 = .ok (.if_icmp .ge 26, 3) := by decide +kernel
theorem d_Tx_isSameAs_23 : decode b_Tx_isSameAs 23 = .ok (.aload_n 0, 1) := by decide +kernel
theorem d_Tx_isSameAs_24 : decode b_Tx_isSameAs 24 = .ok (.getfield 9, 3) := by decide +kernel
theorem d_Tx_isSameAs_27 : decode b_Tx_isSameAs 27 = .ok (.iload_n 2, 1) := by decide +kernel
theorem d_Tx_isSameAs_28 : decode b_Tx_isSameAs 28 = .ok (.caload, 1) := by decide +kernel
theorem d_Tx_isSameAs_29 : decode b_Tx_isSameAs 29 = .ok (.aload_n 1, 1) := by decide +kernel
theorem d_Tx_isSameAs_30 : decode b_Tx_isSameAs 30 = .ok (.getfield 9, 3) := by decide +kernel
theorem d_Tx_isSameAs_33 : decode b_Tx_isSameAs 33 = .ok (.iload_n 2, 1) := by decide +kernel
theorem d_Tx_isSameAs_34 : decode b_Tx_isSameAs 34 = .ok (.caload, 1) := by decide +kernel
theorem d_Tx_isSameAs_35 : decode b_Tx_isSameAs 35 = .ok (.if_icmp .eq 5, 3) := by decide +kernel
theorem d_Tx_isSameAs_38 : decode b_Tx_isSameAs 38 = .ok (.iconst 0, 1) := by decide +kernel
theorem d_Tx_isSameAs_39 : decode b_Tx_isSameAs 39 = .ok (.ireturn, 1) := by decide +kernel
theorem d_Tx_isSameAs_40 : decode b_Tx_isSameAs 40 = .ok (.iinc 2 1, 3) := by decide +kernel
theorem d_Tx_isSameAs_43 : decode b_Tx_isSameAs 43 = .ok (.goto (-28), 3) := by decide +kernel
theorem d_Tx_isSameAs_46 : decode b_Tx_isSameAs 46 = .ok (.iconst 1, 1) := by decide +kernel
theorem d_Tx_isSameAs_47 : decode b_Tx_isSameAs 47 = .ok (.ireturn, 1) := by decide +kernel
theorem d_Tx_perform_0 : decode b_Tx_perform 0 = .ok (.aload_n 1, 1) := by decide +kernel
theorem d_Tx_perform_1 : decode b_Tx_perform 1 = .ok (.getfield 15, 3) := by decide +kernel
theorem d_Tx_perform_4 : decode b_Tx_perform 4 = .ok (.ifCond .ne 18, 3) := by decide +kernel
theorem d_Tx_perform_7 : decode b_Tx_perform 7 = .ok (.aload_n 0, 1) := by decide +kernel
theorem d_Tx_perform_8 : decode b_Tx_perform 8 = .ok (.aload_n 1, 1) := by decide +kernel
theorem d_Tx_perform_9 : decode b_Tx_perform 9 = .ok (.getfield 21, 3) := by decide +kernel
theorem d_Tx_perform_12 : decode b_Tx_perform 12 = .ok (.aload_n 1, 1) := by decide +kernel
theorem d_Tx_perform_13 : decode b_Tx_perform 13 = .ok (.getfield 24, 3) := by decide +kernel
theorem d_Tx_perform_16 : decode b_Tx_perform 16 = .ok (.invokevirtual 28, 3) := by decide +kernel
theorem d_Tx_perform_19 : decode b_Tx_perform 19 = .ok (.goto 19, 3) := by decide +kernel
theorem d_Tx_perform_22 : decode b_Tx_perform 22 = .ok (.aload_n 1, 1) := by decide +kernel
theorem d_Tx_perform_23 : decode b_Tx_perform 23 = .ok (.getfield 15, 3) := by decide +kernel
theorem d_Tx_perform_26 : decode b_Tx_perform 26 = .ok (.iconst 1, 1) := by decide +kernel
theorem d_Tx_perform_27 : decode b_Tx_perform 27 = .ok (.if_icmp .ne 11, 3) := by decide +kernel
theorem d_Tx_perform_30 : decode b_Tx_perform 30 = .ok (.aload_n 0, 1) := by decide +kernel
theorem d_Tx_perform_31 : decode b_Tx_perform 31 = .ok (.aload_n 1, 1) := by decide +kernel
theorem d_Tx_perform_32 : decode b_Tx_perform 32 = .ok (.getfield 21, 3) := by decide +kernel
theorem d_Tx_perform_35 : decode b_Tx_perform 35 = .ok (.invokevirtual 32, 3) := by decide +kernel
theorem d_Tx_perform_38 : decode b_Tx_perform 38 = .ok (.return_, 1) := by decide +kernel
theorem d_Tx_put_0 : decode b_Tx_put 0 = .ok (.iload_n 1, 1) := by decide +kernel
theorem d_Tx_put_1 : decode b_Tx_put 1 = .ok (.ifCond .lt 20, 3) := by decide +kernel
theorem d_Tx_put_4 : decode b_Tx_put 4 = .ok (.iload_n 1, 1) := by decide +kernel
theorem d_Tx_put_5 : decode b_Tx_put 5 = .ok (.aload_n 0, 1) := by decide +kernel
theorem d_Tx_put_6 : decode b_Tx_put 6 = .ok (.getfield 36, 3) := by decide +kernel
theorem d_Tx_put_9 : decode b_Tx_put 9 = .ok (.if_icmp .gt 12, 3) := by decide +kernel
theorem d_Tx_put_12 : decode b_Tx_put 12 = .ok (.aload_n 0, 1) := by decide +kernel
theorem d_Tx_put_13 : decode b_Tx_put 13 = .ok (.getfield 36, 3) := by decide +kernel
theorem d_Tx_put_16 : decode b_Tx_put 16 = .ok (.bipush 64, 2) := by decide +kernel
theorem d_Tx_put_18 : decode b_Tx_put 18 = .ok (.if_icmp .lt 4, 3) := by decide +kernel
theorem d_Tx_put_21 : decode b_Tx_put 21 = .ok (.return_, 1) := by decide +kernel
theorem d_Tx_put_22 : decode b_Tx_put 22 = .ok (.aload_n 0, 1) := by decide +kernel
theorem d_Tx_put_23 : decode b_Tx_put 23 = .ok (.getfield 9, 3) := by decide +kernel
theorem d_Tx_put_26 : decode b_Tx_put 26 = .ok (.iload_n 1, 1) := by decide +kernel
theorem d_Tx_put_27 : decode b_Tx_put 27 = .ok (.aload_n 0, 1) := by decide +kernel
theorem d_Tx_put_28 : decode b_Tx_put 28 = .ok (.getfield 9, 3) := by decide +kernel
theorem d_Tx_put_31 : decode b_Tx_put 31 = .ok (.iload_n 1, 1) := by decide +kernel
theorem d_Tx_put_32 : decode b_Tx_put 32 = .ok (.iconst 1, 1) := by decide +kernel
theorem d_Tx_put_33 : decode b_Tx_put 33 = .ok (.iadd, 1) := by decide +kernel
theorem d_Tx_put_34 : decode b_Tx_put 34 = .ok (.aload_n 0, 1) := by decide +kernel
theorem d_Tx_put_35 : decode b_Tx_put 35 = .ok (.getfield 36, 3) := by decide +kernel
theorem d_Tx_put_38 : decode b_Tx_put 38 = .ok (.iload_n 1, 1) := by decide +kernel
theorem d_Tx_put_39 : decode b_Tx_put 39 = .ok (.isub, 1) := by decide +kernel
theorem d_Tx_put_40 : decode b_Tx_put 40 = .ok (.invokestatic 39, 3) := by decide +kernel
theorem d_Tx_put_43 : decode b_Tx_put 43 = .ok (.aload_n 0, 1) := by decide +kernel
theorem d_Tx_put_44 : decode b_Tx_put 44 = .ok (.getfield 9, 3) := by decide +kernel
theorem d_Tx_put_47 : decode b_Tx_put 47 = .ok (.iload_n 1, 1) := by decide +kernel
theorem d_Tx_put_48 : decode b_Tx_put 48 = .ok (.iload_n 2, 1) := by decide +kernel
theorem d_Tx_put_49 : decode b_Tx_put 49 = .ok (.castore, 1) := by decide +kernel
theorem d_Tx_put_50 : decode b_Tx_put 50 = .ok (.aload_n 0, 1) := by decide +kernel
theorem d_Tx_put_51 : decode b_Tx_put 51 = .ok (.dup, 1) := by decide +kernel
theorem d_Tx_put_52 : decode b_Tx_put 52 = .ok (.getfield 36, 3) := by decide +kernel
theorem d_Tx_put_55 : decode b_Tx_put 55 = .ok (.iconst 1, 1) := by decide +kernel
theorem d_Tx_put_56 : decode b_Tx_put 56 = .ok (.iadd, 1) := by decide +kernel
theorem d_Tx_put_57 : decode b_Tx_put 57 = .ok (.putfield 36, 3) := by decide +kernel
theorem d_Tx_put_60 : decode b_Tx_put 60 = .ok (.return_, 1) := by decide +kernel
theorem d_Tx_remove_0 : decode b_Tx_remove 0 = .ok (.iload_n 1, 1) := by decide +kernel
theorem d_Tx_remove_1 : decode b_Tx_remove 1 = .ok (.ifCond .lt 11, 3) := by decide +kernel
theorem d_Tx_remove_4 : decode b_Tx_remove 4 = .ok (.iload_n 1, 1) := by decide +kernel
theorem d_Tx_remove_5 : decode b_Tx_remove 5 = .ok (.aload_n 0, 1) := by decide +kernel
theorem d_Tx_remove_6 : decode b_Tx_remove 6 = .ok (.getfield 36, 3) := by decide +kernel
theorem d_Tx_remove_9 : decode b_Tx_remove 9 = .ok (.if_icmp .lt 4, 3) := by decide +kernel
theorem d_Tx_remove_12 : decode b_Tx_remove 12 = .ok (.return_, 1) := by decide +kernel
theorem d_Tx_remove_13 : decode b_Tx_remove 13 = .ok (.aload_n 0, 1) := by decide +kernel
theorem d_Tx_remove_14 : decode b_Tx_remove 14 = .ok (.getfield 9, 3) := by decide +kernel
theorem d_Tx_remove_17 : decode b_Tx_remove 17 = .ok (.iload_n 1, 1) := by decide +kernel
theorem d_Tx_remove_18 : decode b_Tx_remove 18 = .ok (.iconst 1, 1) := by decide +kernel
theorem d_Tx_remove_19 : decode b_Tx_remove 19 = .ok (.iadd, 1) := by decide +kernel
theorem d_Tx_remove_20 : decode b_Tx_remove 20 = .ok (.aload_n 0, 1) := by decide +kernel
theorem d_Tx_remove_21 : decode b_Tx_remove 21 = .ok (.getfield 9, 3) := by decide +kernel
theorem d_Tx_remove_24 : decode b_Tx_remove 24 = .ok (.iload_n 1, 1) := by decide +kernel
theorem d_Tx_remove_25 : decode b_Tx_remove 25 = .ok (.aload_n 0, 1) := by decide +kernel
theorem d_Tx_remove_26 : decode b_Tx_remove 26 = .ok (.getfield 36, 3) := by decide +kernel
theorem d_Tx_remove_29 : decode b_Tx_remove 29 = .ok (.iload_n 1, 1) := by decide +kernel
theorem d_Tx_remove_30 : decode b_Tx_remove 30 = .ok (.isub, 1) := by decide +kernel
theorem d_Tx_remove_31 : decode b_Tx_remove 31 = .ok (.iconst 1, 1) := by decide +kernel
theorem d_Tx_remove_32 : decode b_Tx_remove 32 = .ok (.isub, 1) := by decide +kernel
theorem d_Tx_remove_33 : decode b_Tx_remove 33 = .ok (.invokestatic 39, 3) := by decide +kernel
theorem d_Tx_remove_36 : decode b_Tx_remove 36 = .ok (.aload_n 0, 1) := by decide +kernel
theorem d_Tx_remove_37 : decode b_Tx_remove 37 = .ok (.dup, 1) := by decide +kernel
theorem d_Tx_remove_38 : decode b_Tx_remove 38 = .ok (.getfield 36, 3) := by decide +kernel
theorem d_Tx_remove_41 : decode b_Tx_remove 41 = .ok (.iconst 1, 1) := by decide +kernel
theorem d_Tx_remove_42 : decode b_Tx_remove 42 = .ok (.isub, 1) := by decide +kernel
theorem d_Tx_remove_43 : decode b_Tx_remove 43 = .ok (.putfield 36, 3) := by decide +kernel
theorem d_Tx_remove_46 : decode b_Tx_remove 46 = .ok (.return_, 1) := by decide +kernel
theorem d_Wy_fitOpenChanges_0 : decode b_Wy_fitOpenChanges 0 = .ok (.aload_n 0, 1) := by decide +kernel
theorem d_Wy_fitOpenChanges_1 : decode b_Wy_fitOpenChanges 1 = .ok (.invokevirtual 36, 3) := by decide +kernel
theorem d_Wy_fitOpenChanges_4 : decode b_Wy_fitOpenChanges 4 = .ok (.istore_n 2, 1) := by decide +kernel
theorem d_Wy_fitOpenChanges_5 : decode b_Wy_fitOpenChanges 5 = .ok (.iconst 0, 1) := by decide +kernel
theorem d_Wy_fitOpenChanges_6 : decode b_Wy_fitOpenChanges 6 = .ok (.istore_n 3, 1) := by decide +kernel
theorem d_Wy_fitOpenChanges_7 : decode b_Wy_fitOpenChanges 7 = .ok (.iload_n 3, 1) := by decide +kernel
theorem d_Wy_fitOpenChanges_8 : decode b_Wy_fitOpenChanges 8 = .ok (.iload_n 2, 1) := by decide +kernel
theorem d_Wy_fitOpenChanges_9 : decode b_Wy_fitOpenChanges 9 = .ok (.if_icmp .ge 18, 3) := by decide +kernel
theorem d_Wy_fitOpenChanges_12 : decode b_Wy_fitOpenChanges 12 = .ok (.aload_n 1, 1) := by decide +kernel
theorem d_Wy_fitOpenChanges_13 : decode b_Wy_fitOpenChanges 13 = .ok (.aload_n 0, 1) := by decide +kernel
theorem d_Wy_fitOpenChanges_14 : decode b_Wy_fitOpenChanges 14 = .ok (.iload_n 3, 1) := by decide +kernel
theorem d_Wy_fitOpenChanges_15 : decode b_Wy_fitOpenChanges 15 = .ok (.invokevirtual 54, 3) := by decide +kernel
theorem d_Wy_fitOpenChanges_18 : decode b_Wy_fitOpenChanges 18 = .ok (.invokestatic 58, 3) := by decide +kernel
theorem d_Wy_fitOpenChanges_21 : decode b_Wy_fitOpenChanges 21 = .ok (.iinc 3 1, 3) := by decide +kernel
theorem d_Wy_fitOpenChanges_24 : decode b_Wy_fitOpenChanges 24 = .ok (.goto (-17), 3) := by decide +kernel
theorem d_Wy_fitOpenChanges_27 : decode b_Wy_fitOpenChanges 27 = .ok (.return_, 1) := by decide +kernel
theorem d_Wy_forget_0 : decode b_Wy_forget 0 = .ok (.aload_n 0, 1) := by decide +kernel
theorem d_Wy_forget_1 : decode b_Wy_forget 1 = .ok (.aload_n 0, 1) := by decide +kernel
theorem d_Wy_forget_2 : decode b_Wy_forget 2 = .ok (.getfield 33, 3) := by decide +kernel
theorem d_Wy_forget_5 : decode b_Wy_forget 5 = .ok (.iload_n 1, 1) := by decide +kernel
theorem d_Wy_forget_6 : decode b_Wy_forget 6 = .ok (.invokestatic 48, 3) := by decide +kernel
theorem d_Wy_forget_9 : decode b_Wy_forget 9 = .ok (.putfield 33, 3) := by decide +kernel
theorem d_Wy_forget_12 : decode b_Wy_forget 12 = .ok (.return_, 1) := by decide +kernel
theorem d_Wy_init_0 : decode b_Wy_init 0 = .ok (.aload_n 0, 1) := by decide +kernel
theorem d_Wy_init_1 : decode b_Wy_init 1 = .ok (.invokespecial 1, 3) := by decide +kernel
theorem d_Wy_init_4 : decode b_Wy_init 4 = .ok (.aload_n 0, 1) := by decide +kernel
theorem d_Wy_init_5 : decode b_Wy_init 5 = .ok (.iload_n 1, 1) := by decide +kernel
theorem d_Wy_init_6 : decode b_Wy_init 6 = .ok (.putfield 7, 3) := by decide +kernel
theorem d_Wy_init_9 : decode b_Wy_init 9 = .ok (.aload_n 0, 1) := by decide +kernel
theorem d_Wy_init_10 : decode b_Wy_init 10 = .ok (.iload_n 1, 1) := by decide +kernel
theorem d_Wy_init_11 : decode b_Wy_init 11 = .ok (.anewarray 13, 3) := by decide +kernel
theorem d_Wy_init_14 : decode b_Wy_init 14 = .ok (.putfield 15, 3) := by decide +kernel
theorem d_Wy_init_17 : decode b_Wy_init 17 = .ok (.aload_n 0, 1) := by decide +kernel
theorem d_Wy_init_18 : decode b_Wy_init 18 = .ok (.iload_n 1, 1) := by decide +kernel
theorem d_Wy_init_19 : decode b_Wy_init 19 = .ok (.anewarray 13, 3) := by decide +kernel
theorem d_Wy_init_22 : decode b_Wy_init 22 = .ok (.putfield 19, 3) := by decide +kernel
theorem d_Wy_init_25 : decode b_Wy_init 25 = .ok (.aload_n 0, 1) := by decide +kernel
theorem d_Wy_init_26 : decode b_Wy_init 26 = .ok (.iload_n 1, 1) := by decide +kernel
theorem d_Wy_init_27 : decode b_Wy_init 27 = .ok (.newarray .int, 2) := by decide +kernel
theorem d_Wy_init_29 : decode b_Wy_init 29 = .ok (.putfield 22, 3) := by decide +kernel
theorem d_Wy_init_32 : decode b_Wy_init 32 = .ok (.iconst 0, 1) := by decide +kernel
theorem d_Wy_init_33 : decode b_Wy_init 33 = .ok (.istore_n 2, 1) := by decide +kernel
theorem d_Wy_init_34 : decode b_Wy_init 34 = .ok (.iload_n 2, 1) := by decide +kernel
theorem d_Wy_init_35 : decode b_Wy_init 35 = .ok (.iload_n 1, 1) := by decide +kernel
theorem d_Wy_init_36 : decode b_Wy_init 36 = .ok (.if_icmp .ge 35, 3) := by decide +kernel
theorem d_Wy_init_39 : decode b_Wy_init 39 = .ok (.aload_n 0, 1) := by decide +kernel
theorem d_Wy_init_40 : decode b_Wy_init 40 = .ok (.getfield 15, 3) := by decide +kernel
theorem d_Wy_init_43 : decode b_Wy_init 43 = .ok (.iload_n 2, 1) := by decide +kernel
theorem d_Wy_init_44 : decode b_Wy_init 44 = .ok (.new 13, 3) := by decide +kernel
theorem d_Wy_init_47 : decode b_Wy_init 47 = .ok (.dup, 1) := by decide +kernel
theorem d_Wy_init_48 : decode b_Wy_init 48 = .ok (.invokespecial 26, 3) := by decide +kernel
theorem d_Wy_init_51 : decode b_Wy_init 51 = .ok (.aastore, 1) := by decide +kernel
theorem d_Wy_init_52 : decode b_Wy_init 52 = .ok (.aload_n 0, 1) := by decide +kernel
theorem d_Wy_init_53 : decode b_Wy_init 53 = .ok (.getfield 19, 3) := by decide +kernel
theorem d_Wy_init_56 : decode b_Wy_init 56 = .ok (.iload_n 2, 1) := by decide +kernel
theorem d_Wy_init_57 : decode b_Wy_init 57 = .ok (.new 13, 3) := by decide +kernel
theorem d_Wy_init_60 : decode b_Wy_init 60 = .ok (.dup, 1) := by decide +kernel
theorem d_Wy_init_61 : decode b_Wy_init 61 = .ok (.invokespecial 26, 3) := by decide +kernel
theorem d_Wy_init_64 : decode b_Wy_init 64 = .ok (.aastore, 1) := by decide +kernel
theorem d_Wy_init_65 : decode b_Wy_init 65 = .ok (.iinc 2 1, 3) := by decide +kernel
theorem d_Wy_init_68 : decode b_Wy_init 68 = .ok (.goto (-34), 3) := by decide +kernel
theorem d_Wy_init_71 : decode b_Wy_init 71 = .ok (.return_, 1) := by decide +kernel
theorem d_Wy_isFull_0 : decode b_Wy_isFull 0 = .ok (.aload_n 0, 1) := by decide +kernel
theorem d_Wy_isFull_1 : decode b_Wy_isFull 1 = .ok (.invokevirtual 36, 3) := by decide +kernel
theorem d_Wy_isFull_4 : decode b_Wy_isFull 4 = .ok (.aload_n 0, 1) := by decide +kernel
theorem d_Wy_isFull_5 : decode b_Wy_isFull 5 = .ok (.getfield 7, 3) := by decide +kernel
theorem d_Wy_isFull_8 : decode b_Wy_isFull 8 = .ok (.if_icmp .lt 7, 3) := by decide +kernel
theorem d_Wy_isFull_11 : decode b_Wy_isFull 11 = .ok (.iconst 1, 1) := by decide +kernel
theorem d_Wy_isFull_12 : decode b_Wy_isFull 12 = .ok (.goto 4, 3) := by decide +kernel
theorem d_Wy_isFull_15 : decode b_Wy_isFull 15 = .ok (.iconst 0, 1) := by decide +kernel
theorem d_Wy_isFull_16 : decode b_Wy_isFull 16 = .ok (.ireturn, 1) := by decide +kernel
theorem d_Wy_oldestChange_0 : decode b_Wy_oldestChange 0 = .ok (.aload_n 0, 1) := by decide +kernel
theorem d_Wy_oldestChange_1 : decode b_Wy_oldestChange 1 = .ok (.getfield 15, 3) := by decide +kernel
theorem d_Wy_oldestChange_4 : decode b_Wy_oldestChange 4 = .ok (.aload_n 0, 1) := by decide +kernel
theorem d_Wy_oldestChange_5 : decode b_Wy_oldestChange 5 = .ok (.aload_n 0, 1) := by decide +kernel
theorem d_Wy_oldestChange_6 : decode b_Wy_oldestChange 6 = .ok (.getfield 30, 3) := by decide +kernel
theorem d_Wy_oldestChange_9 : decode b_Wy_oldestChange 9 = .ok (.invokevirtual 40, 3) := by decide +kernel
theorem d_Wy_oldestChange_12 : decode b_Wy_oldestChange 12 = .ok (.aaload, 1) := by decide +kernel
theorem d_Wy_oldestChange_13 : decode b_Wy_oldestChange 13 = .ok (.areturn, 1) := by decide +kernel
theorem d_Wy_oldestHeard_0 : decode b_Wy_oldestHeard 0 = .ok (.aload_n 0, 1) := by decide +kernel
theorem d_Wy_oldestHeard_1 : decode b_Wy_oldestHeard 1 = .ok (.getfield 22, 3) := by decide +kernel
theorem d_Wy_oldestHeard_4 : decode b_Wy_oldestHeard 4 = .ok (.aload_n 0, 1) := by decide +kernel
theorem d_Wy_oldestHeard_5 : decode b_Wy_oldestHeard 5 = .ok (.aload_n 0, 1) := by decide +kernel
theorem d_Wy_oldestHeard_6 : decode b_Wy_oldestHeard 6 = .ok (.getfield 30, 3) := by decide +kernel
theorem d_Wy_oldestHeard_9 : decode b_Wy_oldestHeard 9 = .ok (.invokevirtual 40, 3) := by decide +kernel
theorem d_Wy_oldestHeard_12 : decode b_Wy_oldestHeard 12 = .ok (.iaload, 1) := by decide +kernel
theorem d_Wy_oldestHeard_13 : decode b_Wy_oldestHeard 13 = .ok (.ireturn, 1) := by decide +kernel
theorem d_Wy_openChange_0 : decode b_Wy_openChange 0 = .ok (.aload_n 0, 1) := by decide +kernel
theorem d_Wy_openChange_1 : decode b_Wy_openChange 1 = .ok (.getfield 19, 3) := by decide +kernel
theorem d_Wy_openChange_4 : decode b_Wy_openChange 4 = .ok (.aload_n 0, 1) := by decide +kernel
theorem d_Wy_openChange_5 : decode b_Wy_openChange 5 = .ok (.aload_n 0, 1) := by decide +kernel
theorem d_Wy_openChange_6 : decode b_Wy_openChange 6 = .ok (.getfield 33, 3) := by decide +kernel
theorem d_Wy_openChange_9 : decode b_Wy_openChange 9 = .ok (.iload_n 1, 1) := by decide +kernel
theorem d_Wy_openChange_10 : decode b_Wy_openChange 10 = .ok (.iadd, 1) := by decide +kernel
theorem d_Wy_openChange_11 : decode b_Wy_openChange 11 = .ok (.invokevirtual 40, 3) := by decide +kernel
theorem d_Wy_openChange_14 : decode b_Wy_openChange 14 = .ok (.aaload, 1) := by decide +kernel
theorem d_Wy_openChange_15 : decode b_Wy_openChange 15 = .ok (.areturn, 1) := by decide +kernel
theorem d_Wy_openCount_0 : decode b_Wy_openCount 0 = .ok (.aload_n 0, 1) := by decide +kernel
theorem d_Wy_openCount_1 : decode b_Wy_openCount 1 = .ok (.getfield 27, 3) := by decide +kernel
theorem d_Wy_openCount_4 : decode b_Wy_openCount 4 = .ok (.aload_n 0, 1) := by decide +kernel
theorem d_Wy_openCount_5 : decode b_Wy_openCount 5 = .ok (.getfield 33, 3) := by decide +kernel
theorem d_Wy_openCount_8 : decode b_Wy_openCount 8 = .ok (.isub, 1) := by decide +kernel
theorem d_Wy_openCount_9 : decode b_Wy_openCount 9 = .ok (.ireturn, 1) := by decide +kernel
theorem d_Wy_send_0 : decode b_Wy_send 0 = .ok (.aload_n 0, 1) := by decide +kernel
theorem d_Wy_send_1 : decode b_Wy_send 1 = .ok (.aload_n 0, 1) := by decide +kernel
theorem d_Wy_send_2 : decode b_Wy_send 2 = .ok (.getfield 27, 3) := by decide +kernel
theorem d_Wy_send_5 : decode b_Wy_send 5 = .ok (.invokevirtual 40, 3) := by decide +kernel
theorem d_Wy_send_8 : decode b_Wy_send 8 = .ok (.istore_n 3, 1) := by decide +kernel
theorem d_Wy_send_9 : decode b_Wy_send 9 = .ok (.aload_n 0, 1) := by decide +kernel
theorem d_Wy_send_10 : decode b_Wy_send 10 = .ok (.getfield 15, 3) := by decide +kernel
theorem d_Wy_send_13 : decode b_Wy_send 13 = .ok (.iload_n 3, 1) := by decide +kernel
theorem d_Wy_send_14 : decode b_Wy_send 14 = .ok (.aaload, 1) := by decide +kernel
theorem d_Wy_send_15 : decode b_Wy_send 15 = .ok (.aload_n 1, 1) := by decide +kernel
theorem d_Wy_send_16 : decode b_Wy_send 16 = .ok (.invokevirtual 44, 3) := by decide +kernel
theorem d_Wy_send_19 : decode b_Wy_send 19 = .ok (.aload_n 0, 1) := by decide +kernel
theorem d_Wy_send_20 : decode b_Wy_send 20 = .ok (.getfield 19, 3) := by decide +kernel
theorem d_Wy_send_23 : decode b_Wy_send 23 = .ok (.iload_n 3, 1) := by decide +kernel
theorem d_Wy_send_24 : decode b_Wy_send 24 = .ok (.aaload, 1) := by decide +kernel
theorem d_Wy_send_25 : decode b_Wy_send 25 = .ok (.aload_n 1, 1) := by decide +kernel
theorem d_Wy_send_26 : decode b_Wy_send 26 = .ok (.invokevirtual 44, 3) := by decide +kernel
theorem d_Wy_send_29 : decode b_Wy_send 29 = .ok (.aload_n 0, 1) := by decide +kernel
theorem d_Wy_send_30 : decode b_Wy_send 30 = .ok (.getfield 22, 3) := by decide +kernel
theorem d_Wy_send_33 : decode b_Wy_send 33 = .ok (.iload_n 3, 1) := by decide +kernel
theorem d_Wy_send_34 : decode b_Wy_send 34 = .ok (.iload_n 2, 1) := by decide +kernel
theorem d_Wy_send_35 : decode b_Wy_send 35 = .ok (.iastore, 1) := by decide +kernel
theorem d_Wy_send_36 : decode b_Wy_send 36 = .ok (.aload_n 0, 1) := by decide +kernel
theorem d_Wy_send_37 : decode b_Wy_send 37 = .ok (.dup, 1) := by decide +kernel
theorem d_Wy_send_38 : decode b_Wy_send 38 = .ok (.getfield 27, 3) := by decide +kernel
theorem d_Wy_send_41 : decode b_Wy_send 41 = .ok (.iconst 1, 1) := by decide +kernel
theorem d_Wy_send_42 : decode b_Wy_send 42 = .ok (.iadd, 1) := by decide +kernel
theorem d_Wy_send_43 : decode b_Wy_send 43 = .ok (.putfield 27, 3) := by decide +kernel
theorem d_Wy_send_46 : decode b_Wy_send 46 = .ok (.return_, 1) := by decide +kernel
theorem d_Wy_slotOf_0 : decode b_Wy_slotOf 0 = .ok (.iload_n 1, 1) := by decide +kernel
theorem d_Wy_slotOf_1 : decode b_Wy_slotOf 1 = .ok (.aload_n 0, 1) := by decide +kernel
theorem d_Wy_slotOf_2 : decode b_Wy_slotOf 2 = .ok (.getfield 7, 3) := by decide +kernel
theorem d_Wy_slotOf_5 : decode b_Wy_slotOf 5 = .ok (.invokestatic 62, 3) := by decide +kernel
theorem d_Wy_slotOf_8 : decode b_Wy_slotOf 8 = .ok (.ireturn, 1) := by decide +kernel
theorem d_Wy_waitingCount_0 : decode b_Wy_waitingCount 0 = .ok (.aload_n 0, 1) := by decide +kernel
theorem d_Wy_waitingCount_1 : decode b_Wy_waitingCount 1 = .ok (.getfield 27, 3) := by decide +kernel
theorem d_Wy_waitingCount_4 : decode b_Wy_waitingCount 4 = .ok (.aload_n 0, 1) := by decide +kernel
theorem d_Wy_waitingCount_5 : decode b_Wy_waitingCount 5 = .ok (.getfield 30, 3) := by decide +kernel
theorem d_Wy_waitingCount_8 : decode b_Wy_waitingCount 8 = .ok (.isub, 1) := by decide +kernel
theorem d_Wy_waitingCount_9 : decode b_Wy_waitingCount 9 = .ok (.ireturn, 1) := by decide +kernel
