/-! each instruction, decoded (written by wip/whole/names.py) -/
theorem d_Mo_alike_0 : decode b_Mo_alike 0 = .ok (.aload_n 0, 1) := by decide +kernel
theorem d_Mo_alike_1 : decode b_Mo_alike 1 = .ok (.iconst 0, 1) := by decide +kernel
theorem d_Mo_alike_2 : decode b_Mo_alike 2 = .ok (.putfield 56, 3) := by decide +kernel
theorem d_Mo_alike_5 : decode b_Mo_alike 5 = .ok (.iconst 1, 1) := by decide +kernel
theorem d_Mo_alike_6 : decode b_Mo_alike 6 = .ok (.istore_n 1, 1) := by decide +kernel
theorem d_Mo_alike_7 : decode b_Mo_alike 7 = .ok (.iconst 1, 1) := by decide +kernel
theorem d_Mo_alike_8 : decode b_Mo_alike 8 = .ok (.istore_n 2, 1) := by decide +kernel
theorem d_Mo_alike_9 : decode b_Mo_alike 9 = .ok (.iload_n 2, 1) := by decide +kernel
theorem d_Mo_alike_10 : decode b_Mo_alike 10 = .ok (.iconst 3, 1) := by decide +kernel
theorem d_Mo_alike_11 : decode b_Mo_alike 11 = .ok (.if_icmp .gt 83, 3) := by decide +kernel
theorem d_Mo_alike_14 : decode b_Mo_alike 14 = .ok (.iload_n 1, 1) := by decide +kernel
theorem d_Mo_alike_15 : decode b_Mo_alike 15 = .ok (.ifCond .eq 22, 3) := by decide +kernel
theorem d_Mo_alike_18 : decode b_Mo_alike 18 = .ok (.aload_n 0, 1) := by decide +kernel
theorem d_Mo_alike_19 : decode b_Mo_alike 19 = .ok (.getfield 7, 3) := by decide +kernel
theorem d_Mo_alike_22 : decode b_Mo_alike 22 = .ok (.iload_n 2, 1) := by decide +kernel
theorem d_Mo_alike_23 : decode b_Mo_alike 23 = .ok (.iaload, 1) := by decide +kernel
theorem d_Mo_alike_24 : decode b_Mo_alike 24 = .ok (.aload_n 0, 1) := by decide +kernel
theorem d_Mo_alike_25 : decode b_Mo_alike 25 = .ok (.getfield 7, 3) := by decide +kernel
theorem d_Mo_alike_28 : decode b_Mo_alike 28 = .ok (.iconst 0, 1) := by decide +kernel
theorem d_Mo_alike_29 : decode b_Mo_alike 29 = .ok (.iaload, 1) := by decide +kernel
theorem d_Mo_alike_30 : decode b_Mo_alike 30 = .ok (.if_icmp .ne 7, 3) := by decide +kernel
theorem d_Mo_alike_33 : decode b_Mo_alike 33 = .ok (.iconst 1, 1) := by decide +kernel
theorem d_Mo_alike_34 : decode b_Mo_alike 34 = .ok (.goto 4, 3) := by decide +kernel
theorem d_Mo_alike_37 : decode b_Mo_alike 37 = .ok (.iconst 0, 1) := by decide +kernel
theorem d_Mo_alike_38 : decode b_Mo_alike 38 = .ok (.istore_n 1, 1) := by decide +kernel
theorem d_Mo_alike_39 : decode b_Mo_alike 39 = .ok (.iconst 0, 1) := by decide +kernel
theorem d_Mo_alike_40 : decode b_Mo_alike 40 = .ok (.istore_n 3, 1) := by decide +kernel
theorem d_Mo_alike_41 : decode b_Mo_alike 41 = .ok (.iload_n 3, 1) := by decide +kernel
theorem d_Mo_alike_42 : decode b_Mo_alike 42 = .ok (.aload_n 0, 1) := by decide +kernel
theorem d_Mo_alike_43 : decode b_Mo_alike 43 = .ok (.getfield 7, 3) := by decide +kernel
theorem d_Mo_alike_46 : decode b_Mo_alike 46 = .ok (.iconst 0, 1) := by decide +kernel
theorem d_Mo_alike_47 : decode b_Mo_alike 47 = .ok (.iaload, 1) := by decide +kernel
theorem d_Mo_alike_48 : decode b_Mo_alike 48 = .ok (.if_icmp .ge 40, 3) := by decide +kernel
theorem d_Mo_alike_51 : decode b_Mo_alike 51 = .ok (.iload_n 1, 1) := by decide +kernel
theorem d_Mo_alike_52 : decode b_Mo_alike 52 = .ok (.ifCond .eq 36, 3) := by decide +kernel
theorem d_Mo_alike_55 : decode b_Mo_alike 55 = .ok (.aload_n 0, 1) := by decide +kernel
theorem d_Mo_alike_56 : decode b_Mo_alike 56 = .ok (.getfield 13, 3) := by decide +kernel
theorem d_Mo_alike_59 : decode b_Mo_alike 59 = .ok (.iload_n 3, 1) := by decide +kernel
theorem d_Mo_alike_60 : decode b_Mo_alike 60 = .ok (.caload, 1) := by decide +kernel
theorem d_Mo_alike_61 : decode b_Mo_alike 61 = .ok (.aload_n 0, 1) := by decide +kernel
theorem d_Mo_alike_62 : decode b_Mo_alike 62 = .ok (.getfield 13, 3) := by decide +kernel
theorem d_Mo_alike_65 : decode b_Mo_alike 65 = .ok (.sipush 200, 3) := by decide +kernel
theorem d_Mo_alike_68 : decode b_Mo_alike 68 = .ok (.iload_n 2, 1) := by decide +kernel
theorem d_Mo_alike_69 : decode b_Mo_alike 69 = .ok (.imul, 1) := by decide +kernel
theorem d_Mo_alike_70 : decode b_Mo_alike 70 = .ok (.iload_n 3, 1) := by decide +kernel
theorem d_Mo_alike_71 : decode b_Mo_alike 71 = .ok (.iadd, 1) := by decide +kernel
theorem d_Mo_alike_72 : decode b_Mo_alike 72 = .ok (.caload, 1) := by decide +kernel
theorem d_Mo_alike_73 : decode b_Mo_alike 73 = .ok (.if_icmp .ne 7, 3) := by decide +kernel
theorem d_Mo_alike_76 : decode b_Mo_alike 76 = .ok (.iconst 1, 1) := by decide +kernel
theorem d_Mo_alike_77 : decode b_Mo_alike 77 = .ok (.goto 4, 3) := by decide +kernel
theorem d_Mo_alike_80 : decode b_Mo_alike 80 = .ok (.iconst 0, 1) := by decide +kernel
theorem d_Mo_alike_81 : decode b_Mo_alike 81 = .ok (.istore_n 1, 1) := by decide +kernel
theorem d_Mo_alike_82 : decode b_Mo_alike 82 = .ok (.iinc 3 1, 3) := by decide +kernel
theorem d_Mo_alike_85 : decode b_Mo_alike 85 = .ok (.goto (-44), 3) := by decide +kernel
theorem d_Mo_alike_88 : decode b_Mo_alike 88 = .ok (.iinc 2 1, 3) := by decide +kernel
theorem d_Mo_alike_91 : decode b_Mo_alike 91 = .ok (.goto (-82), 3) := by decide +kernel
theorem d_Mo_alike_94 : decode b_Mo_alike 94 = .ok (.iload_n 1, 1) := by decide +kernel
theorem d_Mo_alike_95 : decode b_Mo_alike 95 = .ok (.ireturn, 1) := by decide +kernel
theorem d_Mo_apply_0 : decode b_Mo_apply 0 = .ok (.sipush 200, 3) := by decide +kernel
theorem d_Mo_apply_3 : decode b_Mo_apply 3 = .ok (.iload_n 1, 1) := by decide +kernel
theorem d_Mo_apply_4 : decode b_Mo_apply 4 = .ok (.imul, 1) := by decide +kernel
theorem d_Mo_apply_5 : decode b_Mo_apply 5 = .ok (.istore_n 2, 1) := by decide +kernel
theorem d_Mo_apply_6 : decode b_Mo_apply 6 = .ok (.aload_n 0, 1) := by decide +kernel
theorem d_Mo_apply_7 : decode b_Mo_apply 7 = .ok (.getfield 60, 3) := by decide +kernel
theorem d_Mo_apply_10 : decode b_Mo_apply 10 = .ok (.ifCond .ne 71, 3) := by decide +kernel
theorem d_Mo_apply_13 : decode b_Mo_apply 13 = .ok (.iload_n 2, 1) := by decide +kernel
theorem d_Mo_apply_14 : decode b_Mo_apply 14 = .ok (.aload_n 0, 1) := by decide +kernel
theorem d_Mo_apply_15 : decode b_Mo_apply 15 = .ok (.getfield 7, 3) := by decide +kernel
theorem d_Mo_apply_18 : decode b_Mo_apply 18 = .ok (.iload_n 1, 1) := by decide +kernel
theorem d_Mo_apply_19 : decode b_Mo_apply 19 = .ok (.iaload, 1) := by decide +kernel
theorem d_Mo_apply_20 : decode b_Mo_apply 20 = .ok (.iadd, 1) := by decide +kernel
theorem d_Mo_apply_21 : decode b_Mo_apply 21 = .ok (.istore_n 3, 1) := by decide +kernel
theorem d_Mo_apply_22 : decode b_Mo_apply 22 = .ok (.iload_n 3, 1) := by decide +kernel
theorem d_Mo_apply_23 : decode b_Mo_apply 23 = .ok (.iload_n 2, 1) := by decide +kernel
theorem d_Mo_apply_24 : decode b_Mo_apply 24 = .ok (.aload_n 0, 1) := by decide +kernel
theorem d_Mo_apply_25 : decode b_Mo_apply 25 = .ok (.getfield 63, 3) := by decide +kernel
theorem d_Mo_apply_28 : decode b_Mo_apply 28 = .ok (.iadd, 1) := by decide +kernel
theorem d_Mo_apply_29 : decode b_Mo_apply 29 = .ok (.if_icmp .le 23, 3) := by decide +kernel
theorem d_Mo_apply_32 : decode b_Mo_apply 32 = .ok (.aload_n 0, 1) := by decide +kernel
theorem d_Mo_apply_33 : decode b_Mo_apply 33 = .ok (.getfield 13, 3) := by decide +kernel
theorem d_Mo_apply_36 : decode b_Mo_apply 36 = .ok (.iload_n 3, 1) := by decide +kernel
theorem d_Mo_apply_37 : decode b_Mo_apply 37 = .ok (.aload_n 0, 1) := by decide +kernel
theorem d_Mo_apply_38 : decode b_Mo_apply 38 = .ok (.getfield 13, 3) := by decide +kernel
theorem d_Mo_apply_41 : decode b_Mo_apply 41 = .ok (.iload_n 3, 1) := by decide +kernel
theorem d_Mo_apply_42 : decode b_Mo_apply 42 = .ok (.iconst 1, 1) := by decide +kernel
theorem d_Mo_apply_43 : decode b_Mo_apply 43 = .ok (.isub, 1) := by decide +kernel
theorem d_Mo_apply_44 : decode b_Mo_apply 44 = .ok (.caload, 1) := by decide +kernel
theorem d_Mo_apply_45 : decode b_Mo_apply 45 = .ok (.castore, 1) := by decide +kernel
theorem d_Mo_apply_46 : decode b_Mo_apply 46 = .ok (.iinc 3 (-1), 3) := by decide +kernel
theorem d_Mo_apply_49 : decode b_Mo_apply 49 = .ok (.goto (-27), 3) := by decide +kernel
theorem d_Mo_apply_52 : decode b_Mo_apply 52 = .ok (.aload_n 0, 1) := by decide +kernel
theorem d_Mo_apply_53 : decode b_Mo_apply 53 = .ok (.getfield 13, 3) := by decide +kernel
theorem d_Mo_apply_56 : decode b_Mo_apply 56 = .ok (.iload_n 2, 1) := by decide +kernel
theorem d_Mo_apply_57 : decode b_Mo_apply 57 = .ok (.aload_n 0, 1) := by decide +kernel
theorem d_Mo_apply_58 : decode b_Mo_apply 58 = .ok (.getfield 63, 3) := by decide +kernel
theorem d_Mo_apply_61 : decode b_Mo_apply 61 = .ok (.iadd, 1) := by decide +kernel
theorem d_Mo_apply_62 : decode b_Mo_apply 62 = .ok (.aload_n 0, 1) := by decide +kernel
theorem d_Mo_apply_63 : decode b_Mo_apply 63 = .ok (.getfield 66, 3) := by decide +kernel
theorem d_Mo_apply_66 : decode b_Mo_apply 66 = .ok (.i2c, 1) := by decide +kernel
theorem d_Mo_apply_67 : decode b_Mo_apply 67 = .ok (.castore, 1) := by decide +kernel
theorem d_Mo_apply_68 : decode b_Mo_apply 68 = .ok (.aload_n 0, 1) := by decide +kernel
theorem d_Mo_apply_69 : decode b_Mo_apply 69 = .ok (.getfield 7, 3) := by decide +kernel
theorem d_Mo_apply_72 : decode b_Mo_apply 72 = .ok (.iload_n 1, 1) := by decide +kernel
theorem d_Mo_apply_73 : decode b_Mo_apply 73 = .ok (.dup2, 1) := by decide +kernel
theorem d_Mo_apply_74 : decode b_Mo_apply 74 = .ok (.iaload, 1) := by decide +kernel
theorem d_Mo_apply_75 : decode b_Mo_apply 75 = .ok (.iconst 1, 1) := by decide +kernel
theorem d_Mo_apply_76 : decode b_Mo_apply 76 = .ok (.iadd, 1) := by decide +kernel
theorem d_Mo_apply_77 : decode b_Mo_apply 77 = .ok (.iastore, 1) := by decide +kernel
theorem d_Mo_apply_78 : decode b_Mo_apply 78 = .ok (.goto 60, 3) := by decide +kernel
theorem d_Mo_apply_81 : decode b_Mo_apply 81 = .ok (.aload_n 0, 1) := by decide +kernel
theorem d_Mo_apply_82 : decode b_Mo_apply 82 = .ok (.getfield 60, 3) := by decide +kernel
theorem d_Mo_apply_85 : decode b_Mo_apply 85 = .ok (.iconst 1, 1) := by decide +kernel
theorem d_Mo_apply_86 : decode b_Mo_apply 86 = .ok (.if_icmp .ne 52, 3) := by decide +kernel
theorem d_Mo_apply_89 : decode b_Mo_apply 89 = .ok (.aload_n 0, 1) := by decide +kernel
theorem d_Mo_apply_90 : decode b_Mo_apply 90 = .ok (.getfield 7, 3) := by decide +kernel
theorem d_Mo_apply_93 : decode b_Mo_apply 93 = .ok (.iload_n 1, 1) := by decide +kernel
theorem d_Mo_apply_94 : decode b_Mo_apply 94 = .ok (.dup2, 1) := by decide +kernel
theorem d_Mo_apply_95 : decode b_Mo_apply 95 = .ok (.iaload, 1) := by decide +kernel
theorem d_Mo_apply_96 : decode b_Mo_apply 96 = .ok (.iconst 1, 1) := by decide +kernel
theorem d_Mo_apply_97 : decode b_Mo_apply 97 = .ok (.isub, 1) := by decide +kernel
theorem d_Mo_apply_98 : decode b_Mo_apply 98 = .ok (.iastore, 1) := by decide +kernel
theorem d_Mo_apply_99 : decode b_Mo_apply 99 = .ok (.iload_n 2, 1) := by decide +kernel
theorem d_Mo_apply_100 : decode b_Mo_apply 100 = .ok (.aload_n 0, 1) := by decide +kernel
theorem d_Mo_apply_101 : decode b_Mo_apply 101 = .ok (.getfield 63, 3) := by decide +kernel
theorem d_Mo_apply_104 : decode b_Mo_apply 104 = .ok (.iadd, 1) := by decide +kernel
theorem d_Mo_apply_105 : decode b_Mo_apply 105 = .ok (.istore_n 3, 1) := by decide +kernel
theorem d_Mo_apply_106 : decode b_Mo_apply 106 = .ok (.iload_n 3, 1) := by decide +kernel
theorem d_Mo_apply_107 : decode b_Mo_apply 107 = .ok (.iload_n 2, 1) := by decide +kernel
theorem d_Mo_apply_108 : decode b_Mo_apply 108 = .ok (.aload_n 0, 1) := by decide +kernel
theorem d_Mo_apply_109 : decode b_Mo_apply 109 = .ok (.getfield 7, 3) := by decide +kernel
theorem d_Mo_apply_112 : decode b_Mo_apply 112 = .ok (.iload_n 1, 1) := by decide +kernel
theorem d_Mo_apply_113 : decode b_Mo_apply 113 = .ok (.iaload, 1) := by decide +kernel
theorem d_Mo_apply_114 : decode b_Mo_apply 114 = .ok (.iadd, 1) := by decide +kernel
theorem d_Mo_apply_115 : decode b_Mo_apply 115 = .ok (.if_icmp .ge 23, 3) := by decide +kernel
theorem d_Mo_apply_118 : decode b_Mo_apply 118 = .ok (.aload_n 0, 1) := by decide +kernel
theorem d_Mo_apply_119 : decode b_Mo_apply 119 = .ok (.getfield 13, 3) := by decide +kernel
theorem d_Mo_apply_122 : decode b_Mo_apply 122 = .ok (.iload_n 3, 1) := by decide +kernel
theorem d_Mo_apply_123 : decode b_Mo_apply 123 = .ok (.aload_n 0, 1) := by decide +kernel
theorem d_Mo_apply_124 : decode b_Mo_apply 124 = .ok (.getfield 13, 3) := by decide +kernel
theorem d_Mo_apply_127 : decode b_Mo_apply 127 = .ok (.iload_n 3, 1) := by decide +kernel
theorem d_Mo_apply_128 : decode b_Mo_apply 128 = .ok (.iconst 1, 1) := by decide +kernel
theorem d_Mo_apply_129 : decode b_Mo_apply 129 = .ok (.iadd, 1) := by decide +kernel
theorem d_Mo_apply_130 : decode b_Mo_apply 130 = .ok (.caload, 1) := by decide +kernel
theorem d_Mo_apply_131 : decode b_Mo_apply 131 = .ok (.castore, 1) := by decide +kernel
theorem d_Mo_apply_132 : decode b_Mo_apply 132 = .ok (.iinc 3 1, 3) := by decide +kernel
theorem d_Mo_apply_135 : decode b_Mo_apply 135 = .ok (.goto (-29), 3) := by decide +kernel
theorem d_Mo_apply_138 : decode b_Mo_apply 138 = .ok (.return_, 1) := by decide +kernel
theorem d_Mo_back_0 : decode b_Mo_back 0 = .ok (.iload_n 0, 1) := by decide +kernel
theorem d_Mo_back_1 : decode b_Mo_back 1 = .ok (.iconst 2, 1) := by decide +kernel
theorem d_Mo_back_2 : decode b_Mo_back 2 = .ok (.irem, 1) := by decide +kernel
theorem d_Mo_back_3 : decode b_Mo_back 3 = .ok (.ifCond .ne 9, 3) := by decide +kernel
theorem d_Mo_back_6 : decode b_Mo_back 6 = .ok (.iload_n 0, 1) := by decide +kernel
theorem d_Mo_back_7 : decode b_Mo_back 7 = .ok (.iconst 1, 1) := by decide +kernel
theorem d_Mo_back_8 : decode b_Mo_back 8 = .ok (.iadd, 1) := by decide +kernel
theorem d_Mo_back_9 : decode b_Mo_back 9 = .ok (.goto 6, 3) := by decide +kernel
theorem d_Mo_back_12 : decode b_Mo_back 12 = .ok (.iload_n 0, 1) := by decide +kernel
theorem d_Mo_back_13 : decode b_Mo_back 13 = .ok (.iconst 1, 1) := by decide +kernel
theorem d_Mo_back_14 : decode b_Mo_back 14 = .ok (.isub, 1) := by decide +kernel
theorem d_Mo_back_15 : decode b_Mo_back 15 = .ok (.ireturn, 1) := by decide +kernel
theorem d_Mo_begin_0 : decode b_Mo_begin 0 = .ok (.aload_n 0, 1) := by decide +kernel
theorem d_Mo_begin_1 : decode b_Mo_begin 1 = .ok (.iload_n 2, 1) := by decide +kernel
theorem d_Mo_begin_2 : decode b_Mo_begin 2 = .ok (.putfield 60, 3) := by decide +kernel
theorem d_Mo_begin_5 : decode b_Mo_begin 5 = .ok (.aload_n 0, 1) := by decide +kernel
theorem d_Mo_begin_6 : decode b_Mo_begin 6 = .ok (.iload_n 3, 1) := by decide +kernel
theorem d_Mo_begin_7 : decode b_Mo_begin 7 = .ok (.putfield 63, 3) := by decide +kernel
theorem d_Mo_begin_10 : decode b_Mo_begin 10 = .ok (.aload_n 0, 1) := by decide +kernel
theorem d_Mo_begin_11 : decode b_Mo_begin 11 = .ok (.iload 4, 2) := by decide +kernel
theorem d_Mo_begin_13 : decode b_Mo_begin 13 = .ok (.putfield 66, 3) := by decide +kernel
theorem d_Mo_begin_16 : decode b_Mo_begin 16 = .ok (.aload_n 0, 1) := by decide +kernel
theorem d_Mo_begin_17 : decode b_Mo_begin 17 = .ok (.iload_n 1, 1) := by decide +kernel
theorem d_Mo_begin_18 : decode b_Mo_begin 18 = .ok (.putfield 69, 3) := by decide +kernel
theorem d_Mo_begin_21 : decode b_Mo_begin 21 = .ok (.aload_n 0, 1) := by decide +kernel
theorem d_Mo_begin_22 : decode b_Mo_begin 22 = .ok (.iload_n 1, 1) := by decide +kernel
theorem d_Mo_begin_23 : decode b_Mo_begin 23 = .ok (.invokevirtual 84, 3) := by decide +kernel
theorem d_Mo_begin_26 : decode b_Mo_begin 26 = .ok (.aload_n 0, 1) := by decide +kernel
theorem d_Mo_begin_27 : decode b_Mo_begin 27 = .ok (.iload_n 1, 1) := by decide +kernel
theorem d_Mo_begin_28 : decode b_Mo_begin 28 = .ok (.iconst 1, 1) := by decide +kernel
theorem d_Mo_begin_29 : decode b_Mo_begin 29 = .ok (.invokestatic 87, 3) := by decide +kernel
theorem d_Mo_begin_32 : decode b_Mo_begin 32 = .ok (.invokevirtual 91, 3) := by decide +kernel
theorem d_Mo_begin_35 : decode b_Mo_begin 35 = .ok (.return_, 1) := by decide +kernel
theorem d_Mo_change_0 : decode b_Mo_change 0 = .ok (.aload_n 0, 1) := by decide +kernel
theorem d_Mo_change_1 : decode b_Mo_change 1 = .ok (.iload_n 1, 1) := by decide +kernel
theorem d_Mo_change_2 : decode b_Mo_change 2 = .ok (.invokestatic 94, 3) := by decide +kernel
theorem d_Mo_change_5 : decode b_Mo_change 5 = .ok (.ifCond .ne 7, 3) := by decide +kernel
theorem d_Mo_change_8 : decode b_Mo_change 8 = .ok (.iconst 1, 1) := by decide +kernel
theorem d_Mo_change_9 : decode b_Mo_change 9 = .ok (.goto 26, 3) := by decide +kernel
theorem d_Mo_change_12 : decode b_Mo_change 12 = .ok (.iload_n 3, 1) := by decide +kernel
theorem d_Mo_change_13 : decode b_Mo_change 13 = .ok (.ifCond .lt 17, 3) := by decide +kernel
theorem d_Mo_change_16 : decode b_Mo_change 16 = .ok (.iload_n 3, 1) := by decide +kernel
theorem d_Mo_change_17 : decode b_Mo_change 17 = .ok (.aload_n 0, 1) := by decide +kernel
theorem d_Mo_change_18 : decode b_Mo_change 18 = .ok (.getfield 41, 3) := by decide +kernel
theorem d_Mo_change_21 : decode b_Mo_change 21 = .ok (.iload_n 1, 1) := by decide +kernel
theorem d_Mo_change_22 : decode b_Mo_change 22 = .ok (.iload_n 2, 1) := by decide +kernel
theorem d_Mo_change_23 : decode b_Mo_change 23 = .ok (.invokestatic 87, 3) := by decide +kernel
theorem d_Mo_change_26 : decode b_Mo_change 26 = .ok (.iaload, 1) := by decide +kernel
theorem d_Mo_change_27 : decode b_Mo_change 27 = .ok (.if_icmp .lt 7, 3) := by decide +kernel
theorem d_Mo_change_30 : decode b_Mo_change 30 = .ok (.iconst 2, 1) := by decide +kernel
theorem d_Mo_change_31 : decode b_Mo_change 31 = .ok (.goto 4, 3) := by decide +kernel
theorem d_Mo_change_34 : decode b_Mo_change 34 = .ok (.iconst 0, 1) := by decide +kernel
theorem d_Mo_change_35 : decode b_Mo_change 35 = .ok (.putfield 56, 3) := by decide +kernel
theorem d_Mo_change_38 : decode b_Mo_change 38 = .ok (.aload_n 0, 1) := by decide +kernel
theorem d_Mo_change_39 : decode b_Mo_change 39 = .ok (.getfield 56, 3) := by decide +kernel
theorem d_Mo_change_42 : decode b_Mo_change 42 = .ok (.ifCond .eq 5, 3) := by decide +kernel
theorem d_Mo_change_45 : decode b_Mo_change 45 = .ok (.iconst 0, 1) := by decide +kernel
theorem d_Mo_change_46 : decode b_Mo_change 46 = .ok (.ireturn, 1) := by decide +kernel
theorem d_Mo_change_47 : decode b_Mo_change 47 = .ok (.bipush 40, 2) := by decide +kernel
theorem d_Mo_change_49 : decode b_Mo_change 49 = .ok (.iload_n 1, 1) := by decide +kernel
theorem d_Mo_change_50 : decode b_Mo_change 50 = .ok (.iload_n 2, 1) := by decide +kernel
theorem d_Mo_change_51 : decode b_Mo_change 51 = .ok (.invokestatic 87, 3) := by decide +kernel
theorem d_Mo_change_54 : decode b_Mo_change 54 = .ok (.imul, 1) := by decide +kernel
theorem d_Mo_change_55 : decode b_Mo_change 55 = .ok (.iload_n 3, 1) := by decide +kernel
theorem d_Mo_change_56 : decode b_Mo_change 56 = .ok (.iadd, 1) := by decide +kernel
theorem d_Mo_change_57 : decode b_Mo_change 57 = .ok (.istore 4, 2) := by decide +kernel
theorem d_Mo_change_59 : decode b_Mo_change 59 = .ok (.sipush 1000, 3) := by decide +kernel
theorem d_Mo_change_62 : decode b_Mo_change 62 = .ok (.aload_n 0, 1) := by decide +kernel
theorem d_Mo_change_63 : decode b_Mo_change 63 = .ok (.getfield 44, 3) := by decide +kernel
theorem d_Mo_change_66 : decode b_Mo_change 66 = .ok (.iload 4, 2) := by decide +kernel
theorem d_Mo_change_68 : decode b_Mo_change 68 = .ok (.iaload, 1) := by decide +kernel
theorem d_Mo_change_69 : decode b_Mo_change 69 = .ok (.imul, 1) := by decide +kernel
theorem d_Mo_change_70 : decode b_Mo_change 70 = .ok (.aload_n 0, 1) := by decide +kernel
theorem d_Mo_change_71 : decode b_Mo_change 71 = .ok (.getfield 44, 3) := by decide +kernel
theorem d_Mo_change_74 : decode b_Mo_change 74 = .ok (.iload 4, 2) := by decide +kernel
theorem d_Mo_change_76 : decode b_Mo_change 76 = .ok (.iaload, 1) := by decide +kernel
theorem d_Mo_change_77 : decode b_Mo_change 77 = .ok (.iconst 2, 1) := by decide +kernel
theorem d_Mo_change_78 : decode b_Mo_change 78 = .ok (.if_icmp .ne 7, 3) := by decide +kernel
theorem d_Mo_change_81 : decode b_Mo_change 81 = .ok (.iconst 0, 1) := by decide +kernel
theorem d_Mo_change_82 : decode b_Mo_change 82 = .ok (.goto 13, 3) := by decide +kernel
theorem d_Mo_change_85 : decode b_Mo_change 85 = .ok (.bipush 10, 2) := by decide +kernel
theorem d_Mo_change_87 : decode b_Mo_change 87 = .ok (.aload_n 0, 1) := by decide +kernel
theorem d_Mo_change_88 : decode b_Mo_change 88 = .ok (.getfield 47, 3) := by decide +kernel
theorem d_Mo_change_91 : decode b_Mo_change 91 = .ok (.iload 4, 2) := by decide +kernel
theorem d_Mo_change_93 : decode b_Mo_change 93 = .ok (.iaload, 1) := by decide +kernel
theorem d_Mo_change_94 : decode b_Mo_change 94 = .ok (.imul, 1) := by decide +kernel
theorem d_Mo_change_95 : decode b_Mo_change 95 = .ok (.iadd, 1) := by decide +kernel
theorem d_Mo_change_96 : decode b_Mo_change 96 = .ok (.aload_n 0, 1) := by decide +kernel
theorem d_Mo_change_97 : decode b_Mo_change 97 = .ok (.getfield 53, 3) := by decide +kernel
theorem d_Mo_change_100 : decode b_Mo_change 100 = .ok (.iload 4, 2) := by decide +kernel
theorem d_Mo_change_102 : decode b_Mo_change 102 = .ok (.iaload, 1) := by decide +kernel
theorem d_Mo_change_103 : decode b_Mo_change 103 = .ok (.iadd, 1) := by decide +kernel
theorem d_Mo_change_104 : decode b_Mo_change 104 = .ok (.ireturn, 1) := by decide +kernel
theorem d_Mo_delete_0 : decode b_Mo_delete 0 = .ok (.aload_n 0, 1) := by decide +kernel
theorem d_Mo_delete_1 : decode b_Mo_delete 1 = .ok (.iload_n 1, 1) := by decide +kernel
theorem d_Mo_delete_2 : decode b_Mo_delete 2 = .ok (.invokestatic 94, 3) := by decide +kernel
theorem d_Mo_delete_5 : decode b_Mo_delete 5 = .ok (.ifCond .ne 7, 3) := by decide +kernel
theorem d_Mo_delete_8 : decode b_Mo_delete 8 = .ok (.iconst 1, 1) := by decide +kernel
theorem d_Mo_delete_9 : decode b_Mo_delete 9 = .ok (.goto 34, 3) := by decide +kernel
theorem d_Mo_delete_12 : decode b_Mo_delete 12 = .ok (.iload_n 2, 1) := by decide +kernel
theorem d_Mo_delete_13 : decode b_Mo_delete 13 = .ok (.ifCond .lt 13, 3) := by decide +kernel
theorem d_Mo_delete_16 : decode b_Mo_delete 16 = .ok (.iload_n 2, 1) := by decide +kernel
theorem d_Mo_delete_17 : decode b_Mo_delete 17 = .ok (.aload_n 0, 1) := by decide +kernel
theorem d_Mo_delete_18 : decode b_Mo_delete 18 = .ok (.getfield 7, 3) := by decide +kernel
theorem d_Mo_delete_21 : decode b_Mo_delete 21 = .ok (.iload_n 1, 1) := by decide +kernel
theorem d_Mo_delete_22 : decode b_Mo_delete 22 = .ok (.iaload, 1) := by decide +kernel
theorem d_Mo_delete_23 : decode b_Mo_delete 23 = .ok (.if_icmp .lt 7, 3) := by decide +kernel
theorem d_Mo_delete_26 : decode b_Mo_delete 26 = .ok (.iconst 2, 1) := by decide +kernel
theorem d_Mo_delete_27 : decode b_Mo_delete 27 = .ok (.goto 16, 3) := by decide +kernel
theorem d_Mo_delete_30 : decode b_Mo_delete 30 = .ok (.aload_n 0, 1) := by decide +kernel
theorem d_Mo_delete_31 : decode b_Mo_delete 31 = .ok (.iload_n 1, 1) := by decide +kernel
theorem d_Mo_delete_32 : decode b_Mo_delete 32 = .ok (.invokevirtual 98, 3) := by decide +kernel
theorem d_Mo_delete_35 : decode b_Mo_delete 35 = .ok (.ifCond .eq 7, 3) := by decide +kernel
theorem d_Mo_delete_38 : decode b_Mo_delete 38 = .ok (.iconst 3, 1) := by decide +kernel
theorem d_Mo_delete_39 : decode b_Mo_delete 39 = .ok (.goto 4, 3) := by decide +kernel
theorem d_Mo_delete_42 : decode b_Mo_delete 42 = .ok (.iconst 0, 1) := by decide +kernel
theorem d_Mo_delete_43 : decode b_Mo_delete 43 = .ok (.putfield 56, 3) := by decide +kernel
theorem d_Mo_delete_46 : decode b_Mo_delete 46 = .ok (.aload_n 0, 1) := by decide +kernel
theorem d_Mo_delete_47 : decode b_Mo_delete 47 = .ok (.getfield 56, 3) := by decide +kernel
theorem d_Mo_delete_50 : decode b_Mo_delete 50 = .ok (.ifCond .eq 5, 3) := by decide +kernel
theorem d_Mo_delete_53 : decode b_Mo_delete 53 = .ok (.iconst 0, 1) := by decide +kernel
theorem d_Mo_delete_54 : decode b_Mo_delete 54 = .ok (.ireturn, 1) := by decide +kernel
theorem d_Mo_delete_55 : decode b_Mo_delete 55 = .ok (.aload_n 0, 1) := by decide +kernel
theorem d_Mo_delete_56 : decode b_Mo_delete 56 = .ok (.getfield 13, 3) := by decide +kernel
theorem d_Mo_delete_59 : decode b_Mo_delete 59 = .ok (.sipush 200, 3) := by decide +kernel
theorem d_Mo_delete_62 : decode b_Mo_delete 62 = .ok (.iload_n 1, 1) := by decide +kernel
theorem d_Mo_delete_63 : decode b_Mo_delete 63 = .ok (.imul, 1) := by decide +kernel
theorem d_Mo_delete_64 : decode b_Mo_delete 64 = .ok (.iload_n 2, 1) := by decide +kernel
theorem d_Mo_delete_65 : decode b_Mo_delete 65 = .ok (.iadd, 1) := by decide +kernel
theorem d_Mo_delete_66 : decode b_Mo_delete 66 = .ok (.caload, 1) := by decide +kernel
theorem d_Mo_delete_67 : decode b_Mo_delete 67 = .ok (.istore_n 3, 1) := by decide +kernel
theorem d_Mo_delete_68 : decode b_Mo_delete 68 = .ok (.aload_n 0, 1) := by decide +kernel
theorem d_Mo_delete_69 : decode b_Mo_delete 69 = .ok (.iload_n 1, 1) := by decide +kernel
theorem d_Mo_delete_70 : decode b_Mo_delete 70 = .ok (.iconst 1, 1) := by decide +kernel
theorem d_Mo_delete_71 : decode b_Mo_delete 71 = .ok (.iload_n 2, 1) := by decide +kernel
theorem d_Mo_delete_72 : decode b_Mo_delete 72 = .ok (.iconst 0, 1) := by decide +kernel
theorem d_Mo_delete_73 : decode b_Mo_delete 73 = .ok (.invokevirtual 101, 3) := by decide +kernel
theorem d_Mo_delete_76 : decode b_Mo_delete 76 = .ok (.iload_n 3, 1) := by decide +kernel
theorem d_Mo_delete_77 : decode b_Mo_delete 77 = .ok (.ireturn, 1) := by decide +kernel
theorem d_Mo_fitted_0 : decode b_Mo_fitted 0 = .ok (.iload_n 0, 1) := by decide +kernel
theorem d_Mo_fitted_1 : decode b_Mo_fitted 1 = .ok (.ifCond .ne 33, 3) := by decide +kernel
theorem d_Mo_fitted_4 : decode b_Mo_fitted 4 = .ok (.iload_n 3, 1) := by decide +kernel
theorem d_Mo_fitted_5 : decode b_Mo_fitted 5 = .ok (.ifCond .ne 29, 3) := by decide +kernel
theorem d_Mo_fitted_8 : decode b_Mo_fitted 8 = .ok (.iload 4, 2) := by decide +kernel
theorem d_Mo_fitted_10 : decode b_Mo_fitted 10 = .ok (.iload_n 1, 1) := by decide +kernel
theorem d_Mo_fitted_11 : decode b_Mo_fitted 11 = .ok (.if_icmp .lt 15, 3) := by decide +kernel
theorem d_Mo_fitted_14 : decode b_Mo_fitted 14 = .ok (.iload 4, 2) := by decide +kernel
theorem d_Mo_fitted_16 : decode b_Mo_fitted 16 = .ok (.iload_n 1, 1) := by decide +kernel
theorem d_Mo_fitted_17 : decode b_Mo_fitted 17 = .ok (.if_icmp .ne 15, 3) := by decide +kernel
theorem d_Mo_fitted_20 : decode b_Mo_fitted 20 = .ok (.iload 5, 2) := by decide +kernel
theorem d_Mo_fitted_22 : decode b_Mo_fitted 22 = .ok (.iload_n 2, 1) := by decide +kernel
theorem d_Mo_fitted_23 : decode b_Mo_fitted 23 = .ok (.if_icmp .ge 9, 3) := by decide +kernel
theorem d_Mo_fitted_26 : decode b_Mo_fitted 26 = .ok (.iload_n 1, 1) := by decide +kernel
theorem d_Mo_fitted_27 : decode b_Mo_fitted 27 = .ok (.iconst 1, 1) := by decide +kernel
theorem d_Mo_fitted_28 : decode b_Mo_fitted 28 = .ok (.iadd, 1) := by decide +kernel
theorem d_Mo_fitted_29 : decode b_Mo_fitted 29 = .ok (.goto 4, 3) := by decide +kernel
theorem d_Mo_fitted_32 : decode b_Mo_fitted 32 = .ok (.iload_n 1, 1) := by decide +kernel
theorem d_Mo_fitted_33 : decode b_Mo_fitted 33 = .ok (.ireturn, 1) := by decide +kernel
theorem d_Mo_fitted_34 : decode b_Mo_fitted 34 = .ok (.iload_n 0, 1) := by decide +kernel
theorem d_Mo_fitted_35 : decode b_Mo_fitted 35 = .ok (.ifCond .ne 22, 3) := by decide +kernel
theorem d_Mo_fitted_38 : decode b_Mo_fitted 38 = .ok (.iload_n 3, 1) := by decide +kernel
theorem d_Mo_fitted_39 : decode b_Mo_fitted 39 = .ok (.iconst 1, 1) := by decide +kernel
theorem d_Mo_fitted_40 : decode b_Mo_fitted 40 = .ok (.if_icmp .ne 17, 3) := by decide +kernel
theorem d_Mo_fitted_43 : decode b_Mo_fitted 43 = .ok (.iload 4, 2) := by decide +kernel
theorem d_Mo_fitted_45 : decode b_Mo_fitted 45 = .ok (.iload_n 1, 1) := by decide +kernel
theorem d_Mo_fitted_46 : decode b_Mo_fitted 46 = .ok (.if_icmp .ge 9, 3) := by decide +kernel
theorem d_Mo_fitted_49 : decode b_Mo_fitted 49 = .ok (.iload_n 1, 1) := by decide +kernel
theorem d_Mo_fitted_50 : decode b_Mo_fitted 50 = .ok (.iconst 1, 1) := by decide +kernel
theorem d_Mo_fitted_51 : decode b_Mo_fitted 51 = .ok (.isub, 1) := by decide +kernel
theorem d_Mo_fitted_52 : decode b_Mo_fitted 52 = .ok (.goto 4, 3) := by decide +kernel
theorem d_Mo_fitted_55 : decode b_Mo_fitted 55 = .ok (.iload_n 1, 1) := by decide +kernel
theorem d_Mo_fitted_56 : decode b_Mo_fitted 56 = .ok (.ireturn, 1) := by decide +kernel
theorem d_Mo_fitted_57 : decode b_Mo_fitted 57 = .ok (.iload_n 0, 1) := by decide +kernel
theorem d_Mo_fitted_58 : decode b_Mo_fitted 58 = .ok (.iconst 1, 1) := by decide +kernel
theorem d_Mo_fitted_59 : decode b_Mo_fitted 59 = .ok (.if_icmp .ne 21, 3) := by decide +kernel
theorem d_Mo_fitted_62 : decode b_Mo_fitted 62 = .ok (.iload_n 3, 1) := by decide +kernel
theorem d_Mo_fitted_63 : decode b_Mo_fitted 63 = .ok (.ifCond .ne 17, 3) := by decide +kernel
theorem d_Mo_fitted_66 : decode b_Mo_fitted 66 = .ok (.iload 4, 2) := by decide +kernel
theorem d_Mo_fitted_68 : decode b_Mo_fitted 68 = .ok (.iload_n 1, 1) := by decide +kernel
theorem d_Mo_fitted_69 : decode b_Mo_fitted 69 = .ok (.if_icmp .gt 9, 3) := by decide +kernel
theorem d_Mo_fitted_72 : decode b_Mo_fitted 72 = .ok (.iload_n 1, 1) := by decide +kernel
theorem d_Mo_fitted_73 : decode b_Mo_fitted 73 = .ok (.iconst 1, 1) := by decide +kernel
theorem d_Mo_fitted_74 : decode b_Mo_fitted 74 = .ok (.iadd, 1) := by decide +kernel
theorem d_Mo_fitted_75 : decode b_Mo_fitted 75 = .ok (.goto 4, 3) := by decide +kernel
theorem d_Mo_fitted_78 : decode b_Mo_fitted 78 = .ok (.iload_n 1, 1) := by decide +kernel
theorem d_Mo_fitted_79 : decode b_Mo_fitted 79 = .ok (.ireturn, 1) := by decide +kernel
theorem d_Mo_fitted_80 : decode b_Mo_fitted 80 = .ok (.iload_n 0, 1) := by decide +kernel
theorem d_Mo_fitted_81 : decode b_Mo_fitted 81 = .ok (.iconst 1, 1) := by decide +kernel
theorem d_Mo_fitted_82 : decode b_Mo_fitted 82 = .ok (.if_icmp .ne 32, 3) := by decide +kernel
theorem d_Mo_fitted_85 : decode b_Mo_fitted 85 = .ok (.iload_n 3, 1) := by decide +kernel
theorem d_Mo_fitted_86 : decode b_Mo_fitted 86 = .ok (.iconst 1, 1) := by decide +kernel
theorem d_Mo_fitted_87 : decode b_Mo_fitted 87 = .ok (.if_icmp .ne 27, 3) := by decide +kernel
theorem d_Mo_fitted_90 : decode b_Mo_fitted 90 = .ok (.iload 4, 2) := by decide +kernel
theorem d_Mo_fitted_92 : decode b_Mo_fitted 92 = .ok (.iload_n 1, 1) := by decide +kernel
theorem d_Mo_fitted_93 : decode b_Mo_fitted 93 = .ok (.if_icmp .ne 7, 3) := by decide +kernel
theorem d_Mo_fitted_96 : decode b_Mo_fitted 96 = .ok (.iconst (-1), 1) := by decide +kernel
theorem d_Mo_fitted_97 : decode b_Mo_fitted 97 = .ok (.goto 16, 3) := by decide +kernel
theorem d_Mo_fitted_100 : decode b_Mo_fitted 100 = .ok (.iload 4, 2) := by decide +kernel
theorem d_Mo_fitted_102 : decode b_Mo_fitted 102 = .ok (.iload_n 1, 1) := by decide +kernel
theorem d_Mo_fitted_103 : decode b_Mo_fitted 103 = .ok (.if_icmp .ge 9, 3) := by decide +kernel
theorem d_Mo_fitted_106 : decode b_Mo_fitted 106 = .ok (.iload_n 1, 1) := by decide +kernel
theorem d_Mo_fitted_107 : decode b_Mo_fitted 107 = .ok (.iconst 1, 1) := by decide +kernel
theorem d_Mo_fitted_108 : decode b_Mo_fitted 108 = .ok (.isub, 1) := by decide +kernel
theorem d_Mo_fitted_109 : decode b_Mo_fitted 109 = .ok (.goto 4, 3) := by decide +kernel
theorem d_Mo_fitted_112 : decode b_Mo_fitted 112 = .ok (.iload_n 1, 1) := by decide +kernel
theorem d_Mo_fitted_113 : decode b_Mo_fitted 113 = .ok (.ireturn, 1) := by decide +kernel
theorem d_Mo_fitted_114 : decode b_Mo_fitted 114 = .ok (.iload_n 1, 1) := by decide +kernel
theorem d_Mo_fitted_115 : decode b_Mo_fitted 115 = .ok (.ireturn, 1) := by decide +kernel
theorem d_Mo_forget_0 : decode b_Mo_forget 0 = .ok (.aload_n 0, 1) := by decide +kernel
theorem d_Mo_forget_1 : decode b_Mo_forget 1 = .ok (.getfield 41, 3) := by decide +kernel
theorem d_Mo_forget_4 : decode b_Mo_forget 4 = .ok (.iload_n 1, 1) := by decide +kernel
theorem d_Mo_forget_5 : decode b_Mo_forget 5 = .ok (.dup2, 1) := by decide +kernel
theorem d_Mo_forget_6 : decode b_Mo_forget 6 = .ok (.iaload, 1) := by decide +kernel
theorem d_Mo_forget_7 : decode b_Mo_forget 7 = .ok (.iconst 1, 1) := by decide +kernel
theorem d_Mo_forget_8 : decode b_Mo_forget 8 = .ok (.isub, 1) := by decide +kernel
theorem d_Mo_forget_9 : decode b_Mo_forget 9 = .ok (.iastore, 1) := by decide +kernel
theorem d_Mo_forget_10 : decode b_Mo_forget 10 = .ok (.bipush 40, 2) := by decide +kernel
theorem d_Mo_forget_12 : decode b_Mo_forget 12 = .ok (.iload_n 1, 1) := by decide +kernel
theorem d_Mo_forget_13 : decode b_Mo_forget 13 = .ok (.imul, 1) := by decide +kernel
theorem d_Mo_forget_14 : decode b_Mo_forget 14 = .ok (.istore_n 2, 1) := by decide +kernel
theorem d_Mo_forget_15 : decode b_Mo_forget 15 = .ok (.iload_n 2, 1) := by decide +kernel
theorem d_Mo_forget_16 : decode b_Mo_forget 16 = .ok (.bipush 40, 2) := by decide +kernel
theorem d_Mo_forget_18 : decode b_Mo_forget 18 = .ok (.iload_n 1, 1) := by decide +kernel
theorem d_Mo_forget_19 : decode b_Mo_forget 19 = .ok (.imul, 1) := by decide +kernel
theorem d_Mo_forget_20 : decode b_Mo_forget 20 = .ok (.aload_n 0, 1) := by decide +kernel
theorem d_Mo_forget_21 : decode b_Mo_forget 21 = .ok (.getfield 41, 3) := by decide +kernel
theorem d_Mo_forget_24 : decode b_Mo_forget 24 = .ok (.iload_n 1, 1) := by decide +kernel
theorem d_Mo_forget_25 : decode b_Mo_forget 25 = .ok (.iaload, 1) := by decide +kernel
theorem d_Mo_forget_26 : decode b_Mo_forget 26 = .ok (.iadd, 1) := by decide +kernel
theorem d_Mo_forget_27 : decode b_Mo_forget 27 = .ok (.if_icmp .ge 65, 3) := by decide +kernel
theorem d_Mo_forget_30 : decode b_Mo_forget 30 = .ok (.aload_n 0, 1) := by decide +kernel
theorem d_Mo_forget_31 : decode b_Mo_forget 31 = .ok (.getfield 44, 3) := by decide +kernel
theorem d_Mo_forget_34 : decode b_Mo_forget 34 = .ok (.iload_n 2, 1) := by decide +kernel
theorem d_Mo_forget_35 : decode b_Mo_forget 35 = .ok (.aload_n 0, 1) := by decide +kernel
theorem d_Mo_forget_36 : decode b_Mo_forget 36 = .ok (.getfield 44, 3) := by decide +kernel
theorem d_Mo_forget_39 : decode b_Mo_forget 39 = .ok (.iload_n 2, 1) := by decide +kernel
theorem d_Mo_forget_40 : decode b_Mo_forget 40 = .ok (.iconst 1, 1) := by decide +kernel
theorem d_Mo_forget_41 : decode b_Mo_forget 41 = .ok (.iadd, 1) := by decide +kernel
theorem d_Mo_forget_42 : decode b_Mo_forget 42 = .ok (.iaload, 1) := by decide +kernel
theorem d_Mo_forget_43 : decode b_Mo_forget 43 = .ok (.iastore, 1) := by decide +kernel
theorem d_Mo_forget_44 : decode b_Mo_forget 44 = .ok (.aload_n 0, 1) := by decide +kernel
theorem d_Mo_forget_45 : decode b_Mo_forget 45 = .ok (.getfield 47, 3) := by decide +kernel
theorem d_Mo_forget_48 : decode b_Mo_forget 48 = .ok (.iload_n 2, 1) := by decide +kernel
theorem d_Mo_forget_49 : decode b_Mo_forget 49 = .ok (.aload_n 0, 1) := by decide +kernel
theorem d_Mo_forget_50 : decode b_Mo_forget 50 = .ok (.getfield 47, 3) := by decide +kernel
theorem d_Mo_forget_53 : decode b_Mo_forget 53 = .ok (.iload_n 2, 1) := by decide +kernel
theorem d_Mo_forget_54 : decode b_Mo_forget 54 = .ok (.iconst 1, 1) := by decide +kernel
theorem d_Mo_forget_55 : decode b_Mo_forget 55 = .ok (.iadd, 1) := by decide +kernel
theorem d_Mo_forget_56 : decode b_Mo_forget 56 = .ok (.iaload, 1) := by decide +kernel
theorem d_Mo_forget_57 : decode b_Mo_forget 57 = .ok (.iastore, 1) := by decide +kernel
theorem d_Mo_forget_58 : decode b_Mo_forget 58 = .ok (.aload_n 0, 1) := by decide +kernel
theorem d_Mo_forget_59 : decode b_Mo_forget 59 = .ok (.getfield 50, 3) := by decide +kernel
theorem d_Mo_forget_62 : decode b_Mo_forget 62 = .ok (.iload_n 2, 1) := by decide +kernel
theorem d_Mo_forget_63 : decode b_Mo_forget 63 = .ok (.aload_n 0, 1) := by decide +kernel
theorem d_Mo_forget_64 : decode b_Mo_forget 64 = .ok (.getfield 50, 3) := by decide +kernel
theorem d_Mo_forget_67 : decode b_Mo_forget 67 = .ok (.iload_n 2, 1) := by decide +kernel
theorem d_Mo_forget_68 : decode b_Mo_forget 68 = .ok (.iconst 1, 1) := by decide +kernel
theorem d_Mo_forget_69 : decode b_Mo_forget 69 = .ok (.iadd, 1) := by decide +kernel
theorem d_Mo_forget_70 : decode b_Mo_forget 70 = .ok (.iaload, 1) := by decide +kernel
theorem d_Mo_forget_71 : decode b_Mo_forget 71 = .ok (.iastore, 1) := by decide +kernel
theorem d_Mo_forget_72 : decode b_Mo_forget 72 = .ok (.aload_n 0, 1) := by decide +kernel
theorem d_Mo_forget_73 : decode b_Mo_forget 73 = .ok (.getfield 53, 3) := by decide +kernel
theorem d_Mo_forget_76 : decode b_Mo_forget 76 = .ok (.iload_n 2, 1) := by decide +kernel
theorem d_Mo_forget_77 : decode b_Mo_forget 77 = .ok (.aload_n 0, 1) := by decide +kernel
theorem d_Mo_forget_78 : decode b_Mo_forget 78 = .ok (.getfield 53, 3) := by decide +kernel
theorem d_Mo_forget_81 : decode b_Mo_forget 81 = .ok (.iload_n 2, 1) := by decide +kernel
theorem d_Mo_forget_82 : decode b_Mo_forget 82 = .ok (.iconst 1, 1) := by decide +kernel
theorem d_Mo_forget_83 : decode b_Mo_forget 83 = .ok (.iadd, 1) := by decide +kernel
theorem d_Mo_forget_84 : decode b_Mo_forget 84 = .ok (.iaload, 1) := by decide +kernel
theorem d_Mo_forget_85 : decode b_Mo_forget 85 = .ok (.iastore, 1) := by decide +kernel
theorem d_Mo_forget_86 : decode b_Mo_forget 86 = .ok (.iinc 2 1, 3) := by decide +kernel
theorem d_Mo_forget_89 : decode b_Mo_forget 89 = .ok (.goto (-74), 3) := by decide +kernel
theorem d_Mo_forget_92 : decode b_Mo_forget 92 = .ok (.return_, 1) := by decide +kernel
theorem d_Mo_get_0 : decode b_Mo_get 0 = .ok (.bipush 40, 2) := by decide +kernel
theorem d_Mo_get_2 : decode b_Mo_get 2 = .ok (.iload_n 1, 1) := by decide +kernel
theorem d_Mo_get_3 : decode b_Mo_get 3 = .ok (.imul, 1) := by decide +kernel
theorem d_Mo_get_4 : decode b_Mo_get 4 = .ok (.istore_n 3, 1) := by decide +kernel
theorem d_Mo_get_5 : decode b_Mo_get 5 = .ok (.aload_n 0, 1) := by decide +kernel
theorem d_Mo_get_6 : decode b_Mo_get 6 = .ok (.aload_n 0, 1) := by decide +kernel
theorem d_Mo_get_7 : decode b_Mo_get 7 = .ok (.getfield 26, 3) := by decide +kernel
theorem d_Mo_get_10 : decode b_Mo_get 10 = .ok (.iload_n 3, 1) := by decide +kernel
theorem d_Mo_get_11 : decode b_Mo_get 11 = .ok (.iaload, 1) := by decide +kernel
theorem d_Mo_get_12 : decode b_Mo_get 12 = .ok (.putfield 60, 3) := by decide +kernel
theorem d_Mo_get_15 : decode b_Mo_get 15 = .ok (.aload_n 0, 1) := by decide +kernel
theorem d_Mo_get_16 : decode b_Mo_get 16 = .ok (.aload_n 0, 1) := by decide +kernel
theorem d_Mo_get_17 : decode b_Mo_get 17 = .ok (.getfield 29, 3) := by decide +kernel
theorem d_Mo_get_20 : decode b_Mo_get 20 = .ok (.iload_n 3, 1) := by decide +kernel
theorem d_Mo_get_21 : decode b_Mo_get 21 = .ok (.iaload, 1) := by decide +kernel
theorem d_Mo_get_22 : decode b_Mo_get 22 = .ok (.putfield 63, 3) := by decide +kernel
theorem d_Mo_get_25 : decode b_Mo_get 25 = .ok (.aload_n 0, 1) := by decide +kernel
theorem d_Mo_get_26 : decode b_Mo_get 26 = .ok (.aload_n 0, 1) := by decide +kernel
theorem d_Mo_get_27 : decode b_Mo_get 27 = .ok (.getfield 32, 3) := by decide +kernel
theorem d_Mo_get_30 : decode b_Mo_get 30 = .ok (.iload_n 3, 1) := by decide +kernel
theorem d_Mo_get_31 : decode b_Mo_get 31 = .ok (.iaload, 1) := by decide +kernel
theorem d_Mo_get_32 : decode b_Mo_get 32 = .ok (.putfield 66, 3) := by decide +kernel
theorem d_Mo_get_35 : decode b_Mo_get 35 = .ok (.aload_n 0, 1) := by decide +kernel
theorem d_Mo_get_36 : decode b_Mo_get 36 = .ok (.aload_n 0, 1) := by decide +kernel
theorem d_Mo_get_37 : decode b_Mo_get 37 = .ok (.getfield 35, 3) := by decide +kernel
theorem d_Mo_get_40 : decode b_Mo_get 40 = .ok (.iload_n 3, 1) := by decide +kernel
theorem d_Mo_get_41 : decode b_Mo_get 41 = .ok (.iaload, 1) := by decide +kernel
theorem d_Mo_get_42 : decode b_Mo_get 42 = .ok (.putfield 69, 3) := by decide +kernel
theorem d_Mo_get_45 : decode b_Mo_get 45 = .ok (.aload_n 0, 1) := by decide +kernel
theorem d_Mo_get_46 : decode b_Mo_get 46 = .ok (.getfield 38, 3) := by decide +kernel
theorem d_Mo_get_49 : decode b_Mo_get 49 = .ok (.iload_n 3, 1) := by decide +kernel
theorem d_Mo_get_50 : decode b_Mo_get 50 = .ok (.iaload, 1) := by decide +kernel
theorem d_Mo_get_51 : decode b_Mo_get 51 = .ok (.istore 4, 2) := by decide +kernel
theorem d_Mo_get_53 : decode b_Mo_get 53 = .ok (.aload_n 0, 1) := by decide +kernel
theorem d_Mo_get_54 : decode b_Mo_get 54 = .ok (.getfield 23, 3) := by decide +kernel
theorem d_Mo_get_57 : decode b_Mo_get 57 = .ok (.iload_n 1, 1) := by decide +kernel
theorem d_Mo_get_58 : decode b_Mo_get 58 = .ok (.dup2, 1) := by decide +kernel
theorem d_Mo_get_59 : decode b_Mo_get 59 = .ok (.iaload, 1) := by decide +kernel
theorem d_Mo_get_60 : decode b_Mo_get 60 = .ok (.iconst 1, 1) := by decide +kernel
theorem d_Mo_get_61 : decode b_Mo_get 61 = .ok (.isub, 1) := by decide +kernel
theorem d_Mo_get_62 : decode b_Mo_get 62 = .ok (.iastore, 1) := by decide +kernel
theorem d_Mo_get_63 : decode b_Mo_get 63 = .ok (.iload_n 3, 1) := by decide +kernel
theorem d_Mo_get_64 : decode b_Mo_get 64 = .ok (.istore 5, 2) := by decide +kernel
theorem d_Mo_get_66 : decode b_Mo_get 66 = .ok (.iload 5, 2) := by decide +kernel
theorem d_Mo_get_68 : decode b_Mo_get 68 = .ok (.iload_n 3, 1) := by decide +kernel
theorem d_Mo_get_69 : decode b_Mo_get 69 = .ok (.aload_n 0, 1) := by decide +kernel
theorem d_Mo_get_70 : decode b_Mo_get 70 = .ok (.getfield 23, 3) := by decide +kernel
theorem d_Mo_get_73 : decode b_Mo_get 73 = .ok (.iload_n 1, 1) := by decide +kernel
theorem d_Mo_get_74 : decode b_Mo_get 74 = .ok (.iaload, 1) := by decide +kernel
theorem d_Mo_get_75 : decode b_Mo_get 75 = .ok (.iadd, 1) := by decide +kernel
theorem d_Mo_get_76 : decode b_Mo_get 76 = .ok (.if_icmp .ge 89, 3) := by decide +kernel
theorem d_Mo_get_79 : decode b_Mo_get 79 = .ok (.aload_n 0, 1) := by decide +kernel
theorem d_Mo_get_80 : decode b_Mo_get 80 = .ok (.getfield 26, 3) := by decide +kernel
theorem d_Mo_get_83 : decode b_Mo_get 83 = .ok (.iload 5, 2) := by decide +kernel
theorem d_Mo_get_85 : decode b_Mo_get 85 = .ok (.aload_n 0, 1) := by decide +kernel
theorem d_Mo_get_86 : decode b_Mo_get 86 = .ok (.getfield 26, 3) := by decide +kernel
theorem d_Mo_get_89 : decode b_Mo_get 89 = .ok (.iload 5, 2) := by decide +kernel
theorem d_Mo_get_91 : decode b_Mo_get 91 = .ok (.iconst 1, 1) := by decide +kernel
theorem d_Mo_get_92 : decode b_Mo_get 92 = .ok (.iadd, 1) := by decide +kernel
theorem d_Mo_get_93 : decode b_Mo_get 93 = .ok (.iaload, 1) := by decide +kernel
theorem d_Mo_get_94 : decode b_Mo_get 94 = .ok (.iastore, 1) := by decide +kernel
theorem d_Mo_get_95 : decode b_Mo_get 95 = .ok (.aload_n 0, 1) := by decide +kernel
theorem d_Mo_get_96 : decode b_Mo_get 96 = .ok (.getfield 29, 3) := by decide +kernel
theorem d_Mo_get_99 : decode b_Mo_get 99 = .ok (.iload 5, 2) := by decide +kernel
theorem d_Mo_get_101 : decode b_Mo_get 101 = .ok (.aload_n 0, 1) := by decide +kernel
theorem d_Mo_get_102 : decode b_Mo_get 102 = .ok (.getfield 29, 3) := by decide +kernel
theorem d_Mo_get_105 : decode b_Mo_get 105 = .ok (.iload 5, 2) := by decide +kernel
theorem d_Mo_get_107 : decode b_Mo_get 107 = .ok (.iconst 1, 1) := by decide +kernel
theorem d_Mo_get_108 : decode b_Mo_get 108 = .ok (.iadd, 1) := by decide +kernel
theorem d_Mo_get_109 : decode b_Mo_get 109 = .ok (.iaload, 1) := by decide +kernel
theorem d_Mo_get_110 : decode b_Mo_get 110 = .ok (.iastore, 1) := by decide +kernel
theorem d_Mo_get_111 : decode b_Mo_get 111 = .ok (.aload_n 0, 1) := by decide +kernel
theorem d_Mo_get_112 : decode b_Mo_get 112 = .ok (.getfield 32, 3) := by decide +kernel
theorem d_Mo_get_115 : decode b_Mo_get 115 = .ok (.iload 5, 2) := by decide +kernel
theorem d_Mo_get_117 : decode b_Mo_get 117 = .ok (.aload_n 0, 1) := by decide +kernel
theorem d_Mo_get_118 : decode b_Mo_get 118 = .ok (.getfield 32, 3) := by decide +kernel
theorem d_Mo_get_121 : decode b_Mo_get 121 = .ok (.iload 5, 2) := by decide +kernel
theorem d_Mo_get_123 : decode b_Mo_get 123 = .ok (.iconst 1, 1) := by decide +kernel
theorem d_Mo_get_124 : decode b_Mo_get 124 = .ok (.iadd, 1) := by decide +kernel
theorem d_Mo_get_125 : decode b_Mo_get 125 = .ok (.iaload, 1) := by decide +kernel
theorem d_Mo_get_126 : decode b_Mo_get 126 = .ok (.iastore, 1) := by decide +kernel
theorem d_Mo_get_127 : decode b_Mo_get 127 = .ok (.aload_n 0, 1) := by decide +kernel
theorem d_Mo_get_128 : decode b_Mo_get 128 = .ok (.getfield 35, 3) := by decide +kernel
theorem d_Mo_get_131 : decode b_Mo_get 131 = .ok (.iload 5, 2) := by decide +kernel
theorem d_Mo_get_133 : decode b_Mo_get 133 = .ok (.aload_n 0, 1) := by decide +kernel
theorem d_Mo_get_134 : decode b_Mo_get 134 = .ok (.getfield 35, 3) := by decide +kernel
theorem d_Mo_get_137 : decode b_Mo_get 137 = .ok (.iload 5, 2) := by decide +kernel
theorem d_Mo_get_139 : decode b_Mo_get 139 = .ok (.iconst 1, 1) := by decide +kernel
theorem d_Mo_get_140 : decode b_Mo_get 140 = .ok (.iadd, 1) := by decide +kernel
theorem d_Mo_get_141 : decode b_Mo_get 141 = .ok (.iaload, 1) := by decide +kernel
theorem d_Mo_get_142 : decode b_Mo_get 142 = .ok (.iastore, 1) := by decide +kernel
theorem d_Mo_get_143 : decode b_Mo_get 143 = .ok (.aload_n 0, 1) := by decide +kernel
theorem d_Mo_get_144 : decode b_Mo_get 144 = .ok (.getfield 38, 3) := by decide +kernel
theorem d_Mo_get_147 : decode b_Mo_get 147 = .ok (.iload 5, 2) := by decide +kernel
theorem d_Mo_get_149 : decode b_Mo_get 149 = .ok (.aload_n 0, 1) := by decide +kernel
theorem d_Mo_get_150 : decode b_Mo_get 150 = .ok (.getfield 38, 3) := by decide +kernel
theorem d_Mo_get_153 : decode b_Mo_get 153 = .ok (.iload 5, 2) := by decide +kernel
theorem d_Mo_get_155 : decode b_Mo_get 155 = .ok (.iconst 1, 1) := by decide +kernel
theorem d_Mo_get_156 : decode b_Mo_get 156 = .ok (.iadd, 1) := by decide +kernel
theorem d_Mo_get_157 : decode b_Mo_get 157 = .ok (.iaload, 1) := by decide +kernel
theorem d_Mo_get_158 : decode b_Mo_get 158 = .ok (.iastore, 1) := by decide +kernel
theorem d_Mo_get_159 : decode b_Mo_get 159 = .ok (.iinc 5 1, 3) := by decide +kernel
theorem d_Mo_get_162 : decode b_Mo_get 162 = .ok (.goto (-96), 3) := by decide +kernel
theorem d_Mo_get_165 : decode b_Mo_get 165 = .ok (.iload_n 1, 1) := by decide +kernel
theorem d_Mo_get_166 : decode b_Mo_get 166 = .ok (.invokestatic 72, 3) := by decide +kernel
theorem d_Mo_get_169 : decode b_Mo_get 169 = .ok (.istore 5, 2) := by decide +kernel
theorem d_Mo_get_171 : decode b_Mo_get 171 = .ok (.aload_n 0, 1) := by decide +kernel
theorem d_Mo_get_172 : decode b_Mo_get 172 = .ok (.getfield 41, 3) := by decide +kernel
theorem d_Mo_get_175 : decode b_Mo_get 175 = .ok (.iload 5, 2) := by decide +kernel
theorem d_Mo_get_177 : decode b_Mo_get 177 = .ok (.iaload, 1) := by decide +kernel
theorem d_Mo_get_178 : decode b_Mo_get 178 = .ok (.ifCond .le 32, 3) := by decide +kernel
theorem d_Mo_get_181 : decode b_Mo_get 181 = .ok (.aload_n 0, 1) := by decide +kernel
theorem d_Mo_get_182 : decode b_Mo_get 182 = .ok (.getfield 17, 3) := by decide +kernel
theorem d_Mo_get_185 : decode b_Mo_get 185 = .ok (.iload 5, 2) := by decide +kernel
theorem d_Mo_get_187 : decode b_Mo_get 187 = .ok (.iaload, 1) := by decide +kernel
theorem d_Mo_get_188 : decode b_Mo_get 188 = .ok (.aload_n 0, 1) := by decide +kernel
theorem d_Mo_get_189 : decode b_Mo_get 189 = .ok (.getfield 41, 3) := by decide +kernel
theorem d_Mo_get_192 : decode b_Mo_get 192 = .ok (.iload 5, 2) := by decide +kernel
theorem d_Mo_get_194 : decode b_Mo_get 194 = .ok (.iaload, 1) := by decide +kernel
theorem d_Mo_get_195 : decode b_Mo_get 195 = .ok (.isub, 1) := by decide +kernel
theorem d_Mo_get_196 : decode b_Mo_get 196 = .ok (.iload 4, 2) := by decide +kernel
theorem d_Mo_get_198 : decode b_Mo_get 198 = .ok (.if_icmp .ge 12, 3) := by decide +kernel
theorem d_Mo_get_201 : decode b_Mo_get 201 = .ok (.aload_n 0, 1) := by decide +kernel
theorem d_Mo_get_202 : decode b_Mo_get 202 = .ok (.iload 5, 2) := by decide +kernel
theorem d_Mo_get_204 : decode b_Mo_get 204 = .ok (.invokevirtual 76, 3) := by decide +kernel
theorem d_Mo_get_207 : decode b_Mo_get 207 = .ok (.goto (-36), 3) := by decide +kernel
theorem d_Mo_get_210 : decode b_Mo_get 210 = .ok (.bipush 40, 2) := by decide +kernel
theorem d_Mo_get_212 : decode b_Mo_get 212 = .ok (.iload 5, 2) := by decide +kernel
theorem d_Mo_get_214 : decode b_Mo_get 214 = .ok (.imul, 1) := by decide +kernel
theorem d_Mo_get_215 : decode b_Mo_get 215 = .ok (.istore 6, 2) := by decide +kernel
theorem d_Mo_get_217 : decode b_Mo_get 217 = .ok (.iload 6, 2) := by decide +kernel
theorem d_Mo_get_219 : decode b_Mo_get 219 = .ok (.bipush 40, 2) := by decide +kernel
theorem d_Mo_get_221 : decode b_Mo_get 221 = .ok (.iload 5, 2) := by decide +kernel
theorem d_Mo_get_223 : decode b_Mo_get 223 = .ok (.imul, 1) := by decide +kernel
theorem d_Mo_get_224 : decode b_Mo_get 224 = .ok (.aload_n 0, 1) := by decide +kernel
theorem d_Mo_get_225 : decode b_Mo_get 225 = .ok (.getfield 41, 3) := by decide +kernel
theorem d_Mo_get_228 : decode b_Mo_get 228 = .ok (.iload 5, 2) := by decide +kernel
theorem d_Mo_get_230 : decode b_Mo_get 230 = .ok (.iaload, 1) := by decide +kernel
theorem d_Mo_get_231 : decode b_Mo_get 231 = .ok (.iadd, 1) := by decide +kernel
theorem d_Mo_get_232 : decode b_Mo_get 232 = .ok (.if_icmp .ge 158, 3) := by decide +kernel
theorem d_Mo_get_235 : decode b_Mo_get 235 = .ok (.aload_n 0, 1) := by decide +kernel
theorem d_Mo_get_236 : decode b_Mo_get 236 = .ok (.getfield 60, 3) := by decide +kernel
theorem d_Mo_get_239 : decode b_Mo_get 239 = .ok (.aload_n 0, 1) := by decide +kernel
theorem d_Mo_get_240 : decode b_Mo_get 240 = .ok (.getfield 63, 3) := by decide +kernel
theorem d_Mo_get_243 : decode b_Mo_get 243 = .ok (.aload_n 0, 1) := by decide +kernel
theorem d_Mo_get_244 : decode b_Mo_get 244 = .ok (.getfield 69, 3) := by decide +kernel
theorem d_Mo_get_247 : decode b_Mo_get 247 = .ok (.aload_n 0, 1) := by decide +kernel
theorem d_Mo_get_248 : decode b_Mo_get 248 = .ok (.getfield 44, 3) := by decide +kernel
theorem d_Mo_get_251 : decode b_Mo_get 251 = .ok (.iload 6, 2) := by decide +kernel
theorem d_Mo_get_253 : decode b_Mo_get 253 = .ok (.iaload, 1) := by decide +kernel
theorem d_Mo_get_254 : decode b_Mo_get 254 = .ok (.aload_n 0, 1) := by decide +kernel
theorem d_Mo_get_255 : decode b_Mo_get 255 = .ok (.getfield 47, 3) := by decide +kernel
theorem d_Mo_get_258 : decode b_Mo_get 258 = .ok (.iload 6, 2) := by decide +kernel
theorem d_Mo_get_260 : decode b_Mo_get 260 = .ok (.iaload, 1) := by decide +kernel
theorem d_Mo_get_261 : decode b_Mo_get 261 = .ok (.aload_n 0, 1) := by decide +kernel
theorem d_Mo_get_262 : decode b_Mo_get 262 = .ok (.getfield 53, 3) := by decide +kernel
theorem d_Mo_get_265 : decode b_Mo_get 265 = .ok (.iload 6, 2) := by decide +kernel
theorem d_Mo_get_267 : decode b_Mo_get 267 = .ok (.iaload, 1) := by decide +kernel
theorem d_Mo_get_268 : decode b_Mo_get 268 = .ok (.invokestatic 80, 3) := by decide +kernel
theorem d_Mo_get_271 : decode b_Mo_get 271 = .ok (.istore 7, 2) := by decide +kernel
theorem d_Mo_get_273 : decode b_Mo_get 273 = .ok (.aload_n 0, 1) := by decide +kernel
theorem d_Mo_get_274 : decode b_Mo_get 274 = .ok (.getfield 44, 3) := by decide +kernel
theorem d_Mo_get_277 : decode b_Mo_get 277 = .ok (.iload 6, 2) := by decide +kernel
theorem d_Mo_get_279 : decode b_Mo_get 279 = .ok (.iaload, 1) := by decide +kernel
theorem d_Mo_get_280 : decode b_Mo_get 280 = .ok (.aload_n 0, 1) := by decide +kernel
theorem d_Mo_get_281 : decode b_Mo_get 281 = .ok (.getfield 47, 3) := by decide +kernel
theorem d_Mo_get_284 : decode b_Mo_get 284 = .ok (.iload 6, 2) := by decide +kernel
theorem d_Mo_get_286 : decode b_Mo_get 286 = .ok (.iaload, 1) := by decide +kernel
theorem d_Mo_get_287 : decode b_Mo_get 287 = .ok (.aload_n 0, 1) := by decide +kernel
theorem d_Mo_get_288 : decode b_Mo_get 288 = .ok (.getfield 53, 3) := by decide +kernel
theorem d_Mo_get_291 : decode b_Mo_get 291 = .ok (.iload 6, 2) := by decide +kernel
theorem d_Mo_get_293 : decode b_Mo_get 293 = .ok (.iaload, 1) := by decide +kernel
theorem d_Mo_get_294 : decode b_Mo_get 294 = .ok (.aload_n 0, 1) := by decide +kernel
theorem d_Mo_get_295 : decode b_Mo_get 295 = .ok (.getfield 60, 3) := by decide +kernel
theorem d_Mo_get_298 : decode b_Mo_get 298 = .ok (.aload_n 0, 1) := by decide +kernel
theorem d_Mo_get_299 : decode b_Mo_get 299 = .ok (.getfield 63, 3) := by decide +kernel
theorem d_Mo_get_302 : decode b_Mo_get 302 = .ok (.aload_n 0, 1) := by decide +kernel
theorem d_Mo_get_303 : decode b_Mo_get 303 = .ok (.getfield 69, 3) := by decide +kernel
theorem d_Mo_get_306 : decode b_Mo_get 306 = .ok (.invokestatic 80, 3) := by decide +kernel
theorem d_Mo_get_309 : decode b_Mo_get 309 = .ok (.istore 8, 2) := by decide +kernel
theorem d_Mo_get_311 : decode b_Mo_get 311 = .ok (.aload_n 0, 1) := by decide +kernel
theorem d_Mo_get_312 : decode b_Mo_get 312 = .ok (.iload 7, 2) := by decide +kernel
theorem d_Mo_get_314 : decode b_Mo_get 314 = .ok (.ifCond .ge 7, 3) := by decide +kernel
theorem d_Mo_get_317 : decode b_Mo_get 317 = .ok (.iconst 2, 1) := by decide +kernel
theorem d_Mo_get_318 : decode b_Mo_get 318 = .ok (.goto 7, 3) := by decide +kernel
theorem d_Mo_get_321 : decode b_Mo_get 321 = .ok (.aload_n 0, 1) := by decide +kernel
theorem d_Mo_get_322 : decode b_Mo_get 322 = .ok (.getfield 60, 3) := by decide +kernel
theorem d_Mo_get_325 : decode b_Mo_get 325 = .ok (.putfield 60, 3) := by decide +kernel
theorem d_Mo_get_328 : decode b_Mo_get 328 = .ok (.aload_n 0, 1) := by decide +kernel
theorem d_Mo_get_329 : decode b_Mo_get 329 = .ok (.iload 7, 2) := by decide +kernel
theorem d_Mo_get_331 : decode b_Mo_get 331 = .ok (.ifCond .ge 7, 3) := by decide +kernel
theorem d_Mo_get_334 : decode b_Mo_get 334 = .ok (.iconst 0, 1) := by decide +kernel
theorem d_Mo_get_335 : decode b_Mo_get 335 = .ok (.goto 5, 3) := by decide +kernel
theorem d_Mo_get_338 : decode b_Mo_get 338 = .ok (.iload 7, 2) := by decide +kernel
theorem d_Mo_get_340 : decode b_Mo_get 340 = .ok (.putfield 63, 3) := by decide +kernel
theorem d_Mo_get_343 : decode b_Mo_get 343 = .ok (.aload_n 0, 1) := by decide +kernel
theorem d_Mo_get_344 : decode b_Mo_get 344 = .ok (.getfield 44, 3) := by decide +kernel
theorem d_Mo_get_347 : decode b_Mo_get 347 = .ok (.iload 6, 2) := by decide +kernel
theorem d_Mo_get_349 : decode b_Mo_get 349 = .ok (.iload 8, 2) := by decide +kernel
theorem d_Mo_get_351 : decode b_Mo_get 351 = .ok (.ifCond .ge 7, 3) := by decide +kernel
theorem d_Mo_get_354 : decode b_Mo_get 354 = .ok (.iconst 2, 1) := by decide +kernel
theorem d_Mo_get_355 : decode b_Mo_get 355 = .ok (.goto 10, 3) := by decide +kernel
theorem d_Mo_get_358 : decode b_Mo_get 358 = .ok (.aload_n 0, 1) := by decide +kernel
theorem d_Mo_get_359 : decode b_Mo_get 359 = .ok (.getfield 44, 3) := by decide +kernel
theorem d_Mo_get_362 : decode b_Mo_get 362 = .ok (.iload 6, 2) := by decide +kernel
theorem d_Mo_get_364 : decode b_Mo_get 364 = .ok (.iaload, 1) := by decide +kernel
theorem d_Mo_get_365 : decode b_Mo_get 365 = .ok (.iastore, 1) := by decide +kernel
theorem d_Mo_get_366 : decode b_Mo_get 366 = .ok (.aload_n 0, 1) := by decide +kernel
theorem d_Mo_get_367 : decode b_Mo_get 367 = .ok (.getfield 47, 3) := by decide +kernel
theorem d_Mo_get_370 : decode b_Mo_get 370 = .ok (.iload 6, 2) := by decide +kernel
theorem d_Mo_get_372 : decode b_Mo_get 372 = .ok (.iload 8, 2) := by decide +kernel
theorem d_Mo_get_374 : decode b_Mo_get 374 = .ok (.ifCond .ge 7, 3) := by decide +kernel
theorem d_Mo_get_377 : decode b_Mo_get 377 = .ok (.iconst 0, 1) := by decide +kernel
theorem d_Mo_get_378 : decode b_Mo_get 378 = .ok (.goto 5, 3) := by decide +kernel
theorem d_Mo_get_381 : decode b_Mo_get 381 = .ok (.iload 8, 2) := by decide +kernel
theorem d_Mo_get_383 : decode b_Mo_get 383 = .ok (.iastore, 1) := by decide +kernel
theorem d_Mo_get_384 : decode b_Mo_get 384 = .ok (.iinc 6 1, 3) := by decide +kernel
theorem d_Mo_get_387 : decode b_Mo_get 387 = .ok (.goto (-170), 3) := by decide +kernel
theorem d_Mo_get_390 : decode b_Mo_get 390 = .ok (.aload_n 0, 1) := by decide +kernel
theorem d_Mo_get_391 : decode b_Mo_get 391 = .ok (.iload_n 2, 1) := by decide +kernel
theorem d_Mo_get_392 : decode b_Mo_get 392 = .ok (.invokevirtual 84, 3) := by decide +kernel
theorem d_Mo_get_395 : decode b_Mo_get 395 = .ok (.aload_n 0, 1) := by decide +kernel
theorem d_Mo_get_396 : decode b_Mo_get 396 = .ok (.getfield 20, 3) := by decide +kernel
theorem d_Mo_get_399 : decode b_Mo_get 399 = .ok (.iload_n 1, 1) := by decide +kernel
theorem d_Mo_get_400 : decode b_Mo_get 400 = .ok (.dup2, 1) := by decide +kernel
theorem d_Mo_get_401 : decode b_Mo_get 401 = .ok (.iaload, 1) := by decide +kernel
theorem d_Mo_get_402 : decode b_Mo_get 402 = .ok (.iconst 1, 1) := by decide +kernel
theorem d_Mo_get_403 : decode b_Mo_get 403 = .ok (.iadd, 1) := by decide +kernel
theorem d_Mo_get_404 : decode b_Mo_get 404 = .ok (.iastore, 1) := by decide +kernel
theorem d_Mo_get_405 : decode b_Mo_get 405 = .ok (.return_, 1) := by decide +kernel
theorem d_Mo_got_0 : decode b_Mo_got 0 = .ok (.aload_n 0, 1) := by decide +kernel
theorem d_Mo_got_1 : decode b_Mo_got 1 = .ok (.iload_n 1, 1) := by decide +kernel
theorem d_Mo_got_2 : decode b_Mo_got 2 = .ok (.invokestatic 94, 3) := by decide +kernel
theorem d_Mo_got_5 : decode b_Mo_got 5 = .ok (.ifCond .eq 7, 3) := by decide +kernel
theorem d_Mo_got_8 : decode b_Mo_got 8 = .ok (.iconst 0, 1) := by decide +kernel
theorem d_Mo_got_9 : decode b_Mo_got 9 = .ok (.goto 4, 3) := by decide +kernel
theorem d_Mo_got_12 : decode b_Mo_got 12 = .ok (.iconst 1, 1) := by decide +kernel
theorem d_Mo_got_13 : decode b_Mo_got 13 = .ok (.putfield 56, 3) := by decide +kernel
theorem d_Mo_got_16 : decode b_Mo_got 16 = .ok (.aload_n 0, 1) := by decide +kernel
theorem d_Mo_got_17 : decode b_Mo_got 17 = .ok (.getfield 56, 3) := by decide +kernel
theorem d_Mo_got_20 : decode b_Mo_got 20 = .ok (.ifCond .ne 16, 3) := by decide +kernel
theorem d_Mo_got_23 : decode b_Mo_got 23 = .ok (.aload_n 0, 1) := by decide +kernel
theorem d_Mo_got_24 : decode b_Mo_got 24 = .ok (.getfield 20, 3) := by decide +kernel
theorem d_Mo_got_27 : decode b_Mo_got 27 = .ok (.iload_n 1, 1) := by decide +kernel
theorem d_Mo_got_28 : decode b_Mo_got 28 = .ok (.iload_n 2, 1) := by decide +kernel
theorem d_Mo_got_29 : decode b_Mo_got 29 = .ok (.invokestatic 87, 3) := by decide +kernel
theorem d_Mo_got_32 : decode b_Mo_got 32 = .ok (.iaload, 1) := by decide +kernel
theorem d_Mo_got_33 : decode b_Mo_got 33 = .ok (.goto 4, 3) := by decide +kernel
theorem d_Mo_got_36 : decode b_Mo_got 36 = .ok (.iconst 0, 1) := by decide +kernel
theorem d_Mo_got_37 : decode b_Mo_got 37 = .ok (.ireturn, 1) := by decide +kernel
theorem d_Mo_init_0 : decode b_Mo_init 0 = .ok (.aload_n 0, 1) := by decide +kernel
theorem d_Mo_init_1 : decode b_Mo_init 1 = .ok (.invokespecial 1, 3) := by decide +kernel
theorem d_Mo_init_4 : decode b_Mo_init 4 = .ok (.aload_n 0, 1) := by decide +kernel
theorem d_Mo_init_5 : decode b_Mo_init 5 = .ok (.iconst 4, 1) := by decide +kernel
theorem d_Mo_init_6 : decode b_Mo_init 6 = .ok (.newarray .int, 2) := by decide +kernel
theorem d_Mo_init_8 : decode b_Mo_init 8 = .ok (.putfield 7, 3) := by decide +kernel
theorem d_Mo_init_11 : decode b_Mo_init 11 = .ok (.aload_n 0, 1) := by decide +kernel
theorem d_Mo_init_12 : decode b_Mo_init 12 = .ok (.sipush 800, 3) := by decide +kernel
theorem d_Mo_init_15 : decode b_Mo_init 15 = .ok (.newarray .char, 2) := by decide +kernel
theorem d_Mo_init_17 : decode b_Mo_init 17 = .ok (.putfield 13, 3) := by decide +kernel
theorem d_Mo_init_20 : decode b_Mo_init 20 = .ok (.aload_n 0, 1) := by decide +kernel
theorem d_Mo_init_21 : decode b_Mo_init 21 = .ok (.bipush 6, 2) := by decide +kernel
theorem d_Mo_init_23 : decode b_Mo_init 23 = .ok (.newarray .int, 2) := by decide +kernel
theorem d_Mo_init_25 : decode b_Mo_init 25 = .ok (.putfield 17, 3) := by decide +kernel
theorem d_Mo_init_28 : decode b_Mo_init 28 = .ok (.aload_n 0, 1) := by decide +kernel
theorem d_Mo_init_29 : decode b_Mo_init 29 = .ok (.bipush 6, 2) := by decide +kernel
theorem d_Mo_init_31 : decode b_Mo_init 31 = .ok (.newarray .int, 2) := by decide +kernel
theorem d_Mo_init_33 : decode b_Mo_init 33 = .ok (.putfield 20, 3) := by decide +kernel
theorem d_Mo_init_36 : decode b_Mo_init 36 = .ok (.aload_n 0, 1) := by decide +kernel
theorem d_Mo_init_37 : decode b_Mo_init 37 = .ok (.bipush 6, 2) := by decide +kernel
theorem d_Mo_init_39 : decode b_Mo_init 39 = .ok (.newarray .int, 2) := by decide +kernel
theorem d_Mo_init_41 : decode b_Mo_init 41 = .ok (.putfield 23, 3) := by decide +kernel
theorem d_Mo_init_44 : decode b_Mo_init 44 = .ok (.aload_n 0, 1) := by decide +kernel
theorem d_Mo_init_45 : decode b_Mo_init 45 = .ok (.sipush 240, 3) := by decide +kernel
theorem d_Mo_init_48 : decode b_Mo_init 48 = .ok (.newarray .int, 2) := by decide +kernel
theorem d_Mo_init_50 : decode b_Mo_init 50 = .ok (.putfield 26, 3) := by decide +kernel
theorem d_Mo_init_53 : decode b_Mo_init 53 = .ok (.aload_n 0, 1) := by decide +kernel
theorem d_Mo_init_54 : decode b_Mo_init 54 = .ok (.sipush 240, 3) := by decide +kernel
theorem d_Mo_init_57 : decode b_Mo_init 57 = .ok (.newarray .int, 2) := by decide +kernel
theorem d_Mo_init_59 : decode b_Mo_init 59 = .ok (.putfield 29, 3) := by decide +kernel
theorem d_Mo_init_62 : decode b_Mo_init 62 = .ok (.aload_n 0, 1) := by decide +kernel
theorem d_Mo_init_63 : decode b_Mo_init 63 = .ok (.sipush 240, 3) := by decide +kernel
theorem d_Mo_init_66 : decode b_Mo_init 66 = .ok (.newarray .int, 2) := by decide +kernel
theorem d_Mo_init_68 : decode b_Mo_init 68 = .ok (.putfield 32, 3) := by decide +kernel
theorem d_Mo_init_71 : decode b_Mo_init 71 = .ok (.aload_n 0, 1) := by decide +kernel
theorem d_Mo_init_72 : decode b_Mo_init 72 = .ok (.sipush 240, 3) := by decide +kernel
theorem d_Mo_init_75 : decode b_Mo_init 75 = .ok (.newarray .int, 2) := by decide +kernel
theorem d_Mo_init_77 : decode b_Mo_init 77 = .ok (.putfield 35, 3) := by decide +kernel
theorem d_Mo_init_80 : decode b_Mo_init 80 = .ok (.aload_n 0, 1) := by decide +kernel
theorem d_Mo_init_81 : decode b_Mo_init 81 = .ok (.sipush 240, 3) := by decide +kernel
theorem d_Mo_init_84 : decode b_Mo_init 84 = .ok (.newarray .int, 2) := by decide +kernel
theorem d_Mo_init_86 : decode b_Mo_init 86 = .ok (.putfield 38, 3) := by decide +kernel
theorem d_Mo_init_89 : decode b_Mo_init 89 = .ok (.aload_n 0, 1) := by decide +kernel
theorem d_Mo_init_90 : decode b_Mo_init 90 = .ok (.bipush 6, 2) := by decide +kernel
theorem d_Mo_init_92 : decode b_Mo_init 92 = .ok (.newarray .int, 2) := by decide +kernel
theorem d_Mo_init_94 : decode b_Mo_init 94 = .ok (.putfield 41, 3) := by decide +kernel
theorem d_Mo_init_97 : decode b_Mo_init 97 = .ok (.aload_n 0, 1) := by decide +kernel
theorem d_Mo_init_98 : decode b_Mo_init 98 = .ok (.sipush 240, 3) := by decide +kernel
theorem d_Mo_init_101 : decode b_Mo_init 101 = .ok (.newarray .int, 2) := by decide +kernel
theorem d_Mo_init_103 : decode b_Mo_init 103 = .ok (.putfield 44, 3) := by decide +kernel
theorem d_Mo_init_106 : decode b_Mo_init 106 = .ok (.aload_n 0, 1) := by decide +kernel
theorem d_Mo_init_107 : decode b_Mo_init 107 = .ok (.sipush 240, 3) := by decide +kernel
theorem d_Mo_init_110 : decode b_Mo_init 110 = .ok (.newarray .int, 2) := by decide +kernel
theorem d_Mo_init_112 : decode b_Mo_init 112 = .ok (.putfield 47, 3) := by decide +kernel
theorem d_Mo_init_115 : decode b_Mo_init 115 = .ok (.aload_n 0, 1) := by decide +kernel
theorem d_Mo_init_116 : decode b_Mo_init 116 = .ok (.sipush 240, 3) := by decide +kernel
theorem d_Mo_init_119 : decode b_Mo_init 119 = .ok (.newarray .int, 2) := by decide +kernel
theorem d_Mo_init_121 : decode b_Mo_init 121 = .ok (.putfield 50, 3) := by decide +kernel
theorem d_Mo_init_124 : decode b_Mo_init 124 = .ok (.aload_n 0, 1) := by decide +kernel
theorem d_Mo_init_125 : decode b_Mo_init 125 = .ok (.sipush 240, 3) := by decide +kernel
theorem d_Mo_init_128 : decode b_Mo_init 128 = .ok (.newarray .int, 2) := by decide +kernel
theorem d_Mo_init_130 : decode b_Mo_init 130 = .ok (.putfield 53, 3) := by decide +kernel
theorem d_Mo_init_133 : decode b_Mo_init 133 = .ok (.return_, 1) := by decide +kernel
theorem d_Mo_insert_0 : decode b_Mo_insert 0 = .ok (.iload_n 1, 1) := by decide +kernel
theorem d_Mo_insert_1 : decode b_Mo_insert 1 = .ok (.invokestatic 94, 3) := by decide +kernel
theorem d_Mo_insert_4 : decode b_Mo_insert 4 = .ok (.ifCond .eq 15, 3) := by decide +kernel
theorem d_Mo_insert_7 : decode b_Mo_insert 7 = .ok (.iload_n 3, 1) := by decide +kernel
theorem d_Mo_insert_8 : decode b_Mo_insert 8 = .ok (.bipush 32, 2) := by decide +kernel
theorem d_Mo_insert_10 : decode b_Mo_insert 10 = .ok (.if_icmp .lt 9, 3) := by decide +kernel
theorem d_Mo_insert_13 : decode b_Mo_insert 13 = .ok (.iload_n 3, 1) := by decide +kernel
theorem d_Mo_insert_14 : decode b_Mo_insert 14 = .ok (.bipush 126, 2) := by decide +kernel
theorem d_Mo_insert_16 : decode b_Mo_insert 16 = .ok (.if_icmp .le 7, 3) := by decide +kernel
theorem d_Mo_insert_19 : decode b_Mo_insert 19 = .ok (.iconst 1, 1) := by decide +kernel
theorem d_Mo_insert_20 : decode b_Mo_insert 20 = .ok (.goto 4, 3) := by decide +kernel
theorem d_Mo_insert_23 : decode b_Mo_insert 23 = .ok (.iconst 0, 1) := by decide +kernel
theorem d_Mo_insert_24 : decode b_Mo_insert 24 = .ok (.istore 4, 2) := by decide +kernel
theorem d_Mo_insert_26 : decode b_Mo_insert 26 = .ok (.aload_n 0, 1) := by decide +kernel
theorem d_Mo_insert_27 : decode b_Mo_insert 27 = .ok (.iload 4, 2) := by decide +kernel
theorem d_Mo_insert_29 : decode b_Mo_insert 29 = .ok (.ifCond .eq 7, 3) := by decide +kernel
theorem d_Mo_insert_32 : decode b_Mo_insert 32 = .ok (.iconst 1, 1) := by decide +kernel
theorem d_Mo_insert_33 : decode b_Mo_insert 33 = .ok (.goto 45, 3) := by decide +kernel
theorem d_Mo_insert_36 : decode b_Mo_insert 36 = .ok (.iload_n 2, 1) := by decide +kernel
theorem d_Mo_insert_37 : decode b_Mo_insert 37 = .ok (.ifCond .lt 13, 3) := by decide +kernel
theorem d_Mo_insert_40 : decode b_Mo_insert 40 = .ok (.iload_n 2, 1) := by decide +kernel
theorem d_Mo_insert_41 : decode b_Mo_insert 41 = .ok (.aload_n 0, 1) := by decide +kernel
theorem d_Mo_insert_42 : decode b_Mo_insert 42 = .ok (.getfield 7, 3) := by decide +kernel
theorem d_Mo_insert_45 : decode b_Mo_insert 45 = .ok (.iload_n 1, 1) := by decide +kernel
theorem d_Mo_insert_46 : decode b_Mo_insert 46 = .ok (.iaload, 1) := by decide +kernel
theorem d_Mo_insert_47 : decode b_Mo_insert 47 = .ok (.if_icmp .le 7, 3) := by decide +kernel
theorem d_Mo_insert_50 : decode b_Mo_insert 50 = .ok (.iconst 2, 1) := by decide +kernel
theorem d_Mo_insert_51 : decode b_Mo_insert 51 = .ok (.goto 27, 3) := by decide +kernel
theorem d_Mo_insert_54 : decode b_Mo_insert 54 = .ok (.aload_n 0, 1) := by decide +kernel
theorem d_Mo_insert_55 : decode b_Mo_insert 55 = .ok (.getfield 7, 3) := by decide +kernel
theorem d_Mo_insert_58 : decode b_Mo_insert 58 = .ok (.iload_n 1, 1) := by decide +kernel
theorem d_Mo_insert_59 : decode b_Mo_insert 59 = .ok (.iaload, 1) := by decide +kernel
theorem d_Mo_insert_60 : decode b_Mo_insert 60 = .ok (.bipush 40, 2) := by decide +kernel
theorem d_Mo_insert_62 : decode b_Mo_insert 62 = .ok (.if_icmp .ge 11, 3) := by decide +kernel
theorem d_Mo_insert_65 : decode b_Mo_insert 65 = .ok (.aload_n 0, 1) := by decide +kernel
theorem d_Mo_insert_66 : decode b_Mo_insert 66 = .ok (.iload_n 1, 1) := by decide +kernel
theorem d_Mo_insert_67 : decode b_Mo_insert 67 = .ok (.invokevirtual 98, 3) := by decide +kernel
theorem d_Mo_insert_70 : decode b_Mo_insert 70 = .ok (.ifCond .eq 7, 3) := by decide +kernel
theorem d_Mo_insert_73 : decode b_Mo_insert 73 = .ok (.iconst 3, 1) := by decide +kernel
theorem d_Mo_insert_74 : decode b_Mo_insert 74 = .ok (.goto 4, 3) := by decide +kernel
theorem d_Mo_insert_77 : decode b_Mo_insert 77 = .ok (.iconst 0, 1) := by decide +kernel
theorem d_Mo_insert_78 : decode b_Mo_insert 78 = .ok (.putfield 56, 3) := by decide +kernel
theorem d_Mo_insert_81 : decode b_Mo_insert 81 = .ok (.aload_n 0, 1) := by decide +kernel
theorem d_Mo_insert_82 : decode b_Mo_insert 82 = .ok (.getfield 56, 3) := by decide +kernel
theorem d_Mo_insert_85 : decode b_Mo_insert 85 = .ok (.ifCond .eq 5, 3) := by decide +kernel
theorem d_Mo_insert_88 : decode b_Mo_insert 88 = .ok (.iconst 0, 1) := by decide +kernel
theorem d_Mo_insert_89 : decode b_Mo_insert 89 = .ok (.ireturn, 1) := by decide +kernel
theorem d_Mo_insert_90 : decode b_Mo_insert 90 = .ok (.aload_n 0, 1) := by decide +kernel
theorem d_Mo_insert_91 : decode b_Mo_insert 91 = .ok (.iload_n 1, 1) := by decide +kernel
theorem d_Mo_insert_92 : decode b_Mo_insert 92 = .ok (.iconst 0, 1) := by decide +kernel
theorem d_Mo_insert_93 : decode b_Mo_insert 93 = .ok (.iload_n 2, 1) := by decide +kernel
theorem d_Mo_insert_94 : decode b_Mo_insert 94 = .ok (.iload_n 3, 1) := by decide +kernel
theorem d_Mo_insert_95 : decode b_Mo_insert 95 = .ok (.invokevirtual 101, 3) := by decide +kernel
theorem d_Mo_insert_98 : decode b_Mo_insert 98 = .ok (.aload_n 0, 1) := by decide +kernel
theorem d_Mo_insert_99 : decode b_Mo_insert 99 = .ok (.getfield 7, 3) := by decide +kernel
theorem d_Mo_insert_102 : decode b_Mo_insert 102 = .ok (.iload_n 1, 1) := by decide +kernel
theorem d_Mo_insert_103 : decode b_Mo_insert 103 = .ok (.iaload, 1) := by decide +kernel
theorem d_Mo_insert_104 : decode b_Mo_insert 104 = .ok (.ireturn, 1) := by decide +kernel
theorem d_Mo_isClient_0 : decode b_Mo_isClient 0 = .ok (.iload_n 0, 1) := by decide +kernel
theorem d_Mo_isClient_1 : decode b_Mo_isClient 1 = .ok (.iconst 1, 1) := by decide +kernel
theorem d_Mo_isClient_2 : decode b_Mo_isClient 2 = .ok (.if_icmp .lt 12, 3) := by decide +kernel
theorem d_Mo_isClient_5 : decode b_Mo_isClient 5 = .ok (.iload_n 0, 1) := by decide +kernel
theorem d_Mo_isClient_6 : decode b_Mo_isClient 6 = .ok (.iconst 3, 1) := by decide +kernel
theorem d_Mo_isClient_7 : decode b_Mo_isClient 7 = .ok (.if_icmp .gt 7, 3) := by decide +kernel
theorem d_Mo_isClient_10 : decode b_Mo_isClient 10 = .ok (.iconst 1, 1) := by decide +kernel
theorem d_Mo_isClient_11 : decode b_Mo_isClient 11 = .ok (.goto 4, 3) := by decide +kernel
theorem d_Mo_isClient_14 : decode b_Mo_isClient 14 = .ok (.iconst 0, 1) := by decide +kernel
theorem d_Mo_isClient_15 : decode b_Mo_isClient 15 = .ok (.ireturn, 1) := by decide +kernel
theorem d_Mo_isSite_0 : decode b_Mo_isSite 0 = .ok (.iload_n 0, 1) := by decide +kernel
theorem d_Mo_isSite_1 : decode b_Mo_isSite 1 = .ok (.ifCond .lt 12, 3) := by decide +kernel
theorem d_Mo_isSite_4 : decode b_Mo_isSite 4 = .ok (.iload_n 0, 1) := by decide +kernel
theorem d_Mo_isSite_5 : decode b_Mo_isSite 5 = .ok (.iconst 3, 1) := by decide +kernel
theorem d_Mo_isSite_6 : decode b_Mo_isSite 6 = .ok (.if_icmp .gt 7, 3) := by decide +kernel
theorem d_Mo_isSite_9 : decode b_Mo_isSite 9 = .ok (.iconst 1, 1) := by decide +kernel
theorem d_Mo_isSite_10 : decode b_Mo_isSite 10 = .ok (.goto 4, 3) := by decide +kernel
theorem d_Mo_isSite_13 : decode b_Mo_isSite 13 = .ok (.iconst 0, 1) := by decide +kernel
theorem d_Mo_isSite_14 : decode b_Mo_isSite 14 = .ok (.ireturn, 1) := by decide +kernel
theorem d_Mo_letter_0 : decode b_Mo_letter 0 = .ok (.aload_n 0, 1) := by decide +kernel
theorem d_Mo_letter_1 : decode b_Mo_letter 1 = .ok (.iload_n 1, 1) := by decide +kernel
theorem d_Mo_letter_2 : decode b_Mo_letter 2 = .ok (.invokestatic 109, 3) := by decide +kernel
theorem d_Mo_letter_5 : decode b_Mo_letter 5 = .ok (.ifCond .ne 7, 3) := by decide +kernel
theorem d_Mo_letter_8 : decode b_Mo_letter 8 = .ok (.iconst 1, 1) := by decide +kernel
theorem d_Mo_letter_9 : decode b_Mo_letter 9 = .ok (.goto 22, 3) := by decide +kernel
theorem d_Mo_letter_12 : decode b_Mo_letter 12 = .ok (.iload_n 2, 1) := by decide +kernel
theorem d_Mo_letter_13 : decode b_Mo_letter 13 = .ok (.ifCond .lt 13, 3) := by decide +kernel
theorem d_Mo_letter_16 : decode b_Mo_letter 16 = .ok (.iload_n 2, 1) := by decide +kernel
theorem d_Mo_letter_17 : decode b_Mo_letter 17 = .ok (.aload_n 0, 1) := by decide +kernel
theorem d_Mo_letter_18 : decode b_Mo_letter 18 = .ok (.getfield 7, 3) := by decide +kernel
theorem d_Mo_letter_21 : decode b_Mo_letter 21 = .ok (.iload_n 1, 1) := by decide +kernel
theorem d_Mo_letter_22 : decode b_Mo_letter 22 = .ok (.iaload, 1) := by decide +kernel
theorem d_Mo_letter_23 : decode b_Mo_letter 23 = .ok (.if_icmp .lt 7, 3) := by decide +kernel
theorem d_Mo_letter_26 : decode b_Mo_letter 26 = .ok (.iconst 2, 1) := by decide +kernel
theorem d_Mo_letter_27 : decode b_Mo_letter 27 = .ok (.goto 4, 3) := by decide +kernel
theorem d_Mo_letter_30 : decode b_Mo_letter 30 = .ok (.iconst 0, 1) := by decide +kernel
theorem d_Mo_letter_31 : decode b_Mo_letter 31 = .ok (.putfield 56, 3) := by decide +kernel
theorem d_Mo_letter_34 : decode b_Mo_letter 34 = .ok (.aload_n 0, 1) := by decide +kernel
theorem d_Mo_letter_35 : decode b_Mo_letter 35 = .ok (.getfield 56, 3) := by decide +kernel
theorem d_Mo_letter_38 : decode b_Mo_letter 38 = .ok (.ifCond .ne 18, 3) := by decide +kernel
theorem d_Mo_letter_41 : decode b_Mo_letter 41 = .ok (.aload_n 0, 1) := by decide +kernel
theorem d_Mo_letter_42 : decode b_Mo_letter 42 = .ok (.getfield 13, 3) := by decide +kernel
theorem d_Mo_letter_45 : decode b_Mo_letter 45 = .ok (.sipush 200, 3) := by decide +kernel
theorem d_Mo_letter_48 : decode b_Mo_letter 48 = .ok (.iload_n 1, 1) := by decide +kernel
theorem d_Mo_letter_49 : decode b_Mo_letter 49 = .ok (.imul, 1) := by decide +kernel
theorem d_Mo_letter_50 : decode b_Mo_letter 50 = .ok (.iload_n 2, 1) := by decide +kernel
theorem d_Mo_letter_51 : decode b_Mo_letter 51 = .ok (.iadd, 1) := by decide +kernel
theorem d_Mo_letter_52 : decode b_Mo_letter 52 = .ok (.caload, 1) := by decide +kernel
theorem d_Mo_letter_53 : decode b_Mo_letter 53 = .ok (.goto 4, 3) := by decide +kernel
theorem d_Mo_letter_56 : decode b_Mo_letter 56 = .ok (.iconst 0, 1) := by decide +kernel
theorem d_Mo_letter_57 : decode b_Mo_letter 57 = .ok (.ireturn, 1) := by decide +kernel
theorem d_Mo_line_0 : decode b_Mo_line 0 = .ok (.iconst 2, 1) := by decide +kernel
theorem d_Mo_line_1 : decode b_Mo_line 1 = .ok (.iload_n 0, 1) := by decide +kernel
theorem d_Mo_line_2 : decode b_Mo_line 2 = .ok (.imul, 1) := by decide +kernel
theorem d_Mo_line_3 : decode b_Mo_line 3 = .ok (.iload_n 1, 1) := by decide +kernel
theorem d_Mo_line_4 : decode b_Mo_line 4 = .ok (.ifCond .eq 7, 3) := by decide +kernel
theorem d_Mo_line_7 : decode b_Mo_line 7 = .ok (.iconst 2, 1) := by decide +kernel
theorem d_Mo_line_8 : decode b_Mo_line 8 = .ok (.goto 4, 3) := by decide +kernel
theorem d_Mo_line_11 : decode b_Mo_line 11 = .ok (.iconst 1, 1) := by decide +kernel
theorem d_Mo_line_12 : decode b_Mo_line 12 = .ok (.isub, 1) := by decide +kernel
theorem d_Mo_line_13 : decode b_Mo_line 13 = .ok (.ireturn, 1) := by decide +kernel
theorem d_Mo_loaded_0 : decode b_Mo_loaded 0 = .ok (.aload_n 0, 1) := by decide +kernel
theorem d_Mo_loaded_1 : decode b_Mo_loaded 1 = .ok (.getfield 41, 3) := by decide +kernel
theorem d_Mo_loaded_4 : decode b_Mo_loaded 4 = .ok (.iload_n 1, 1) := by decide +kernel
theorem d_Mo_loaded_5 : decode b_Mo_loaded 5 = .ok (.iconst 1, 1) := by decide +kernel
theorem d_Mo_loaded_6 : decode b_Mo_loaded 6 = .ok (.invokestatic 87, 3) := by decide +kernel
theorem d_Mo_loaded_9 : decode b_Mo_loaded 9 = .ok (.iaload, 1) := by decide +kernel
theorem d_Mo_loaded_10 : decode b_Mo_loaded 10 = .ok (.bipush 16, 2) := by decide +kernel
theorem d_Mo_loaded_12 : decode b_Mo_loaded 12 = .ok (.if_icmp .lt 7, 3) := by decide +kernel
theorem d_Mo_loaded_15 : decode b_Mo_loaded 15 = .ok (.iconst 1, 1) := by decide +kernel
theorem d_Mo_loaded_16 : decode b_Mo_loaded 16 = .ok (.goto 4, 3) := by decide +kernel
theorem d_Mo_loaded_19 : decode b_Mo_loaded 19 = .ok (.iconst 0, 1) := by decide +kernel
theorem d_Mo_loaded_20 : decode b_Mo_loaded 20 = .ok (.ireturn, 1) := by decide +kernel
theorem d_Mo_nod_0 : decode b_Mo_nod 0 = .ok (.aload_n 0, 1) := by decide +kernel
theorem d_Mo_nod_1 : decode b_Mo_nod 1 = .ok (.iload_n 1, 1) := by decide +kernel
theorem d_Mo_nod_2 : decode b_Mo_nod 2 = .ok (.invokestatic 94, 3) := by decide +kernel
theorem d_Mo_nod_5 : decode b_Mo_nod 5 = .ok (.ifCond .ne 7, 3) := by decide +kernel
theorem d_Mo_nod_8 : decode b_Mo_nod 8 = .ok (.iconst 1, 1) := by decide +kernel
theorem d_Mo_nod_9 : decode b_Mo_nod 9 = .ok (.goto 16, 3) := by decide +kernel
theorem d_Mo_nod_12 : decode b_Mo_nod 12 = .ok (.aload_n 0, 1) := by decide +kernel
theorem d_Mo_nod_13 : decode b_Mo_nod 13 = .ok (.iload_n 1, 1) := by decide +kernel
theorem d_Mo_nod_14 : decode b_Mo_nod 14 = .ok (.invokevirtual 98, 3) := by decide +kernel
theorem d_Mo_nod_17 : decode b_Mo_nod 17 = .ok (.ifCond .eq 7, 3) := by decide +kernel
theorem d_Mo_nod_20 : decode b_Mo_nod 20 = .ok (.iconst 2, 1) := by decide +kernel
theorem d_Mo_nod_21 : decode b_Mo_nod 21 = .ok (.goto 4, 3) := by decide +kernel
theorem d_Mo_nod_24 : decode b_Mo_nod 24 = .ok (.iconst 0, 1) := by decide +kernel
theorem d_Mo_nod_25 : decode b_Mo_nod 25 = .ok (.putfield 56, 3) := by decide +kernel
theorem d_Mo_nod_28 : decode b_Mo_nod 28 = .ok (.aload_n 0, 1) := by decide +kernel
theorem d_Mo_nod_29 : decode b_Mo_nod 29 = .ok (.getfield 56, 3) := by decide +kernel
theorem d_Mo_nod_32 : decode b_Mo_nod 32 = .ok (.ifCond .ne 11, 3) := by decide +kernel
theorem d_Mo_nod_35 : decode b_Mo_nod 35 = .ok (.aload_n 0, 1) := by decide +kernel
theorem d_Mo_nod_36 : decode b_Mo_nod 36 = .ok (.iload_n 1, 1) := by decide +kernel
theorem d_Mo_nod_37 : decode b_Mo_nod 37 = .ok (.iconst 2, 1) := by decide +kernel
theorem d_Mo_nod_38 : decode b_Mo_nod 38 = .ok (.iconst 0, 1) := by decide +kernel
theorem d_Mo_nod_39 : decode b_Mo_nod 39 = .ok (.iconst 0, 1) := by decide +kernel
theorem d_Mo_nod_40 : decode b_Mo_nod 40 = .ok (.invokevirtual 101, 3) := by decide +kernel
theorem d_Mo_nod_43 : decode b_Mo_nod 43 = .ok (.return_, 1) := by decide +kernel
theorem d_Mo_open_0 : decode b_Mo_open 0 = .ok (.aload_n 0, 1) := by decide +kernel
theorem d_Mo_open_1 : decode b_Mo_open 1 = .ok (.iload_n 1, 1) := by decide +kernel
theorem d_Mo_open_2 : decode b_Mo_open 2 = .ok (.invokestatic 94, 3) := by decide +kernel
theorem d_Mo_open_5 : decode b_Mo_open 5 = .ok (.ifCond .eq 7, 3) := by decide +kernel
theorem d_Mo_open_8 : decode b_Mo_open 8 = .ok (.iconst 0, 1) := by decide +kernel
theorem d_Mo_open_9 : decode b_Mo_open 9 = .ok (.goto 4, 3) := by decide +kernel
theorem d_Mo_open_12 : decode b_Mo_open 12 = .ok (.iconst 1, 1) := by decide +kernel
theorem d_Mo_open_13 : decode b_Mo_open 13 = .ok (.putfield 56, 3) := by decide +kernel
theorem d_Mo_open_16 : decode b_Mo_open 16 = .ok (.aload_n 0, 1) := by decide +kernel
theorem d_Mo_open_17 : decode b_Mo_open 17 = .ok (.getfield 56, 3) := by decide +kernel
theorem d_Mo_open_20 : decode b_Mo_open 20 = .ok (.ifCond .ne 16, 3) := by decide +kernel
theorem d_Mo_open_23 : decode b_Mo_open 23 = .ok (.aload_n 0, 1) := by decide +kernel
theorem d_Mo_open_24 : decode b_Mo_open 24 = .ok (.getfield 41, 3) := by decide +kernel
theorem d_Mo_open_27 : decode b_Mo_open 27 = .ok (.iload_n 1, 1) := by decide +kernel
theorem d_Mo_open_28 : decode b_Mo_open 28 = .ok (.iload_n 2, 1) := by decide +kernel
theorem d_Mo_open_29 : decode b_Mo_open 29 = .ok (.invokestatic 87, 3) := by decide +kernel
theorem d_Mo_open_32 : decode b_Mo_open 32 = .ok (.iaload, 1) := by decide +kernel
theorem d_Mo_open_33 : decode b_Mo_open 33 = .ok (.goto 4, 3) := by decide +kernel
theorem d_Mo_open_36 : decode b_Mo_open 36 = .ok (.iconst 0, 1) := by decide +kernel
theorem d_Mo_open_37 : decode b_Mo_open 37 = .ok (.ireturn, 1) := by decide +kernel
theorem d_Mo_pull_0 : decode b_Mo_pull 0 = .ok (.aload_n 0, 1) := by decide +kernel
theorem d_Mo_pull_1 : decode b_Mo_pull 1 = .ok (.iload_n 1, 1) := by decide +kernel
theorem d_Mo_pull_2 : decode b_Mo_pull 2 = .ok (.invokestatic 94, 3) := by decide +kernel
theorem d_Mo_pull_5 : decode b_Mo_pull 5 = .ok (.ifCond .ne 7, 3) := by decide +kernel
theorem d_Mo_pull_8 : decode b_Mo_pull 8 = .ok (.iconst 1, 1) := by decide +kernel
theorem d_Mo_pull_9 : decode b_Mo_pull 9 = .ok (.goto 21, 3) := by decide +kernel
theorem d_Mo_pull_12 : decode b_Mo_pull 12 = .ok (.aload_n 0, 1) := by decide +kernel
theorem d_Mo_pull_13 : decode b_Mo_pull 13 = .ok (.getfield 23, 3) := by decide +kernel
theorem d_Mo_pull_16 : decode b_Mo_pull 16 = .ok (.iload_n 1, 1) := by decide +kernel
theorem d_Mo_pull_17 : decode b_Mo_pull 17 = .ok (.iconst 0, 1) := by decide +kernel
theorem d_Mo_pull_18 : decode b_Mo_pull 18 = .ok (.invokestatic 87, 3) := by decide +kernel
theorem d_Mo_pull_21 : decode b_Mo_pull 21 = .ok (.iaload, 1) := by decide +kernel
theorem d_Mo_pull_22 : decode b_Mo_pull 22 = .ok (.ifCond .ne 7, 3) := by decide +kernel
theorem d_Mo_pull_25 : decode b_Mo_pull 25 = .ok (.iconst 2, 1) := by decide +kernel
theorem d_Mo_pull_26 : decode b_Mo_pull 26 = .ok (.goto 4, 3) := by decide +kernel
theorem d_Mo_pull_29 : decode b_Mo_pull 29 = .ok (.iconst 0, 1) := by decide +kernel
theorem d_Mo_pull_30 : decode b_Mo_pull 30 = .ok (.putfield 56, 3) := by decide +kernel
theorem d_Mo_pull_33 : decode b_Mo_pull 33 = .ok (.aload_n 0, 1) := by decide +kernel
theorem d_Mo_pull_34 : decode b_Mo_pull 34 = .ok (.getfield 56, 3) := by decide +kernel
theorem d_Mo_pull_37 : decode b_Mo_pull 37 = .ok (.ifCond .eq 5, 3) := by decide +kernel
theorem d_Mo_pull_40 : decode b_Mo_pull 40 = .ok (.iconst 0, 1) := by decide +kernel
theorem d_Mo_pull_41 : decode b_Mo_pull 41 = .ok (.ireturn, 1) := by decide +kernel
theorem d_Mo_pull_42 : decode b_Mo_pull 42 = .ok (.aload_n 0, 1) := by decide +kernel
theorem d_Mo_pull_43 : decode b_Mo_pull 43 = .ok (.iload_n 1, 1) := by decide +kernel
theorem d_Mo_pull_44 : decode b_Mo_pull 44 = .ok (.iconst 0, 1) := by decide +kernel
theorem d_Mo_pull_45 : decode b_Mo_pull 45 = .ok (.invokestatic 87, 3) := by decide +kernel
theorem d_Mo_pull_48 : decode b_Mo_pull 48 = .ok (.iload_n 1, 1) := by decide +kernel
theorem d_Mo_pull_49 : decode b_Mo_pull 49 = .ok (.invokevirtual 105, 3) := by decide +kernel
theorem d_Mo_pull_52 : decode b_Mo_pull 52 = .ok (.aload_n 0, 1) := by decide +kernel
theorem d_Mo_pull_53 : decode b_Mo_pull 53 = .ok (.getfield 60, 3) := by decide +kernel
theorem d_Mo_pull_56 : decode b_Mo_pull 56 = .ok (.ireturn, 1) := by decide +kernel
theorem d_Mo_push_0 : decode b_Mo_push 0 = .ok (.aload_n 0, 1) := by decide +kernel
theorem d_Mo_push_1 : decode b_Mo_push 1 = .ok (.iload_n 1, 1) := by decide +kernel
theorem d_Mo_push_2 : decode b_Mo_push 2 = .ok (.invokestatic 94, 3) := by decide +kernel
theorem d_Mo_push_5 : decode b_Mo_push 5 = .ok (.ifCond .ne 7, 3) := by decide +kernel
theorem d_Mo_push_8 : decode b_Mo_push 8 = .ok (.iconst 1, 1) := by decide +kernel
theorem d_Mo_push_9 : decode b_Mo_push 9 = .ok (.goto 21, 3) := by decide +kernel
theorem d_Mo_push_12 : decode b_Mo_push 12 = .ok (.aload_n 0, 1) := by decide +kernel
theorem d_Mo_push_13 : decode b_Mo_push 13 = .ok (.getfield 23, 3) := by decide +kernel
theorem d_Mo_push_16 : decode b_Mo_push 16 = .ok (.iload_n 1, 1) := by decide +kernel
theorem d_Mo_push_17 : decode b_Mo_push 17 = .ok (.iconst 1, 1) := by decide +kernel
theorem d_Mo_push_18 : decode b_Mo_push 18 = .ok (.invokestatic 87, 3) := by decide +kernel
theorem d_Mo_push_21 : decode b_Mo_push 21 = .ok (.iaload, 1) := by decide +kernel
theorem d_Mo_push_22 : decode b_Mo_push 22 = .ok (.ifCond .ne 7, 3) := by decide +kernel
theorem d_Mo_push_25 : decode b_Mo_push 25 = .ok (.iconst 2, 1) := by decide +kernel
theorem d_Mo_push_26 : decode b_Mo_push 26 = .ok (.goto 4, 3) := by decide +kernel
theorem d_Mo_push_29 : decode b_Mo_push 29 = .ok (.iconst 0, 1) := by decide +kernel
theorem d_Mo_push_30 : decode b_Mo_push 30 = .ok (.putfield 56, 3) := by decide +kernel
theorem d_Mo_push_33 : decode b_Mo_push 33 = .ok (.iconst 1, 1) := by decide +kernel
theorem d_Mo_push_34 : decode b_Mo_push 34 = .ok (.istore_n 2, 1) := by decide +kernel
theorem d_Mo_push_35 : decode b_Mo_push 35 = .ok (.iload_n 2, 1) := by decide +kernel
theorem d_Mo_push_36 : decode b_Mo_push 36 = .ok (.iconst 3, 1) := by decide +kernel
theorem d_Mo_push_37 : decode b_Mo_push 37 = .ok (.if_icmp .gt 58, 3) := by decide +kernel
theorem d_Mo_push_40 : decode b_Mo_push 40 = .ok (.aload_n 0, 1) := by decide +kernel
theorem d_Mo_push_41 : decode b_Mo_push 41 = .ok (.getfield 56, 3) := by decide +kernel
theorem d_Mo_push_44 : decode b_Mo_push 44 = .ok (.ifCond .ne 51, 3) := by decide +kernel
theorem d_Mo_push_47 : decode b_Mo_push 47 = .ok (.iload_n 2, 1) := by decide +kernel
theorem d_Mo_push_48 : decode b_Mo_push 48 = .ok (.iconst 0, 1) := by decide +kernel
theorem d_Mo_push_49 : decode b_Mo_push 49 = .ok (.invokestatic 87, 3) := by decide +kernel
theorem d_Mo_push_52 : decode b_Mo_push 52 = .ok (.istore_n 3, 1) := by decide +kernel
theorem d_Mo_push_53 : decode b_Mo_push 53 = .ok (.aload_n 0, 1) := by decide +kernel
theorem d_Mo_push_54 : decode b_Mo_push 54 = .ok (.iload_n 2, 1) := by decide +kernel
theorem d_Mo_push_55 : decode b_Mo_push 55 = .ok (.iload_n 1, 1) := by decide +kernel
theorem d_Mo_push_56 : decode b_Mo_push 56 = .ok (.if_icmp .eq 29, 3) := by decide +kernel
theorem d_Mo_push_59 : decode b_Mo_push 59 = .ok (.aload_n 0, 1) := by decide +kernel
theorem d_Mo_push_60 : decode b_Mo_push 60 = .ok (.getfield 41, 3) := by decide +kernel
theorem d_Mo_push_63 : decode b_Mo_push 63 = .ok (.iload_n 3, 1) := by decide +kernel
theorem d_Mo_push_64 : decode b_Mo_push 64 = .ok (.iaload, 1) := by decide +kernel
theorem d_Mo_push_65 : decode b_Mo_push 65 = .ok (.bipush 24, 2) := by decide +kernel
theorem d_Mo_push_67 : decode b_Mo_push 67 = .ok (.if_icmp .ge 14, 3) := by decide +kernel
theorem d_Mo_push_70 : decode b_Mo_push 70 = .ok (.aload_n 0, 1) := by decide +kernel
theorem d_Mo_push_71 : decode b_Mo_push 71 = .ok (.getfield 23, 3) := by decide +kernel
theorem d_Mo_push_74 : decode b_Mo_push 74 = .ok (.iload_n 3, 1) := by decide +kernel
theorem d_Mo_push_75 : decode b_Mo_push 75 = .ok (.iaload, 1) := by decide +kernel
theorem d_Mo_push_76 : decode b_Mo_push 76 = .ok (.bipush 24, 2) := by decide +kernel
theorem d_Mo_push_78 : decode b_Mo_push 78 = .ok (.if_icmp .lt 7, 3) := by decide +kernel
theorem d_Mo_push_81 : decode b_Mo_push 81 = .ok (.iconst 3, 1) := by decide +kernel
theorem d_Mo_push_82 : decode b_Mo_push 82 = .ok (.goto 4, 3) := by decide +kernel
theorem d_Mo_push_85 : decode b_Mo_push 85 = .ok (.iconst 0, 1) := by decide +kernel
theorem d_Mo_push_86 : decode b_Mo_push 86 = .ok (.putfield 56, 3) := by decide +kernel
theorem d_Mo_push_89 : decode b_Mo_push 89 = .ok (.iinc 2 1, 3) := by decide +kernel
theorem d_Mo_push_92 : decode b_Mo_push 92 = .ok (.goto (-57), 3) := by decide +kernel
theorem d_Mo_push_95 : decode b_Mo_push 95 = .ok (.aload_n 0, 1) := by decide +kernel
theorem d_Mo_push_96 : decode b_Mo_push 96 = .ok (.getfield 56, 3) := by decide +kernel
theorem d_Mo_push_99 : decode b_Mo_push 99 = .ok (.ifCond .eq 5, 3) := by decide +kernel
theorem d_Mo_push_102 : decode b_Mo_push 102 = .ok (.iconst 0, 1) := by decide +kernel
theorem d_Mo_push_103 : decode b_Mo_push 103 = .ok (.ireturn, 1) := by decide +kernel
theorem d_Mo_push_104 : decode b_Mo_push 104 = .ok (.aload_n 0, 1) := by decide +kernel
theorem d_Mo_push_105 : decode b_Mo_push 105 = .ok (.iload_n 1, 1) := by decide +kernel
theorem d_Mo_push_106 : decode b_Mo_push 106 = .ok (.iconst 1, 1) := by decide +kernel
theorem d_Mo_push_107 : decode b_Mo_push 107 = .ok (.invokestatic 87, 3) := by decide +kernel
theorem d_Mo_push_110 : decode b_Mo_push 110 = .ok (.iconst 0, 1) := by decide +kernel
theorem d_Mo_push_111 : decode b_Mo_push 111 = .ok (.invokevirtual 105, 3) := by decide +kernel
theorem d_Mo_push_114 : decode b_Mo_push 114 = .ok (.aload_n 0, 1) := by decide +kernel
theorem d_Mo_push_115 : decode b_Mo_push 115 = .ok (.getfield 60, 3) := by decide +kernel
theorem d_Mo_push_118 : decode b_Mo_push 118 = .ok (.istore_n 2, 1) := by decide +kernel
theorem d_Mo_push_119 : decode b_Mo_push 119 = .ok (.iconst 1, 1) := by decide +kernel
theorem d_Mo_push_120 : decode b_Mo_push 120 = .ok (.istore_n 3, 1) := by decide +kernel
theorem d_Mo_push_121 : decode b_Mo_push 121 = .ok (.iload_n 3, 1) := by decide +kernel
theorem d_Mo_push_122 : decode b_Mo_push 122 = .ok (.iconst 3, 1) := by decide +kernel
theorem d_Mo_push_123 : decode b_Mo_push 123 = .ok (.if_icmp .gt 23, 3) := by decide +kernel
theorem d_Mo_push_126 : decode b_Mo_push 126 = .ok (.iload_n 3, 1) := by decide +kernel
theorem d_Mo_push_127 : decode b_Mo_push 127 = .ok (.iload_n 1, 1) := by decide +kernel
theorem d_Mo_push_128 : decode b_Mo_push 128 = .ok (.if_icmp .eq 12, 3) := by decide +kernel
theorem d_Mo_push_131 : decode b_Mo_push 131 = .ok (.aload_n 0, 1) := by decide +kernel
theorem d_Mo_push_132 : decode b_Mo_push 132 = .ok (.iload_n 3, 1) := by decide +kernel
theorem d_Mo_push_133 : decode b_Mo_push 133 = .ok (.iconst 0, 1) := by decide +kernel
theorem d_Mo_push_134 : decode b_Mo_push 134 = .ok (.invokestatic 87, 3) := by decide +kernel
theorem d_Mo_push_137 : decode b_Mo_push 137 = .ok (.invokevirtual 91, 3) := by decide +kernel
theorem d_Mo_push_140 : decode b_Mo_push 140 = .ok (.iinc 3 1, 3) := by decide +kernel
theorem d_Mo_push_143 : decode b_Mo_push 143 = .ok (.goto (-22), 3) := by decide +kernel
theorem d_Mo_push_146 : decode b_Mo_push 146 = .ok (.iload_n 2, 1) := by decide +kernel
theorem d_Mo_push_147 : decode b_Mo_push 147 = .ok (.ireturn, 1) := by decide +kernel
theorem d_Mo_quiet_0 : decode b_Mo_quiet 0 = .ok (.aload_n 0, 1) := by decide +kernel
theorem d_Mo_quiet_1 : decode b_Mo_quiet 1 = .ok (.iconst 0, 1) := by decide +kernel
theorem d_Mo_quiet_2 : decode b_Mo_quiet 2 = .ok (.putfield 56, 3) := by decide +kernel
theorem d_Mo_quiet_5 : decode b_Mo_quiet 5 = .ok (.iconst 0, 1) := by decide +kernel
theorem d_Mo_quiet_6 : decode b_Mo_quiet 6 = .ok (.istore_n 1, 1) := by decide +kernel
theorem d_Mo_quiet_7 : decode b_Mo_quiet 7 = .ok (.iconst 0, 1) := by decide +kernel
theorem d_Mo_quiet_8 : decode b_Mo_quiet 8 = .ok (.istore_n 2, 1) := by decide +kernel
theorem d_Mo_quiet_9 : decode b_Mo_quiet 9 = .ok (.iload_n 2, 1) := by decide +kernel
theorem d_Mo_quiet_10 : decode b_Mo_quiet 10 = .ok (.bipush 6, 2) := by decide +kernel
theorem d_Mo_quiet_12 : decode b_Mo_quiet 12 = .ok (.if_icmp .ge 18, 3) := by decide +kernel
theorem d_Mo_quiet_15 : decode b_Mo_quiet 15 = .ok (.iload_n 1, 1) := by decide +kernel
theorem d_Mo_quiet_16 : decode b_Mo_quiet 16 = .ok (.aload_n 0, 1) := by decide +kernel
theorem d_Mo_quiet_17 : decode b_Mo_quiet 17 = .ok (.getfield 23, 3) := by decide +kernel
theorem d_Mo_quiet_20 : decode b_Mo_quiet 20 = .ok (.iload_n 2, 1) := by decide +kernel
theorem d_Mo_quiet_21 : decode b_Mo_quiet 21 = .ok (.iaload, 1) := by decide +kernel
theorem d_Mo_quiet_22 : decode b_Mo_quiet 22 = .ok (.iadd, 1) := by decide +kernel
theorem d_Mo_quiet_23 : decode b_Mo_quiet 23 = .ok (.istore_n 1, 1) := by decide +kernel
theorem d_Mo_quiet_24 : decode b_Mo_quiet 24 = .ok (.iinc 2 1, 3) := by decide +kernel
theorem d_Mo_quiet_27 : decode b_Mo_quiet 27 = .ok (.goto (-18), 3) := by decide +kernel
theorem d_Mo_quiet_30 : decode b_Mo_quiet 30 = .ok (.iload_n 1, 1) := by decide +kernel
theorem d_Mo_quiet_31 : decode b_Mo_quiet 31 = .ok (.ifCond .ne 7, 3) := by decide +kernel
theorem d_Mo_quiet_34 : decode b_Mo_quiet 34 = .ok (.iconst 1, 1) := by decide +kernel
theorem d_Mo_quiet_35 : decode b_Mo_quiet 35 = .ok (.goto 4, 3) := by decide +kernel
theorem d_Mo_quiet_38 : decode b_Mo_quiet 38 = .ok (.iconst 0, 1) := by decide +kernel
theorem d_Mo_quiet_39 : decode b_Mo_quiet 39 = .ok (.ireturn, 1) := by decide +kernel
theorem d_Mo_send_0 : decode b_Mo_send 0 = .ok (.bipush 40, 2) := by decide +kernel
theorem d_Mo_send_2 : decode b_Mo_send 2 = .ok (.iload_n 1, 1) := by decide +kernel
theorem d_Mo_send_3 : decode b_Mo_send 3 = .ok (.imul, 1) := by decide +kernel
theorem d_Mo_send_4 : decode b_Mo_send 4 = .ok (.aload_n 0, 1) := by decide +kernel
theorem d_Mo_send_5 : decode b_Mo_send 5 = .ok (.getfield 23, 3) := by decide +kernel
theorem d_Mo_send_8 : decode b_Mo_send 8 = .ok (.iload_n 1, 1) := by decide +kernel
theorem d_Mo_send_9 : decode b_Mo_send 9 = .ok (.iaload, 1) := by decide +kernel
theorem d_Mo_send_10 : decode b_Mo_send 10 = .ok (.iadd, 1) := by decide +kernel
theorem d_Mo_send_11 : decode b_Mo_send 11 = .ok (.istore_n 2, 1) := by decide +kernel
theorem d_Mo_send_12 : decode b_Mo_send 12 = .ok (.aload_n 0, 1) := by decide +kernel
theorem d_Mo_send_13 : decode b_Mo_send 13 = .ok (.getfield 26, 3) := by decide +kernel
theorem d_Mo_send_16 : decode b_Mo_send 16 = .ok (.iload_n 2, 1) := by decide +kernel
theorem d_Mo_send_17 : decode b_Mo_send 17 = .ok (.aload_n 0, 1) := by decide +kernel
theorem d_Mo_send_18 : decode b_Mo_send 18 = .ok (.getfield 60, 3) := by decide +kernel
theorem d_Mo_send_21 : decode b_Mo_send 21 = .ok (.iastore, 1) := by decide +kernel
theorem d_Mo_send_22 : decode b_Mo_send 22 = .ok (.aload_n 0, 1) := by decide +kernel
theorem d_Mo_send_23 : decode b_Mo_send 23 = .ok (.getfield 29, 3) := by decide +kernel
theorem d_Mo_send_26 : decode b_Mo_send 26 = .ok (.iload_n 2, 1) := by decide +kernel
theorem d_Mo_send_27 : decode b_Mo_send 27 = .ok (.aload_n 0, 1) := by decide +kernel
theorem d_Mo_send_28 : decode b_Mo_send 28 = .ok (.getfield 63, 3) := by decide +kernel
theorem d_Mo_send_31 : decode b_Mo_send 31 = .ok (.iastore, 1) := by decide +kernel
theorem d_Mo_send_32 : decode b_Mo_send 32 = .ok (.aload_n 0, 1) := by decide +kernel
theorem d_Mo_send_33 : decode b_Mo_send 33 = .ok (.getfield 32, 3) := by decide +kernel
theorem d_Mo_send_36 : decode b_Mo_send 36 = .ok (.iload_n 2, 1) := by decide +kernel
theorem d_Mo_send_37 : decode b_Mo_send 37 = .ok (.aload_n 0, 1) := by decide +kernel
theorem d_Mo_send_38 : decode b_Mo_send 38 = .ok (.getfield 66, 3) := by decide +kernel
theorem d_Mo_send_41 : decode b_Mo_send 41 = .ok (.iastore, 1) := by decide +kernel
theorem d_Mo_send_42 : decode b_Mo_send 42 = .ok (.aload_n 0, 1) := by decide +kernel
theorem d_Mo_send_43 : decode b_Mo_send 43 = .ok (.getfield 35, 3) := by decide +kernel
theorem d_Mo_send_46 : decode b_Mo_send 46 = .ok (.iload_n 2, 1) := by decide +kernel
theorem d_Mo_send_47 : decode b_Mo_send 47 = .ok (.aload_n 0, 1) := by decide +kernel
theorem d_Mo_send_48 : decode b_Mo_send 48 = .ok (.getfield 69, 3) := by decide +kernel
theorem d_Mo_send_51 : decode b_Mo_send 51 = .ok (.iastore, 1) := by decide +kernel
theorem d_Mo_send_52 : decode b_Mo_send 52 = .ok (.aload_n 0, 1) := by decide +kernel
theorem d_Mo_send_53 : decode b_Mo_send 53 = .ok (.getfield 38, 3) := by decide +kernel
theorem d_Mo_send_56 : decode b_Mo_send 56 = .ok (.iload_n 2, 1) := by decide +kernel
theorem d_Mo_send_57 : decode b_Mo_send 57 = .ok (.aload_n 0, 1) := by decide +kernel
theorem d_Mo_send_58 : decode b_Mo_send 58 = .ok (.getfield 20, 3) := by decide +kernel
theorem d_Mo_send_61 : decode b_Mo_send 61 = .ok (.iload_n 1, 1) := by decide +kernel
theorem d_Mo_send_62 : decode b_Mo_send 62 = .ok (.invokestatic 72, 3) := by decide +kernel
theorem d_Mo_send_65 : decode b_Mo_send 65 = .ok (.iaload, 1) := by decide +kernel
theorem d_Mo_send_66 : decode b_Mo_send 66 = .ok (.iastore, 1) := by decide +kernel
theorem d_Mo_send_67 : decode b_Mo_send 67 = .ok (.aload_n 0, 1) := by decide +kernel
theorem d_Mo_send_68 : decode b_Mo_send 68 = .ok (.getfield 23, 3) := by decide +kernel
theorem d_Mo_send_71 : decode b_Mo_send 71 = .ok (.iload_n 1, 1) := by decide +kernel
theorem d_Mo_send_72 : decode b_Mo_send 72 = .ok (.dup2, 1) := by decide +kernel
theorem d_Mo_send_73 : decode b_Mo_send 73 = .ok (.iaload, 1) := by decide +kernel
theorem d_Mo_send_74 : decode b_Mo_send 74 = .ok (.iconst 1, 1) := by decide +kernel
theorem d_Mo_send_75 : decode b_Mo_send 75 = .ok (.iadd, 1) := by decide +kernel
theorem d_Mo_send_76 : decode b_Mo_send 76 = .ok (.iastore, 1) := by decide +kernel
theorem d_Mo_send_77 : decode b_Mo_send 77 = .ok (.bipush 40, 2) := by decide +kernel
theorem d_Mo_send_79 : decode b_Mo_send 79 = .ok (.iload_n 1, 1) := by decide +kernel
theorem d_Mo_send_80 : decode b_Mo_send 80 = .ok (.imul, 1) := by decide +kernel
theorem d_Mo_send_81 : decode b_Mo_send 81 = .ok (.aload_n 0, 1) := by decide +kernel
theorem d_Mo_send_82 : decode b_Mo_send 82 = .ok (.getfield 41, 3) := by decide +kernel
theorem d_Mo_send_85 : decode b_Mo_send 85 = .ok (.iload_n 1, 1) := by decide +kernel
theorem d_Mo_send_86 : decode b_Mo_send 86 = .ok (.iaload, 1) := by decide +kernel
theorem d_Mo_send_87 : decode b_Mo_send 87 = .ok (.iadd, 1) := by decide +kernel
theorem d_Mo_send_88 : decode b_Mo_send 88 = .ok (.istore_n 3, 1) := by decide +kernel
theorem d_Mo_send_89 : decode b_Mo_send 89 = .ok (.aload_n 0, 1) := by decide +kernel
theorem d_Mo_send_90 : decode b_Mo_send 90 = .ok (.getfield 44, 3) := by decide +kernel
theorem d_Mo_send_93 : decode b_Mo_send 93 = .ok (.iload_n 3, 1) := by decide +kernel
theorem d_Mo_send_94 : decode b_Mo_send 94 = .ok (.aload_n 0, 1) := by decide +kernel
theorem d_Mo_send_95 : decode b_Mo_send 95 = .ok (.getfield 60, 3) := by decide +kernel
theorem d_Mo_send_98 : decode b_Mo_send 98 = .ok (.iastore, 1) := by decide +kernel
theorem d_Mo_send_99 : decode b_Mo_send 99 = .ok (.aload_n 0, 1) := by decide +kernel
theorem d_Mo_send_100 : decode b_Mo_send 100 = .ok (.getfield 47, 3) := by decide +kernel
theorem d_Mo_send_103 : decode b_Mo_send 103 = .ok (.iload_n 3, 1) := by decide +kernel
theorem d_Mo_send_104 : decode b_Mo_send 104 = .ok (.aload_n 0, 1) := by decide +kernel
theorem d_Mo_send_105 : decode b_Mo_send 105 = .ok (.getfield 63, 3) := by decide +kernel
theorem d_Mo_send_108 : decode b_Mo_send 108 = .ok (.iastore, 1) := by decide +kernel
theorem d_Mo_send_109 : decode b_Mo_send 109 = .ok (.aload_n 0, 1) := by decide +kernel
theorem d_Mo_send_110 : decode b_Mo_send 110 = .ok (.getfield 50, 3) := by decide +kernel
theorem d_Mo_send_113 : decode b_Mo_send 113 = .ok (.iload_n 3, 1) := by decide +kernel
theorem d_Mo_send_114 : decode b_Mo_send 114 = .ok (.aload_n 0, 1) := by decide +kernel
theorem d_Mo_send_115 : decode b_Mo_send 115 = .ok (.getfield 66, 3) := by decide +kernel
theorem d_Mo_send_118 : decode b_Mo_send 118 = .ok (.iastore, 1) := by decide +kernel
theorem d_Mo_send_119 : decode b_Mo_send 119 = .ok (.aload_n 0, 1) := by decide +kernel
theorem d_Mo_send_120 : decode b_Mo_send 120 = .ok (.getfield 53, 3) := by decide +kernel
theorem d_Mo_send_123 : decode b_Mo_send 123 = .ok (.iload_n 3, 1) := by decide +kernel
theorem d_Mo_send_124 : decode b_Mo_send 124 = .ok (.aload_n 0, 1) := by decide +kernel
theorem d_Mo_send_125 : decode b_Mo_send 125 = .ok (.getfield 69, 3) := by decide +kernel
theorem d_Mo_send_128 : decode b_Mo_send 128 = .ok (.iastore, 1) := by decide +kernel
theorem d_Mo_send_129 : decode b_Mo_send 129 = .ok (.aload_n 0, 1) := by decide +kernel
theorem d_Mo_send_130 : decode b_Mo_send 130 = .ok (.getfield 41, 3) := by decide +kernel
theorem d_Mo_send_133 : decode b_Mo_send 133 = .ok (.iload_n 1, 1) := by decide +kernel
theorem d_Mo_send_134 : decode b_Mo_send 134 = .ok (.dup2, 1) := by decide +kernel
theorem d_Mo_send_135 : decode b_Mo_send 135 = .ok (.iaload, 1) := by decide +kernel
theorem d_Mo_send_136 : decode b_Mo_send 136 = .ok (.iconst 1, 1) := by decide +kernel
theorem d_Mo_send_137 : decode b_Mo_send 137 = .ok (.iadd, 1) := by decide +kernel
theorem d_Mo_send_138 : decode b_Mo_send 138 = .ok (.iastore, 1) := by decide +kernel
theorem d_Mo_send_139 : decode b_Mo_send 139 = .ok (.aload_n 0, 1) := by decide +kernel
theorem d_Mo_send_140 : decode b_Mo_send 140 = .ok (.getfield 17, 3) := by decide +kernel
theorem d_Mo_send_143 : decode b_Mo_send 143 = .ok (.iload_n 1, 1) := by decide +kernel
theorem d_Mo_send_144 : decode b_Mo_send 144 = .ok (.dup2, 1) := by decide +kernel
theorem d_Mo_send_145 : decode b_Mo_send 145 = .ok (.iaload, 1) := by decide +kernel
theorem d_Mo_send_146 : decode b_Mo_send 146 = .ok (.iconst 1, 1) := by decide +kernel
theorem d_Mo_send_147 : decode b_Mo_send 147 = .ok (.iadd, 1) := by decide +kernel
theorem d_Mo_send_148 : decode b_Mo_send 148 = .ok (.iastore, 1) := by decide +kernel
theorem d_Mo_send_149 : decode b_Mo_send 149 = .ok (.return_, 1) := by decide +kernel
theorem d_Mo_size_0 : decode b_Mo_size 0 = .ok (.aload_n 0, 1) := by decide +kernel
theorem d_Mo_size_1 : decode b_Mo_size 1 = .ok (.iload_n 1, 1) := by decide +kernel
theorem d_Mo_size_2 : decode b_Mo_size 2 = .ok (.invokestatic 109, 3) := by decide +kernel
theorem d_Mo_size_5 : decode b_Mo_size 5 = .ok (.ifCond .eq 7, 3) := by decide +kernel
theorem d_Mo_size_8 : decode b_Mo_size 8 = .ok (.iconst 0, 1) := by decide +kernel
theorem d_Mo_size_9 : decode b_Mo_size 9 = .ok (.goto 4, 3) := by decide +kernel
theorem d_Mo_size_12 : decode b_Mo_size 12 = .ok (.iconst 1, 1) := by decide +kernel
theorem d_Mo_size_13 : decode b_Mo_size 13 = .ok (.putfield 56, 3) := by decide +kernel
theorem d_Mo_size_16 : decode b_Mo_size 16 = .ok (.aload_n 0, 1) := by decide +kernel
theorem d_Mo_size_17 : decode b_Mo_size 17 = .ok (.getfield 56, 3) := by decide +kernel
theorem d_Mo_size_20 : decode b_Mo_size 20 = .ok (.ifCond .ne 12, 3) := by decide +kernel
theorem d_Mo_size_23 : decode b_Mo_size 23 = .ok (.aload_n 0, 1) := by decide +kernel
theorem d_Mo_size_24 : decode b_Mo_size 24 = .ok (.getfield 7, 3) := by decide +kernel
theorem d_Mo_size_27 : decode b_Mo_size 27 = .ok (.iload_n 1, 1) := by decide +kernel
theorem d_Mo_size_28 : decode b_Mo_size 28 = .ok (.iaload, 1) := by decide +kernel
theorem d_Mo_size_29 : decode b_Mo_size 29 = .ok (.goto 4, 3) := by decide +kernel
theorem d_Mo_size_32 : decode b_Mo_size 32 = .ok (.iconst 0, 1) := by decide +kernel
theorem d_Mo_size_33 : decode b_Mo_size 33 = .ok (.ireturn, 1) := by decide +kernel
theorem d_Mo_thrown_0 : decode b_Mo_thrown 0 = .ok (.aload_n 0, 1) := by decide +kernel
theorem d_Mo_thrown_1 : decode b_Mo_thrown 1 = .ok (.getfield 56, 3) := by decide +kernel
theorem d_Mo_thrown_4 : decode b_Mo_thrown 4 = .ok (.ireturn, 1) := by decide +kernel
theorem d_Mo_waiting_0 : decode b_Mo_waiting 0 = .ok (.aload_n 0, 1) := by decide +kernel
theorem d_Mo_waiting_1 : decode b_Mo_waiting 1 = .ok (.iload_n 1, 1) := by decide +kernel
theorem d_Mo_waiting_2 : decode b_Mo_waiting 2 = .ok (.invokestatic 94, 3) := by decide +kernel
theorem d_Mo_waiting_5 : decode b_Mo_waiting 5 = .ok (.ifCond .eq 7, 3) := by decide +kernel
theorem d_Mo_waiting_8 : decode b_Mo_waiting 8 = .ok (.iconst 0, 1) := by decide +kernel
theorem d_Mo_waiting_9 : decode b_Mo_waiting 9 = .ok (.goto 4, 3) := by decide +kernel
theorem d_Mo_waiting_12 : decode b_Mo_waiting 12 = .ok (.iconst 1, 1) := by decide +kernel
theorem d_Mo_waiting_13 : decode b_Mo_waiting 13 = .ok (.putfield 56, 3) := by decide +kernel
theorem d_Mo_waiting_16 : decode b_Mo_waiting 16 = .ok (.aload_n 0, 1) := by decide +kernel
theorem d_Mo_waiting_17 : decode b_Mo_waiting 17 = .ok (.getfield 56, 3) := by decide +kernel
theorem d_Mo_waiting_20 : decode b_Mo_waiting 20 = .ok (.ifCond .ne 16, 3) := by decide +kernel
theorem d_Mo_waiting_23 : decode b_Mo_waiting 23 = .ok (.aload_n 0, 1) := by decide +kernel
theorem d_Mo_waiting_24 : decode b_Mo_waiting 24 = .ok (.getfield 23, 3) := by decide +kernel
theorem d_Mo_waiting_27 : decode b_Mo_waiting 27 = .ok (.iload_n 1, 1) := by decide +kernel
theorem d_Mo_waiting_28 : decode b_Mo_waiting 28 = .ok (.iload_n 2, 1) := by decide +kernel
theorem d_Mo_waiting_29 : decode b_Mo_waiting 29 = .ok (.invokestatic 87, 3) := by decide +kernel
theorem d_Mo_waiting_32 : decode b_Mo_waiting 32 = .ok (.iaload, 1) := by decide +kernel
theorem d_Mo_waiting_33 : decode b_Mo_waiting 33 = .ok (.goto 4, 3) := by decide +kernel
theorem d_Mo_waiting_36 : decode b_Mo_waiting 36 = .ok (.iconst 0, 1) := by decide +kernel
theorem d_Mo_waiting_37 : decode b_Mo_waiting 37 = .ok (.ireturn, 1) := by decide +kernel
