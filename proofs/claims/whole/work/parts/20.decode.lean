theorem dX0_init_0 : decode cX0_init 0 = .ok (.aload_n 0, 1) := by decide +kernel
theorem dX0_init_1 : decode cX0_init 1 = .ok (.invokespecial 3, 3) := by decide +kernel
theorem dX0_init_4 : decode cX0_init 4 = .ok (.aload_n 0, 1) := by decide +kernel
theorem dX0_init_5 : decode cX0_init 5 = .ok (.bipush 50, 2) := by decide +kernel
theorem dX0_init_7 : decode cX0_init 7 = .ok (.newarray .int, 2) := by decide +kernel
theorem dX0_init_9 : decode cX0_init 9 = .ok (.putfield 11, 3) := by decide +kernel
theorem dX0_init_12 : decode cX0_init 12 = .ok (.aload_n 0, 1) := by decide +kernel
theorem dX0_init_13 : decode cX0_init 13 = .ok (.iconst 0, 1) := by decide +kernel
theorem dX0_init_14 : decode cX0_init 14 = .ok (.putfield 15, 3) := by decide +kernel
theorem dX0_init_17 : decode cX0_init 17 = .ok (.aload_n 0, 1) := by decide +kernel
theorem dX0_init_18 : decode cX0_init 18 = .ok (.bipush 24, 2) := by decide +kernel
theorem dX0_init_20 : decode cX0_init 20 = .ok (.newarray .int, 2) := by decide +kernel
theorem dX0_init_22 : decode cX0_init 22 = .ok (.putfield 19, 3) := by decide +kernel
theorem dX0_init_25 : decode cX0_init 25 = .ok (.aload_n 0, 1) := by decide +kernel
theorem dX0_init_26 : decode cX0_init 26 = .ok (.iconst 0, 1) := by decide +kernel
theorem dX0_init_27 : decode cX0_init 27 = .ok (.putfield 22, 3) := by decide +kernel
theorem dX0_init_30 : decode cX0_init 30 = .ok (.aload_n 0, 1) := by decide +kernel
theorem dX0_init_31 : decode cX0_init 31 = .ok (.iconst 0, 1) := by decide +kernel
theorem dX0_init_32 : decode cX0_init 32 = .ok (.putfield 25, 3) := by decide +kernel
theorem dX0_init_35 : decode cX0_init 35 = .ok (.return_, 1) := by decide +kernel
theorem dX0_isKind_0 : decode cX0_isKind 0 = .ok (.iload_n 0, 1) := by decide +kernel
theorem dX0_isKind_1 : decode cX0_isKind 1 = .ok (.ifCond .lt 13, 3) := by decide +kernel
theorem dX0_isKind_4 : decode cX0_isKind 4 = .ok (.iload_n 0, 1) := by decide +kernel
theorem dX0_isKind_5 : decode cX0_isKind 5 = .ok (.bipush 8, 2) := by decide +kernel
theorem dX0_isKind_7 : decode cX0_isKind 7 = .ok (.if_icmp .ge 7, 3) := by decide +kernel
theorem dX0_isKind_10 : decode cX0_isKind 10 = .ok (.iconst 1, 1) := by decide +kernel
theorem dX0_isKind_11 : decode cX0_isKind 11 = .ok (.goto 4, 3) := by decide +kernel
theorem dX0_isKind_14 : decode cX0_isKind 14 = .ok (.iconst 0, 1) := by decide +kernel
theorem dX0_isKind_15 : decode cX0_isKind 15 = .ok (.ireturn, 1) := by decide +kernel
theorem dX0_isUnder_0 : decode cX0_isUnder 0 = .ok (.iload_n 0, 1) := by decide +kernel
theorem dX0_isUnder_1 : decode cX0_isUnder 1 = .ok (.istore_n 2, 1) := by decide +kernel
theorem dX0_isUnder_2 : decode cX0_isUnder 2 = .ok (.iconst 0, 1) := by decide +kernel
theorem dX0_isUnder_3 : decode cX0_isUnder 3 = .ok (.istore_n 3, 1) := by decide +kernel
theorem dX0_isUnder_4 : decode cX0_isUnder 4 = .ok (.iload_n 3, 1) := by decide +kernel
theorem dX0_isUnder_5 : decode cX0_isUnder 5 = .ok (.bipush 8, 2) := by decide +kernel
theorem dX0_isUnder_7 : decode cX0_isUnder 7 = .ok (.if_icmp .ge 29, 3) := by decide +kernel
theorem dX0_isUnder_10 : decode cX0_isUnder 10 = .ok (.iload_n 2, 1) := by decide +kernel
theorem dX0_isUnder_11 : decode cX0_isUnder 11 = .ok (.invokestatic 28, 3) := by decide +kernel
theorem dX0_isUnder_14 : decode cX0_isUnder 14 = .ok (.ifCond .eq 22, 3) := by decide +kernel
theorem dX0_isUnder_17 : decode cX0_isUnder 17 = .ok (.iload_n 2, 1) := by decide +kernel
theorem dX0_isUnder_18 : decode cX0_isUnder 18 = .ok (.iload_n 1, 1) := by decide +kernel
theorem dX0_isUnder_19 : decode cX0_isUnder 19 = .ok (.if_icmp .ne 5, 3) := by decide +kernel
theorem dX0_isUnder_22 : decode cX0_isUnder 22 = .ok (.iconst 1, 1) := by decide +kernel
theorem dX0_isUnder_23 : decode cX0_isUnder 23 = .ok (.ireturn, 1) := by decide +kernel
theorem dX0_isUnder_24 : decode cX0_isUnder 24 = .ok (.getstatic 32, 3) := by decide +kernel
theorem dX0_isUnder_27 : decode cX0_isUnder 27 = .ok (.iload_n 2, 1) := by decide +kernel
theorem dX0_isUnder_28 : decode cX0_isUnder 28 = .ok (.iaload, 1) := by decide +kernel
theorem dX0_isUnder_29 : decode cX0_isUnder 29 = .ok (.istore_n 2, 1) := by decide +kernel
theorem dX0_isUnder_30 : decode cX0_isUnder 30 = .ok (.iinc 3 1, 3) := by decide +kernel
theorem dX0_isUnder_33 : decode cX0_isUnder 33 = .ok (.goto (-29), 3) := by decide +kernel
theorem dX0_isUnder_36 : decode cX0_isUnder 36 = .ok (.iconst 0, 1) := by decide +kernel
theorem dX0_isUnder_37 : decode cX0_isUnder 37 = .ok (.ireturn, 1) := by decide +kernel
theorem dX0_has_0 : decode cX0_has 0 = .ok (.iload_n 1, 1) := by decide +kernel
theorem dX0_has_1 : decode cX0_has 1 = .ok (.ifCond .lt 15, 3) := by decide +kernel
theorem dX0_has_4 : decode cX0_has 4 = .ok (.iload_n 1, 1) := by decide +kernel
theorem dX0_has_5 : decode cX0_has 5 = .ok (.aload_n 0, 1) := by decide +kernel
theorem dX0_has_6 : decode cX0_has 6 = .ok (.getfield 15, 3) := by decide +kernel
theorem dX0_has_9 : decode cX0_has 9 = .ok (.if_icmp .ge 7, 3) := by decide +kernel
theorem dX0_has_12 : decode cX0_has 12 = .ok (.iconst 1, 1) := by decide +kernel
theorem dX0_has_13 : decode cX0_has 13 = .ok (.goto 4, 3) := by decide +kernel
theorem dX0_has_16 : decode cX0_has 16 = .ok (.iconst 0, 1) := by decide +kernel
theorem dX0_has_17 : decode cX0_has 17 = .ok (.ireturn, 1) := by decide +kernel
theorem dX0_add_0 : decode cX0_add 0 = .ok (.aload_n 0, 1) := by decide +kernel
theorem dX0_add_1 : decode cX0_add 1 = .ok (.getfield 15, 3) := by decide +kernel
theorem dX0_add_4 : decode cX0_add 4 = .ok (.bipush 50, 2) := by decide +kernel
theorem dX0_add_6 : decode cX0_add 6 = .ok (.if_icmp .ne 6, 3) := by decide +kernel
theorem dX0_add_9 : decode cX0_add 9 = .ok (.bipush (-3), 2) := by decide +kernel
theorem dX0_add_11 : decode cX0_add 11 = .ok (.ireturn, 1) := by decide +kernel
theorem dX0_add_12 : decode cX0_add 12 = .ok (.aload_n 0, 1) := by decide +kernel
theorem dX0_add_13 : decode cX0_add 13 = .ok (.getfield 11, 3) := by decide +kernel
theorem dX0_add_16 : decode cX0_add 16 = .ok (.aload_n 0, 1) := by decide +kernel
theorem dX0_add_17 : decode cX0_add 17 = .ok (.getfield 15, 3) := by decide +kernel
theorem dX0_add_20 : decode cX0_add 20 = .ok (.iload_n 1, 1) := by decide +kernel
theorem dX0_add_21 : decode cX0_add 21 = .ok (.iastore, 1) := by decide +kernel
theorem dX0_add_22 : decode cX0_add 22 = .ok (.aload_n 0, 1) := by decide +kernel
theorem dX0_add_23 : decode cX0_add 23 = .ok (.dup, 1) := by decide +kernel
theorem dX0_add_24 : decode cX0_add 24 = .ok (.getfield 15, 3) := by decide +kernel
theorem dX0_add_27 : decode cX0_add 27 = .ok (.iconst 1, 1) := by decide +kernel
theorem dX0_add_28 : decode cX0_add 28 = .ok (.iadd, 1) := by decide +kernel
theorem dX0_add_29 : decode cX0_add 29 = .ok (.putfield 15, 3) := by decide +kernel
theorem dX0_add_32 : decode cX0_add 32 = .ok (.aload_n 0, 1) := by decide +kernel
theorem dX0_add_33 : decode cX0_add 33 = .ok (.getfield 15, 3) := by decide +kernel
theorem dX0_add_36 : decode cX0_add 36 = .ok (.iconst 1, 1) := by decide +kernel
theorem dX0_add_37 : decode cX0_add 37 = .ok (.isub, 1) := by decide +kernel
theorem dX0_add_38 : decode cX0_add 38 = .ok (.ireturn, 1) := by decide +kernel
theorem dX0_kindOf_0 : decode cX0_kindOf 0 = .ok (.aload_n 0, 1) := by decide +kernel
theorem dX0_kindOf_1 : decode cX0_kindOf 1 = .ok (.iload_n 1, 1) := by decide +kernel
theorem dX0_kindOf_2 : decode cX0_kindOf 2 = .ok (.invokevirtual 35, 3) := by decide +kernel
theorem dX0_kindOf_5 : decode cX0_kindOf 5 = .ok (.ifCond .eq 12, 3) := by decide +kernel
theorem dX0_kindOf_8 : decode cX0_kindOf 8 = .ok (.aload_n 0, 1) := by decide +kernel
theorem dX0_kindOf_9 : decode cX0_kindOf 9 = .ok (.getfield 11, 3) := by decide +kernel
theorem dX0_kindOf_12 : decode cX0_kindOf 12 = .ok (.iload_n 1, 1) := by decide +kernel
theorem dX0_kindOf_13 : decode cX0_kindOf 13 = .ok (.iaload, 1) := by decide +kernel
theorem dX0_kindOf_14 : decode cX0_kindOf 14 = .ok (.goto 4, 3) := by decide +kernel
theorem dX0_kindOf_17 : decode cX0_kindOf 17 = .ok (.iconst (-1), 1) := by decide +kernel
theorem dX0_kindOf_18 : decode cX0_kindOf 18 = .ok (.ireturn, 1) := by decide +kernel
theorem dX0_traced_0 : decode cX0_traced 0 = .ok (.iload_n 1, 1) := by decide +kernel
theorem dX0_traced_1 : decode cX0_traced 1 = .ok (.ifCond .lt 18, 3) := by decide +kernel
theorem dX0_traced_4 : decode cX0_traced 4 = .ok (.iload_n 1, 1) := by decide +kernel
theorem dX0_traced_5 : decode cX0_traced 5 = .ok (.bipush 24, 2) := by decide +kernel
theorem dX0_traced_7 : decode cX0_traced 7 = .ok (.if_icmp .ge 12, 3) := by decide +kernel
theorem dX0_traced_10 : decode cX0_traced 10 = .ok (.aload_n 0, 1) := by decide +kernel
theorem dX0_traced_11 : decode cX0_traced 11 = .ok (.getfield 19, 3) := by decide +kernel
theorem dX0_traced_14 : decode cX0_traced 14 = .ok (.iload_n 1, 1) := by decide +kernel
theorem dX0_traced_15 : decode cX0_traced 15 = .ok (.iaload, 1) := by decide +kernel
theorem dX0_traced_16 : decode cX0_traced 16 = .ok (.goto 4, 3) := by decide +kernel
theorem dX0_traced_19 : decode cX0_traced 19 = .ok (.iconst (-1), 1) := by decide +kernel
theorem dX0_traced_20 : decode cX0_traced 20 = .ok (.ireturn, 1) := by decide +kernel
theorem dX0_forget_0 : decode cX0_forget 0 = .ok (.aload_n 0, 1) := by decide +kernel
theorem dX0_forget_1 : decode cX0_forget 1 = .ok (.iconst 0, 1) := by decide +kernel
theorem dX0_forget_2 : decode cX0_forget 2 = .ok (.putfield 22, 3) := by decide +kernel
theorem dX0_forget_5 : decode cX0_forget 5 = .ok (.return_, 1) := by decide +kernel
theorem dX0_perform_0 : decode cX0_perform 0 = .ok (.aload_n 0, 1) := by decide +kernel
theorem dX0_perform_1 : decode cX0_perform 1 = .ok (.iload_n 1, 1) := by decide +kernel
theorem dX0_perform_2 : decode cX0_perform 2 = .ok (.putfield 25, 3) := by decide +kernel
theorem dX0_perform_5 : decode cX0_perform 5 = .ok (.aload_n 0, 1) := by decide +kernel
theorem dX0_perform_6 : decode cX0_perform 6 = .ok (.iload_n 2, 1) := by decide +kernel
theorem dX0_perform_7 : decode cX0_perform 7 = .ok (.iload_n 3, 1) := by decide +kernel
theorem dX0_perform_8 : decode cX0_perform 8 = .ok (.iconst 0, 1) := by decide +kernel
theorem dX0_perform_9 : decode cX0_perform 9 = .ok (.invokevirtual 38, 3) := by decide +kernel
theorem dX0_perform_12 : decode cX0_perform 12 = .ok (.ireturn, 1) := by decide +kernel
theorem dX0_own_0 : decode cX0_own 0 = .ok (.aload_n 0, 1) := by decide +kernel
theorem dX0_own_1 : decode cX0_own 1 = .ok (.aload_n 0, 1) := by decide +kernel
theorem dX0_own_2 : decode cX0_own 2 = .ok (.aload_n 0, 1) := by decide +kernel
theorem dX0_own_3 : decode cX0_own 3 = .ok (.getfield 25, 3) := by decide +kernel
theorem dX0_own_6 : decode cX0_own 6 = .ok (.invokevirtual 42, 3) := by decide +kernel
theorem dX0_own_9 : decode cX0_own 9 = .ok (.iload_n 1, 1) := by decide +kernel
theorem dX0_own_10 : decode cX0_own 10 = .ok (.iload_n 2, 1) := by decide +kernel
theorem dX0_own_11 : decode cX0_own 11 = .ok (.iload_n 3, 1) := by decide +kernel
theorem dX0_own_12 : decode cX0_own 12 = .ok (.invokevirtual 46, 3) := by decide +kernel
theorem dX0_own_15 : decode cX0_own 15 = .ok (.ireturn, 1) := by decide +kernel
theorem dX0_from_0 : decode cX0_from 0 = .ok (.iload_n 1, 1) := by decide +kernel
theorem dX0_from_1 : decode cX0_from 1 = .ok (.istore 5, 2) := by decide +kernel
theorem dX0_from_3 : decode cX0_from 3 = .ok (.iconst 0, 1) := by decide +kernel
theorem dX0_from_4 : decode cX0_from 4 = .ok (.istore 6, 2) := by decide +kernel
theorem dX0_from_6 : decode cX0_from 6 = .ok (.iload 6, 2) := by decide +kernel
theorem dX0_from_8 : decode cX0_from 8 = .ok (.bipush 8, 2) := by decide +kernel
theorem dX0_from_10 : decode cX0_from 10 = .ok (.if_icmp .ge 38, 3) := by decide +kernel
theorem dX0_from_13 : decode cX0_from 13 = .ok (.iload 5, 2) := by decide +kernel
theorem dX0_from_15 : decode cX0_from 15 = .ok (.invokestatic 28, 3) := by decide +kernel
theorem dX0_from_18 : decode cX0_from 18 = .ok (.ifCond .eq 30, 3) := by decide +kernel
theorem dX0_from_21 : decode cX0_from 21 = .ok (.getstatic 50, 3) := by decide +kernel
theorem dX0_from_24 : decode cX0_from 24 = .ok (.iload 5, 2) := by decide +kernel
theorem dX0_from_26 : decode cX0_from 26 = .ok (.iconst 4, 1) := by decide +kernel
theorem dX0_from_27 : decode cX0_from 27 = .ok (.imul, 1) := by decide +kernel
theorem dX0_from_28 : decode cX0_from 28 = .ok (.iload_n 2, 1) := by decide +kernel
theorem dX0_from_29 : decode cX0_from 29 = .ok (.iadd, 1) := by decide +kernel
theorem dX0_from_30 : decode cX0_from 30 = .ok (.iaload, 1) := by decide +kernel
theorem dX0_from_31 : decode cX0_from 31 = .ok (.ifCond .ne 17, 3) := by decide +kernel
theorem dX0_from_34 : decode cX0_from 34 = .ok (.getstatic 32, 3) := by decide +kernel
theorem dX0_from_37 : decode cX0_from 37 = .ok (.iload 5, 2) := by decide +kernel
theorem dX0_from_39 : decode cX0_from 39 = .ok (.iaload, 1) := by decide +kernel
theorem dX0_from_40 : decode cX0_from 40 = .ok (.istore 5, 2) := by decide +kernel
theorem dX0_from_42 : decode cX0_from 42 = .ok (.iinc 6 1, 3) := by decide +kernel
theorem dX0_from_45 : decode cX0_from 45 = .ok (.goto (-39), 3) := by decide +kernel
theorem dX0_from_48 : decode cX0_from 48 = .ok (.iload 5, 2) := by decide +kernel
theorem dX0_from_50 : decode cX0_from 50 = .ok (.invokestatic 28, 3) := by decide +kernel
theorem dX0_from_53 : decode cX0_from 53 = .ok (.ifCond .eq 10, 3) := by decide +kernel
theorem dX0_from_56 : decode cX0_from 56 = .ok (.iload 4, 2) := by decide +kernel
theorem dX0_from_58 : decode cX0_from 58 = .ok (.bipush 40, 2) := by decide +kernel
theorem dX0_from_60 : decode cX0_from 60 = .ok (.if_icmp .le 5, 3) := by decide +kernel
theorem dX0_from_63 : decode cX0_from 63 = .ok (.iconst 0, 1) := by decide +kernel
theorem dX0_from_64 : decode cX0_from 64 = .ok (.ireturn, 1) := by decide +kernel
theorem dX0_from_65 : decode cX0_from 65 = .ok (.getstatic 50, 3) := by decide +kernel
theorem dX0_from_68 : decode cX0_from 68 = .ok (.iload 5, 2) := by decide +kernel
theorem dX0_from_70 : decode cX0_from 70 = .ok (.iconst 4, 1) := by decide +kernel
theorem dX0_from_71 : decode cX0_from 71 = .ok (.imul, 1) := by decide +kernel
theorem dX0_from_72 : decode cX0_from 72 = .ok (.iload_n 2, 1) := by decide +kernel
theorem dX0_from_73 : decode cX0_from 73 = .ok (.iadd, 1) := by decide +kernel
theorem dX0_from_74 : decode cX0_from 74 = .ok (.iaload, 1) := by decide +kernel
theorem dX0_from_75 : decode cX0_from 75 = .ok (.istore 6, 2) := by decide +kernel
theorem dX0_from_77 : decode cX0_from 77 = .ok (.aload_n 0, 1) := by decide +kernel
theorem dX0_from_78 : decode cX0_from 78 = .ok (.iload 6, 2) := by decide +kernel
theorem dX0_from_80 : decode cX0_from 80 = .ok (.invokevirtual 53, 3) := by decide +kernel
theorem dX0_from_83 : decode cX0_from 83 = .ok (.iload 5, 2) := by decide +kernel
theorem dX0_from_85 : decode cX0_from 85 = .ok (.ifCond .ne 17, 3) := by decide +kernel
theorem dX0_from_88 : decode cX0_from 88 = .ok (.aload_n 0, 1) := by decide +kernel
theorem dX0_from_89 : decode cX0_from 89 = .ok (.iload 6, 2) := by decide +kernel
theorem dX0_from_91 : decode cX0_from 91 = .ok (.iload_n 3, 1) := by decide +kernel
theorem dX0_from_92 : decode cX0_from 92 = .ok (.iload 4, 2) := by decide +kernel
theorem dX0_from_94 : decode cX0_from 94 = .ok (.iconst 1, 1) := by decide +kernel
theorem dX0_from_95 : decode cX0_from 95 = .ok (.iadd, 1) := by decide +kernel
theorem dX0_from_96 : decode cX0_from 96 = .ok (.invokevirtual 57, 3) := by decide +kernel
theorem dX0_from_99 : decode cX0_from 99 = .ok (.goto 20, 3) := by decide +kernel
theorem dX0_from_102 : decode cX0_from 102 = .ok (.aload_n 0, 1) := by decide +kernel
theorem dX0_from_103 : decode cX0_from 103 = .ok (.iload 6, 2) := by decide +kernel
theorem dX0_from_105 : decode cX0_from 105 = .ok (.getstatic 32, 3) := by decide +kernel
theorem dX0_from_108 : decode cX0_from 108 = .ok (.iload 5, 2) := by decide +kernel
theorem dX0_from_110 : decode cX0_from 110 = .ok (.iaload, 1) := by decide +kernel
theorem dX0_from_111 : decode cX0_from 111 = .ok (.iload_n 3, 1) := by decide +kernel
theorem dX0_from_112 : decode cX0_from 112 = .ok (.iload 4, 2) := by decide +kernel
theorem dX0_from_114 : decode cX0_from 114 = .ok (.iconst 1, 1) := by decide +kernel
theorem dX0_from_115 : decode cX0_from 115 = .ok (.iadd, 1) := by decide +kernel
theorem dX0_from_116 : decode cX0_from 116 = .ok (.invokevirtual 60, 3) := by decide +kernel
theorem dX0_from_119 : decode cX0_from 119 = .ok (.ireturn, 1) := by decide +kernel
theorem dX0_note_0 : decode cX0_note 0 = .ok (.aload_n 0, 1) := by decide +kernel
theorem dX0_note_1 : decode cX0_note 1 = .ok (.getfield 22, 3) := by decide +kernel
theorem dX0_note_4 : decode cX0_note 4 = .ok (.bipush 24, 2) := by decide +kernel
theorem dX0_note_6 : decode cX0_note 6 = .ok (.if_icmp .ge 13, 3) := by decide +kernel
theorem dX0_note_9 : decode cX0_note 9 = .ok (.aload_n 0, 1) := by decide +kernel
theorem dX0_note_10 : decode cX0_note 10 = .ok (.getfield 19, 3) := by decide +kernel
theorem dX0_note_13 : decode cX0_note 13 = .ok (.aload_n 0, 1) := by decide +kernel
theorem dX0_note_14 : decode cX0_note 14 = .ok (.getfield 22, 3) := by decide +kernel
theorem dX0_note_17 : decode cX0_note 17 = .ok (.iload_n 1, 1) := by decide +kernel
theorem dX0_note_18 : decode cX0_note 18 = .ok (.iastore, 1) := by decide +kernel
theorem dX0_note_19 : decode cX0_note 19 = .ok (.aload_n 0, 1) := by decide +kernel
theorem dX0_note_20 : decode cX0_note 20 = .ok (.dup, 1) := by decide +kernel
theorem dX0_note_21 : decode cX0_note 21 = .ok (.getfield 22, 3) := by decide +kernel
theorem dX0_note_24 : decode cX0_note 24 = .ok (.iconst 1, 1) := by decide +kernel
theorem dX0_note_25 : decode cX0_note 25 = .ok (.iadd, 1) := by decide +kernel
theorem dX0_note_26 : decode cX0_note 26 = .ok (.putfield 22, 3) := by decide +kernel
theorem dX0_note_29 : decode cX0_note 29 = .ok (.return_, 1) := by decide +kernel
theorem dX0_atTop_0 : decode cX0_atTop 0 = .ok (.iload_n 1, 1) := by decide +kernel
theorem dX0_atTop_1 : decode cX0_atTop 1 = .ok (.lookupswitch 83 #[(1, 43), (2, 50), (10, 66), (11, 76)], 43) := by decide +kernel
theorem dX0_atTop_44 : decode cX0_atTop 44 = .ok (.iload_n 2, 1) := by decide +kernel
theorem dX0_atTop_45 : decode cX0_atTop 45 = .ok (.aload_n 0, 1) := by decide +kernel
theorem dX0_atTop_46 : decode cX0_atTop 46 = .ok (.getfield 25, 3) := by decide +kernel
theorem dX0_atTop_49 : decode cX0_atTop 49 = .ok (.iadd, 1) := by decide +kernel
theorem dX0_atTop_50 : decode cX0_atTop 50 = .ok (.ireturn, 1) := by decide +kernel
theorem dX0_atTop_51 : decode cX0_atTop 51 = .ok (.aload_n 0, 1) := by decide +kernel
theorem dX0_atTop_52 : decode cX0_atTop 52 = .ok (.iconst 1, 1) := by decide +kernel
theorem dX0_atTop_53 : decode cX0_atTop 53 = .ok (.iload_n 2, 1) := by decide +kernel
theorem dX0_atTop_54 : decode cX0_atTop 54 = .ok (.iload_n 3, 1) := by decide +kernel
theorem dX0_atTop_55 : decode cX0_atTop 55 = .ok (.invokevirtual 38, 3) := by decide +kernel
theorem dX0_atTop_58 : decode cX0_atTop 58 = .ok (.aload_n 0, 1) := by decide +kernel
theorem dX0_atTop_59 : decode cX0_atTop 59 = .ok (.iconst 2, 1) := by decide +kernel
theorem dX0_atTop_60 : decode cX0_atTop 60 = .ok (.iconst 1, 1) := by decide +kernel
theorem dX0_atTop_61 : decode cX0_atTop 61 = .ok (.iload_n 3, 1) := by decide +kernel
theorem dX0_atTop_62 : decode cX0_atTop 62 = .ok (.invokevirtual 38, 3) := by decide +kernel
theorem dX0_atTop_65 : decode cX0_atTop 65 = .ok (.isub, 1) := by decide +kernel
theorem dX0_atTop_66 : decode cX0_atTop 66 = .ok (.ireturn, 1) := by decide +kernel
theorem dX0_atTop_67 : decode cX0_atTop 67 = .ok (.aload_n 0, 1) := by decide +kernel
theorem dX0_atTop_68 : decode cX0_atTop 68 = .ok (.iconst 0, 1) := by decide +kernel
theorem dX0_atTop_69 : decode cX0_atTop 69 = .ok (.iload_n 2, 1) := by decide +kernel
theorem dX0_atTop_70 : decode cX0_atTop 70 = .ok (.iload_n 3, 1) := by decide +kernel
theorem dX0_atTop_71 : decode cX0_atTop 71 = .ok (.invokevirtual 38, 3) := by decide +kernel
theorem dX0_atTop_74 : decode cX0_atTop 74 = .ok (.iconst 2, 1) := by decide +kernel
theorem dX0_atTop_75 : decode cX0_atTop 75 = .ok (.imul, 1) := by decide +kernel
theorem dX0_atTop_76 : decode cX0_atTop 76 = .ok (.ireturn, 1) := by decide +kernel
theorem dX0_atTop_77 : decode cX0_atTop 77 = .ok (.iload_n 2, 1) := by decide +kernel
theorem dX0_atTop_78 : decode cX0_atTop 78 = .ok (.aload_n 0, 1) := by decide +kernel
theorem dX0_atTop_79 : decode cX0_atTop 79 = .ok (.getfield 25, 3) := by decide +kernel
theorem dX0_atTop_82 : decode cX0_atTop 82 = .ok (.ixor, 1) := by decide +kernel
theorem dX0_atTop_83 : decode cX0_atTop 83 = .ok (.ireturn, 1) := by decide +kernel
theorem dX0_atTop_84 : decode cX0_atTop 84 = .ok (.iconst 0, 1) := by decide +kernel
theorem dX0_atTop_85 : decode cX0_atTop 85 = .ok (.ireturn, 1) := by decide +kernel
theorem dX0_below_0 : decode cX0_below 0 = .ok (.iload_n 1, 1) := by decide +kernel
theorem dX0_below_1 : decode cX0_below 1 = .ok (.lookupswitch 224 #[(20, 91), (30, 103), (40, 114), (41, 126), (50, 138), (60, 150), (61, 169), (70, 181), (80, 193), (81, 212)], 91) := by decide +kernel
theorem dX0_below_92 : decode cX0_below 92 = .ok (.aload_n 0, 1) := by decide +kernel
theorem dX0_below_93 : decode cX0_below 93 = .ok (.iload_n 2, 1) := by decide +kernel
theorem dX0_below_94 : decode cX0_below 94 = .ok (.iconst 0, 1) := by decide +kernel
theorem dX0_below_95 : decode cX0_below 95 = .ok (.iload_n 3, 1) := by decide +kernel
theorem dX0_below_96 : decode cX0_below 96 = .ok (.iload 4, 2) := by decide +kernel
theorem dX0_below_98 : decode cX0_below 98 = .ok (.invokevirtual 46, 3) := by decide +kernel
theorem dX0_below_101 : decode cX0_below 101 = .ok (.iconst 3, 1) := by decide +kernel
theorem dX0_below_102 : decode cX0_below 102 = .ok (.iadd, 1) := by decide +kernel
theorem dX0_below_103 : decode cX0_below 103 = .ok (.ireturn, 1) := by decide +kernel
theorem dX0_below_104 : decode cX0_below 104 = .ok (.aload_n 0, 1) := by decide +kernel
theorem dX0_below_105 : decode cX0_below 105 = .ok (.iload_n 2, 1) := by decide +kernel
theorem dX0_below_106 : decode cX0_below 106 = .ok (.iconst 1, 1) := by decide +kernel
theorem dX0_below_107 : decode cX0_below 107 = .ok (.iload_n 3, 1) := by decide +kernel
theorem dX0_below_108 : decode cX0_below 108 = .ok (.iload 4, 2) := by decide +kernel
theorem dX0_below_110 : decode cX0_below 110 = .ok (.invokevirtual 46, 3) := by decide +kernel
theorem dX0_below_113 : decode cX0_below 113 = .ok (.ineg, 1) := by decide +kernel
theorem dX0_below_114 : decode cX0_below 114 = .ok (.ireturn, 1) := by decide +kernel
theorem dX0_below_115 : decode cX0_below 115 = .ok (.aload_n 0, 1) := by decide +kernel
theorem dX0_below_116 : decode cX0_below 116 = .ok (.iload_n 2, 1) := by decide +kernel
theorem dX0_below_117 : decode cX0_below 117 = .ok (.iconst 2, 1) := by decide +kernel
theorem dX0_below_118 : decode cX0_below 118 = .ok (.iload_n 3, 1) := by decide +kernel
theorem dX0_below_119 : decode cX0_below 119 = .ok (.iload 4, 2) := by decide +kernel
theorem dX0_below_121 : decode cX0_below 121 = .ok (.invokevirtual 46, 3) := by decide +kernel
theorem dX0_below_124 : decode cX0_below 124 = .ok (.iconst 3, 1) := by decide +kernel
theorem dX0_below_125 : decode cX0_below 125 = .ok (.imul, 1) := by decide +kernel
theorem dX0_below_126 : decode cX0_below 126 = .ok (.ireturn, 1) := by decide +kernel
theorem dX0_below_127 : decode cX0_below 127 = .ok (.aload_n 0, 1) := by decide +kernel
theorem dX0_below_128 : decode cX0_below 128 = .ok (.iload_n 2, 1) := by decide +kernel
theorem dX0_below_129 : decode cX0_below 129 = .ok (.iconst 1, 1) := by decide +kernel
theorem dX0_below_130 : decode cX0_below 130 = .ok (.iload_n 3, 1) := by decide +kernel
theorem dX0_below_131 : decode cX0_below 131 = .ok (.iconst 1, 1) := by decide +kernel
theorem dX0_below_132 : decode cX0_below 132 = .ok (.iadd, 1) := by decide +kernel
theorem dX0_below_133 : decode cX0_below 133 = .ok (.iload 4, 2) := by decide +kernel
theorem dX0_below_135 : decode cX0_below 135 = .ok (.invokevirtual 46, 3) := by decide +kernel
theorem dX0_below_138 : decode cX0_below 138 = .ok (.ireturn, 1) := by decide +kernel
theorem dX0_below_139 : decode cX0_below 139 = .ok (.aload_n 0, 1) := by decide +kernel
theorem dX0_below_140 : decode cX0_below 140 = .ok (.iload_n 2, 1) := by decide +kernel
theorem dX0_below_141 : decode cX0_below 141 = .ok (.iconst 3, 1) := by decide +kernel
theorem dX0_below_142 : decode cX0_below 142 = .ok (.iload_n 3, 1) := by decide +kernel
theorem dX0_below_143 : decode cX0_below 143 = .ok (.iload 4, 2) := by decide +kernel
theorem dX0_below_145 : decode cX0_below 145 = .ok (.invokevirtual 46, 3) := by decide +kernel
theorem dX0_below_148 : decode cX0_below 148 = .ok (.iconst 5, 1) := by decide +kernel
theorem dX0_below_149 : decode cX0_below 149 = .ok (.ixor, 1) := by decide +kernel
theorem dX0_below_150 : decode cX0_below 150 = .ok (.ireturn, 1) := by decide +kernel
theorem dX0_below_151 : decode cX0_below 151 = .ok (.aload_n 0, 1) := by decide +kernel
theorem dX0_below_152 : decode cX0_below 152 = .ok (.iload_n 2, 1) := by decide +kernel
theorem dX0_below_153 : decode cX0_below 153 = .ok (.iconst 2, 1) := by decide +kernel
theorem dX0_below_154 : decode cX0_below 154 = .ok (.iload_n 3, 1) := by decide +kernel
theorem dX0_below_155 : decode cX0_below 155 = .ok (.iload 4, 2) := by decide +kernel
theorem dX0_below_157 : decode cX0_below 157 = .ok (.invokevirtual 46, 3) := by decide +kernel
theorem dX0_below_160 : decode cX0_below 160 = .ok (.aload_n 0, 1) := by decide +kernel
theorem dX0_below_161 : decode cX0_below 161 = .ok (.iconst 0, 1) := by decide +kernel
theorem dX0_below_162 : decode cX0_below 162 = .ok (.iconst 2, 1) := by decide +kernel
theorem dX0_below_163 : decode cX0_below 163 = .ok (.iload 4, 2) := by decide +kernel
theorem dX0_below_165 : decode cX0_below 165 = .ok (.invokevirtual 38, 3) := by decide +kernel
theorem dX0_below_168 : decode cX0_below 168 = .ok (.isub, 1) := by decide +kernel
theorem dX0_below_169 : decode cX0_below 169 = .ok (.ireturn, 1) := by decide +kernel
theorem dX0_below_170 : decode cX0_below 170 = .ok (.aload_n 0, 1) := by decide +kernel
theorem dX0_below_171 : decode cX0_below 171 = .ok (.iload_n 2, 1) := by decide +kernel
theorem dX0_below_172 : decode cX0_below 172 = .ok (.iconst 3, 1) := by decide +kernel
theorem dX0_below_173 : decode cX0_below 173 = .ok (.iload_n 3, 1) := by decide +kernel
theorem dX0_below_174 : decode cX0_below 174 = .ok (.iload 4, 2) := by decide +kernel
theorem dX0_below_176 : decode cX0_below 176 = .ok (.invokevirtual 46, 3) := by decide +kernel
theorem dX0_below_179 : decode cX0_below 179 = .ok (.iconst 1, 1) := by decide +kernel
theorem dX0_below_180 : decode cX0_below 180 = .ok (.iadd, 1) := by decide +kernel
theorem dX0_below_181 : decode cX0_below 181 = .ok (.ireturn, 1) := by decide +kernel
theorem dX0_below_182 : decode cX0_below 182 = .ok (.aload_n 0, 1) := by decide +kernel
theorem dX0_below_183 : decode cX0_below 183 = .ok (.iload_n 2, 1) := by decide +kernel
theorem dX0_below_184 : decode cX0_below 184 = .ok (.iconst 0, 1) := by decide +kernel
theorem dX0_below_185 : decode cX0_below 185 = .ok (.iload_n 3, 1) := by decide +kernel
theorem dX0_below_186 : decode cX0_below 186 = .ok (.iload 4, 2) := by decide +kernel
theorem dX0_below_188 : decode cX0_below 188 = .ok (.invokevirtual 46, 3) := by decide +kernel
theorem dX0_below_191 : decode cX0_below 191 = .ok (.iconst 2, 1) := by decide +kernel
theorem dX0_below_192 : decode cX0_below 192 = .ok (.imul, 1) := by decide +kernel
theorem dX0_below_193 : decode cX0_below 193 = .ok (.ireturn, 1) := by decide +kernel
theorem dX0_below_194 : decode cX0_below 194 = .ok (.aload_n 0, 1) := by decide +kernel
theorem dX0_below_195 : decode cX0_below 195 = .ok (.iload_n 2, 1) := by decide +kernel
theorem dX0_below_196 : decode cX0_below 196 = .ok (.iconst 1, 1) := by decide +kernel
theorem dX0_below_197 : decode cX0_below 197 = .ok (.iload_n 3, 1) := by decide +kernel
theorem dX0_below_198 : decode cX0_below 198 = .ok (.iload 4, 2) := by decide +kernel
theorem dX0_below_200 : decode cX0_below 200 = .ok (.invokevirtual 46, 3) := by decide +kernel
theorem dX0_below_203 : decode cX0_below 203 = .ok (.aload_n 0, 1) := by decide +kernel
theorem dX0_below_204 : decode cX0_below 204 = .ok (.iconst 2, 1) := by decide +kernel
theorem dX0_below_205 : decode cX0_below 205 = .ok (.iconst 2, 1) := by decide +kernel
theorem dX0_below_206 : decode cX0_below 206 = .ok (.iload 4, 2) := by decide +kernel
theorem dX0_below_208 : decode cX0_below 208 = .ok (.invokevirtual 38, 3) := by decide +kernel
theorem dX0_below_211 : decode cX0_below 211 = .ok (.iadd, 1) := by decide +kernel
theorem dX0_below_212 : decode cX0_below 212 = .ok (.ireturn, 1) := by decide +kernel
theorem dX0_below_213 : decode cX0_below 213 = .ok (.aload_n 0, 1) := by decide +kernel
theorem dX0_below_214 : decode cX0_below 214 = .ok (.iload_n 2, 1) := by decide +kernel
theorem dX0_below_215 : decode cX0_below 215 = .ok (.iconst 0, 1) := by decide +kernel
theorem dX0_below_216 : decode cX0_below 216 = .ok (.iload_n 3, 1) := by decide +kernel
theorem dX0_below_217 : decode cX0_below 217 = .ok (.iload 4, 2) := by decide +kernel
theorem dX0_below_219 : decode cX0_below 219 = .ok (.invokevirtual 46, 3) := by decide +kernel
theorem dX0_below_222 : decode cX0_below 222 = .ok (.iconst 1, 1) := by decide +kernel
theorem dX0_below_223 : decode cX0_below 223 = .ok (.isub, 1) := by decide +kernel
theorem dX0_below_224 : decode cX0_below 224 = .ok (.ireturn, 1) := by decide +kernel
theorem dX0_below_225 : decode cX0_below 225 = .ok (.iconst 0, 1) := by decide +kernel
theorem dX0_below_226 : decode cX0_below 226 = .ok (.ireturn, 1) := by decide +kernel
theorem dX1_init_0 : decode cX1_init 0 = .ok (.aload_n 0, 1) := by decide +kernel
theorem dX1_init_1 : decode cX1_init 1 = .ok (.invokespecial 3, 3) := by decide +kernel
theorem dX1_init_4 : decode cX1_init 4 = .ok (.aload_n 0, 1) := by decide +kernel
theorem dX1_init_5 : decode cX1_init 5 = .ok (.bipush 20, 2) := by decide +kernel
theorem dX1_init_7 : decode cX1_init 7 = .ok (.newarray .long, 2) := by decide +kernel
theorem dX1_init_9 : decode cX1_init 9 = .ok (.putfield 11, 3) := by decide +kernel
theorem dX1_init_12 : decode cX1_init 12 = .ok (.return_, 1) := by decide +kernel
theorem dX1_begin_0 : decode cX1_begin 0 = .ok (.iconst 0, 1) := by decide +kernel
theorem dX1_begin_1 : decode cX1_begin 1 = .ok (.istore_n 3, 1) := by decide +kernel
theorem dX1_begin_2 : decode cX1_begin 2 = .ok (.iload_n 3, 1) := by decide +kernel
theorem dX1_begin_3 : decode cX1_begin 3 = .ok (.iconst 4, 1) := by decide +kernel
theorem dX1_begin_4 : decode cX1_begin 4 = .ok (.if_icmp .ge 22, 3) := by decide +kernel
theorem dX1_begin_7 : decode cX1_begin 7 = .ok (.aload_n 0, 1) := by decide +kernel
theorem dX1_begin_8 : decode cX1_begin 8 = .ok (.getfield 11, 3) := by decide +kernel
theorem dX1_begin_11 : decode cX1_begin 11 = .ok (.iload_n 3, 1) := by decide +kernel
theorem dX1_begin_12 : decode cX1_begin 12 = .ok (.aload_n 1, 1) := by decide +kernel
theorem dX1_begin_13 : decode cX1_begin 13 = .ok (.iload_n 2, 1) := by decide +kernel
theorem dX1_begin_14 : decode cX1_begin 14 = .ok (.iload_n 3, 1) := by decide +kernel
theorem dX1_begin_15 : decode cX1_begin 15 = .ok (.invokevirtual 15, 3) := by decide +kernel
theorem dX1_begin_18 : decode cX1_begin 18 = .ok (.i2l, 1) := by decide +kernel
theorem dX1_begin_19 : decode cX1_begin 19 = .ok (.lastore, 1) := by decide +kernel
theorem dX1_begin_20 : decode cX1_begin 20 = .ok (.iinc 3 1, 3) := by decide +kernel
theorem dX1_begin_23 : decode cX1_begin 23 = .ok (.goto (-21), 3) := by decide +kernel
theorem dX1_begin_26 : decode cX1_begin 26 = .ok (.aload_n 0, 1) := by decide +kernel
theorem dX1_begin_27 : decode cX1_begin 27 = .ok (.iconst 0, 1) := by decide +kernel
theorem dX1_begin_28 : decode cX1_begin 28 = .ok (.invokevirtual 21, 3) := by decide +kernel
theorem dX1_begin_31 : decode cX1_begin 31 = .ok (.lconst 0, 1) := by decide +kernel
theorem dX1_begin_32 : decode cX1_begin 32 = .ok (.lcmp, 1) := by decide +kernel
theorem dX1_begin_33 : decode cX1_begin 33 = .ok (.ifCond .ne 10, 3) := by decide +kernel
theorem dX1_begin_36 : decode cX1_begin 36 = .ok (.aload_n 0, 1) := by decide +kernel
theorem dX1_begin_37 : decode cX1_begin 37 = .ok (.getfield 11, 3) := by decide +kernel
theorem dX1_begin_40 : decode cX1_begin 40 = .ok (.iconst 0, 1) := by decide +kernel
theorem dX1_begin_41 : decode cX1_begin 41 = .ok (.lconst 1, 1) := by decide +kernel
theorem dX1_begin_42 : decode cX1_begin 42 = .ok (.lastore, 1) := by decide +kernel
theorem dX1_begin_43 : decode cX1_begin 43 = .ok (.return_, 1) := by decide +kernel
theorem dX1_step_0 : decode cX1_step 0 = .ok (.iload_n 1, 1) := by decide +kernel
theorem dX1_step_1 : decode cX1_step 1 = .ok (.ifCond .lt 8, 3) := by decide +kernel
theorem dX1_step_4 : decode cX1_step 4 = .ok (.iload_n 1, 1) := by decide +kernel
theorem dX1_step_5 : decode cX1_step 5 = .ok (.iconst 4, 1) := by decide +kernel
theorem dX1_step_6 : decode cX1_step 6 = .ok (.if_icmp .lt 4, 3) := by decide +kernel
theorem dX1_step_9 : decode cX1_step 9 = .ok (.return_, 1) := by decide +kernel
theorem dX1_step_10 : decode cX1_step 10 = .ok (.iload_n 1, 1) := by decide +kernel
theorem dX1_step_11 : decode cX1_step 11 = .ok (.iconst 4, 1) := by decide +kernel
theorem dX1_step_12 : decode cX1_step 12 = .ok (.imul, 1) := by decide +kernel
theorem dX1_step_13 : decode cX1_step 13 = .ok (.istore 4, 2) := by decide +kernel
theorem dX1_step_15 : decode cX1_step 15 = .ok (.iload 4, 2) := by decide +kernel
theorem dX1_step_17 : decode cX1_step 17 = .ok (.iconst 4, 1) := by decide +kernel
theorem dX1_step_18 : decode cX1_step 18 = .ok (.iadd, 1) := by decide +kernel
theorem dX1_step_19 : decode cX1_step 19 = .ok (.istore 5, 2) := by decide +kernel
theorem dX1_step_21 : decode cX1_step 21 = .ok (.iconst 0, 1) := by decide +kernel
theorem dX1_step_22 : decode cX1_step 22 = .ok (.istore 6, 2) := by decide +kernel
theorem dX1_step_24 : decode cX1_step 24 = .ok (.iload 6, 2) := by decide +kernel
theorem dX1_step_26 : decode cX1_step 26 = .ok (.iconst 4, 1) := by decide +kernel
theorem dX1_step_27 : decode cX1_step 27 = .ok (.if_icmp .ge 20, 3) := by decide +kernel
theorem dX1_step_30 : decode cX1_step 30 = .ok (.aload_n 0, 1) := by decide +kernel
theorem dX1_step_31 : decode cX1_step 31 = .ok (.getfield 11, 3) := by decide +kernel
theorem dX1_step_34 : decode cX1_step 34 = .ok (.iload 5, 2) := by decide +kernel
theorem dX1_step_36 : decode cX1_step 36 = .ok (.iload 6, 2) := by decide +kernel
theorem dX1_step_38 : decode cX1_step 38 = .ok (.iadd, 1) := by decide +kernel
theorem dX1_step_39 : decode cX1_step 39 = .ok (.lconst 0, 1) := by decide +kernel
theorem dX1_step_40 : decode cX1_step 40 = .ok (.lastore, 1) := by decide +kernel
theorem dX1_step_41 : decode cX1_step 41 = .ok (.iinc 6 1, 3) := by decide +kernel
theorem dX1_step_44 : decode cX1_step 44 = .ok (.goto (-20), 3) := by decide +kernel
theorem dX1_step_47 : decode cX1_step 47 = .ok (.iload_n 3, 1) := by decide +kernel
theorem dX1_step_48 : decode cX1_step 48 = .ok (.ifCond .ge 4, 3) := by decide +kernel
theorem dX1_step_51 : decode cX1_step 51 = .ok (.return_, 1) := by decide +kernel
theorem dX1_step_52 : decode cX1_step 52 = .ok (.iconst 0, 1) := by decide +kernel
theorem dX1_step_53 : decode cX1_step 53 = .ok (.istore 6, 2) := by decide +kernel
theorem dX1_step_55 : decode cX1_step 55 = .ok (.iload 6, 2) := by decide +kernel
theorem dX1_step_57 : decode cX1_step 57 = .ok (.iload_n 3, 1) := by decide +kernel
theorem dX1_step_58 : decode cX1_step 58 = .ok (.iadd, 1) := by decide +kernel
theorem dX1_step_59 : decode cX1_step 59 = .ok (.iconst 4, 1) := by decide +kernel
theorem dX1_step_60 : decode cX1_step 60 = .ok (.if_icmp .ge 77, 3) := by decide +kernel
theorem dX1_step_63 : decode cX1_step 63 = .ok (.iload 6, 2) := by decide +kernel
theorem dX1_step_65 : decode cX1_step 65 = .ok (.iload_n 3, 1) := by decide +kernel
theorem dX1_step_66 : decode cX1_step 66 = .ok (.iadd, 1) := by decide +kernel
theorem dX1_step_67 : decode cX1_step 67 = .ok (.istore 7, 2) := by decide +kernel
theorem dX1_step_69 : decode cX1_step 69 = .ok (.getstatic 25, 3) := by decide +kernel
theorem dX1_step_72 : decode cX1_step 72 = .ok (.iload 7, 2) := by decide +kernel
theorem dX1_step_74 : decode cX1_step 74 = .ok (.iconst 4, 1) := by decide +kernel
theorem dX1_step_75 : decode cX1_step 75 = .ok (.imul, 1) := by decide +kernel
theorem dX1_step_76 : decode cX1_step 76 = .ok (.iload_n 3, 1) := by decide +kernel
theorem dX1_step_77 : decode cX1_step 77 = .ok (.iadd, 1) := by decide +kernel
theorem dX1_step_78 : decode cX1_step 78 = .ok (.iaload, 1) := by decide +kernel
theorem dX1_step_79 : decode cX1_step 79 = .ok (.i2l, 1) := by decide +kernel
theorem dX1_step_80 : decode cX1_step 80 = .ok (.iload_n 2, 1) := by decide +kernel
theorem dX1_step_81 : decode cX1_step 81 = .ok (.iload_n 3, 1) := by decide +kernel
theorem dX1_step_82 : decode cX1_step 82 = .ok (.invokestatic 29, 3) := by decide +kernel
theorem dX1_step_85 : decode cX1_step 85 = .ok (.lmul, 1) := by decide +kernel
theorem dX1_step_86 : decode cX1_step 86 = .ok (.bipush 12, 2) := by decide +kernel
theorem dX1_step_88 : decode cX1_step 88 = .ok (.iload_n 2, 1) := by decide +kernel
theorem dX1_step_89 : decode cX1_step 89 = .ok (.isub, 1) := by decide +kernel
theorem dX1_step_90 : decode cX1_step 90 = .ok (.iload 6, 2) := by decide +kernel
theorem dX1_step_92 : decode cX1_step 92 = .ok (.invokestatic 29, 3) := by decide +kernel
theorem dX1_step_95 : decode cX1_step 95 = .ok (.lmul, 1) := by decide +kernel
theorem dX1_step_96 : decode cX1_step 96 = .ok (.lstore 8, 2) := by decide +kernel
theorem dX1_step_98 : decode cX1_step 98 = .ok (.aload_n 0, 1) := by decide +kernel
theorem dX1_step_99 : decode cX1_step 99 = .ok (.getfield 11, 3) := by decide +kernel
theorem dX1_step_102 : decode cX1_step 102 = .ok (.iload 5, 2) := by decide +kernel
theorem dX1_step_104 : decode cX1_step 104 = .ok (.iload 6, 2) := by decide +kernel
theorem dX1_step_106 : decode cX1_step 106 = .ok (.iadd, 1) := by decide +kernel
theorem dX1_step_107 : decode cX1_step 107 = .ok (.aload_n 0, 1) := by decide +kernel
theorem dX1_step_108 : decode cX1_step 108 = .ok (.getfield 11, 3) := by decide +kernel
theorem dX1_step_111 : decode cX1_step 111 = .ok (.iload 4, 2) := by decide +kernel
theorem dX1_step_113 : decode cX1_step 113 = .ok (.iload 7, 2) := by decide +kernel
theorem dX1_step_115 : decode cX1_step 115 = .ok (.iadd, 1) := by decide +kernel
theorem dX1_step_116 : decode cX1_step 116 = .ok (.laload, 1) := by decide +kernel
theorem dX1_step_117 : decode cX1_step 117 = .ok (.lload 8, 2) := by decide +kernel
theorem dX1_step_119 : decode cX1_step 119 = .ok (.lmul, 1) := by decide +kernel
theorem dX1_step_120 : decode cX1_step 120 = .ok (.bipush 12, 2) := by decide +kernel
theorem dX1_step_122 : decode cX1_step 122 = .ok (.iconst 3, 1) := by decide +kernel
theorem dX1_step_123 : decode cX1_step 123 = .ok (.iload 7, 2) := by decide +kernel
theorem dX1_step_125 : decode cX1_step 125 = .ok (.isub, 1) := by decide +kernel
theorem dX1_step_126 : decode cX1_step 126 = .ok (.invokestatic 29, 3) := by decide +kernel
theorem dX1_step_129 : decode cX1_step 129 = .ok (.lmul, 1) := by decide +kernel
theorem dX1_step_130 : decode cX1_step 130 = .ok (.lastore, 1) := by decide +kernel
theorem dX1_step_131 : decode cX1_step 131 = .ok (.iinc 6 1, 3) := by decide +kernel
theorem dX1_step_134 : decode cX1_step 134 = .ok (.goto (-79), 3) := by decide +kernel
theorem dX1_step_137 : decode cX1_step 137 = .ok (.return_, 1) := by decide +kernel
theorem dX1_power_0 : decode cX1_power 0 = .ok (.lconst 1, 1) := by decide +kernel
theorem dX1_power_1 : decode cX1_power 1 = .ok (.lstore_n 2, 1) := by decide +kernel
theorem dX1_power_2 : decode cX1_power 2 = .ok (.iconst 0, 1) := by decide +kernel
theorem dX1_power_3 : decode cX1_power 3 = .ok (.istore 4, 2) := by decide +kernel
theorem dX1_power_5 : decode cX1_power 5 = .ok (.iload 4, 2) := by decide +kernel
theorem dX1_power_7 : decode cX1_power 7 = .ok (.iload_n 1, 1) := by decide +kernel
theorem dX1_power_8 : decode cX1_power 8 = .ok (.if_icmp .ge 14, 3) := by decide +kernel
theorem dX1_power_11 : decode cX1_power 11 = .ok (.lload_n 2, 1) := by decide +kernel
theorem dX1_power_12 : decode cX1_power 12 = .ok (.iload_n 0, 1) := by decide +kernel
theorem dX1_power_13 : decode cX1_power 13 = .ok (.i2l, 1) := by decide +kernel
theorem dX1_power_14 : decode cX1_power 14 = .ok (.lmul, 1) := by decide +kernel
theorem dX1_power_15 : decode cX1_power 15 = .ok (.lstore_n 2, 1) := by decide +kernel
theorem dX1_power_16 : decode cX1_power 16 = .ok (.iinc 4 1, 3) := by decide +kernel
theorem dX1_power_19 : decode cX1_power 19 = .ok (.goto (-14), 3) := by decide +kernel
theorem dX1_power_22 : decode cX1_power 22 = .ok (.lload_n 2, 1) := by decide +kernel
theorem dX1_power_23 : decode cX1_power 23 = .ok (.lreturn, 1) := by decide +kernel
theorem dX1_isLevel_0 : decode cX1_isLevel 0 = .ok (.iload_n 0, 1) := by decide +kernel
theorem dX1_isLevel_1 : decode cX1_isLevel 1 = .ok (.ifCond .lt 12, 3) := by decide +kernel
theorem dX1_isLevel_4 : decode cX1_isLevel 4 = .ok (.iload_n 0, 1) := by decide +kernel
theorem dX1_isLevel_5 : decode cX1_isLevel 5 = .ok (.iconst 4, 1) := by decide +kernel
theorem dX1_isLevel_6 : decode cX1_isLevel 6 = .ok (.if_icmp .gt 7, 3) := by decide +kernel
theorem dX1_isLevel_9 : decode cX1_isLevel 9 = .ok (.iconst 1, 1) := by decide +kernel
theorem dX1_isLevel_10 : decode cX1_isLevel 10 = .ok (.goto 4, 3) := by decide +kernel
theorem dX1_isLevel_13 : decode cX1_isLevel 13 = .ok (.iconst 0, 1) := by decide +kernel
theorem dX1_isLevel_14 : decode cX1_isLevel 14 = .ok (.ireturn, 1) := by decide +kernel
theorem dX1_at_0 : decode cX1_at 0 = .ok (.iload_n 1, 1) := by decide +kernel
theorem dX1_at_1 : decode cX1_at 1 = .ok (.invokestatic 33, 3) := by decide +kernel
theorem dX1_at_4 : decode cX1_at 4 = .ok (.ifCond .eq 25, 3) := by decide +kernel
theorem dX1_at_7 : decode cX1_at 7 = .ok (.iload_n 2, 1) := by decide +kernel
theorem dX1_at_8 : decode cX1_at 8 = .ok (.ifCond .lt 21, 3) := by decide +kernel
theorem dX1_at_11 : decode cX1_at 11 = .ok (.iload_n 2, 1) := by decide +kernel
theorem dX1_at_12 : decode cX1_at 12 = .ok (.iconst 4, 1) := by decide +kernel
theorem dX1_at_13 : decode cX1_at 13 = .ok (.if_icmp .ge 16, 3) := by decide +kernel
theorem dX1_at_16 : decode cX1_at 16 = .ok (.aload_n 0, 1) := by decide +kernel
theorem dX1_at_17 : decode cX1_at 17 = .ok (.getfield 11, 3) := by decide +kernel
theorem dX1_at_20 : decode cX1_at 20 = .ok (.iload_n 1, 1) := by decide +kernel
theorem dX1_at_21 : decode cX1_at 21 = .ok (.iconst 4, 1) := by decide +kernel
theorem dX1_at_22 : decode cX1_at 22 = .ok (.imul, 1) := by decide +kernel
theorem dX1_at_23 : decode cX1_at 23 = .ok (.iload_n 2, 1) := by decide +kernel
theorem dX1_at_24 : decode cX1_at 24 = .ok (.iadd, 1) := by decide +kernel
theorem dX1_at_25 : decode cX1_at 25 = .ok (.laload, 1) := by decide +kernel
theorem dX1_at_26 : decode cX1_at 26 = .ok (.goto 4, 3) := by decide +kernel
theorem dX1_at_29 : decode cX1_at 29 = .ok (.lconst 0, 1) := by decide +kernel
theorem dX1_at_30 : decode cX1_at 30 = .ok (.lreturn, 1) := by decide +kernel
theorem dX1_all_0 : decode cX1_all 0 = .ok (.iload_n 1, 1) := by decide +kernel
theorem dX1_all_1 : decode cX1_all 1 = .ok (.invokestatic 33, 3) := by decide +kernel
theorem dX1_all_4 : decode cX1_all 4 = .ok (.ifCond .ne 5, 3) := by decide +kernel
theorem dX1_all_7 : decode cX1_all 7 = .ok (.lconst 0, 1) := by decide +kernel
theorem dX1_all_8 : decode cX1_all 8 = .ok (.lreturn, 1) := by decide +kernel
theorem dX1_all_9 : decode cX1_all 9 = .ok (.iload_n 1, 1) := by decide +kernel
theorem dX1_all_10 : decode cX1_all 10 = .ok (.iconst 4, 1) := by decide +kernel
theorem dX1_all_11 : decode cX1_all 11 = .ok (.imul, 1) := by decide +kernel
theorem dX1_all_12 : decode cX1_all 12 = .ok (.istore_n 2, 1) := by decide +kernel
theorem dX1_all_13 : decode cX1_all 13 = .ok (.aload_n 0, 1) := by decide +kernel
theorem dX1_all_14 : decode cX1_all 14 = .ok (.getfield 11, 3) := by decide +kernel
theorem dX1_all_17 : decode cX1_all 17 = .ok (.iload_n 2, 1) := by decide +kernel
theorem dX1_all_18 : decode cX1_all 18 = .ok (.laload, 1) := by decide +kernel
theorem dX1_all_19 : decode cX1_all 19 = .ok (.aload_n 0, 1) := by decide +kernel
theorem dX1_all_20 : decode cX1_all 20 = .ok (.getfield 11, 3) := by decide +kernel
theorem dX1_all_23 : decode cX1_all 23 = .ok (.iload_n 2, 1) := by decide +kernel
theorem dX1_all_24 : decode cX1_all 24 = .ok (.iconst 1, 1) := by decide +kernel
theorem dX1_all_25 : decode cX1_all 25 = .ok (.iadd, 1) := by decide +kernel
theorem dX1_all_26 : decode cX1_all 26 = .ok (.laload, 1) := by decide +kernel
theorem dX1_all_27 : decode cX1_all 27 = .ok (.ladd, 1) := by decide +kernel
theorem dX1_all_28 : decode cX1_all 28 = .ok (.aload_n 0, 1) := by decide +kernel
theorem dX1_all_29 : decode cX1_all 29 = .ok (.getfield 11, 3) := by decide +kernel
theorem dX1_all_32 : decode cX1_all 32 = .ok (.iload_n 2, 1) := by decide +kernel
theorem dX1_all_33 : decode cX1_all 33 = .ok (.iconst 2, 1) := by decide +kernel
theorem dX1_all_34 : decode cX1_all 34 = .ok (.iadd, 1) := by decide +kernel
theorem dX1_all_35 : decode cX1_all 35 = .ok (.laload, 1) := by decide +kernel
theorem dX1_all_36 : decode cX1_all 36 = .ok (.ladd, 1) := by decide +kernel
theorem dX1_all_37 : decode cX1_all 37 = .ok (.aload_n 0, 1) := by decide +kernel
theorem dX1_all_38 : decode cX1_all 38 = .ok (.getfield 11, 3) := by decide +kernel
theorem dX1_all_41 : decode cX1_all 41 = .ok (.iload_n 2, 1) := by decide +kernel
theorem dX1_all_42 : decode cX1_all 42 = .ok (.iconst 3, 1) := by decide +kernel
theorem dX1_all_43 : decode cX1_all 43 = .ok (.iadd, 1) := by decide +kernel
theorem dX1_all_44 : decode cX1_all 44 = .ok (.laload, 1) := by decide +kernel
theorem dX1_all_45 : decode cX1_all 45 = .ok (.ladd, 1) := by decide +kernel
theorem dX1_all_46 : decode cX1_all 46 = .ok (.lreturn, 1) := by decide +kernel
theorem dX1_allAhead_0 : decode cX1_allAhead 0 = .ok (.aload_n 0, 1) := by decide +kernel
theorem dX1_allAhead_1 : decode cX1_allAhead 1 = .ok (.iconst 0, 1) := by decide +kernel
theorem dX1_allAhead_2 : decode cX1_allAhead 2 = .ok (.invokevirtual 21, 3) := by decide +kernel
theorem dX1_allAhead_5 : decode cX1_allAhead 5 = .ok (.lstore_n 2, 1) := by decide +kernel
theorem dX1_allAhead_6 : decode cX1_allAhead 6 = .ok (.iconst 0, 1) := by decide +kernel
theorem dX1_allAhead_7 : decode cX1_allAhead 7 = .ok (.istore 4, 2) := by decide +kernel
theorem dX1_allAhead_9 : decode cX1_allAhead 9 = .ok (.iload 4, 2) := by decide +kernel
theorem dX1_allAhead_11 : decode cX1_allAhead 11 = .ok (.iload_n 1, 1) := by decide +kernel
theorem dX1_allAhead_12 : decode cX1_allAhead 12 = .ok (.if_icmp .ge 15, 3) := by decide +kernel
theorem dX1_allAhead_15 : decode cX1_allAhead 15 = .ok (.lload_n 2, 1) := by decide +kernel
theorem dX1_allAhead_16 : decode cX1_allAhead 16 = .ok (.ldc2_w 37, 3) := by decide +kernel
theorem dX1_allAhead_19 : decode cX1_allAhead 19 = .ok (.lmul, 1) := by decide +kernel
theorem dX1_allAhead_20 : decode cX1_allAhead 20 = .ok (.lstore_n 2, 1) := by decide +kernel
theorem dX1_allAhead_21 : decode cX1_allAhead 21 = .ok (.iinc 4 1, 3) := by decide +kernel
theorem dX1_allAhead_24 : decode cX1_allAhead 24 = .ok (.goto (-15), 3) := by decide +kernel
theorem dX1_allAhead_27 : decode cX1_allAhead 27 = .ok (.lload_n 2, 1) := by decide +kernel
theorem dX1_allAhead_28 : decode cX1_allAhead 28 = .ok (.lreturn, 1) := by decide +kernel
theorem dX1_stones_0 : decode cX1_stones 0 = .ok (.iload_n 1, 1) := by decide +kernel
theorem dX1_stones_1 : decode cX1_stones 1 = .ok (.invokestatic 33, 3) := by decide +kernel
theorem dX1_stones_4 : decode cX1_stones 4 = .ok (.ifCond .ne 5, 3) := by decide +kernel
theorem dX1_stones_7 : decode cX1_stones 7 = .ok (.lconst 0, 1) := by decide +kernel
theorem dX1_stones_8 : decode cX1_stones 8 = .ok (.lreturn, 1) := by decide +kernel
theorem dX1_stones_9 : decode cX1_stones 9 = .ok (.iload_n 1, 1) := by decide +kernel
theorem dX1_stones_10 : decode cX1_stones 10 = .ok (.iconst 4, 1) := by decide +kernel
theorem dX1_stones_11 : decode cX1_stones 11 = .ok (.imul, 1) := by decide +kernel
theorem dX1_stones_12 : decode cX1_stones 12 = .ok (.istore_n 2, 1) := by decide +kernel
theorem dX1_stones_13 : decode cX1_stones 13 = .ok (.aload_n 0, 1) := by decide +kernel
theorem dX1_stones_14 : decode cX1_stones 14 = .ok (.getfield 11, 3) := by decide +kernel
theorem dX1_stones_17 : decode cX1_stones 17 = .ok (.iload_n 2, 1) := by decide +kernel
theorem dX1_stones_18 : decode cX1_stones 18 = .ok (.iconst 1, 1) := by decide +kernel
theorem dX1_stones_19 : decode cX1_stones 19 = .ok (.iadd, 1) := by decide +kernel
theorem dX1_stones_20 : decode cX1_stones 20 = .ok (.laload, 1) := by decide +kernel
theorem dX1_stones_21 : decode cX1_stones 21 = .ok (.ldc2_w 39, 3) := by decide +kernel
theorem dX1_stones_24 : decode cX1_stones 24 = .ok (.aload_n 0, 1) := by decide +kernel
theorem dX1_stones_25 : decode cX1_stones 25 = .ok (.getfield 11, 3) := by decide +kernel
theorem dX1_stones_28 : decode cX1_stones 28 = .ok (.iload_n 2, 1) := by decide +kernel
theorem dX1_stones_29 : decode cX1_stones 29 = .ok (.iconst 2, 1) := by decide +kernel
theorem dX1_stones_30 : decode cX1_stones 30 = .ok (.iadd, 1) := by decide +kernel
theorem dX1_stones_31 : decode cX1_stones 31 = .ok (.laload, 1) := by decide +kernel
theorem dX1_stones_32 : decode cX1_stones 32 = .ok (.lmul, 1) := by decide +kernel
theorem dX1_stones_33 : decode cX1_stones 33 = .ok (.ladd, 1) := by decide +kernel
theorem dX1_stones_34 : decode cX1_stones 34 = .ok (.ldc2_w 41, 3) := by decide +kernel
theorem dX1_stones_37 : decode cX1_stones 37 = .ok (.aload_n 0, 1) := by decide +kernel
theorem dX1_stones_38 : decode cX1_stones 38 = .ok (.getfield 11, 3) := by decide +kernel
theorem dX1_stones_41 : decode cX1_stones 41 = .ok (.iload_n 2, 1) := by decide +kernel
theorem dX1_stones_42 : decode cX1_stones 42 = .ok (.iconst 3, 1) := by decide +kernel
theorem dX1_stones_43 : decode cX1_stones 43 = .ok (.iadd, 1) := by decide +kernel
theorem dX1_stones_44 : decode cX1_stones 44 = .ok (.laload, 1) := by decide +kernel
theorem dX1_stones_45 : decode cX1_stones 45 = .ok (.lmul, 1) := by decide +kernel
theorem dX1_stones_46 : decode cX1_stones 46 = .ok (.ladd, 1) := by decide +kernel
theorem dX1_stones_47 : decode cX1_stones 47 = .ok (.lreturn, 1) := by decide +kernel
theorem dX2_init_0 : decode cX2_init 0 = .ok (.aload_n 0, 1) := by decide +kernel
theorem dX2_init_1 : decode cX2_init 1 = .ok (.invokespecial 1, 3) := by decide +kernel
theorem dX2_init_4 : decode cX2_init 4 = .ok (.aload_n 0, 1) := by decide +kernel
theorem dX2_init_5 : decode cX2_init 5 = .ok (.iconst 0, 1) := by decide +kernel
theorem dX2_init_6 : decode cX2_init 6 = .ok (.putfield 7, 3) := by decide +kernel
theorem dX2_init_9 : decode cX2_init 9 = .ok (.aload_n 0, 1) := by decide +kernel
theorem dX2_init_10 : decode cX2_init 10 = .ok (.iconst 0, 1) := by decide +kernel
theorem dX2_init_11 : decode cX2_init 11 = .ok (.putfield 13, 3) := by decide +kernel
theorem dX2_init_14 : decode cX2_init 14 = .ok (.aload_n 0, 1) := by decide +kernel
theorem dX2_init_15 : decode cX2_init 15 = .ok (.iconst 0, 1) := by decide +kernel
theorem dX2_init_16 : decode cX2_init 16 = .ok (.putfield 17, 3) := by decide +kernel
theorem dX2_init_19 : decode cX2_init 19 = .ok (.aload_n 0, 1) := by decide +kernel
theorem dX2_init_20 : decode cX2_init 20 = .ok (.iconst 0, 1) := by decide +kernel
theorem dX2_init_21 : decode cX2_init 21 = .ok (.putfield 20, 3) := by decide +kernel
theorem dX2_init_24 : decode cX2_init 24 = .ok (.aload_n 0, 1) := by decide +kernel
theorem dX2_init_25 : decode cX2_init 25 = .ok (.iconst 0, 1) := by decide +kernel
theorem dX2_init_26 : decode cX2_init 26 = .ok (.putfield 23, 3) := by decide +kernel
theorem dX2_init_29 : decode cX2_init 29 = .ok (.aload_n 0, 1) := by decide +kernel
theorem dX2_init_30 : decode cX2_init 30 = .ok (.iconst 0, 1) := by decide +kernel
theorem dX2_init_31 : decode cX2_init 31 = .ok (.putfield 26, 3) := by decide +kernel
theorem dX2_init_34 : decode cX2_init 34 = .ok (.aload_n 0, 1) := by decide +kernel
theorem dX2_init_35 : decode cX2_init 35 = .ok (.iconst 0, 1) := by decide +kernel
theorem dX2_init_36 : decode cX2_init 36 = .ok (.putfield 29, 3) := by decide +kernel
theorem dX2_init_39 : decode cX2_init 39 = .ok (.aload_n 0, 1) := by decide +kernel
theorem dX2_init_40 : decode cX2_init 40 = .ok (.iconst 0, 1) := by decide +kernel
theorem dX2_init_41 : decode cX2_init 41 = .ok (.putfield 32, 3) := by decide +kernel
theorem dX2_init_44 : decode cX2_init 44 = .ok (.aload_n 0, 1) := by decide +kernel
theorem dX2_init_45 : decode cX2_init 45 = .ok (.iconst 0, 1) := by decide +kernel
theorem dX2_init_46 : decode cX2_init 46 = .ok (.putfield 35, 3) := by decide +kernel
theorem dX2_init_49 : decode cX2_init 49 = .ok (.return_, 1) := by decide +kernel
theorem dX2_become_0 : decode cX2_become 0 = .ok (.aload_n 0, 1) := by decide +kernel
theorem dX2_become_1 : decode cX2_become 1 = .ok (.aload_n 1, 1) := by decide +kernel
theorem dX2_become_2 : decode cX2_become 2 = .ok (.getfield 7, 3) := by decide +kernel
theorem dX2_become_5 : decode cX2_become 5 = .ok (.putfield 7, 3) := by decide +kernel
theorem dX2_become_8 : decode cX2_become 8 = .ok (.aload_n 0, 1) := by decide +kernel
theorem dX2_become_9 : decode cX2_become 9 = .ok (.aload_n 1, 1) := by decide +kernel
theorem dX2_become_10 : decode cX2_become 10 = .ok (.getfield 13, 3) := by decide +kernel
theorem dX2_become_13 : decode cX2_become 13 = .ok (.putfield 13, 3) := by decide +kernel
theorem dX2_become_16 : decode cX2_become 16 = .ok (.aload_n 0, 1) := by decide +kernel
theorem dX2_become_17 : decode cX2_become 17 = .ok (.aload_n 1, 1) := by decide +kernel
theorem dX2_become_18 : decode cX2_become 18 = .ok (.getfield 17, 3) := by decide +kernel
theorem dX2_become_21 : decode cX2_become 21 = .ok (.putfield 17, 3) := by decide +kernel
theorem dX2_become_24 : decode cX2_become 24 = .ok (.aload_n 0, 1) := by decide +kernel
theorem dX2_become_25 : decode cX2_become 25 = .ok (.aload_n 1, 1) := by decide +kernel
theorem dX2_become_26 : decode cX2_become 26 = .ok (.getfield 20, 3) := by decide +kernel
theorem dX2_become_29 : decode cX2_become 29 = .ok (.putfield 20, 3) := by decide +kernel
theorem dX2_become_32 : decode cX2_become 32 = .ok (.aload_n 0, 1) := by decide +kernel
theorem dX2_become_33 : decode cX2_become 33 = .ok (.aload_n 1, 1) := by decide +kernel
theorem dX2_become_34 : decode cX2_become 34 = .ok (.getfield 23, 3) := by decide +kernel
theorem dX2_become_37 : decode cX2_become 37 = .ok (.putfield 23, 3) := by decide +kernel
theorem dX2_become_40 : decode cX2_become 40 = .ok (.aload_n 0, 1) := by decide +kernel
theorem dX2_become_41 : decode cX2_become 41 = .ok (.aload_n 1, 1) := by decide +kernel
theorem dX2_become_42 : decode cX2_become 42 = .ok (.getfield 26, 3) := by decide +kernel
theorem dX2_become_45 : decode cX2_become 45 = .ok (.putfield 26, 3) := by decide +kernel
theorem dX2_become_48 : decode cX2_become 48 = .ok (.aload_n 0, 1) := by decide +kernel
theorem dX2_become_49 : decode cX2_become 49 = .ok (.aload_n 1, 1) := by decide +kernel
theorem dX2_become_50 : decode cX2_become 50 = .ok (.getfield 29, 3) := by decide +kernel
theorem dX2_become_53 : decode cX2_become 53 = .ok (.putfield 29, 3) := by decide +kernel
theorem dX2_become_56 : decode cX2_become 56 = .ok (.aload_n 0, 1) := by decide +kernel
theorem dX2_become_57 : decode cX2_become 57 = .ok (.aload_n 1, 1) := by decide +kernel
theorem dX2_become_58 : decode cX2_become 58 = .ok (.getfield 32, 3) := by decide +kernel
theorem dX2_become_61 : decode cX2_become 61 = .ok (.putfield 32, 3) := by decide +kernel
theorem dX2_become_64 : decode cX2_become 64 = .ok (.aload_n 0, 1) := by decide +kernel
theorem dX2_become_65 : decode cX2_become 65 = .ok (.aload_n 1, 1) := by decide +kernel
theorem dX2_become_66 : decode cX2_become 66 = .ok (.getfield 35, 3) := by decide +kernel
theorem dX2_become_69 : decode cX2_become 69 = .ok (.putfield 35, 3) := by decide +kernel
theorem dX2_become_72 : decode cX2_become 72 = .ok (.return_, 1) := by decide +kernel
theorem dX2_begin_0 : decode cX2_begin 0 = .ok (.aload_n 0, 1) := by decide +kernel
theorem dX2_begin_1 : decode cX2_begin 1 = .ok (.iconst 1, 1) := by decide +kernel
theorem dX2_begin_2 : decode cX2_begin 2 = .ok (.putfield 7, 3) := by decide +kernel
theorem dX2_begin_5 : decode cX2_begin 5 = .ok (.aload_n 0, 1) := by decide +kernel
theorem dX2_begin_6 : decode cX2_begin 6 = .ok (.iload_n 1, 1) := by decide +kernel
theorem dX2_begin_7 : decode cX2_begin 7 = .ok (.putfield 13, 3) := by decide +kernel
theorem dX2_begin_10 : decode cX2_begin 10 = .ok (.aload_n 0, 1) := by decide +kernel
theorem dX2_begin_11 : decode cX2_begin 11 = .ok (.iload_n 2, 1) := by decide +kernel
theorem dX2_begin_12 : decode cX2_begin 12 = .ok (.putfield 17, 3) := by decide +kernel
theorem dX2_begin_15 : decode cX2_begin 15 = .ok (.aload_n 0, 1) := by decide +kernel
theorem dX2_begin_16 : decode cX2_begin 16 = .ok (.iconst 0, 1) := by decide +kernel
theorem dX2_begin_17 : decode cX2_begin 17 = .ok (.putfield 20, 3) := by decide +kernel
theorem dX2_begin_20 : decode cX2_begin 20 = .ok (.return_, 1) := by decide +kernel
theorem dX2_addLook_0 : decode cX2_addLook 0 = .ok (.aload_n 0, 1) := by decide +kernel
theorem dX2_addLook_1 : decode cX2_addLook 1 = .ok (.dup, 1) := by decide +kernel
theorem dX2_addLook_2 : decode cX2_addLook 2 = .ok (.getfield 13, 3) := by decide +kernel
theorem dX2_addLook_5 : decode cX2_addLook 5 = .ok (.iload_n 1, 1) := by decide +kernel
theorem dX2_addLook_6 : decode cX2_addLook 6 = .ok (.isub, 1) := by decide +kernel
theorem dX2_addLook_7 : decode cX2_addLook 7 = .ok (.putfield 13, 3) := by decide +kernel
theorem dX2_addLook_10 : decode cX2_addLook 10 = .ok (.aload_n 0, 1) := by decide +kernel
theorem dX2_addLook_11 : decode cX2_addLook 11 = .ok (.iload_n 3, 1) := by decide +kernel
theorem dX2_addLook_12 : decode cX2_addLook 12 = .ok (.putfield 17, 3) := by decide +kernel
theorem dX2_addLook_15 : decode cX2_addLook 15 = .ok (.aload_n 0, 1) := by decide +kernel
theorem dX2_addLook_16 : decode cX2_addLook 16 = .ok (.dup, 1) := by decide +kernel
theorem dX2_addLook_17 : decode cX2_addLook 17 = .ok (.getfield 20, 3) := by decide +kernel
theorem dX2_addLook_20 : decode cX2_addLook 20 = .ok (.iconst 1, 1) := by decide +kernel
theorem dX2_addLook_21 : decode cX2_addLook 21 = .ok (.iadd, 1) := by decide +kernel
theorem dX2_addLook_22 : decode cX2_addLook 22 = .ok (.putfield 20, 3) := by decide +kernel
theorem dX2_addLook_25 : decode cX2_addLook 25 = .ok (.aload_n 0, 1) := by decide +kernel
theorem dX2_addLook_26 : decode cX2_addLook 26 = .ok (.dup, 1) := by decide +kernel
theorem dX2_addLook_27 : decode cX2_addLook 27 = .ok (.getfield 26, 3) := by decide +kernel
theorem dX2_addLook_30 : decode cX2_addLook 30 = .ok (.iconst 1, 1) := by decide +kernel
theorem dX2_addLook_31 : decode cX2_addLook 31 = .ok (.iadd, 1) := by decide +kernel
theorem dX2_addLook_32 : decode cX2_addLook 32 = .ok (.putfield 26, 3) := by decide +kernel
theorem dX2_addLook_35 : decode cX2_addLook 35 = .ok (.aload_n 0, 1) := by decide +kernel
theorem dX2_addLook_36 : decode cX2_addLook 36 = .ok (.dup, 1) := by decide +kernel
theorem dX2_addLook_37 : decode cX2_addLook 37 = .ok (.getfield 29, 3) := by decide +kernel
theorem dX2_addLook_40 : decode cX2_addLook 40 = .ok (.iload_n 1, 1) := by decide +kernel
theorem dX2_addLook_41 : decode cX2_addLook 41 = .ok (.iadd, 1) := by decide +kernel
theorem dX2_addLook_42 : decode cX2_addLook 42 = .ok (.putfield 29, 3) := by decide +kernel
theorem dX2_addLook_45 : decode cX2_addLook 45 = .ok (.aload_n 0, 1) := by decide +kernel
theorem dX2_addLook_46 : decode cX2_addLook 46 = .ok (.dup, 1) := by decide +kernel
theorem dX2_addLook_47 : decode cX2_addLook 47 = .ok (.getfield 35, 3) := by decide +kernel
theorem dX2_addLook_50 : decode cX2_addLook 50 = .ok (.iload_n 2, 1) := by decide +kernel
theorem dX2_addLook_51 : decode cX2_addLook 51 = .ok (.iadd, 1) := by decide +kernel
theorem dX2_addLook_52 : decode cX2_addLook 52 = .ok (.putfield 35, 3) := by decide +kernel
theorem dX2_addLook_55 : decode cX2_addLook 55 = .ok (.return_, 1) := by decide +kernel
theorem dX2_end_0 : decode cX2_end 0 = .ok (.aload_n 0, 1) := by decide +kernel
theorem dX2_end_1 : decode cX2_end 1 = .ok (.iconst 0, 1) := by decide +kernel
theorem dX2_end_2 : decode cX2_end 2 = .ok (.putfield 7, 3) := by decide +kernel
theorem dX2_end_5 : decode cX2_end 5 = .ok (.aload_n 0, 1) := by decide +kernel
theorem dX2_end_6 : decode cX2_end 6 = .ok (.dup, 1) := by decide +kernel
theorem dX2_end_7 : decode cX2_end 7 = .ok (.getfield 23, 3) := by decide +kernel
theorem dX2_end_10 : decode cX2_end 10 = .ok (.iconst 1, 1) := by decide +kernel
theorem dX2_end_11 : decode cX2_end 11 = .ok (.iadd, 1) := by decide +kernel
theorem dX2_end_12 : decode cX2_end 12 = .ok (.putfield 23, 3) := by decide +kernel
theorem dX2_end_15 : decode cX2_end 15 = .ok (.aload_n 0, 1) := by decide +kernel
theorem dX2_end_16 : decode cX2_end 16 = .ok (.dup, 1) := by decide +kernel
theorem dX2_end_17 : decode cX2_end 17 = .ok (.getfield 32, 3) := by decide +kernel
theorem dX2_end_20 : decode cX2_end 20 = .ok (.aload_n 0, 1) := by decide +kernel
theorem dX2_end_21 : decode cX2_end 21 = .ok (.getfield 13, 3) := by decide +kernel
theorem dX2_end_24 : decode cX2_end 24 = .ok (.iadd, 1) := by decide +kernel
theorem dX2_end_25 : decode cX2_end 25 = .ok (.putfield 32, 3) := by decide +kernel
theorem dX2_end_28 : decode cX2_end 28 = .ok (.aload_n 0, 1) := by decide +kernel
theorem dX2_end_29 : decode cX2_end 29 = .ok (.dup, 1) := by decide +kernel
theorem dX2_end_30 : decode cX2_end 30 = .ok (.getfield 35, 3) := by decide +kernel
theorem dX2_end_33 : decode cX2_end 33 = .ok (.iload_n 1, 1) := by decide +kernel
theorem dX2_end_34 : decode cX2_end 34 = .ok (.aload_n 0, 1) := by decide +kernel
theorem dX2_end_35 : decode cX2_end 35 = .ok (.getfield 13, 3) := by decide +kernel
theorem dX2_end_38 : decode cX2_end 38 = .ok (.imul, 1) := by decide +kernel
theorem dX2_end_39 : decode cX2_end 39 = .ok (.iadd, 1) := by decide +kernel
theorem dX2_end_40 : decode cX2_end 40 = .ok (.putfield 35, 3) := by decide +kernel
theorem dX2_end_43 : decode cX2_end 43 = .ok (.aload_n 0, 1) := by decide +kernel
theorem dX2_end_44 : decode cX2_end 44 = .ok (.getfield 13, 3) := by decide +kernel
theorem dX2_end_47 : decode cX2_end 47 = .ok (.ireturn, 1) := by decide +kernel
theorem dX3_init_0 : decode cX3_init 0 = .ok (.aload_n 0, 1) := by decide +kernel
theorem dX3_init_1 : decode cX3_init 1 = .ok (.invokespecial 3, 3) := by decide +kernel
theorem dX3_init_4 : decode cX3_init 4 = .ok (.aload_n 0, 1) := by decide +kernel
theorem dX3_init_5 : decode cX3_init 5 = .ok (.iconst 0, 1) := by decide +kernel
theorem dX3_init_6 : decode cX3_init 6 = .ok (.putfield 9, 3) := by decide +kernel
theorem dX3_init_9 : decode cX3_init 9 = .ok (.return_, 1) := by decide +kernel
theorem dX3_draw_0 : decode cX3_draw 0 = .ok (.aload_n 0, 1) := by decide +kernel
theorem dX3_draw_1 : decode cX3_draw 1 = .ok (.aload_n 0, 1) := by decide +kernel
theorem dX3_draw_2 : decode cX3_draw 2 = .ok (.getfield 9, 3) := by decide +kernel
theorem dX3_draw_5 : decode cX3_draw 5 = .ok (.ldc 15, 2) := by decide +kernel
theorem dX3_draw_7 : decode cX3_draw 7 = .ok (.imul, 1) := by decide +kernel
theorem dX3_draw_8 : decode cX3_draw 8 = .ok (.sipush 12345, 3) := by decide +kernel
theorem dX3_draw_11 : decode cX3_draw 11 = .ok (.iadd, 1) := by decide +kernel
theorem dX3_draw_12 : decode cX3_draw 12 = .ok (.putfield 9, 3) := by decide +kernel
theorem dX3_draw_15 : decode cX3_draw 15 = .ok (.iload_n 1, 1) := by decide +kernel
theorem dX3_draw_16 : decode cX3_draw 16 = .ok (.ifCond .gt 7, 3) := by decide +kernel
theorem dX3_draw_19 : decode cX3_draw 19 = .ok (.iconst 0, 1) := by decide +kernel
theorem dX3_draw_20 : decode cX3_draw 20 = .ok (.goto 12, 3) := by decide +kernel
theorem dX3_draw_23 : decode cX3_draw 23 = .ok (.aload_n 0, 1) := by decide +kernel
theorem dX3_draw_24 : decode cX3_draw 24 = .ok (.getfield 9, 3) := by decide +kernel
theorem dX3_draw_27 : decode cX3_draw 27 = .ok (.bipush 8, 2) := by decide +kernel
theorem dX3_draw_29 : decode cX3_draw 29 = .ok (.iushr, 1) := by decide +kernel
theorem dX3_draw_30 : decode cX3_draw 30 = .ok (.iload_n 1, 1) := by decide +kernel
theorem dX3_draw_31 : decode cX3_draw 31 = .ok (.irem, 1) := by decide +kernel
theorem dX3_draw_32 : decode cX3_draw 32 = .ok (.ireturn, 1) := by decide +kernel
theorem dX3_stones_0 : decode cX3_stones 0 = .ok (.iconst 0, 1) := by decide +kernel
theorem dX3_stones_1 : decode cX3_stones 1 = .ok (.istore_n 3, 1) := by decide +kernel
theorem dX3_stones_2 : decode cX3_stones 2 = .ok (.iconst 0, 1) := by decide +kernel
theorem dX3_stones_3 : decode cX3_stones 3 = .ok (.istore 4, 2) := by decide +kernel
theorem dX3_stones_5 : decode cX3_stones 5 = .ok (.iload 4, 2) := by decide +kernel
theorem dX3_stones_7 : decode cX3_stones 7 = .ok (.iconst 3, 1) := by decide +kernel
theorem dX3_stones_8 : decode cX3_stones 8 = .ok (.if_icmp .gt 19, 3) := by decide +kernel
theorem dX3_stones_11 : decode cX3_stones 11 = .ok (.iload_n 3, 1) := by decide +kernel
theorem dX3_stones_12 : decode cX3_stones 12 = .ok (.aload_n 1, 1) := by decide +kernel
theorem dX3_stones_13 : decode cX3_stones 13 = .ok (.iload_n 2, 1) := by decide +kernel
theorem dX3_stones_14 : decode cX3_stones 14 = .ok (.iload 4, 2) := by decide +kernel
theorem dX3_stones_16 : decode cX3_stones 16 = .ok (.invokevirtual 16, 3) := by decide +kernel
theorem dX3_stones_19 : decode cX3_stones 19 = .ok (.iadd, 1) := by decide +kernel
theorem dX3_stones_20 : decode cX3_stones 20 = .ok (.istore_n 3, 1) := by decide +kernel
theorem dX3_stones_21 : decode cX3_stones 21 = .ok (.iinc 4 1, 3) := by decide +kernel
theorem dX3_stones_24 : decode cX3_stones 24 = .ok (.goto (-19), 3) := by decide +kernel
theorem dX3_stones_27 : decode cX3_stones 27 = .ok (.iload_n 3, 1) := by decide +kernel
theorem dX3_stones_28 : decode cX3_stones 28 = .ok (.ifCond .ne 5, 3) := by decide +kernel
theorem dX3_stones_31 : decode cX3_stones 31 = .ok (.iconst 0, 1) := by decide +kernel
theorem dX3_stones_32 : decode cX3_stones 32 = .ok (.ireturn, 1) := by decide +kernel
theorem dX3_stones_33 : decode cX3_stones 33 = .ok (.aload_n 0, 1) := by decide +kernel
theorem dX3_stones_34 : decode cX3_stones 34 = .ok (.iload_n 3, 1) := by decide +kernel
theorem dX3_stones_35 : decode cX3_stones 35 = .ok (.invokevirtual 22, 3) := by decide +kernel
theorem dX3_stones_38 : decode cX3_stones 38 = .ok (.istore 4, 2) := by decide +kernel
theorem dX3_stones_40 : decode cX3_stones 40 = .ok (.iconst 0, 1) := by decide +kernel
theorem dX3_stones_41 : decode cX3_stones 41 = .ok (.istore 5, 2) := by decide +kernel
theorem dX3_stones_43 : decode cX3_stones 43 = .ok (.iload 5, 2) := by decide +kernel
theorem dX3_stones_45 : decode cX3_stones 45 = .ok (.iconst 3, 1) := by decide +kernel
theorem dX3_stones_46 : decode cX3_stones 46 = .ok (.if_icmp .ge 29, 3) := by decide +kernel
theorem dX3_stones_49 : decode cX3_stones 49 = .ok (.iload 4, 2) := by decide +kernel
theorem dX3_stones_51 : decode cX3_stones 51 = .ok (.aload_n 1, 1) := by decide +kernel
theorem dX3_stones_52 : decode cX3_stones 52 = .ok (.iload_n 2, 1) := by decide +kernel
theorem dX3_stones_53 : decode cX3_stones 53 = .ok (.iload 5, 2) := by decide +kernel
theorem dX3_stones_55 : decode cX3_stones 55 = .ok (.invokevirtual 16, 3) := by decide +kernel
theorem dX3_stones_58 : decode cX3_stones 58 = .ok (.isub, 1) := by decide +kernel
theorem dX3_stones_59 : decode cX3_stones 59 = .ok (.istore 4, 2) := by decide +kernel
theorem dX3_stones_61 : decode cX3_stones 61 = .ok (.iload 4, 2) := by decide +kernel
theorem dX3_stones_63 : decode cX3_stones 63 = .ok (.ifCond .ge 6, 3) := by decide +kernel
theorem dX3_stones_66 : decode cX3_stones 66 = .ok (.iload 5, 2) := by decide +kernel
theorem dX3_stones_68 : decode cX3_stones 68 = .ok (.ireturn, 1) := by decide +kernel
theorem dX3_stones_69 : decode cX3_stones 69 = .ok (.iinc 5 1, 3) := by decide +kernel
theorem dX3_stones_72 : decode cX3_stones 72 = .ok (.goto (-29), 3) := by decide +kernel
theorem dX3_stones_75 : decode cX3_stones 75 = .ok (.iconst 3, 1) := by decide +kernel
theorem dX3_stones_76 : decode cX3_stones 76 = .ok (.ireturn, 1) := by decide +kernel
theorem dX3_found_0 : decode cX3_found 0 = .ok (.iconst 0, 1) := by decide +kernel
theorem dX3_found_1 : decode cX3_found 1 = .ok (.istore_n 3, 1) := by decide +kernel
theorem dX3_found_2 : decode cX3_found 2 = .ok (.iconst 0, 1) := by decide +kernel
theorem dX3_found_3 : decode cX3_found 3 = .ok (.istore 4, 2) := by decide +kernel
theorem dX3_found_5 : decode cX3_found 5 = .ok (.iload 4, 2) := by decide +kernel
theorem dX3_found_7 : decode cX3_found 7 = .ok (.iload_n 1, 1) := by decide +kernel
theorem dX3_found_8 : decode cX3_found 8 = .ok (.if_icmp .ge 22, 3) := by decide +kernel
theorem dX3_found_11 : decode cX3_found 11 = .ok (.aload_n 0, 1) := by decide +kernel
theorem dX3_found_12 : decode cX3_found 12 = .ok (.bipush 12, 2) := by decide +kernel
theorem dX3_found_14 : decode cX3_found 14 = .ok (.invokevirtual 22, 3) := by decide +kernel
theorem dX3_found_17 : decode cX3_found 17 = .ok (.iload_n 2, 1) := by decide +kernel
theorem dX3_found_18 : decode cX3_found 18 = .ok (.if_icmp .ge 6, 3) := by decide +kernel
theorem dX3_found_21 : decode cX3_found 21 = .ok (.iinc 3 1, 3) := by decide +kernel
theorem dX3_found_24 : decode cX3_found 24 = .ok (.iinc 4 1, 3) := by decide +kernel
theorem dX3_found_27 : decode cX3_found 27 = .ok (.goto (-22), 3) := by decide +kernel
theorem dX3_found_30 : decode cX3_found 30 = .ok (.iload_n 3, 1) := by decide +kernel
theorem dX3_found_31 : decode cX3_found 31 = .ok (.ireturn, 1) := by decide +kernel
theorem dX4_init_0 : decode cX4_init 0 = .ok (.aload_n 0, 1) := by decide +kernel
theorem dX4_init_1 : decode cX4_init 1 = .ok (.invokespecial 1, 3) := by decide +kernel
theorem dX4_init_4 : decode cX4_init 4 = .ok (.aload_n 0, 1) := by decide +kernel
theorem dX4_init_5 : decode cX4_init 5 = .ok (.bipush 120, 2) := by decide +kernel
theorem dX4_init_7 : decode cX4_init 7 = .ok (.newarray .int, 2) := by decide +kernel
theorem dX4_init_9 : decode cX4_init 9 = .ok (.putfield 9, 3) := by decide +kernel
theorem dX4_init_12 : decode cX4_init 12 = .ok (.aload_n 0, 1) := by decide +kernel
theorem dX4_init_13 : decode cX4_init 13 = .ok (.iconst 0, 1) := by decide +kernel
theorem dX4_init_14 : decode cX4_init 14 = .ok (.putfield 13, 3) := by decide +kernel
theorem dX4_init_17 : decode cX4_init 17 = .ok (.aload_n 0, 1) := by decide +kernel
theorem dX4_init_18 : decode cX4_init 18 = .ok (.iconst 0, 1) := by decide +kernel
theorem dX4_init_19 : decode cX4_init 19 = .ok (.putfield 17, 3) := by decide +kernel
theorem dX4_init_22 : decode cX4_init 22 = .ok (.aload_n 0, 1) := by decide +kernel
theorem dX4_init_23 : decode cX4_init 23 = .ok (.sipush 128, 3) := by decide +kernel
theorem dX4_init_26 : decode cX4_init 26 = .ok (.newarray .int, 2) := by decide +kernel
theorem dX4_init_28 : decode cX4_init 28 = .ok (.putfield 20, 3) := by decide +kernel
theorem dX4_init_31 : decode cX4_init 31 = .ok (.aload_n 0, 1) := by decide +kernel
theorem dX4_init_32 : decode cX4_init 32 = .ok (.iconst 0, 1) := by decide +kernel
theorem dX4_init_33 : decode cX4_init 33 = .ok (.putfield 23, 3) := by decide +kernel
theorem dX4_init_36 : decode cX4_init 36 = .ok (.aload_n 0, 1) := by decide +kernel
theorem dX4_init_37 : decode cX4_init 37 = .ok (.sipush 128, 3) := by decide +kernel
theorem dX4_init_40 : decode cX4_init 40 = .ok (.newarray .int, 2) := by decide +kernel
theorem dX4_init_42 : decode cX4_init 42 = .ok (.putfield 26, 3) := by decide +kernel
theorem dX4_init_45 : decode cX4_init 45 = .ok (.aload_n 0, 1) := by decide +kernel
theorem dX4_init_46 : decode cX4_init 46 = .ok (.iconst 0, 1) := by decide +kernel
theorem dX4_init_47 : decode cX4_init 47 = .ok (.putfield 29, 3) := by decide +kernel
theorem dX4_init_50 : decode cX4_init 50 = .ok (.aload_n 0, 1) := by decide +kernel
theorem dX4_init_51 : decode cX4_init 51 = .ok (.bipush 6, 2) := by decide +kernel
theorem dX4_init_53 : decode cX4_init 53 = .ok (.newarray .int, 2) := by decide +kernel
theorem dX4_init_55 : decode cX4_init 55 = .ok (.putfield 32, 3) := by decide +kernel
theorem dX4_init_58 : decode cX4_init 58 = .ok (.aload_n 0, 1) := by decide +kernel
theorem dX4_init_59 : decode cX4_init 59 = .ok (.bipush 64, 2) := by decide +kernel
theorem dX4_init_61 : decode cX4_init 61 = .ok (.newarray .int, 2) := by decide +kernel
theorem dX4_init_63 : decode cX4_init 63 = .ok (.putfield 35, 3) := by decide +kernel
theorem dX4_init_66 : decode cX4_init 66 = .ok (.aload_n 0, 1) := by decide +kernel
theorem dX4_init_67 : decode cX4_init 67 = .ok (.iconst 0, 1) := by decide +kernel
theorem dX4_init_68 : decode cX4_init 68 = .ok (.putfield 38, 3) := by decide +kernel
theorem dX4_init_71 : decode cX4_init 71 = .ok (.return_, 1) := by decide +kernel
theorem dX4_isFull_0 : decode cX4_isFull 0 = .ok (.aload_n 0, 1) := by decide +kernel
theorem dX4_isFull_1 : decode cX4_isFull 1 = .ok (.getfield 13, 3) := by decide +kernel
theorem dX4_isFull_4 : decode cX4_isFull 4 = .ok (.bipush 120, 2) := by decide +kernel
theorem dX4_isFull_6 : decode cX4_isFull 6 = .ok (.if_icmp .ne 7, 3) := by decide +kernel
theorem dX4_isFull_9 : decode cX4_isFull 9 = .ok (.iconst 1, 1) := by decide +kernel
theorem dX4_isFull_10 : decode cX4_isFull 10 = .ok (.goto 4, 3) := by decide +kernel
theorem dX4_isFull_13 : decode cX4_isFull 13 = .ok (.iconst 0, 1) := by decide +kernel
theorem dX4_isFull_14 : decode cX4_isFull 14 = .ok (.ireturn, 1) := by decide +kernel
theorem dX4_isTold_0 : decode cX4_isTold 0 = .ok (.aload_n 0, 1) := by decide +kernel
theorem dX4_isTold_1 : decode cX4_isTold 1 = .ok (.getfield 29, 3) := by decide +kernel
theorem dX4_isTold_4 : decode cX4_isTold 4 = .ok (.ifCond .le 7, 3) := by decide +kernel
theorem dX4_isTold_7 : decode cX4_isTold 7 = .ok (.iconst 1, 1) := by decide +kernel
theorem dX4_isTold_8 : decode cX4_isTold 8 = .ok (.goto 4, 3) := by decide +kernel
theorem dX4_isTold_11 : decode cX4_isTold 11 = .ok (.iconst 0, 1) := by decide +kernel
theorem dX4_isTold_12 : decode cX4_isTold 12 = .ok (.ireturn, 1) := by decide +kernel
theorem dX4_add_0 : decode cX4_add 0 = .ok (.aload_n 0, 1) := by decide +kernel
theorem dX4_add_1 : decode cX4_add 1 = .ok (.getfield 13, 3) := by decide +kernel
theorem dX4_add_4 : decode cX4_add 4 = .ok (.bipush 120, 2) := by decide +kernel
theorem dX4_add_6 : decode cX4_add 6 = .ok (.if_icmp .ge 23, 3) := by decide +kernel
theorem dX4_add_9 : decode cX4_add 9 = .ok (.aload_n 0, 1) := by decide +kernel
theorem dX4_add_10 : decode cX4_add 10 = .ok (.getfield 9, 3) := by decide +kernel
theorem dX4_add_13 : decode cX4_add 13 = .ok (.aload_n 0, 1) := by decide +kernel
theorem dX4_add_14 : decode cX4_add 14 = .ok (.getfield 13, 3) := by decide +kernel
theorem dX4_add_17 : decode cX4_add 17 = .ok (.iload_n 1, 1) := by decide +kernel
theorem dX4_add_18 : decode cX4_add 18 = .ok (.iastore, 1) := by decide +kernel
theorem dX4_add_19 : decode cX4_add 19 = .ok (.aload_n 0, 1) := by decide +kernel
theorem dX4_add_20 : decode cX4_add 20 = .ok (.dup, 1) := by decide +kernel
theorem dX4_add_21 : decode cX4_add 21 = .ok (.getfield 13, 3) := by decide +kernel
theorem dX4_add_24 : decode cX4_add 24 = .ok (.iconst 1, 1) := by decide +kernel
theorem dX4_add_25 : decode cX4_add 25 = .ok (.iadd, 1) := by decide +kernel
theorem dX4_add_26 : decode cX4_add 26 = .ok (.putfield 13, 3) := by decide +kernel
theorem dX4_add_29 : decode cX4_add 29 = .ok (.aload_n 0, 1) := by decide +kernel
theorem dX4_add_30 : decode cX4_add 30 = .ok (.getfield 13, 3) := by decide +kernel
theorem dX4_add_33 : decode cX4_add 33 = .ok (.ireturn, 1) := by decide +kernel
theorem dX4_takeTape_0 : decode cX4_takeTape 0 = .ok (.aload_n 0, 1) := by decide +kernel
theorem dX4_takeTape_1 : decode cX4_takeTape 1 = .ok (.iconst 0, 1) := by decide +kernel
theorem dX4_takeTape_2 : decode cX4_takeTape 2 = .ok (.putfield 17, 3) := by decide +kernel
theorem dX4_takeTape_5 : decode cX4_takeTape 5 = .ok (.aload_n 0, 1) := by decide +kernel
theorem dX4_takeTape_6 : decode cX4_takeTape 6 = .ok (.iconst 0, 1) := by decide +kernel
theorem dX4_takeTape_7 : decode cX4_takeTape 7 = .ok (.putfield 23, 3) := by decide +kernel
theorem dX4_takeTape_10 : decode cX4_takeTape 10 = .ok (.aload_n 0, 1) := by decide +kernel
theorem dX4_takeTape_11 : decode cX4_takeTape 11 = .ok (.invokevirtual 41, 3) := by decide +kernel
theorem dX4_takeTape_14 : decode cX4_takeTape 14 = .ok (.istore_n 1, 1) := by decide +kernel
theorem dX4_takeTape_15 : decode cX4_takeTape 15 = .ok (.aload_n 0, 1) := by decide +kernel
theorem dX4_takeTape_16 : decode cX4_takeTape 16 = .ok (.iconst 0, 1) := by decide +kernel
theorem dX4_takeTape_17 : decode cX4_takeTape 17 = .ok (.putfield 13, 3) := by decide +kernel
theorem dX4_takeTape_20 : decode cX4_takeTape 20 = .ok (.iload_n 1, 1) := by decide +kernel
theorem dX4_takeTape_21 : decode cX4_takeTape 21 = .ok (.ifCond .ne 8, 3) := by decide +kernel
theorem dX4_takeTape_24 : decode cX4_takeTape 24 = .ok (.aload_n 0, 1) := by decide +kernel
theorem dX4_takeTape_25 : decode cX4_takeTape 25 = .ok (.getfield 17, 3) := by decide +kernel
theorem dX4_takeTape_28 : decode cX4_takeTape 28 = .ok (.ireturn, 1) := by decide +kernel
theorem dX4_takeTape_29 : decode cX4_takeTape 29 = .ok (.aload_n 0, 1) := by decide +kernel
theorem dX4_takeTape_30 : decode cX4_takeTape 30 = .ok (.getfield 20, 3) := by decide +kernel
theorem dX4_takeTape_33 : decode cX4_takeTape 33 = .ok (.iconst 0, 1) := by decide +kernel
theorem dX4_takeTape_34 : decode cX4_takeTape 34 = .ok (.aload_n 0, 1) := by decide +kernel
theorem dX4_takeTape_35 : decode cX4_takeTape 35 = .ok (.getfield 26, 3) := by decide +kernel
theorem dX4_takeTape_38 : decode cX4_takeTape 38 = .ok (.iconst 0, 1) := by decide +kernel
theorem dX4_takeTape_39 : decode cX4_takeTape 39 = .ok (.aload_n 0, 1) := by decide +kernel
theorem dX4_takeTape_40 : decode cX4_takeTape 40 = .ok (.getfield 23, 3) := by decide +kernel
theorem dX4_takeTape_43 : decode cX4_takeTape 43 = .ok (.invokestatic 45, 3) := by decide +kernel
theorem dX4_takeTape_46 : decode cX4_takeTape 46 = .ok (.aload_n 0, 1) := by decide +kernel
theorem dX4_takeTape_47 : decode cX4_takeTape 47 = .ok (.aload_n 0, 1) := by decide +kernel
theorem dX4_takeTape_48 : decode cX4_takeTape 48 = .ok (.getfield 23, 3) := by decide +kernel
theorem dX4_takeTape_51 : decode cX4_takeTape 51 = .ok (.putfield 29, 3) := by decide +kernel
theorem dX4_takeTape_54 : decode cX4_takeTape 54 = .ok (.iconst (-1), 1) := by decide +kernel
theorem dX4_takeTape_55 : decode cX4_takeTape 55 = .ok (.ireturn, 1) := by decide +kernel
theorem dX4_readLines_0 : decode cX4_readLines 0 = .ok (.iconst 0, 1) := by decide +kernel
theorem dX4_readLines_1 : decode cX4_readLines 1 = .ok (.istore_n 1, 1) := by decide +kernel
theorem dX4_readLines_2 : decode cX4_readLines 2 = .ok (.iload_n 1, 1) := by decide +kernel
theorem dX4_readLines_3 : decode cX4_readLines 3 = .ok (.bipush 120, 2) := by decide +kernel
theorem dX4_readLines_5 : decode cX4_readLines 5 = .ok (.if_icmp .gt 42, 3) := by decide +kernel
theorem dX4_readLines_8 : decode cX4_readLines 8 = .ok (.aload_n 0, 1) := by decide +kernel
theorem dX4_readLines_9 : decode cX4_readLines 9 = .ok (.invokevirtual 51, 3) := by decide +kernel
theorem dX4_readLines_12 : decode cX4_readLines 12 = .ok (.ifCond .ne 5, 3) := by decide +kernel
theorem dX4_readLines_15 : decode cX4_readLines 15 = .ok (.iconst 0, 1) := by decide +kernel
theorem dX4_readLines_16 : decode cX4_readLines 16 = .ok (.ireturn, 1) := by decide +kernel
theorem dX4_readLines_17 : decode cX4_readLines 17 = .ok (.aload_n 0, 1) := by decide +kernel
theorem dX4_readLines_18 : decode cX4_readLines 18 = .ok (.getfield 17, 3) := by decide +kernel
theorem dX4_readLines_21 : decode cX4_readLines 21 = .ok (.aload_n 0, 1) := by decide +kernel
theorem dX4_readLines_22 : decode cX4_readLines 22 = .ok (.getfield 13, 3) := by decide +kernel
theorem dX4_readLines_25 : decode cX4_readLines 25 = .ok (.if_icmp .ne 5, 3) := by decide +kernel
theorem dX4_readLines_28 : decode cX4_readLines 28 = .ok (.iconst 1, 1) := by decide +kernel
theorem dX4_readLines_29 : decode cX4_readLines 29 = .ok (.ireturn, 1) := by decide +kernel
theorem dX4_readLines_30 : decode cX4_readLines 30 = .ok (.aload_n 0, 1) := by decide +kernel
theorem dX4_readLines_31 : decode cX4_readLines 31 = .ok (.bipush 59, 2) := by decide +kernel
theorem dX4_readLines_33 : decode cX4_readLines 33 = .ok (.invokevirtual 54, 3) := by decide +kernel
theorem dX4_readLines_36 : decode cX4_readLines 36 = .ok (.ifCond .ne 5, 3) := by decide +kernel
theorem dX4_readLines_39 : decode cX4_readLines 39 = .ok (.iconst 0, 1) := by decide +kernel
theorem dX4_readLines_40 : decode cX4_readLines 40 = .ok (.ireturn, 1) := by decide +kernel
theorem dX4_readLines_41 : decode cX4_readLines 41 = .ok (.iinc 1 1, 3) := by decide +kernel
theorem dX4_readLines_44 : decode cX4_readLines 44 = .ok (.goto (-42), 3) := by decide +kernel
theorem dX4_readLines_47 : decode cX4_readLines 47 = .ok (.iconst 0, 1) := by decide +kernel
theorem dX4_readLines_48 : decode cX4_readLines 48 = .ok (.ireturn, 1) := by decide +kernel
theorem dX4_readLine_0 : decode cX4_readLine 0 = .ok (.aload_n 0, 1) := by decide +kernel
theorem dX4_readLine_1 : decode cX4_readLine 1 = .ok (.iconst 0, 1) := by decide +kernel
theorem dX4_readLine_2 : decode cX4_readLine 2 = .ok (.iconst 0, 1) := by decide +kernel
theorem dX4_readLine_3 : decode cX4_readLine 3 = .ok (.invokevirtual 58, 3) := by decide +kernel
theorem dX4_readLine_6 : decode cX4_readLine 6 = .ok (.ifCond .ne 5, 3) := by decide +kernel
theorem dX4_readLine_9 : decode cX4_readLine 9 = .ok (.iconst 0, 1) := by decide +kernel
theorem dX4_readLine_10 : decode cX4_readLine 10 = .ok (.ireturn, 1) := by decide +kernel
theorem dX4_readLine_11 : decode cX4_readLine 11 = .ok (.aload_n 0, 1) := by decide +kernel
theorem dX4_readLine_12 : decode cX4_readLine 12 = .ok (.bipush 63, 2) := by decide +kernel
theorem dX4_readLine_14 : decode cX4_readLine 14 = .ok (.invokevirtual 54, 3) := by decide +kernel
theorem dX4_readLine_17 : decode cX4_readLine 17 = .ok (.ifCond .eq 62, 3) := by decide +kernel
theorem dX4_readLine_20 : decode cX4_readLine 20 = .ok (.aload_n 0, 1) := by decide +kernel
theorem dX4_readLine_21 : decode cX4_readLine 21 = .ok (.getfield 23, 3) := by decide +kernel
theorem dX4_readLine_24 : decode cX4_readLine 24 = .ok (.istore_n 1, 1) := by decide +kernel
theorem dX4_readLine_25 : decode cX4_readLine 25 = .ok (.aload_n 0, 1) := by decide +kernel
theorem dX4_readLine_26 : decode cX4_readLine 26 = .ok (.bipush 63, 2) := by decide +kernel
theorem dX4_readLine_28 : decode cX4_readLine 28 = .ok (.iconst 0, 1) := by decide +kernel
theorem dX4_readLine_29 : decode cX4_readLine 29 = .ok (.invokevirtual 62, 3) := by decide +kernel
theorem dX4_readLine_32 : decode cX4_readLine 32 = .ok (.aload_n 0, 1) := by decide +kernel
theorem dX4_readLine_33 : decode cX4_readLine 33 = .ok (.iconst 0, 1) := by decide +kernel
theorem dX4_readLine_34 : decode cX4_readLine 34 = .ok (.iconst 0, 1) := by decide +kernel
theorem dX4_readLine_35 : decode cX4_readLine 35 = .ok (.invokevirtual 58, 3) := by decide +kernel
theorem dX4_readLine_38 : decode cX4_readLine 38 = .ok (.ifCond .ne 5, 3) := by decide +kernel
theorem dX4_readLine_41 : decode cX4_readLine 41 = .ok (.iconst 0, 1) := by decide +kernel
theorem dX4_readLine_42 : decode cX4_readLine 42 = .ok (.ireturn, 1) := by decide +kernel
theorem dX4_readLine_43 : decode cX4_readLine 43 = .ok (.aload_n 0, 1) := by decide +kernel
theorem dX4_readLine_44 : decode cX4_readLine 44 = .ok (.bipush 59, 2) := by decide +kernel
theorem dX4_readLine_46 : decode cX4_readLine 46 = .ok (.iconst 0, 1) := by decide +kernel
theorem dX4_readLine_47 : decode cX4_readLine 47 = .ok (.invokevirtual 62, 3) := by decide +kernel
theorem dX4_readLine_50 : decode cX4_readLine 50 = .ok (.iload_n 1, 1) := by decide +kernel
theorem dX4_readLine_51 : decode cX4_readLine 51 = .ok (.aload_n 0, 1) := by decide +kernel
theorem dX4_readLine_52 : decode cX4_readLine 52 = .ok (.getfield 20, 3) := by decide +kernel
theorem dX4_readLine_55 : decode cX4_readLine 55 = .ok (.arraylength, 1) := by decide +kernel
theorem dX4_readLine_56 : decode cX4_readLine 56 = .ok (.if_icmp .ge 20, 3) := by decide +kernel
theorem dX4_readLine_59 : decode cX4_readLine 59 = .ok (.aload_n 0, 1) := by decide +kernel
theorem dX4_readLine_60 : decode cX4_readLine 60 = .ok (.getfield 20, 3) := by decide +kernel
theorem dX4_readLine_63 : decode cX4_readLine 63 = .ok (.iload_n 1, 1) := by decide +kernel
theorem dX4_readLine_64 : decode cX4_readLine 64 = .ok (.bipush 63, 2) := by decide +kernel
theorem dX4_readLine_66 : decode cX4_readLine 66 = .ok (.sipush 256, 3) := by decide +kernel
theorem dX4_readLine_69 : decode cX4_readLine 69 = .ok (.aload_n 0, 1) := by decide +kernel
theorem dX4_readLine_70 : decode cX4_readLine 70 = .ok (.getfield 23, 3) := by decide +kernel
theorem dX4_readLine_73 : decode cX4_readLine 73 = .ok (.imul, 1) := by decide +kernel
theorem dX4_readLine_74 : decode cX4_readLine 74 = .ok (.iadd, 1) := by decide +kernel
theorem dX4_readLine_75 : decode cX4_readLine 75 = .ok (.iastore, 1) := by decide +kernel
theorem dX4_readLine_76 : decode cX4_readLine 76 = .ok (.goto 10, 3) := by decide +kernel
theorem dX4_readLine_79 : decode cX4_readLine 79 = .ok (.aload_n 0, 1) := by decide +kernel
theorem dX4_readLine_80 : decode cX4_readLine 80 = .ok (.bipush 59, 2) := by decide +kernel
theorem dX4_readLine_82 : decode cX4_readLine 82 = .ok (.iconst 0, 1) := by decide +kernel
theorem dX4_readLine_83 : decode cX4_readLine 83 = .ok (.invokevirtual 62, 3) := by decide +kernel
theorem dX4_readLine_86 : decode cX4_readLine 86 = .ok (.iconst 1, 1) := by decide +kernel
theorem dX4_readLine_87 : decode cX4_readLine 87 = .ok (.ireturn, 1) := by decide +kernel
theorem dX4_readLevel_0 : decode cX4_readLevel 0 = .ok (.iload_n 1, 1) := by decide +kernel
theorem dX4_readLevel_1 : decode cX4_readLevel 1 = .ok (.iconst 5, 1) := by decide +kernel
theorem dX4_readLevel_2 : decode cX4_readLevel 2 = .ok (.if_icmp .ne 9, 3) := by decide +kernel
theorem dX4_readLevel_5 : decode cX4_readLevel 5 = .ok (.aload_n 0, 1) := by decide +kernel
theorem dX4_readLevel_6 : decode cX4_readLevel 6 = .ok (.iload_n 2, 1) := by decide +kernel
theorem dX4_readLevel_7 : decode cX4_readLevel 7 = .ok (.invokevirtual 66, 3) := by decide +kernel
theorem dX4_readLevel_10 : decode cX4_readLevel 10 = .ok (.ireturn, 1) := by decide +kernel
theorem dX4_readLevel_11 : decode cX4_readLevel 11 = .ok (.aload_n 0, 1) := by decide +kernel
theorem dX4_readLevel_12 : decode cX4_readLevel 12 = .ok (.iload_n 1, 1) := by decide +kernel
theorem dX4_readLevel_13 : decode cX4_readLevel 13 = .ok (.iconst 1, 1) := by decide +kernel
theorem dX4_readLevel_14 : decode cX4_readLevel 14 = .ok (.iadd, 1) := by decide +kernel
theorem dX4_readLevel_15 : decode cX4_readLevel 15 = .ok (.iload_n 2, 1) := by decide +kernel
theorem dX4_readLevel_16 : decode cX4_readLevel 16 = .ok (.invokevirtual 58, 3) := by decide +kernel
theorem dX4_readLevel_19 : decode cX4_readLevel 19 = .ok (.ifCond .ne 5, 3) := by decide +kernel
theorem dX4_readLevel_22 : decode cX4_readLevel 22 = .ok (.iconst 0, 1) := by decide +kernel
theorem dX4_readLevel_23 : decode cX4_readLevel 23 = .ok (.ireturn, 1) := by decide +kernel
theorem dX4_readLevel_24 : decode cX4_readLevel 24 = .ok (.iload_n 1, 1) := by decide +kernel
theorem dX4_readLevel_25 : decode cX4_readLevel 25 = .ok (.iconst 2, 1) := by decide +kernel
theorem dX4_readLevel_26 : decode cX4_readLevel 26 = .ok (.if_icmp .ne 7, 3) := by decide +kernel
theorem dX4_readLevel_29 : decode cX4_readLevel 29 = .ok (.iconst 1, 1) := by decide +kernel
theorem dX4_readLevel_30 : decode cX4_readLevel 30 = .ok (.goto 5, 3) := by decide +kernel
theorem dX4_readLevel_33 : decode cX4_readLevel 33 = .ok (.bipush 120, 2) := by decide +kernel
theorem dX4_readLevel_35 : decode cX4_readLevel 35 = .ok (.istore_n 3, 1) := by decide +kernel
theorem dX4_readLevel_36 : decode cX4_readLevel 36 = .ok (.iconst 0, 1) := by decide +kernel
theorem dX4_readLevel_37 : decode cX4_readLevel 37 = .ok (.istore 4, 2) := by decide +kernel
theorem dX4_readLevel_39 : decode cX4_readLevel 39 = .ok (.iload 4, 2) := by decide +kernel
theorem dX4_readLevel_41 : decode cX4_readLevel 41 = .ok (.iload_n 3, 1) := by decide +kernel
theorem dX4_readLevel_42 : decode cX4_readLevel 42 = .ok (.if_icmp .ge 56, 3) := by decide +kernel
theorem dX4_readLevel_45 : decode cX4_readLevel 45 = .ok (.aload_n 0, 1) := by decide +kernel
theorem dX4_readLevel_46 : decode cX4_readLevel 46 = .ok (.invokevirtual 69, 3) := by decide +kernel
theorem dX4_readLevel_49 : decode cX4_readLevel 49 = .ok (.invokestatic 73, 3) := by decide +kernel
theorem dX4_readLevel_52 : decode cX4_readLevel 52 = .ok (.iload_n 1, 1) := by decide +kernel
theorem dX4_readLevel_53 : decode cX4_readLevel 53 = .ok (.if_icmp .ne 45, 3) := by decide +kernel
theorem dX4_readLevel_56 : decode cX4_readLevel 56 = .ok (.aload_n 0, 1) := by decide +kernel
theorem dX4_readLevel_57 : decode cX4_readLevel 57 = .ok (.invokevirtual 69, 3) := by decide +kernel
theorem dX4_readLevel_60 : decode cX4_readLevel 60 = .ok (.istore 5, 2) := by decide +kernel
theorem dX4_readLevel_62 : decode cX4_readLevel 62 = .ok (.aload_n 0, 1) := by decide +kernel
theorem dX4_readLevel_63 : decode cX4_readLevel 63 = .ok (.dup, 1) := by decide +kernel
theorem dX4_readLevel_64 : decode cX4_readLevel 64 = .ok (.getfield 17, 3) := by decide +kernel
theorem dX4_readLevel_67 : decode cX4_readLevel 67 = .ok (.iconst 1, 1) := by decide +kernel
theorem dX4_readLevel_68 : decode cX4_readLevel 68 = .ok (.iadd, 1) := by decide +kernel
theorem dX4_readLevel_69 : decode cX4_readLevel 69 = .ok (.putfield 17, 3) := by decide +kernel
theorem dX4_readLevel_72 : decode cX4_readLevel 72 = .ok (.aload_n 0, 1) := by decide +kernel
theorem dX4_readLevel_73 : decode cX4_readLevel 73 = .ok (.iload_n 1, 1) := by decide +kernel
theorem dX4_readLevel_74 : decode cX4_readLevel 74 = .ok (.iconst 1, 1) := by decide +kernel
theorem dX4_readLevel_75 : decode cX4_readLevel 75 = .ok (.iadd, 1) := by decide +kernel
theorem dX4_readLevel_76 : decode cX4_readLevel 76 = .ok (.iload_n 2, 1) := by decide +kernel
theorem dX4_readLevel_77 : decode cX4_readLevel 77 = .ok (.invokevirtual 58, 3) := by decide +kernel
theorem dX4_readLevel_80 : decode cX4_readLevel 80 = .ok (.ifCond .ne 5, 3) := by decide +kernel
theorem dX4_readLevel_83 : decode cX4_readLevel 83 = .ok (.iconst 0, 1) := by decide +kernel
theorem dX4_readLevel_84 : decode cX4_readLevel 84 = .ok (.ireturn, 1) := by decide +kernel
theorem dX4_readLevel_85 : decode cX4_readLevel 85 = .ok (.aload_n 0, 1) := by decide +kernel
theorem dX4_readLevel_86 : decode cX4_readLevel 86 = .ok (.iload 5, 2) := by decide +kernel
theorem dX4_readLevel_88 : decode cX4_readLevel 88 = .ok (.iconst 0, 1) := by decide +kernel
theorem dX4_readLevel_89 : decode cX4_readLevel 89 = .ok (.invokevirtual 62, 3) := by decide +kernel
theorem dX4_readLevel_92 : decode cX4_readLevel 92 = .ok (.iinc 4 1, 3) := by decide +kernel
theorem dX4_readLevel_95 : decode cX4_readLevel 95 = .ok (.goto (-56), 3) := by decide +kernel
theorem dX4_readLevel_98 : decode cX4_readLevel 98 = .ok (.iconst 1, 1) := by decide +kernel
theorem dX4_readLevel_99 : decode cX4_readLevel 99 = .ok (.ireturn, 1) := by decide +kernel
theorem dX4_readOperand_0 : decode cX4_readOperand 0 = .ok (.aload_n 0, 1) := by decide +kernel
theorem dX4_readOperand_1 : decode cX4_readOperand 1 = .ok (.invokevirtual 69, 3) := by decide +kernel
theorem dX4_readOperand_4 : decode cX4_readOperand 4 = .ok (.istore_n 2, 1) := by decide +kernel
theorem dX4_readOperand_5 : decode cX4_readOperand 5 = .ok (.iload_n 2, 1) := by decide +kernel
theorem dX4_readOperand_6 : decode cX4_readOperand 6 = .ok (.invokestatic 77, 3) := by decide +kernel
theorem dX4_readOperand_9 : decode cX4_readOperand 9 = .ok (.ifCond .eq 8, 3) := by decide +kernel
theorem dX4_readOperand_12 : decode cX4_readOperand 12 = .ok (.aload_n 0, 1) := by decide +kernel
theorem dX4_readOperand_13 : decode cX4_readOperand 13 = .ok (.invokevirtual 80, 3) := by decide +kernel
theorem dX4_readOperand_16 : decode cX4_readOperand 16 = .ok (.ireturn, 1) := by decide +kernel
theorem dX4_readOperand_17 : decode cX4_readOperand 17 = .ok (.iload_n 2, 1) := by decide +kernel
theorem dX4_readOperand_18 : decode cX4_readOperand 18 = .ok (.invokestatic 83, 3) := by decide +kernel
theorem dX4_readOperand_21 : decode cX4_readOperand 21 = .ok (.ifCond .lt 25, 3) := by decide +kernel
theorem dX4_readOperand_24 : decode cX4_readOperand 24 = .ok (.aload_n 0, 1) := by decide +kernel
theorem dX4_readOperand_25 : decode cX4_readOperand 25 = .ok (.dup, 1) := by decide +kernel
theorem dX4_readOperand_26 : decode cX4_readOperand 26 = .ok (.getfield 17, 3) := by decide +kernel
theorem dX4_readOperand_29 : decode cX4_readOperand 29 = .ok (.iconst 1, 1) := by decide +kernel
theorem dX4_readOperand_30 : decode cX4_readOperand 30 = .ok (.iadd, 1) := by decide +kernel
theorem dX4_readOperand_31 : decode cX4_readOperand 31 = .ok (.putfield 17, 3) := by decide +kernel
theorem dX4_readOperand_34 : decode cX4_readOperand 34 = .ok (.aload_n 0, 1) := by decide +kernel
theorem dX4_readOperand_35 : decode cX4_readOperand 35 = .ok (.bipush 36, 2) := by decide +kernel
theorem dX4_readOperand_37 : decode cX4_readOperand 37 = .ok (.iload_n 2, 1) := by decide +kernel
theorem dX4_readOperand_38 : decode cX4_readOperand 38 = .ok (.invokestatic 83, 3) := by decide +kernel
theorem dX4_readOperand_41 : decode cX4_readOperand 41 = .ok (.invokevirtual 62, 3) := by decide +kernel
theorem dX4_readOperand_44 : decode cX4_readOperand 44 = .ok (.iconst 1, 1) := by decide +kernel
theorem dX4_readOperand_45 : decode cX4_readOperand 45 = .ok (.ireturn, 1) := by decide +kernel
theorem dX4_readOperand_46 : decode cX4_readOperand 46 = .ok (.iload_n 2, 1) := by decide +kernel
theorem dX4_readOperand_47 : decode cX4_readOperand 47 = .ok (.bipush 40, 2) := by decide +kernel
theorem dX4_readOperand_49 : decode cX4_readOperand 49 = .ok (.if_icmp .eq 15, 3) := by decide +kernel
theorem dX4_readOperand_52 : decode cX4_readOperand 52 = .ok (.iload_n 2, 1) := by decide +kernel
theorem dX4_readOperand_53 : decode cX4_readOperand 53 = .ok (.bipush 33, 2) := by decide +kernel
theorem dX4_readOperand_55 : decode cX4_readOperand 55 = .ok (.if_icmp .eq 9, 3) := by decide +kernel
theorem dX4_readOperand_58 : decode cX4_readOperand 58 = .ok (.iload_n 2, 1) := by decide +kernel
theorem dX4_readOperand_59 : decode cX4_readOperand 59 = .ok (.bipush 45, 2) := by decide +kernel
theorem dX4_readOperand_61 : decode cX4_readOperand 61 = .ok (.if_icmp .ne 9, 3) := by decide +kernel
theorem dX4_readOperand_64 : decode cX4_readOperand 64 = .ok (.iload_n 1, 1) := by decide +kernel
theorem dX4_readOperand_65 : decode cX4_readOperand 65 = .ok (.bipush 6, 2) := by decide +kernel
theorem dX4_readOperand_67 : decode cX4_readOperand 67 = .ok (.if_icmp .ne 5, 3) := by decide +kernel
theorem dX4_readOperand_70 : decode cX4_readOperand 70 = .ok (.iconst 0, 1) := by decide +kernel
theorem dX4_readOperand_71 : decode cX4_readOperand 71 = .ok (.ireturn, 1) := by decide +kernel
theorem dX4_readOperand_72 : decode cX4_readOperand 72 = .ok (.aload_n 0, 1) := by decide +kernel
theorem dX4_readOperand_73 : decode cX4_readOperand 73 = .ok (.dup, 1) := by decide +kernel
theorem dX4_readOperand_74 : decode cX4_readOperand 74 = .ok (.getfield 17, 3) := by decide +kernel
theorem dX4_readOperand_77 : decode cX4_readOperand 77 = .ok (.iconst 1, 1) := by decide +kernel
theorem dX4_readOperand_78 : decode cX4_readOperand 78 = .ok (.iadd, 1) := by decide +kernel
theorem dX4_readOperand_79 : decode cX4_readOperand 79 = .ok (.putfield 17, 3) := by decide +kernel
theorem dX4_readOperand_82 : decode cX4_readOperand 82 = .ok (.iload_n 2, 1) := by decide +kernel
theorem dX4_readOperand_83 : decode cX4_readOperand 83 = .ok (.bipush 40, 2) := by decide +kernel
theorem dX4_readOperand_85 : decode cX4_readOperand 85 = .ok (.if_icmp .ne 29, 3) := by decide +kernel
theorem dX4_readOperand_88 : decode cX4_readOperand 88 = .ok (.aload_n 0, 1) := by decide +kernel
theorem dX4_readOperand_89 : decode cX4_readOperand 89 = .ok (.iconst 0, 1) := by decide +kernel
theorem dX4_readOperand_90 : decode cX4_readOperand 90 = .ok (.iload_n 1, 1) := by decide +kernel
theorem dX4_readOperand_91 : decode cX4_readOperand 91 = .ok (.iconst 1, 1) := by decide +kernel
theorem dX4_readOperand_92 : decode cX4_readOperand 92 = .ok (.iadd, 1) := by decide +kernel
theorem dX4_readOperand_93 : decode cX4_readOperand 93 = .ok (.invokevirtual 58, 3) := by decide +kernel
theorem dX4_readOperand_96 : decode cX4_readOperand 96 = .ok (.ifCond .eq 16, 3) := by decide +kernel
theorem dX4_readOperand_99 : decode cX4_readOperand 99 = .ok (.aload_n 0, 1) := by decide +kernel
theorem dX4_readOperand_100 : decode cX4_readOperand 100 = .ok (.bipush 41, 2) := by decide +kernel
theorem dX4_readOperand_102 : decode cX4_readOperand 102 = .ok (.invokevirtual 54, 3) := by decide +kernel
theorem dX4_readOperand_105 : decode cX4_readOperand 105 = .ok (.ifCond .eq 7, 3) := by decide +kernel
theorem dX4_readOperand_108 : decode cX4_readOperand 108 = .ok (.iconst 1, 1) := by decide +kernel
theorem dX4_readOperand_109 : decode cX4_readOperand 109 = .ok (.goto 4, 3) := by decide +kernel
theorem dX4_readOperand_112 : decode cX4_readOperand 112 = .ok (.iconst 0, 1) := by decide +kernel
theorem dX4_readOperand_113 : decode cX4_readOperand 113 = .ok (.ireturn, 1) := by decide +kernel
theorem dX4_readOperand_114 : decode cX4_readOperand 114 = .ok (.aload_n 0, 1) := by decide +kernel
theorem dX4_readOperand_115 : decode cX4_readOperand 115 = .ok (.iload_n 1, 1) := by decide +kernel
theorem dX4_readOperand_116 : decode cX4_readOperand 116 = .ok (.iconst 1, 1) := by decide +kernel
theorem dX4_readOperand_117 : decode cX4_readOperand 117 = .ok (.iadd, 1) := by decide +kernel
theorem dX4_readOperand_118 : decode cX4_readOperand 118 = .ok (.invokevirtual 66, 3) := by decide +kernel
theorem dX4_readOperand_121 : decode cX4_readOperand 121 = .ok (.ifCond .ne 5, 3) := by decide +kernel
theorem dX4_readOperand_124 : decode cX4_readOperand 124 = .ok (.iconst 0, 1) := by decide +kernel
theorem dX4_readOperand_125 : decode cX4_readOperand 125 = .ok (.ireturn, 1) := by decide +kernel
theorem dX4_readOperand_126 : decode cX4_readOperand 126 = .ok (.aload_n 0, 1) := by decide +kernel
theorem dX4_readOperand_127 : decode cX4_readOperand 127 = .ok (.iload_n 2, 1) := by decide +kernel
theorem dX4_readOperand_128 : decode cX4_readOperand 128 = .ok (.bipush 33, 2) := by decide +kernel
theorem dX4_readOperand_130 : decode cX4_readOperand 130 = .ok (.if_icmp .ne 8, 3) := by decide +kernel
theorem dX4_readOperand_133 : decode cX4_readOperand 133 = .ok (.bipush 33, 2) := by decide +kernel
theorem dX4_readOperand_135 : decode cX4_readOperand 135 = .ok (.goto 5, 3) := by decide +kernel
theorem dX4_readOperand_138 : decode cX4_readOperand 138 = .ok (.bipush 126, 2) := by decide +kernel
theorem dX4_readOperand_140 : decode cX4_readOperand 140 = .ok (.iconst 0, 1) := by decide +kernel
theorem dX4_readOperand_141 : decode cX4_readOperand 141 = .ok (.invokevirtual 62, 3) := by decide +kernel
theorem dX4_readOperand_144 : decode cX4_readOperand 144 = .ok (.iconst 1, 1) := by decide +kernel
theorem dX4_readOperand_145 : decode cX4_readOperand 145 = .ok (.ireturn, 1) := by decide +kernel
theorem dX4_readNumber_0 : decode cX4_readNumber 0 = .ok (.iconst 0, 1) := by decide +kernel
theorem dX4_readNumber_1 : decode cX4_readNumber 1 = .ok (.istore_n 1, 1) := by decide +kernel
theorem dX4_readNumber_2 : decode cX4_readNumber 2 = .ok (.iconst 0, 1) := by decide +kernel
theorem dX4_readNumber_3 : decode cX4_readNumber 3 = .ok (.istore_n 2, 1) := by decide +kernel
theorem dX4_readNumber_4 : decode cX4_readNumber 4 = .ok (.iload_n 2, 1) := by decide +kernel
theorem dX4_readNumber_5 : decode cX4_readNumber 5 = .ok (.iconst 4, 1) := by decide +kernel
theorem dX4_readNumber_6 : decode cX4_readNumber 6 = .ok (.if_icmp .ge 42, 3) := by decide +kernel
theorem dX4_readNumber_9 : decode cX4_readNumber 9 = .ok (.aload_n 0, 1) := by decide +kernel
theorem dX4_readNumber_10 : decode cX4_readNumber 10 = .ok (.invokevirtual 69, 3) := by decide +kernel
theorem dX4_readNumber_13 : decode cX4_readNumber 13 = .ok (.invokestatic 77, 3) := by decide +kernel
theorem dX4_readNumber_16 : decode cX4_readNumber 16 = .ok (.ifCond .eq 32, 3) := by decide +kernel
theorem dX4_readNumber_19 : decode cX4_readNumber 19 = .ok (.iload_n 1, 1) := by decide +kernel
theorem dX4_readNumber_20 : decode cX4_readNumber 20 = .ok (.bipush 10, 2) := by decide +kernel
theorem dX4_readNumber_22 : decode cX4_readNumber 22 = .ok (.imul, 1) := by decide +kernel
theorem dX4_readNumber_23 : decode cX4_readNumber 23 = .ok (.aload_n 0, 1) := by decide +kernel
theorem dX4_readNumber_24 : decode cX4_readNumber 24 = .ok (.invokevirtual 69, 3) := by decide +kernel
theorem dX4_readNumber_27 : decode cX4_readNumber 27 = .ok (.iadd, 1) := by decide +kernel
theorem dX4_readNumber_28 : decode cX4_readNumber 28 = .ok (.bipush 48, 2) := by decide +kernel
theorem dX4_readNumber_30 : decode cX4_readNumber 30 = .ok (.isub, 1) := by decide +kernel
theorem dX4_readNumber_31 : decode cX4_readNumber 31 = .ok (.istore_n 1, 1) := by decide +kernel
theorem dX4_readNumber_32 : decode cX4_readNumber 32 = .ok (.aload_n 0, 1) := by decide +kernel
theorem dX4_readNumber_33 : decode cX4_readNumber 33 = .ok (.dup, 1) := by decide +kernel
theorem dX4_readNumber_34 : decode cX4_readNumber 34 = .ok (.getfield 17, 3) := by decide +kernel
theorem dX4_readNumber_37 : decode cX4_readNumber 37 = .ok (.iconst 1, 1) := by decide +kernel
theorem dX4_readNumber_38 : decode cX4_readNumber 38 = .ok (.iadd, 1) := by decide +kernel
theorem dX4_readNumber_39 : decode cX4_readNumber 39 = .ok (.putfield 17, 3) := by decide +kernel
theorem dX4_readNumber_42 : decode cX4_readNumber 42 = .ok (.iinc 2 1, 3) := by decide +kernel
theorem dX4_readNumber_45 : decode cX4_readNumber 45 = .ok (.goto (-41), 3) := by decide +kernel
theorem dX4_readNumber_48 : decode cX4_readNumber 48 = .ok (.aload_n 0, 1) := by decide +kernel
theorem dX4_readNumber_49 : decode cX4_readNumber 49 = .ok (.bipush 35, 2) := by decide +kernel
theorem dX4_readNumber_51 : decode cX4_readNumber 51 = .ok (.iload_n 1, 1) := by decide +kernel
theorem dX4_readNumber_52 : decode cX4_readNumber 52 = .ok (.invokevirtual 62, 3) := by decide +kernel
theorem dX4_readNumber_55 : decode cX4_readNumber 55 = .ok (.iconst 1, 1) := by decide +kernel
theorem dX4_readNumber_56 : decode cX4_readNumber 56 = .ok (.ireturn, 1) := by decide +kernel
theorem dX4_letter_0 : decode cX4_letter 0 = .ok (.aload_n 0, 1) := by decide +kernel
theorem dX4_letter_1 : decode cX4_letter 1 = .ok (.getfield 17, 3) := by decide +kernel
theorem dX4_letter_4 : decode cX4_letter 4 = .ok (.aload_n 0, 1) := by decide +kernel
theorem dX4_letter_5 : decode cX4_letter 5 = .ok (.getfield 13, 3) := by decide +kernel
theorem dX4_letter_8 : decode cX4_letter 8 = .ok (.if_icmp .ge 15, 3) := by decide +kernel
theorem dX4_letter_11 : decode cX4_letter 11 = .ok (.aload_n 0, 1) := by decide +kernel
theorem dX4_letter_12 : decode cX4_letter 12 = .ok (.getfield 9, 3) := by decide +kernel
theorem dX4_letter_15 : decode cX4_letter 15 = .ok (.aload_n 0, 1) := by decide +kernel
theorem dX4_letter_16 : decode cX4_letter 16 = .ok (.getfield 17, 3) := by decide +kernel
theorem dX4_letter_19 : decode cX4_letter 19 = .ok (.iaload, 1) := by decide +kernel
theorem dX4_letter_20 : decode cX4_letter 20 = .ok (.goto 4, 3) := by decide +kernel
theorem dX4_letter_23 : decode cX4_letter 23 = .ok (.iconst (-1), 1) := by decide +kernel
theorem dX4_letter_24 : decode cX4_letter 24 = .ok (.ireturn, 1) := by decide +kernel
theorem dX4_passed_0 : decode cX4_passed 0 = .ok (.aload_n 0, 1) := by decide +kernel
theorem dX4_passed_1 : decode cX4_passed 1 = .ok (.invokevirtual 69, 3) := by decide +kernel
theorem dX4_passed_4 : decode cX4_passed 4 = .ok (.iload_n 1, 1) := by decide +kernel
theorem dX4_passed_5 : decode cX4_passed 5 = .ok (.if_icmp .eq 5, 3) := by decide +kernel
theorem dX4_passed_8 : decode cX4_passed 8 = .ok (.iconst 0, 1) := by decide +kernel
theorem dX4_passed_9 : decode cX4_passed 9 = .ok (.ireturn, 1) := by decide +kernel
theorem dX4_passed_10 : decode cX4_passed 10 = .ok (.aload_n 0, 1) := by decide +kernel
theorem dX4_passed_11 : decode cX4_passed 11 = .ok (.dup, 1) := by decide +kernel
theorem dX4_passed_12 : decode cX4_passed 12 = .ok (.getfield 17, 3) := by decide +kernel
theorem dX4_passed_15 : decode cX4_passed 15 = .ok (.iconst 1, 1) := by decide +kernel
theorem dX4_passed_16 : decode cX4_passed 16 = .ok (.iadd, 1) := by decide +kernel
theorem dX4_passed_17 : decode cX4_passed 17 = .ok (.putfield 17, 3) := by decide +kernel
theorem dX4_passed_20 : decode cX4_passed 20 = .ok (.iconst 1, 1) := by decide +kernel
theorem dX4_passed_21 : decode cX4_passed 21 = .ok (.ireturn, 1) := by decide +kernel
theorem dX4_write_0 : decode cX4_write 0 = .ok (.aload_n 0, 1) := by decide +kernel
theorem dX4_write_1 : decode cX4_write 1 = .ok (.getfield 23, 3) := by decide +kernel
theorem dX4_write_4 : decode cX4_write 4 = .ok (.aload_n 0, 1) := by decide +kernel
theorem dX4_write_5 : decode cX4_write 5 = .ok (.getfield 20, 3) := by decide +kernel
theorem dX4_write_8 : decode cX4_write 8 = .ok (.arraylength, 1) := by decide +kernel
theorem dX4_write_9 : decode cX4_write 9 = .ok (.if_icmp .ge 29, 3) := by decide +kernel
theorem dX4_write_12 : decode cX4_write 12 = .ok (.aload_n 0, 1) := by decide +kernel
theorem dX4_write_13 : decode cX4_write 13 = .ok (.getfield 20, 3) := by decide +kernel
theorem dX4_write_16 : decode cX4_write 16 = .ok (.aload_n 0, 1) := by decide +kernel
theorem dX4_write_17 : decode cX4_write 17 = .ok (.getfield 23, 3) := by decide +kernel
theorem dX4_write_20 : decode cX4_write 20 = .ok (.iload_n 1, 1) := by decide +kernel
theorem dX4_write_21 : decode cX4_write 21 = .ok (.sipush 256, 3) := by decide +kernel
theorem dX4_write_24 : decode cX4_write 24 = .ok (.iload_n 2, 1) := by decide +kernel
theorem dX4_write_25 : decode cX4_write 25 = .ok (.imul, 1) := by decide +kernel
theorem dX4_write_26 : decode cX4_write 26 = .ok (.iadd, 1) := by decide +kernel
theorem dX4_write_27 : decode cX4_write 27 = .ok (.iastore, 1) := by decide +kernel
theorem dX4_write_28 : decode cX4_write 28 = .ok (.aload_n 0, 1) := by decide +kernel
theorem dX4_write_29 : decode cX4_write 29 = .ok (.dup, 1) := by decide +kernel
theorem dX4_write_30 : decode cX4_write 30 = .ok (.getfield 23, 3) := by decide +kernel
theorem dX4_write_33 : decode cX4_write 33 = .ok (.iconst 1, 1) := by decide +kernel
theorem dX4_write_34 : decode cX4_write 34 = .ok (.iadd, 1) := by decide +kernel
theorem dX4_write_35 : decode cX4_write 35 = .ok (.putfield 23, 3) := by decide +kernel
theorem dX4_write_38 : decode cX4_write 38 = .ok (.return_, 1) := by decide +kernel
theorem dX4_isDigit_0 : decode cX4_isDigit 0 = .ok (.iload_n 0, 1) := by decide +kernel
theorem dX4_isDigit_1 : decode cX4_isDigit 1 = .ok (.bipush 48, 2) := by decide +kernel
theorem dX4_isDigit_3 : decode cX4_isDigit 3 = .ok (.if_icmp .lt 13, 3) := by decide +kernel
theorem dX4_isDigit_6 : decode cX4_isDigit 6 = .ok (.iload_n 0, 1) := by decide +kernel
theorem dX4_isDigit_7 : decode cX4_isDigit 7 = .ok (.bipush 57, 2) := by decide +kernel
theorem dX4_isDigit_9 : decode cX4_isDigit 9 = .ok (.if_icmp .gt 7, 3) := by decide +kernel
theorem dX4_isDigit_12 : decode cX4_isDigit 12 = .ok (.iconst 1, 1) := by decide +kernel
theorem dX4_isDigit_13 : decode cX4_isDigit 13 = .ok (.goto 4, 3) := by decide +kernel
theorem dX4_isDigit_16 : decode cX4_isDigit 16 = .ok (.iconst 0, 1) := by decide +kernel
theorem dX4_isDigit_17 : decode cX4_isDigit 17 = .ok (.ireturn, 1) := by decide +kernel
theorem dX4_nameOf_0 : decode cX4_nameOf 0 = .ok (.iload_n 0, 1) := by decide +kernel
theorem dX4_nameOf_1 : decode cX4_nameOf 1 = .ok (.tableswitch 79 104 116 #[73, 79, 79, 77, 71, 79, 75, 79, 79, 79, 79, 67, 69], 67) := by decide +kernel
theorem dX4_nameOf_68 : decode cX4_nameOf 68 = .ok (.iconst 0, 1) := by decide +kernel
theorem dX4_nameOf_69 : decode cX4_nameOf 69 = .ok (.ireturn, 1) := by decide +kernel
theorem dX4_nameOf_70 : decode cX4_nameOf 70 = .ok (.iconst 1, 1) := by decide +kernel
theorem dX4_nameOf_71 : decode cX4_nameOf 71 = .ok (.ireturn, 1) := by decide +kernel
theorem dX4_nameOf_72 : decode cX4_nameOf 72 = .ok (.iconst 2, 1) := by decide +kernel
theorem dX4_nameOf_73 : decode cX4_nameOf 73 = .ok (.ireturn, 1) := by decide +kernel
theorem dX4_nameOf_74 : decode cX4_nameOf 74 = .ok (.iconst 3, 1) := by decide +kernel
theorem dX4_nameOf_75 : decode cX4_nameOf 75 = .ok (.ireturn, 1) := by decide +kernel
theorem dX4_nameOf_76 : decode cX4_nameOf 76 = .ok (.iconst 4, 1) := by decide +kernel
theorem dX4_nameOf_77 : decode cX4_nameOf 77 = .ok (.ireturn, 1) := by decide +kernel
theorem dX4_nameOf_78 : decode cX4_nameOf 78 = .ok (.iconst 5, 1) := by decide +kernel
theorem dX4_nameOf_79 : decode cX4_nameOf 79 = .ok (.ireturn, 1) := by decide +kernel
theorem dX4_nameOf_80 : decode cX4_nameOf 80 = .ok (.iconst (-1), 1) := by decide +kernel
theorem dX4_nameOf_81 : decode cX4_nameOf 81 = .ok (.ireturn, 1) := by decide +kernel
theorem dX4_levelOf_0 : decode cX4_levelOf 0 = .ok (.iload_n 0, 1) := by decide +kernel
theorem dX4_levelOf_1 : decode cX4_levelOf 1 = .ok (.lookupswitch 101 #[(37, 99), (38, 93), (42, 99), (43, 97), (45, 97), (47, 99), (60, 95), (61, 95), (62, 95), (124, 91)], 91) := by decide +kernel
theorem dX4_levelOf_92 : decode cX4_levelOf 92 = .ok (.iconst 0, 1) := by decide +kernel
theorem dX4_levelOf_93 : decode cX4_levelOf 93 = .ok (.ireturn, 1) := by decide +kernel
theorem dX4_levelOf_94 : decode cX4_levelOf 94 = .ok (.iconst 1, 1) := by decide +kernel
theorem dX4_levelOf_95 : decode cX4_levelOf 95 = .ok (.ireturn, 1) := by decide +kernel
theorem dX4_levelOf_96 : decode cX4_levelOf 96 = .ok (.iconst 2, 1) := by decide +kernel
theorem dX4_levelOf_97 : decode cX4_levelOf 97 = .ok (.ireturn, 1) := by decide +kernel
theorem dX4_levelOf_98 : decode cX4_levelOf 98 = .ok (.iconst 3, 1) := by decide +kernel
theorem dX4_levelOf_99 : decode cX4_levelOf 99 = .ok (.ireturn, 1) := by decide +kernel
theorem dX4_levelOf_100 : decode cX4_levelOf 100 = .ok (.iconst 4, 1) := by decide +kernel
theorem dX4_levelOf_101 : decode cX4_levelOf 101 = .ok (.ireturn, 1) := by decide +kernel
theorem dX4_levelOf_102 : decode cX4_levelOf 102 = .ok (.iconst (-1), 1) := by decide +kernel
theorem dX4_levelOf_103 : decode cX4_levelOf 103 = .ok (.ireturn, 1) := by decide +kernel
theorem dX4_workOut_0 : decode cX4_workOut 0 = .ok (.aload_n 0, 1) := by decide +kernel
theorem dX4_workOut_1 : decode cX4_workOut 1 = .ok (.getfield 32, 3) := by decide +kernel
theorem dX4_workOut_4 : decode cX4_workOut 4 = .ok (.iconst 0, 1) := by decide +kernel
theorem dX4_workOut_5 : decode cX4_workOut 5 = .ok (.iload_n 1, 1) := by decide +kernel
theorem dX4_workOut_6 : decode cX4_workOut 6 = .ok (.iastore, 1) := by decide +kernel
theorem dX4_workOut_7 : decode cX4_workOut 7 = .ok (.aload_n 0, 1) := by decide +kernel
theorem dX4_workOut_8 : decode cX4_workOut 8 = .ok (.getfield 32, 3) := by decide +kernel
theorem dX4_workOut_11 : decode cX4_workOut 11 = .ok (.iconst 1, 1) := by decide +kernel
theorem dX4_workOut_12 : decode cX4_workOut 12 = .ok (.iload_n 2, 1) := by decide +kernel
theorem dX4_workOut_13 : decode cX4_workOut 13 = .ok (.iastore, 1) := by decide +kernel
theorem dX4_workOut_14 : decode cX4_workOut 14 = .ok (.aload_n 0, 1) := by decide +kernel
theorem dX4_workOut_15 : decode cX4_workOut 15 = .ok (.getfield 32, 3) := by decide +kernel
theorem dX4_workOut_18 : decode cX4_workOut 18 = .ok (.iconst 2, 1) := by decide +kernel
theorem dX4_workOut_19 : decode cX4_workOut 19 = .ok (.iload_n 3, 1) := by decide +kernel
theorem dX4_workOut_20 : decode cX4_workOut 20 = .ok (.iastore, 1) := by decide +kernel
theorem dX4_workOut_21 : decode cX4_workOut 21 = .ok (.aload_n 0, 1) := by decide +kernel
theorem dX4_workOut_22 : decode cX4_workOut 22 = .ok (.getfield 32, 3) := by decide +kernel
theorem dX4_workOut_25 : decode cX4_workOut 25 = .ok (.iconst 3, 1) := by decide +kernel
theorem dX4_workOut_26 : decode cX4_workOut 26 = .ok (.iload 4, 2) := by decide +kernel
theorem dX4_workOut_28 : decode cX4_workOut 28 = .ok (.iastore, 1) := by decide +kernel
theorem dX4_workOut_29 : decode cX4_workOut 29 = .ok (.aload_n 0, 1) := by decide +kernel
theorem dX4_workOut_30 : decode cX4_workOut 30 = .ok (.getfield 32, 3) := by decide +kernel
theorem dX4_workOut_33 : decode cX4_workOut 33 = .ok (.iconst 4, 1) := by decide +kernel
theorem dX4_workOut_34 : decode cX4_workOut 34 = .ok (.iload 5, 2) := by decide +kernel
theorem dX4_workOut_36 : decode cX4_workOut 36 = .ok (.iastore, 1) := by decide +kernel
theorem dX4_workOut_37 : decode cX4_workOut 37 = .ok (.aload_n 0, 1) := by decide +kernel
theorem dX4_workOut_38 : decode cX4_workOut 38 = .ok (.getfield 32, 3) := by decide +kernel
theorem dX4_workOut_41 : decode cX4_workOut 41 = .ok (.iconst 5, 1) := by decide +kernel
theorem dX4_workOut_42 : decode cX4_workOut 42 = .ok (.iload 6, 2) := by decide +kernel
theorem dX4_workOut_44 : decode cX4_workOut 44 = .ok (.iastore, 1) := by decide +kernel
theorem dX4_workOut_45 : decode cX4_workOut 45 = .ok (.aload_n 0, 1) := by decide +kernel
theorem dX4_workOut_46 : decode cX4_workOut 46 = .ok (.iconst 0, 1) := by decide +kernel
theorem dX4_workOut_47 : decode cX4_workOut 47 = .ok (.putfield 38, 3) := by decide +kernel
theorem dX4_workOut_50 : decode cX4_workOut 50 = .ok (.iconst 0, 1) := by decide +kernel
theorem dX4_workOut_51 : decode cX4_workOut 51 = .ok (.istore 7, 2) := by decide +kernel
theorem dX4_workOut_53 : decode cX4_workOut 53 = .ok (.iconst 0, 1) := by decide +kernel
theorem dX4_workOut_54 : decode cX4_workOut 54 = .ok (.istore 8, 2) := by decide +kernel
theorem dX4_workOut_56 : decode cX4_workOut 56 = .ok (.iload 8, 2) := by decide +kernel
theorem dX4_workOut_58 : decode cX4_workOut 58 = .ok (.aload_n 0, 1) := by decide +kernel
theorem dX4_workOut_59 : decode cX4_workOut 59 = .ok (.getfield 29, 3) := by decide +kernel
theorem dX4_workOut_62 : decode cX4_workOut 62 = .ok (.if_icmp .ge 88, 3) := by decide +kernel
theorem dX4_workOut_65 : decode cX4_workOut 65 = .ok (.iload 7, 2) := by decide +kernel
theorem dX4_workOut_67 : decode cX4_workOut 67 = .ok (.aload_n 0, 1) := by decide +kernel
theorem dX4_workOut_68 : decode cX4_workOut 68 = .ok (.getfield 29, 3) := by decide +kernel
theorem dX4_workOut_71 : decode cX4_workOut 71 = .ok (.if_icmp .ge 79, 3) := by decide +kernel
theorem dX4_workOut_74 : decode cX4_workOut 74 = .ok (.aload_n 0, 1) := by decide +kernel
theorem dX4_workOut_75 : decode cX4_workOut 75 = .ok (.getfield 26, 3) := by decide +kernel
theorem dX4_workOut_78 : decode cX4_workOut 78 = .ok (.iload 7, 2) := by decide +kernel
theorem dX4_workOut_80 : decode cX4_workOut 80 = .ok (.iaload, 1) := by decide +kernel
theorem dX4_workOut_81 : decode cX4_workOut 81 = .ok (.sipush 256, 3) := by decide +kernel
theorem dX4_workOut_84 : decode cX4_workOut 84 = .ok (.irem, 1) := by decide +kernel
theorem dX4_workOut_85 : decode cX4_workOut 85 = .ok (.istore 9, 2) := by decide +kernel
theorem dX4_workOut_87 : decode cX4_workOut 87 = .ok (.aload_n 0, 1) := by decide +kernel
theorem dX4_workOut_88 : decode cX4_workOut 88 = .ok (.getfield 26, 3) := by decide +kernel
theorem dX4_workOut_91 : decode cX4_workOut 91 = .ok (.iload 7, 2) := by decide +kernel
theorem dX4_workOut_93 : decode cX4_workOut 93 = .ok (.iaload, 1) := by decide +kernel
theorem dX4_workOut_94 : decode cX4_workOut 94 = .ok (.sipush 256, 3) := by decide +kernel
theorem dX4_workOut_97 : decode cX4_workOut 97 = .ok (.idiv, 1) := by decide +kernel
theorem dX4_workOut_98 : decode cX4_workOut 98 = .ok (.istore 10, 2) := by decide +kernel
theorem dX4_workOut_100 : decode cX4_workOut 100 = .ok (.iinc 7 1, 3) := by decide +kernel
theorem dX4_workOut_103 : decode cX4_workOut 103 = .ok (.iload 9, 2) := by decide +kernel
theorem dX4_workOut_105 : decode cX4_workOut 105 = .ok (.bipush 59, 2) := by decide +kernel
theorem dX4_workOut_107 : decode cX4_workOut 107 = .ok (.if_icmp .ne 8, 3) := by decide +kernel
theorem dX4_workOut_110 : decode cX4_workOut 110 = .ok (.aload_n 0, 1) := by decide +kernel
theorem dX4_workOut_111 : decode cX4_workOut 111 = .ok (.invokevirtual 86, 3) := by decide +kernel
theorem dX4_workOut_114 : decode cX4_workOut 114 = .ok (.ireturn, 1) := by decide +kernel
theorem dX4_workOut_115 : decode cX4_workOut 115 = .ok (.iload 9, 2) := by decide +kernel
theorem dX4_workOut_117 : decode cX4_workOut 117 = .ok (.bipush 63, 2) := by decide +kernel
theorem dX4_workOut_119 : decode cX4_workOut 119 = .ok (.if_icmp .eq 14, 3) := by decide +kernel
theorem dX4_workOut_122 : decode cX4_workOut 122 = .ok (.aload_n 0, 1) := by decide +kernel
theorem dX4_workOut_123 : decode cX4_workOut 123 = .ok (.iload 9, 2) := by decide +kernel
theorem dX4_workOut_125 : decode cX4_workOut 125 = .ok (.iload 10, 2) := by decide +kernel
theorem dX4_workOut_127 : decode cX4_workOut 127 = .ok (.invokevirtual 89, 3) := by decide +kernel
theorem dX4_workOut_130 : decode cX4_workOut 130 = .ok (.goto 14, 3) := by decide +kernel
theorem dX4_workOut_133 : decode cX4_workOut 133 = .ok (.aload_n 0, 1) := by decide +kernel
theorem dX4_workOut_134 : decode cX4_workOut 134 = .ok (.invokevirtual 86, 3) := by decide +kernel
theorem dX4_workOut_137 : decode cX4_workOut 137 = .ok (.ifCond .ne 7, 3) := by decide +kernel
theorem dX4_workOut_140 : decode cX4_workOut 140 = .ok (.iload 10, 2) := by decide +kernel
theorem dX4_workOut_142 : decode cX4_workOut 142 = .ok (.istore 7, 2) := by decide +kernel
theorem dX4_workOut_144 : decode cX4_workOut 144 = .ok (.iinc 8 1, 3) := by decide +kernel
theorem dX4_workOut_147 : decode cX4_workOut 147 = .ok (.goto (-91), 3) := by decide +kernel
theorem dX4_workOut_150 : decode cX4_workOut 150 = .ok (.iconst 0, 1) := by decide +kernel
theorem dX4_workOut_151 : decode cX4_workOut 151 = .ok (.ireturn, 1) := by decide +kernel
theorem dX4_run_0 : decode cX4_run 0 = .ok (.iload_n 1, 1) := by decide +kernel
theorem dX4_run_1 : decode cX4_run 1 = .ok (.bipush 35, 2) := by decide +kernel
theorem dX4_run_3 : decode cX4_run 3 = .ok (.if_icmp .ne 11, 3) := by decide +kernel
theorem dX4_run_6 : decode cX4_run 6 = .ok (.aload_n 0, 1) := by decide +kernel
theorem dX4_run_7 : decode cX4_run 7 = .ok (.iload_n 2, 1) := by decide +kernel
theorem dX4_run_8 : decode cX4_run 8 = .ok (.invokevirtual 92, 3) := by decide +kernel
theorem dX4_run_11 : decode cX4_run 11 = .ok (.goto 96, 3) := by decide +kernel
theorem dX4_run_14 : decode cX4_run 14 = .ok (.iload_n 1, 1) := by decide +kernel
theorem dX4_run_15 : decode cX4_run 15 = .ok (.bipush 36, 2) := by decide +kernel
theorem dX4_run_17 : decode cX4_run 17 = .ok (.if_icmp .ne 29, 3) := by decide +kernel
theorem dX4_run_20 : decode cX4_run 20 = .ok (.aload_n 0, 1) := by decide +kernel
theorem dX4_run_21 : decode cX4_run 21 = .ok (.iload_n 2, 1) := by decide +kernel
theorem dX4_run_22 : decode cX4_run 22 = .ok (.aload_n 0, 1) := by decide +kernel
theorem dX4_run_23 : decode cX4_run 23 = .ok (.getfield 32, 3) := by decide +kernel
theorem dX4_run_26 : decode cX4_run 26 = .ok (.arraylength, 1) := by decide +kernel
theorem dX4_run_27 : decode cX4_run 27 = .ok (.if_icmp .ge 12, 3) := by decide +kernel
theorem dX4_run_30 : decode cX4_run 30 = .ok (.aload_n 0, 1) := by decide +kernel
theorem dX4_run_31 : decode cX4_run 31 = .ok (.getfield 32, 3) := by decide +kernel
theorem dX4_run_34 : decode cX4_run 34 = .ok (.iload_n 2, 1) := by decide +kernel
theorem dX4_run_35 : decode cX4_run 35 = .ok (.iaload, 1) := by decide +kernel
theorem dX4_run_36 : decode cX4_run 36 = .ok (.goto 4, 3) := by decide +kernel
theorem dX4_run_39 : decode cX4_run 39 = .ok (.iconst 0, 1) := by decide +kernel
theorem dX4_run_40 : decode cX4_run 40 = .ok (.invokevirtual 92, 3) := by decide +kernel
theorem dX4_run_43 : decode cX4_run 43 = .ok (.goto 64, 3) := by decide +kernel
theorem dX4_run_46 : decode cX4_run 46 = .ok (.iload_n 1, 1) := by decide +kernel
theorem dX4_run_47 : decode cX4_run 47 = .ok (.bipush 126, 2) := by decide +kernel
theorem dX4_run_49 : decode cX4_run 49 = .ok (.if_icmp .ne 15, 3) := by decide +kernel
theorem dX4_run_52 : decode cX4_run 52 = .ok (.aload_n 0, 1) := by decide +kernel
theorem dX4_run_53 : decode cX4_run 53 = .ok (.aload_n 0, 1) := by decide +kernel
theorem dX4_run_54 : decode cX4_run 54 = .ok (.invokevirtual 86, 3) := by decide +kernel
theorem dX4_run_57 : decode cX4_run 57 = .ok (.ineg, 1) := by decide +kernel
theorem dX4_run_58 : decode cX4_run 58 = .ok (.invokevirtual 92, 3) := by decide +kernel
theorem dX4_run_61 : decode cX4_run 61 = .ok (.goto 46, 3) := by decide +kernel
theorem dX4_run_64 : decode cX4_run 64 = .ok (.iload_n 1, 1) := by decide +kernel
theorem dX4_run_65 : decode cX4_run 65 = .ok (.bipush 33, 2) := by decide +kernel
theorem dX4_run_67 : decode cX4_run 67 = .ok (.if_icmp .ne 22, 3) := by decide +kernel
theorem dX4_run_70 : decode cX4_run 70 = .ok (.aload_n 0, 1) := by decide +kernel
theorem dX4_run_71 : decode cX4_run 71 = .ok (.aload_n 0, 1) := by decide +kernel
theorem dX4_run_72 : decode cX4_run 72 = .ok (.invokevirtual 86, 3) := by decide +kernel
theorem dX4_run_75 : decode cX4_run 75 = .ok (.ifCond .ne 7, 3) := by decide +kernel
theorem dX4_run_78 : decode cX4_run 78 = .ok (.iconst 1, 1) := by decide +kernel
theorem dX4_run_79 : decode cX4_run 79 = .ok (.goto 4, 3) := by decide +kernel
theorem dX4_run_82 : decode cX4_run 82 = .ok (.iconst 0, 1) := by decide +kernel
theorem dX4_run_83 : decode cX4_run 83 = .ok (.invokevirtual 92, 3) := by decide +kernel
theorem dX4_run_86 : decode cX4_run 86 = .ok (.goto 21, 3) := by decide +kernel
theorem dX4_run_89 : decode cX4_run 89 = .ok (.aload_n 0, 1) := by decide +kernel
theorem dX4_run_90 : decode cX4_run 90 = .ok (.invokevirtual 86, 3) := by decide +kernel
theorem dX4_run_93 : decode cX4_run 93 = .ok (.istore_n 3, 1) := by decide +kernel
theorem dX4_run_94 : decode cX4_run 94 = .ok (.aload_n 0, 1) := by decide +kernel
theorem dX4_run_95 : decode cX4_run 95 = .ok (.iload_n 1, 1) := by decide +kernel
theorem dX4_run_96 : decode cX4_run 96 = .ok (.aload_n 0, 1) := by decide +kernel
theorem dX4_run_97 : decode cX4_run 97 = .ok (.invokevirtual 86, 3) := by decide +kernel
theorem dX4_run_100 : decode cX4_run 100 = .ok (.iload_n 3, 1) := by decide +kernel
theorem dX4_run_101 : decode cX4_run 101 = .ok (.invokestatic 96, 3) := by decide +kernel
theorem dX4_run_104 : decode cX4_run 104 = .ok (.invokevirtual 92, 3) := by decide +kernel
theorem dX4_run_107 : decode cX4_run 107 = .ok (.return_, 1) := by decide +kernel
theorem dX4_joined_0 : decode cX4_joined 0 = .ok (.iload_n 0, 1) := by decide +kernel
theorem dX4_joined_1 : decode cX4_joined 1 = .ok (.lookupswitch 188 #[(37, 176), (38, 105), (42, 160), (43, 152), (45, 156), (47, 164), (60, 119), (61, 130), (62, 141), (124, 91)], 91) := by decide +kernel
theorem dX4_joined_92 : decode cX4_joined 92 = .ok (.iload_n 1, 1) := by decide +kernel
theorem dX4_joined_93 : decode cX4_joined 93 = .ok (.ifCond .ne 7, 3) := by decide +kernel
theorem dX4_joined_96 : decode cX4_joined 96 = .ok (.iload_n 2, 1) := by decide +kernel
theorem dX4_joined_97 : decode cX4_joined 97 = .ok (.ifCond .eq 7, 3) := by decide +kernel
theorem dX4_joined_100 : decode cX4_joined 100 = .ok (.iconst 1, 1) := by decide +kernel
theorem dX4_joined_101 : decode cX4_joined 101 = .ok (.goto 4, 3) := by decide +kernel
theorem dX4_joined_104 : decode cX4_joined 104 = .ok (.iconst 0, 1) := by decide +kernel
theorem dX4_joined_105 : decode cX4_joined 105 = .ok (.ireturn, 1) := by decide +kernel
theorem dX4_joined_106 : decode cX4_joined 106 = .ok (.iload_n 1, 1) := by decide +kernel
theorem dX4_joined_107 : decode cX4_joined 107 = .ok (.ifCond .eq 11, 3) := by decide +kernel
theorem dX4_joined_110 : decode cX4_joined 110 = .ok (.iload_n 2, 1) := by decide +kernel
theorem dX4_joined_111 : decode cX4_joined 111 = .ok (.ifCond .eq 7, 3) := by decide +kernel
theorem dX4_joined_114 : decode cX4_joined 114 = .ok (.iconst 1, 1) := by decide +kernel
theorem dX4_joined_115 : decode cX4_joined 115 = .ok (.goto 4, 3) := by decide +kernel
theorem dX4_joined_118 : decode cX4_joined 118 = .ok (.iconst 0, 1) := by decide +kernel
theorem dX4_joined_119 : decode cX4_joined 119 = .ok (.ireturn, 1) := by decide +kernel
theorem dX4_joined_120 : decode cX4_joined 120 = .ok (.iload_n 1, 1) := by decide +kernel
theorem dX4_joined_121 : decode cX4_joined 121 = .ok (.iload_n 2, 1) := by decide +kernel
theorem dX4_joined_122 : decode cX4_joined 122 = .ok (.if_icmp .ge 7, 3) := by decide +kernel
theorem dX4_joined_125 : decode cX4_joined 125 = .ok (.iconst 1, 1) := by decide +kernel
theorem dX4_joined_126 : decode cX4_joined 126 = .ok (.goto 4, 3) := by decide +kernel
theorem dX4_joined_129 : decode cX4_joined 129 = .ok (.iconst 0, 1) := by decide +kernel
theorem dX4_joined_130 : decode cX4_joined 130 = .ok (.ireturn, 1) := by decide +kernel
theorem dX4_joined_131 : decode cX4_joined 131 = .ok (.iload_n 1, 1) := by decide +kernel
theorem dX4_joined_132 : decode cX4_joined 132 = .ok (.iload_n 2, 1) := by decide +kernel
theorem dX4_joined_133 : decode cX4_joined 133 = .ok (.if_icmp .ne 7, 3) := by decide +kernel
theorem dX4_joined_136 : decode cX4_joined 136 = .ok (.iconst 1, 1) := by decide +kernel
theorem dX4_joined_137 : decode cX4_joined 137 = .ok (.goto 4, 3) := by decide +kernel
theorem dX4_joined_140 : decode cX4_joined 140 = .ok (.iconst 0, 1) := by decide +kernel
theorem dX4_joined_141 : decode cX4_joined 141 = .ok (.ireturn, 1) := by decide +kernel
theorem dX4_joined_142 : decode cX4_joined 142 = .ok (.iload_n 1, 1) := by decide +kernel
theorem dX4_joined_143 : decode cX4_joined 143 = .ok (.iload_n 2, 1) := by decide +kernel
theorem dX4_joined_144 : decode cX4_joined 144 = .ok (.if_icmp .le 7, 3) := by decide +kernel
theorem dX4_joined_147 : decode cX4_joined 147 = .ok (.iconst 1, 1) := by decide +kernel
theorem dX4_joined_148 : decode cX4_joined 148 = .ok (.goto 4, 3) := by decide +kernel
theorem dX4_joined_151 : decode cX4_joined 151 = .ok (.iconst 0, 1) := by decide +kernel
theorem dX4_joined_152 : decode cX4_joined 152 = .ok (.ireturn, 1) := by decide +kernel
theorem dX4_joined_153 : decode cX4_joined 153 = .ok (.iload_n 1, 1) := by decide +kernel
theorem dX4_joined_154 : decode cX4_joined 154 = .ok (.iload_n 2, 1) := by decide +kernel
theorem dX4_joined_155 : decode cX4_joined 155 = .ok (.iadd, 1) := by decide +kernel
theorem dX4_joined_156 : decode cX4_joined 156 = .ok (.ireturn, 1) := by decide +kernel
theorem dX4_joined_157 : decode cX4_joined 157 = .ok (.iload_n 1, 1) := by decide +kernel
theorem dX4_joined_158 : decode cX4_joined 158 = .ok (.iload_n 2, 1) := by decide +kernel
theorem dX4_joined_159 : decode cX4_joined 159 = .ok (.isub, 1) := by decide +kernel
theorem dX4_joined_160 : decode cX4_joined 160 = .ok (.ireturn, 1) := by decide +kernel
theorem dX4_joined_161 : decode cX4_joined 161 = .ok (.iload_n 1, 1) := by decide +kernel
theorem dX4_joined_162 : decode cX4_joined 162 = .ok (.iload_n 2, 1) := by decide +kernel
theorem dX4_joined_163 : decode cX4_joined 163 = .ok (.imul, 1) := by decide +kernel
theorem dX4_joined_164 : decode cX4_joined 164 = .ok (.ireturn, 1) := by decide +kernel
theorem dX4_joined_165 : decode cX4_joined 165 = .ok (.iload_n 2, 1) := by decide +kernel
theorem dX4_joined_166 : decode cX4_joined 166 = .ok (.ifCond .ne 7, 3) := by decide +kernel
theorem dX4_joined_169 : decode cX4_joined 169 = .ok (.iconst 0, 1) := by decide +kernel
theorem dX4_joined_170 : decode cX4_joined 170 = .ok (.goto 6, 3) := by decide +kernel
theorem dX4_joined_173 : decode cX4_joined 173 = .ok (.iload_n 1, 1) := by decide +kernel
theorem dX4_joined_174 : decode cX4_joined 174 = .ok (.iload_n 2, 1) := by decide +kernel
theorem dX4_joined_175 : decode cX4_joined 175 = .ok (.idiv, 1) := by decide +kernel
theorem dX4_joined_176 : decode cX4_joined 176 = .ok (.ireturn, 1) := by decide +kernel
theorem dX4_joined_177 : decode cX4_joined 177 = .ok (.iload_n 2, 1) := by decide +kernel
theorem dX4_joined_178 : decode cX4_joined 178 = .ok (.ifCond .ne 7, 3) := by decide +kernel
theorem dX4_joined_181 : decode cX4_joined 181 = .ok (.iconst 0, 1) := by decide +kernel
theorem dX4_joined_182 : decode cX4_joined 182 = .ok (.goto 6, 3) := by decide +kernel
theorem dX4_joined_185 : decode cX4_joined 185 = .ok (.iload_n 1, 1) := by decide +kernel
theorem dX4_joined_186 : decode cX4_joined 186 = .ok (.iload_n 2, 1) := by decide +kernel
theorem dX4_joined_187 : decode cX4_joined 187 = .ok (.irem, 1) := by decide +kernel
theorem dX4_joined_188 : decode cX4_joined 188 = .ok (.ireturn, 1) := by decide +kernel
theorem dX4_joined_189 : decode cX4_joined 189 = .ok (.iconst 0, 1) := by decide +kernel
theorem dX4_joined_190 : decode cX4_joined 190 = .ok (.ireturn, 1) := by decide +kernel
theorem dX4_push_0 : decode cX4_push 0 = .ok (.aload_n 0, 1) := by decide +kernel
theorem dX4_push_1 : decode cX4_push 1 = .ok (.getfield 38, 3) := by decide +kernel
theorem dX4_push_4 : decode cX4_push 4 = .ok (.aload_n 0, 1) := by decide +kernel
theorem dX4_push_5 : decode cX4_push 5 = .ok (.getfield 35, 3) := by decide +kernel
theorem dX4_push_8 : decode cX4_push 8 = .ok (.arraylength, 1) := by decide +kernel
theorem dX4_push_9 : decode cX4_push 9 = .ok (.if_icmp .ge 23, 3) := by decide +kernel
theorem dX4_push_12 : decode cX4_push 12 = .ok (.aload_n 0, 1) := by decide +kernel
theorem dX4_push_13 : decode cX4_push 13 = .ok (.getfield 35, 3) := by decide +kernel
theorem dX4_push_16 : decode cX4_push 16 = .ok (.aload_n 0, 1) := by decide +kernel
theorem dX4_push_17 : decode cX4_push 17 = .ok (.getfield 38, 3) := by decide +kernel
theorem dX4_push_20 : decode cX4_push 20 = .ok (.iload_n 1, 1) := by decide +kernel
theorem dX4_push_21 : decode cX4_push 21 = .ok (.iastore, 1) := by decide +kernel
theorem dX4_push_22 : decode cX4_push 22 = .ok (.aload_n 0, 1) := by decide +kernel
theorem dX4_push_23 : decode cX4_push 23 = .ok (.dup, 1) := by decide +kernel
theorem dX4_push_24 : decode cX4_push 24 = .ok (.getfield 38, 3) := by decide +kernel
theorem dX4_push_27 : decode cX4_push 27 = .ok (.iconst 1, 1) := by decide +kernel
theorem dX4_push_28 : decode cX4_push 28 = .ok (.iadd, 1) := by decide +kernel
theorem dX4_push_29 : decode cX4_push 29 = .ok (.putfield 38, 3) := by decide +kernel
theorem dX4_push_32 : decode cX4_push 32 = .ok (.return_, 1) := by decide +kernel
theorem dX4_pop_0 : decode cX4_pop 0 = .ok (.aload_n 0, 1) := by decide +kernel
theorem dX4_pop_1 : decode cX4_pop 1 = .ok (.getfield 38, 3) := by decide +kernel
theorem dX4_pop_4 : decode cX4_pop 4 = .ok (.ifCond .ne 5, 3) := by decide +kernel
theorem dX4_pop_7 : decode cX4_pop 7 = .ok (.iconst 0, 1) := by decide +kernel
theorem dX4_pop_8 : decode cX4_pop 8 = .ok (.ireturn, 1) := by decide +kernel
theorem dX4_pop_9 : decode cX4_pop 9 = .ok (.aload_n 0, 1) := by decide +kernel
theorem dX4_pop_10 : decode cX4_pop 10 = .ok (.dup, 1) := by decide +kernel
theorem dX4_pop_11 : decode cX4_pop 11 = .ok (.getfield 38, 3) := by decide +kernel
theorem dX4_pop_14 : decode cX4_pop 14 = .ok (.iconst 1, 1) := by decide +kernel
theorem dX4_pop_15 : decode cX4_pop 15 = .ok (.isub, 1) := by decide +kernel
theorem dX4_pop_16 : decode cX4_pop 16 = .ok (.putfield 38, 3) := by decide +kernel
theorem dX4_pop_19 : decode cX4_pop 19 = .ok (.aload_n 0, 1) := by decide +kernel
theorem dX4_pop_20 : decode cX4_pop 20 = .ok (.getfield 35, 3) := by decide +kernel
theorem dX4_pop_23 : decode cX4_pop 23 = .ok (.aload_n 0, 1) := by decide +kernel
theorem dX4_pop_24 : decode cX4_pop 24 = .ok (.getfield 38, 3) := by decide +kernel
theorem dX4_pop_27 : decode cX4_pop 27 = .ok (.iaload, 1) := by decide +kernel
theorem dX4_pop_28 : decode cX4_pop 28 = .ok (.ireturn, 1) := by decide +kernel
theorem dX5_init_0 : decode cX5_init 0 = .ok (.aload_n 0, 1) := by decide +kernel
theorem dX5_init_1 : decode cX5_init 1 = .ok (.invokespecial 3, 3) := by decide +kernel
theorem dX5_init_4 : decode cX5_init 4 = .ok (.aload_n 0, 1) := by decide +kernel
theorem dX5_init_5 : decode cX5_init 5 = .ok (.iconst 4, 1) := by decide +kernel
theorem dX5_init_6 : decode cX5_init 6 = .ok (.newarray .int, 2) := by decide +kernel
theorem dX5_init_8 : decode cX5_init 8 = .ok (.putfield 9, 3) := by decide +kernel
theorem dX5_init_11 : decode cX5_init 11 = .ok (.aload_n 0, 1) := by decide +kernel
theorem dX5_init_12 : decode cX5_init 12 = .ok (.iconst 4, 1) := by decide +kernel
theorem dX5_init_13 : decode cX5_init 13 = .ok (.newarray .int, 2) := by decide +kernel
theorem dX5_init_15 : decode cX5_init 15 = .ok (.putfield 15, 3) := by decide +kernel
theorem dX5_init_18 : decode cX5_init 18 = .ok (.aload_n 0, 1) := by decide +kernel
theorem dX5_init_19 : decode cX5_init 19 = .ok (.iconst 0, 1) := by decide +kernel
theorem dX5_init_20 : decode cX5_init 20 = .ok (.putfield 18, 3) := by decide +kernel
theorem dX5_init_23 : decode cX5_init 23 = .ok (.return_, 1) := by decide +kernel
theorem dX5_read_0 : decode cX5_read 0 = .ok (.aload_n 0, 1) := by decide +kernel
theorem dX5_read_1 : decode cX5_read 1 = .ok (.iconst 0, 1) := by decide +kernel
theorem dX5_read_2 : decode cX5_read 2 = .ok (.putfield 18, 3) := by decide +kernel
theorem dX5_read_5 : decode cX5_read 5 = .ok (.aload_n 0, 1) := by decide +kernel
theorem dX5_read_6 : decode cX5_read 6 = .ok (.getfield 18, 3) := by decide +kernel
theorem dX5_read_9 : decode cX5_read 9 = .ok (.iconst 4, 1) := by decide +kernel
theorem dX5_read_10 : decode cX5_read 10 = .ok (.if_icmp .ge 26, 3) := by decide +kernel
theorem dX5_read_13 : decode cX5_read 13 = .ok (.aload_n 0, 1) := by decide +kernel
theorem dX5_read_14 : decode cX5_read 14 = .ok (.aload_n 1, 1) := by decide +kernel
theorem dX5_read_15 : decode cX5_read 15 = .ok (.iload_n 2, 1) := by decide +kernel
theorem dX5_read_16 : decode cX5_read 16 = .ok (.iload_n 3, 1) := by decide +kernel
theorem dX5_read_17 : decode cX5_read 17 = .ok (.invokevirtual 22, 3) := by decide +kernel
theorem dX5_read_20 : decode cX5_read 20 = .ok (.ifCond .eq 16, 3) := by decide +kernel
theorem dX5_read_23 : decode cX5_read 23 = .ok (.aload_n 0, 1) := by decide +kernel
theorem dX5_read_24 : decode cX5_read 24 = .ok (.dup, 1) := by decide +kernel
theorem dX5_read_25 : decode cX5_read 25 = .ok (.getfield 18, 3) := by decide +kernel
theorem dX5_read_28 : decode cX5_read 28 = .ok (.iconst 1, 1) := by decide +kernel
theorem dX5_read_29 : decode cX5_read 29 = .ok (.iadd, 1) := by decide +kernel
theorem dX5_read_30 : decode cX5_read 30 = .ok (.putfield 18, 3) := by decide +kernel
theorem dX5_read_33 : decode cX5_read 33 = .ok (.goto (-28), 3) := by decide +kernel
theorem dX5_read_36 : decode cX5_read 36 = .ok (.return_, 1) := by decide +kernel
theorem dX5_readTwo_0 : decode cX5_readTwo 0 = .ok (.aload_n 1, 1) := by decide +kernel
theorem dX5_readTwo_1 : decode cX5_readTwo 1 = .ok (.iconst 2, 1) := by decide +kernel
theorem dX5_readTwo_2 : decode cX5_readTwo 2 = .ok (.aload_n 0, 1) := by decide +kernel
theorem dX5_readTwo_3 : decode cX5_readTwo 3 = .ok (.getfield 18, 3) := by decide +kernel
theorem dX5_readTwo_6 : decode cX5_readTwo 6 = .ok (.imul, 1) := by decide +kernel
theorem dX5_readTwo_7 : decode cX5_readTwo 7 = .ok (.iconst 2, 1) := by decide +kernel
theorem dX5_readTwo_8 : decode cX5_readTwo 8 = .ok (.invokevirtual 26, 3) := by decide +kernel
theorem dX5_readTwo_11 : decode cX5_readTwo 11 = .ok (.ifCond .ne 5, 3) := by decide +kernel
theorem dX5_readTwo_14 : decode cX5_readTwo 14 = .ok (.iconst 0, 1) := by decide +kernel
theorem dX5_readTwo_15 : decode cX5_readTwo 15 = .ok (.ireturn, 1) := by decide +kernel
theorem dX5_readTwo_16 : decode cX5_readTwo 16 = .ok (.aload_n 1, 1) := by decide +kernel
theorem dX5_readTwo_17 : decode cX5_readTwo 17 = .ok (.iconst 2, 1) := by decide +kernel
theorem dX5_readTwo_18 : decode cX5_readTwo 18 = .ok (.aload_n 0, 1) := by decide +kernel
theorem dX5_readTwo_19 : decode cX5_readTwo 19 = .ok (.getfield 18, 3) := by decide +kernel
theorem dX5_readTwo_22 : decode cX5_readTwo 22 = .ok (.imul, 1) := by decide +kernel
theorem dX5_readTwo_23 : decode cX5_readTwo 23 = .ok (.invokevirtual 32, 3) := by decide +kernel
theorem dX5_readTwo_26 : decode cX5_readTwo 26 = .ok (.lstore 4, 2) := by decide +kernel
theorem dX5_readTwo_28 : decode cX5_readTwo 28 = .ok (.aload_n 1, 1) := by decide +kernel
theorem dX5_readTwo_29 : decode cX5_readTwo 29 = .ok (.iconst 2, 1) := by decide +kernel
theorem dX5_readTwo_30 : decode cX5_readTwo 30 = .ok (.aload_n 0, 1) := by decide +kernel
theorem dX5_readTwo_31 : decode cX5_readTwo 31 = .ok (.getfield 18, 3) := by decide +kernel
theorem dX5_readTwo_34 : decode cX5_readTwo 34 = .ok (.imul, 1) := by decide +kernel
theorem dX5_readTwo_35 : decode cX5_readTwo 35 = .ok (.iconst 1, 1) := by decide +kernel
theorem dX5_readTwo_36 : decode cX5_readTwo 36 = .ok (.iadd, 1) := by decide +kernel
theorem dX5_readTwo_37 : decode cX5_readTwo 37 = .ok (.invokevirtual 32, 3) := by decide +kernel
theorem dX5_readTwo_40 : decode cX5_readTwo 40 = .ok (.lstore 6, 2) := by decide +kernel
theorem dX5_readTwo_42 : decode cX5_readTwo 42 = .ok (.lload 4, 2) := by decide +kernel
theorem dX5_readTwo_44 : decode cX5_readTwo 44 = .ok (.lconst 0, 1) := by decide +kernel
theorem dX5_readTwo_45 : decode cX5_readTwo 45 = .ok (.lcmp, 1) := by decide +kernel
theorem dX5_readTwo_46 : decode cX5_readTwo 46 = .ok (.ifCond .lt 23, 3) := by decide +kernel
theorem dX5_readTwo_49 : decode cX5_readTwo 49 = .ok (.lload 4, 2) := by decide +kernel
theorem dX5_readTwo_51 : decode cX5_readTwo 51 = .ok (.iload_n 2, 1) := by decide +kernel
theorem dX5_readTwo_52 : decode cX5_readTwo 52 = .ok (.i2l, 1) := by decide +kernel
theorem dX5_readTwo_53 : decode cX5_readTwo 53 = .ok (.lcmp, 1) := by decide +kernel
theorem dX5_readTwo_54 : decode cX5_readTwo 54 = .ok (.ifCond .ge 15, 3) := by decide +kernel
theorem dX5_readTwo_57 : decode cX5_readTwo 57 = .ok (.iload_n 3, 1) := by decide +kernel
theorem dX5_readTwo_58 : decode cX5_readTwo 58 = .ok (.ifCond .ne 13, 3) := by decide +kernel
theorem dX5_readTwo_61 : decode cX5_readTwo 61 = .ok (.lload 6, 2) := by decide +kernel
theorem dX5_readTwo_63 : decode cX5_readTwo 63 = .ok (.invokestatic 36, 3) := by decide +kernel
theorem dX5_readTwo_66 : decode cX5_readTwo 66 = .ok (.ifCond .ne 5, 3) := by decide +kernel
theorem dX5_readTwo_69 : decode cX5_readTwo 69 = .ok (.iconst 0, 1) := by decide +kernel
theorem dX5_readTwo_70 : decode cX5_readTwo 70 = .ok (.ireturn, 1) := by decide +kernel
theorem dX5_readTwo_71 : decode cX5_readTwo 71 = .ok (.aload_n 0, 1) := by decide +kernel
theorem dX5_readTwo_72 : decode cX5_readTwo 72 = .ok (.getfield 9, 3) := by decide +kernel
theorem dX5_readTwo_75 : decode cX5_readTwo 75 = .ok (.aload_n 0, 1) := by decide +kernel
theorem dX5_readTwo_76 : decode cX5_readTwo 76 = .ok (.getfield 18, 3) := by decide +kernel
theorem dX5_readTwo_79 : decode cX5_readTwo 79 = .ok (.lload 4, 2) := by decide +kernel
theorem dX5_readTwo_81 : decode cX5_readTwo 81 = .ok (.l2i, 1) := by decide +kernel
theorem dX5_readTwo_82 : decode cX5_readTwo 82 = .ok (.iastore, 1) := by decide +kernel
theorem dX5_readTwo_83 : decode cX5_readTwo 83 = .ok (.aload_n 0, 1) := by decide +kernel
theorem dX5_readTwo_84 : decode cX5_readTwo 84 = .ok (.getfield 15, 3) := by decide +kernel
theorem dX5_readTwo_87 : decode cX5_readTwo 87 = .ok (.aload_n 0, 1) := by decide +kernel
theorem dX5_readTwo_88 : decode cX5_readTwo 88 = .ok (.getfield 18, 3) := by decide +kernel
theorem dX5_readTwo_91 : decode cX5_readTwo 91 = .ok (.lload 6, 2) := by decide +kernel
theorem dX5_readTwo_93 : decode cX5_readTwo 93 = .ok (.l2i, 1) := by decide +kernel
theorem dX5_readTwo_94 : decode cX5_readTwo 94 = .ok (.iastore, 1) := by decide +kernel
theorem dX5_readTwo_95 : decode cX5_readTwo 95 = .ok (.iconst 1, 1) := by decide +kernel
theorem dX5_readTwo_96 : decode cX5_readTwo 96 = .ok (.ireturn, 1) := by decide +kernel
theorem dX5_isFound_0 : decode cX5_isFound 0 = .ok (.lload_n 0, 1) := by decide +kernel
theorem dX5_isFound_1 : decode cX5_isFound 1 = .ok (.lconst 0, 1) := by decide +kernel
theorem dX5_isFound_2 : decode cX5_isFound 2 = .ok (.lcmp, 1) := by decide +kernel
theorem dX5_isFound_3 : decode cX5_isFound 3 = .ok (.ifCond .lt 15, 3) := by decide +kernel
theorem dX5_isFound_6 : decode cX5_isFound 6 = .ok (.lload_n 0, 1) := by decide +kernel
theorem dX5_isFound_7 : decode cX5_isFound 7 = .ok (.ldc2_w 40, 3) := by decide +kernel
theorem dX5_isFound_10 : decode cX5_isFound 10 = .ok (.lcmp, 1) := by decide +kernel
theorem dX5_isFound_11 : decode cX5_isFound 11 = .ok (.ifCond .gt 7, 3) := by decide +kernel
theorem dX5_isFound_14 : decode cX5_isFound 14 = .ok (.iconst 1, 1) := by decide +kernel
theorem dX5_isFound_15 : decode cX5_isFound 15 = .ok (.goto 4, 3) := by decide +kernel
theorem dX5_isFound_18 : decode cX5_isFound 18 = .ok (.iconst 0, 1) := by decide +kernel
theorem dX5_isFound_19 : decode cX5_isFound 19 = .ok (.ireturn, 1) := by decide +kernel
theorem dX5_by_0 : decode cX5_by 0 = .ok (.iload_n 1, 1) := by decide +kernel
theorem dX5_by_1 : decode cX5_by 1 = .ok (.ifCond .lt 20, 3) := by decide +kernel
theorem dX5_by_4 : decode cX5_by 4 = .ok (.iload_n 1, 1) := by decide +kernel
theorem dX5_by_5 : decode cX5_by 5 = .ok (.aload_n 0, 1) := by decide +kernel
theorem dX5_by_6 : decode cX5_by 6 = .ok (.getfield 18, 3) := by decide +kernel
theorem dX5_by_9 : decode cX5_by 9 = .ok (.if_icmp .ge 12, 3) := by decide +kernel
theorem dX5_by_12 : decode cX5_by 12 = .ok (.aload_n 0, 1) := by decide +kernel
theorem dX5_by_13 : decode cX5_by 13 = .ok (.getfield 9, 3) := by decide +kernel
theorem dX5_by_16 : decode cX5_by 16 = .ok (.iload_n 1, 1) := by decide +kernel
theorem dX5_by_17 : decode cX5_by 17 = .ok (.iaload, 1) := by decide +kernel
theorem dX5_by_18 : decode cX5_by 18 = .ok (.goto 4, 3) := by decide +kernel
theorem dX5_by_21 : decode cX5_by 21 = .ok (.iconst 0, 1) := by decide +kernel
theorem dX5_by_22 : decode cX5_by 22 = .ok (.ireturn, 1) := by decide +kernel
theorem dX5_found_0 : decode cX5_found 0 = .ok (.iload_n 1, 1) := by decide +kernel
theorem dX5_found_1 : decode cX5_found 1 = .ok (.ifCond .lt 20, 3) := by decide +kernel
theorem dX5_found_4 : decode cX5_found 4 = .ok (.iload_n 1, 1) := by decide +kernel
theorem dX5_found_5 : decode cX5_found 5 = .ok (.aload_n 0, 1) := by decide +kernel
theorem dX5_found_6 : decode cX5_found 6 = .ok (.getfield 18, 3) := by decide +kernel
theorem dX5_found_9 : decode cX5_found 9 = .ok (.if_icmp .ge 12, 3) := by decide +kernel
theorem dX5_found_12 : decode cX5_found 12 = .ok (.aload_n 0, 1) := by decide +kernel
theorem dX5_found_13 : decode cX5_found 13 = .ok (.getfield 15, 3) := by decide +kernel
theorem dX5_found_16 : decode cX5_found 16 = .ok (.iload_n 1, 1) := by decide +kernel
theorem dX5_found_17 : decode cX5_found 17 = .ok (.iaload, 1) := by decide +kernel
theorem dX5_found_18 : decode cX5_found 18 = .ok (.goto 4, 3) := by decide +kernel
theorem dX5_found_21 : decode cX5_found 21 = .ok (.iconst 0, 1) := by decide +kernel
theorem dX5_found_22 : decode cX5_found 22 = .ok (.ireturn, 1) := by decide +kernel
theorem dX6_init_0 : decode cX6_init 0 = .ok (.aload_n 0, 1) := by decide +kernel
theorem dX6_init_1 : decode cX6_init 1 = .ok (.invokespecial 3, 3) := by decide +kernel
theorem dX6_init_4 : decode cX6_init 4 = .ok (.aload_n 0, 1) := by decide +kernel
theorem dX6_init_5 : decode cX6_init 5 = .ok (.bipush 37, 2) := by decide +kernel
theorem dX6_init_7 : decode cX6_init 7 = .ok (.newarray .int, 2) := by decide +kernel
theorem dX6_init_9 : decode cX6_init 9 = .ok (.putfield 11, 3) := by decide +kernel
theorem dX6_init_12 : decode cX6_init 12 = .ok (.aload_n 0, 1) := by decide +kernel
theorem dX6_init_13 : decode cX6_init 13 = .ok (.iconst 0, 1) := by decide +kernel
theorem dX6_init_14 : decode cX6_init 14 = .ok (.putfield 15, 3) := by decide +kernel
theorem dX6_init_17 : decode cX6_init 17 = .ok (.aload_n 0, 1) := by decide +kernel
theorem dX6_init_18 : decode cX6_init 18 = .ok (.bipush 40, 2) := by decide +kernel
theorem dX6_init_20 : decode cX6_init 20 = .ok (.newarray .int, 2) := by decide +kernel
theorem dX6_init_22 : decode cX6_init 22 = .ok (.putfield 19, 3) := by decide +kernel
theorem dX6_init_25 : decode cX6_init 25 = .ok (.aload_n 0, 1) := by decide +kernel
theorem dX6_init_26 : decode cX6_init 26 = .ok (.bipush 40, 2) := by decide +kernel
theorem dX6_init_28 : decode cX6_init 28 = .ok (.newarray .int, 2) := by decide +kernel
theorem dX6_init_30 : decode cX6_init 30 = .ok (.putfield 22, 3) := by decide +kernel
theorem dX6_init_33 : decode cX6_init 33 = .ok (.aload_n 0, 1) := by decide +kernel
theorem dX6_init_34 : decode cX6_init 34 = .ok (.bipush 40, 2) := by decide +kernel
theorem dX6_init_36 : decode cX6_init 36 = .ok (.newarray .int, 2) := by decide +kernel
theorem dX6_init_38 : decode cX6_init 38 = .ok (.putfield 25, 3) := by decide +kernel
theorem dX6_init_41 : decode cX6_init 41 = .ok (.aload_n 0, 1) := by decide +kernel
theorem dX6_init_42 : decode cX6_init 42 = .ok (.iconst 0, 1) := by decide +kernel
theorem dX6_init_43 : decode cX6_init 43 = .ok (.putfield 28, 3) := by decide +kernel
theorem dX6_init_46 : decode cX6_init 46 = .ok (.aload_n 0, 1) := by decide +kernel
theorem dX6_init_47 : decode cX6_init 47 = .ok (.iconst 0, 1) := by decide +kernel
theorem dX6_init_48 : decode cX6_init 48 = .ok (.putfield 31, 3) := by decide +kernel
theorem dX6_init_51 : decode cX6_init 51 = .ok (.iconst 0, 1) := by decide +kernel
theorem dX6_init_52 : decode cX6_init 52 = .ok (.istore_n 1, 1) := by decide +kernel
theorem dX6_init_53 : decode cX6_init 53 = .ok (.iload_n 1, 1) := by decide +kernel
theorem dX6_init_54 : decode cX6_init 54 = .ok (.bipush 20, 2) := by decide +kernel
theorem dX6_init_56 : decode cX6_init 56 = .ok (.if_icmp .ge 28, 3) := by decide +kernel
theorem dX6_init_59 : decode cX6_init 59 = .ok (.aload_n 0, 1) := by decide +kernel
theorem dX6_init_60 : decode cX6_init 60 = .ok (.getfield 11, 3) := by decide +kernel
theorem dX6_init_63 : decode cX6_init 63 = .ok (.iload_n 1, 1) := by decide +kernel
theorem dX6_init_64 : decode cX6_init 64 = .ok (.iload_n 1, 1) := by decide +kernel
theorem dX6_init_65 : decode cX6_init 65 = .ok (.iconst 5, 1) := by decide +kernel
theorem dX6_init_66 : decode cX6_init 66 = .ok (.irem, 1) := by decide +kernel
theorem dX6_init_67 : decode cX6_init 67 = .ok (.iconst 4, 1) := by decide +kernel
theorem dX6_init_68 : decode cX6_init 68 = .ok (.if_icmp .ne 8, 3) := by decide +kernel
theorem dX6_init_71 : decode cX6_init 71 = .ok (.bipush 10, 2) := by decide +kernel
theorem dX6_init_73 : decode cX6_init 73 = .ok (.goto 4, 3) := by decide +kernel
theorem dX6_init_76 : decode cX6_init 76 = .ok (.iconst 1, 1) := by decide +kernel
theorem dX6_init_77 : decode cX6_init 77 = .ok (.iastore, 1) := by decide +kernel
theorem dX6_init_78 : decode cX6_init 78 = .ok (.iinc 1 1, 3) := by decide +kernel
theorem dX6_init_81 : decode cX6_init 81 = .ok (.goto (-28), 3) := by decide +kernel
theorem dX6_init_84 : decode cX6_init 84 = .ok (.aload_n 0, 1) := by decide +kernel
theorem dX6_init_85 : decode cX6_init 85 = .ok (.getfield 11, 3) := by decide +kernel
theorem dX6_init_88 : decode cX6_init 88 = .ok (.bipush 33, 2) := by decide +kernel
theorem dX6_init_90 : decode cX6_init 90 = .ok (.iconst 5, 1) := by decide +kernel
theorem dX6_init_91 : decode cX6_init 91 = .ok (.iastore, 1) := by decide +kernel
theorem dX6_init_92 : decode cX6_init 92 = .ok (.aload_n 0, 1) := by decide +kernel
theorem dX6_init_93 : decode cX6_init 93 = .ok (.getfield 11, 3) := by decide +kernel
theorem dX6_init_96 : decode cX6_init 96 = .ok (.bipush 34, 2) := by decide +kernel
theorem dX6_init_98 : decode cX6_init 98 = .ok (.iconst 1, 1) := by decide +kernel
theorem dX6_init_99 : decode cX6_init 99 = .ok (.iastore, 1) := by decide +kernel
theorem dX6_init_100 : decode cX6_init 100 = .ok (.aload_n 0, 1) := by decide +kernel
theorem dX6_init_101 : decode cX6_init 101 = .ok (.getfield 11, 3) := by decide +kernel
theorem dX6_init_104 : decode cX6_init 104 = .ok (.bipush 35, 2) := by decide +kernel
theorem dX6_init_106 : decode cX6_init 106 = .ok (.bipush 100, 2) := by decide +kernel
theorem dX6_init_108 : decode cX6_init 108 = .ok (.iastore, 1) := by decide +kernel
theorem dX6_init_109 : decode cX6_init 109 = .ok (.aload_n 0, 1) := by decide +kernel
theorem dX6_init_110 : decode cX6_init 110 = .ok (.getfield 11, 3) := by decide +kernel
theorem dX6_init_113 : decode cX6_init 113 = .ok (.bipush 36, 2) := by decide +kernel
theorem dX6_init_115 : decode cX6_init 115 = .ok (.iconst 4, 1) := by decide +kernel
theorem dX6_init_116 : decode cX6_init 116 = .ok (.iastore, 1) := by decide +kernel
theorem dX6_init_117 : decode cX6_init 117 = .ok (.return_, 1) := by decide +kernel
theorem dX6_isLooker_0 : decode cX6_isLooker 0 = .ok (.iload_n 1, 1) := by decide +kernel
theorem dX6_isLooker_1 : decode cX6_isLooker 1 = .ok (.ifCond .lt 15, 3) := by decide +kernel
theorem dX6_isLooker_4 : decode cX6_isLooker 4 = .ok (.iload_n 1, 1) := by decide +kernel
theorem dX6_isLooker_5 : decode cX6_isLooker 5 = .ok (.aload_n 0, 1) := by decide +kernel
theorem dX6_isLooker_6 : decode cX6_isLooker 6 = .ok (.getfield 15, 3) := by decide +kernel
theorem dX6_isLooker_9 : decode cX6_isLooker 9 = .ok (.if_icmp .ge 7, 3) := by decide +kernel
theorem dX6_isLooker_12 : decode cX6_isLooker 12 = .ok (.iconst 1, 1) := by decide +kernel
theorem dX6_isLooker_13 : decode cX6_isLooker 13 = .ok (.goto 4, 3) := by decide +kernel
theorem dX6_isLooker_16 : decode cX6_isLooker 16 = .ok (.iconst 0, 1) := by decide +kernel
theorem dX6_isLooker_17 : decode cX6_isLooker 17 = .ok (.ireturn, 1) := by decide +kernel
theorem dX6_mayBe_0 : decode cX6_mayBe 0 = .ok (.iload_n 1, 1) := by decide +kernel
theorem dX6_mayBe_1 : decode cX6_mayBe 1 = .ok (.ifCond .lt 31, 3) := by decide +kernel
theorem dX6_mayBe_4 : decode cX6_mayBe 4 = .ok (.iload_n 1, 1) := by decide +kernel
theorem dX6_mayBe_5 : decode cX6_mayBe 5 = .ok (.bipush 11, 2) := by decide +kernel
theorem dX6_mayBe_7 : decode cX6_mayBe 7 = .ok (.if_icmp .gt 25, 3) := by decide +kernel
theorem dX6_mayBe_10 : decode cX6_mayBe 10 = .ok (.iload_n 2, 1) := by decide +kernel
theorem dX6_mayBe_11 : decode cX6_mayBe 11 = .ok (.getstatic 34, 3) := by decide +kernel
theorem dX6_mayBe_14 : decode cX6_mayBe 14 = .ok (.iload_n 1, 1) := by decide +kernel
theorem dX6_mayBe_15 : decode cX6_mayBe 15 = .ok (.iaload, 1) := by decide +kernel
theorem dX6_mayBe_16 : decode cX6_mayBe 16 = .ok (.if_icmp .lt 16, 3) := by decide +kernel
theorem dX6_mayBe_19 : decode cX6_mayBe 19 = .ok (.iload_n 2, 1) := by decide +kernel
theorem dX6_mayBe_20 : decode cX6_mayBe 20 = .ok (.getstatic 37, 3) := by decide +kernel
theorem dX6_mayBe_23 : decode cX6_mayBe 23 = .ok (.iload_n 1, 1) := by decide +kernel
theorem dX6_mayBe_24 : decode cX6_mayBe 24 = .ok (.iaload, 1) := by decide +kernel
theorem dX6_mayBe_25 : decode cX6_mayBe 25 = .ok (.if_icmp .gt 7, 3) := by decide +kernel
theorem dX6_mayBe_28 : decode cX6_mayBe 28 = .ok (.iconst 1, 1) := by decide +kernel
theorem dX6_mayBe_29 : decode cX6_mayBe 29 = .ok (.goto 4, 3) := by decide +kernel
theorem dX6_mayBe_32 : decode cX6_mayBe 32 = .ok (.iconst 0, 1) := by decide +kernel
theorem dX6_mayBe_33 : decode cX6_mayBe 33 = .ok (.ireturn, 1) := by decide +kernel
theorem dX6_slotOf_0 : decode cX6_slotOf 0 = .ok (.iload_n 2, 1) := by decide +kernel
theorem dX6_slotOf_1 : decode cX6_slotOf 1 = .ok (.ifCond .lt 9, 3) := by decide +kernel
theorem dX6_slotOf_4 : decode cX6_slotOf 4 = .ok (.iload_n 2, 1) := by decide +kernel
theorem dX6_slotOf_5 : decode cX6_slotOf 5 = .ok (.bipush 11, 2) := by decide +kernel
theorem dX6_slotOf_7 : decode cX6_slotOf 7 = .ok (.if_icmp .le 5, 3) := by decide +kernel
theorem dX6_slotOf_10 : decode cX6_slotOf 10 = .ok (.iconst (-1), 1) := by decide +kernel
theorem dX6_slotOf_11 : decode cX6_slotOf 11 = .ok (.ireturn, 1) := by decide +kernel
theorem dX6_slotOf_12 : decode cX6_slotOf 12 = .ok (.iload_n 2, 1) := by decide +kernel
theorem dX6_slotOf_13 : decode cX6_slotOf 13 = .ok (.iconst 4, 1) := by decide +kernel
theorem dX6_slotOf_14 : decode cX6_slotOf 14 = .ok (.if_icmp .gt 20, 3) := by decide +kernel
theorem dX6_slotOf_17 : decode cX6_slotOf 17 = .ok (.iload_n 1, 1) := by decide +kernel
theorem dX6_slotOf_18 : decode cX6_slotOf 18 = .ok (.invokestatic 40, 3) := by decide +kernel
theorem dX6_slotOf_21 : decode cX6_slotOf 21 = .ok (.ifCond .eq 11, 3) := by decide +kernel
theorem dX6_slotOf_24 : decode cX6_slotOf 24 = .ok (.iload_n 1, 1) := by decide +kernel
theorem dX6_slotOf_25 : decode cX6_slotOf 25 = .ok (.iconst 5, 1) := by decide +kernel
theorem dX6_slotOf_26 : decode cX6_slotOf 26 = .ok (.imul, 1) := by decide +kernel
theorem dX6_slotOf_27 : decode cX6_slotOf 27 = .ok (.iload_n 2, 1) := by decide +kernel
theorem dX6_slotOf_28 : decode cX6_slotOf 28 = .ok (.iadd, 1) := by decide +kernel
theorem dX6_slotOf_29 : decode cX6_slotOf 29 = .ok (.goto 4, 3) := by decide +kernel
theorem dX6_slotOf_32 : decode cX6_slotOf 32 = .ok (.iconst (-1), 1) := by decide +kernel
theorem dX6_slotOf_33 : decode cX6_slotOf 33 = .ok (.ireturn, 1) := by decide +kernel
theorem dX6_slotOf_34 : decode cX6_slotOf 34 = .ok (.iload_n 2, 1) := by decide +kernel
theorem dX6_slotOf_35 : decode cX6_slotOf 35 = .ok (.bipush 6, 2) := by decide +kernel
theorem dX6_slotOf_37 : decode cX6_slotOf 37 = .ok (.if_icmp .gt 26, 3) := by decide +kernel
theorem dX6_slotOf_40 : decode cX6_slotOf 40 = .ok (.aload_n 0, 1) := by decide +kernel
theorem dX6_slotOf_41 : decode cX6_slotOf 41 = .ok (.iload_n 1, 1) := by decide +kernel
theorem dX6_slotOf_42 : decode cX6_slotOf 42 = .ok (.invokevirtual 44, 3) := by decide +kernel
theorem dX6_slotOf_45 : decode cX6_slotOf 45 = .ok (.ifCond .eq 16, 3) := by decide +kernel
theorem dX6_slotOf_48 : decode cX6_slotOf 48 = .ok (.bipush 20, 2) := by decide +kernel
theorem dX6_slotOf_50 : decode cX6_slotOf 50 = .ok (.iconst 2, 1) := by decide +kernel
theorem dX6_slotOf_51 : decode cX6_slotOf 51 = .ok (.iload_n 1, 1) := by decide +kernel
theorem dX6_slotOf_52 : decode cX6_slotOf 52 = .ok (.imul, 1) := by decide +kernel
theorem dX6_slotOf_53 : decode cX6_slotOf 53 = .ok (.iadd, 1) := by decide +kernel
theorem dX6_slotOf_54 : decode cX6_slotOf 54 = .ok (.iload_n 2, 1) := by decide +kernel
theorem dX6_slotOf_55 : decode cX6_slotOf 55 = .ok (.iadd, 1) := by decide +kernel
theorem dX6_slotOf_56 : decode cX6_slotOf 56 = .ok (.iconst 5, 1) := by decide +kernel
theorem dX6_slotOf_57 : decode cX6_slotOf 57 = .ok (.isub, 1) := by decide +kernel
theorem dX6_slotOf_58 : decode cX6_slotOf 58 = .ok (.goto 4, 3) := by decide +kernel
theorem dX6_slotOf_61 : decode cX6_slotOf 61 = .ok (.iconst (-1), 1) := by decide +kernel
theorem dX6_slotOf_62 : decode cX6_slotOf 62 = .ok (.ireturn, 1) := by decide +kernel
theorem dX6_slotOf_63 : decode cX6_slotOf 63 = .ok (.iload_n 1, 1) := by decide +kernel
theorem dX6_slotOf_64 : decode cX6_slotOf 64 = .ok (.ifCond .ne 13, 3) := by decide +kernel
theorem dX6_slotOf_67 : decode cX6_slotOf 67 = .ok (.bipush 32, 2) := by decide +kernel
theorem dX6_slotOf_69 : decode cX6_slotOf 69 = .ok (.iload_n 2, 1) := by decide +kernel
theorem dX6_slotOf_70 : decode cX6_slotOf 70 = .ok (.iadd, 1) := by decide +kernel
theorem dX6_slotOf_71 : decode cX6_slotOf 71 = .ok (.bipush 7, 2) := by decide +kernel
theorem dX6_slotOf_73 : decode cX6_slotOf 73 = .ok (.isub, 1) := by decide +kernel
theorem dX6_slotOf_74 : decode cX6_slotOf 74 = .ok (.goto 4, 3) := by decide +kernel
theorem dX6_slotOf_77 : decode cX6_slotOf 77 = .ok (.iconst (-1), 1) := by decide +kernel
theorem dX6_slotOf_78 : decode cX6_slotOf 78 = .ok (.ireturn, 1) := by decide +kernel
theorem dX6_get_0 : decode cX6_get 0 = .ok (.aload_n 0, 1) := by decide +kernel
theorem dX6_get_1 : decode cX6_get 1 = .ok (.iload_n 1, 1) := by decide +kernel
theorem dX6_get_2 : decode cX6_get 2 = .ok (.iload_n 2, 1) := by decide +kernel
theorem dX6_get_3 : decode cX6_get 3 = .ok (.invokevirtual 47, 3) := by decide +kernel
theorem dX6_get_6 : decode cX6_get 6 = .ok (.istore_n 3, 1) := by decide +kernel
theorem dX6_get_7 : decode cX6_get 7 = .ok (.iload_n 3, 1) := by decide +kernel
theorem dX6_get_8 : decode cX6_get 8 = .ok (.ifCond .ge 7, 3) := by decide +kernel
theorem dX6_get_11 : decode cX6_get 11 = .ok (.iconst 0, 1) := by decide +kernel
theorem dX6_get_12 : decode cX6_get 12 = .ok (.goto 9, 3) := by decide +kernel
theorem dX6_get_15 : decode cX6_get 15 = .ok (.aload_n 0, 1) := by decide +kernel
theorem dX6_get_16 : decode cX6_get 16 = .ok (.getfield 11, 3) := by decide +kernel
theorem dX6_get_19 : decode cX6_get 19 = .ok (.iload_n 3, 1) := by decide +kernel
theorem dX6_get_20 : decode cX6_get 20 = .ok (.iaload, 1) := by decide +kernel
theorem dX6_get_21 : decode cX6_get 21 = .ok (.ireturn, 1) := by decide +kernel
theorem dX6_addLooker_0 : decode cX6_addLooker 0 = .ok (.aload_n 0, 1) := by decide +kernel
theorem dX6_addLooker_1 : decode cX6_addLooker 1 = .ok (.getfield 15, 3) := by decide +kernel
theorem dX6_addLooker_4 : decode cX6_addLooker 4 = .ok (.bipush 6, 2) := by decide +kernel
theorem dX6_addLooker_6 : decode cX6_addLooker 6 = .ok (.if_icmp .ne 6, 3) := by decide +kernel
theorem dX6_addLooker_9 : decode cX6_addLooker 9 = .ok (.bipush (-3), 2) := by decide +kernel
theorem dX6_addLooker_11 : decode cX6_addLooker 11 = .ok (.ireturn, 1) := by decide +kernel
theorem dX6_addLooker_12 : decode cX6_addLooker 12 = .ok (.aload_n 0, 1) := by decide +kernel
theorem dX6_addLooker_13 : decode cX6_addLooker 13 = .ok (.getfield 11, 3) := by decide +kernel
theorem dX6_addLooker_16 : decode cX6_addLooker 16 = .ok (.bipush 20, 2) := by decide +kernel
theorem dX6_addLooker_18 : decode cX6_addLooker 18 = .ok (.iconst 2, 1) := by decide +kernel
theorem dX6_addLooker_19 : decode cX6_addLooker 19 = .ok (.aload_n 0, 1) := by decide +kernel
theorem dX6_addLooker_20 : decode cX6_addLooker 20 = .ok (.getfield 15, 3) := by decide +kernel
theorem dX6_addLooker_23 : decode cX6_addLooker 23 = .ok (.imul, 1) := by decide +kernel
theorem dX6_addLooker_24 : decode cX6_addLooker 24 = .ok (.iadd, 1) := by decide +kernel
theorem dX6_addLooker_25 : decode cX6_addLooker 25 = .ok (.iload_n 1, 1) := by decide +kernel
theorem dX6_addLooker_26 : decode cX6_addLooker 26 = .ok (.iastore, 1) := by decide +kernel
theorem dX6_addLooker_27 : decode cX6_addLooker 27 = .ok (.aload_n 0, 1) := by decide +kernel
theorem dX6_addLooker_28 : decode cX6_addLooker 28 = .ok (.getfield 11, 3) := by decide +kernel
theorem dX6_addLooker_31 : decode cX6_addLooker 31 = .ok (.bipush 20, 2) := by decide +kernel
theorem dX6_addLooker_33 : decode cX6_addLooker 33 = .ok (.iconst 2, 1) := by decide +kernel
theorem dX6_addLooker_34 : decode cX6_addLooker 34 = .ok (.aload_n 0, 1) := by decide +kernel
theorem dX6_addLooker_35 : decode cX6_addLooker 35 = .ok (.getfield 15, 3) := by decide +kernel
theorem dX6_addLooker_38 : decode cX6_addLooker 38 = .ok (.imul, 1) := by decide +kernel
theorem dX6_addLooker_39 : decode cX6_addLooker 39 = .ok (.iadd, 1) := by decide +kernel
theorem dX6_addLooker_40 : decode cX6_addLooker 40 = .ok (.iconst 1, 1) := by decide +kernel
theorem dX6_addLooker_41 : decode cX6_addLooker 41 = .ok (.iadd, 1) := by decide +kernel
theorem dX6_addLooker_42 : decode cX6_addLooker 42 = .ok (.iload_n 2, 1) := by decide +kernel
theorem dX6_addLooker_43 : decode cX6_addLooker 43 = .ok (.iastore, 1) := by decide +kernel
theorem dX6_addLooker_44 : decode cX6_addLooker 44 = .ok (.aload_n 0, 1) := by decide +kernel
theorem dX6_addLooker_45 : decode cX6_addLooker 45 = .ok (.dup, 1) := by decide +kernel
theorem dX6_addLooker_46 : decode cX6_addLooker 46 = .ok (.getfield 15, 3) := by decide +kernel
theorem dX6_addLooker_49 : decode cX6_addLooker 49 = .ok (.iconst 1, 1) := by decide +kernel
theorem dX6_addLooker_50 : decode cX6_addLooker 50 = .ok (.iadd, 1) := by decide +kernel
theorem dX6_addLooker_51 : decode cX6_addLooker 51 = .ok (.putfield 15, 3) := by decide +kernel
theorem dX6_addLooker_54 : decode cX6_addLooker 54 = .ok (.aload_n 0, 1) := by decide +kernel
theorem dX6_addLooker_55 : decode cX6_addLooker 55 = .ok (.getfield 15, 3) := by decide +kernel
theorem dX6_addLooker_58 : decode cX6_addLooker 58 = .ok (.iconst 1, 1) := by decide +kernel
theorem dX6_addLooker_59 : decode cX6_addLooker 59 = .ok (.isub, 1) := by decide +kernel
theorem dX6_addLooker_60 : decode cX6_addLooker 60 = .ok (.ireturn, 1) := by decide +kernel
theorem dX6_become_0 : decode cX6_become 0 = .ok (.iload_n 1, 1) := by decide +kernel
theorem dX6_become_1 : decode cX6_become 1 = .ok (.ifCond .lt 9, 3) := by decide +kernel
theorem dX6_become_4 : decode cX6_become 4 = .ok (.iload_n 1, 1) := by decide +kernel
theorem dX6_become_5 : decode cX6_become 5 = .ok (.bipush 37, 2) := by decide +kernel
theorem dX6_become_7 : decode cX6_become 7 = .ok (.if_icmp .lt 5, 3) := by decide +kernel
theorem dX6_become_10 : decode cX6_become 10 = .ok (.iconst (-1), 1) := by decide +kernel
theorem dX6_become_11 : decode cX6_become 11 = .ok (.ireturn, 1) := by decide +kernel
theorem dX6_become_12 : decode cX6_become 12 = .ok (.aload_n 0, 1) := by decide +kernel
theorem dX6_become_13 : decode cX6_become 13 = .ok (.getfield 11, 3) := by decide +kernel
theorem dX6_become_16 : decode cX6_become 16 = .ok (.iload_n 1, 1) := by decide +kernel
theorem dX6_become_17 : decode cX6_become 17 = .ok (.iaload, 1) := by decide +kernel
theorem dX6_become_18 : decode cX6_become 18 = .ok (.istore_n 3, 1) := by decide +kernel
theorem dX6_become_19 : decode cX6_become 19 = .ok (.iload_n 3, 1) := by decide +kernel
theorem dX6_become_20 : decode cX6_become 20 = .ok (.iload_n 2, 1) := by decide +kernel
theorem dX6_become_21 : decode cX6_become 21 = .ok (.if_icmp .eq 62, 3) := by decide +kernel
theorem dX6_become_24 : decode cX6_become 24 = .ok (.aload_n 0, 1) := by decide +kernel
theorem dX6_become_25 : decode cX6_become 25 = .ok (.invokevirtual 51, 3) := by decide +kernel
theorem dX6_become_28 : decode cX6_become 28 = .ok (.aload_n 0, 1) := by decide +kernel
theorem dX6_become_29 : decode cX6_become 29 = .ok (.getfield 19, 3) := by decide +kernel
theorem dX6_become_32 : decode cX6_become 32 = .ok (.aload_n 0, 1) := by decide +kernel
theorem dX6_become_33 : decode cX6_become 33 = .ok (.getfield 28, 3) := by decide +kernel
theorem dX6_become_36 : decode cX6_become 36 = .ok (.iload_n 1, 1) := by decide +kernel
theorem dX6_become_37 : decode cX6_become 37 = .ok (.iastore, 1) := by decide +kernel
theorem dX6_become_38 : decode cX6_become 38 = .ok (.aload_n 0, 1) := by decide +kernel
theorem dX6_become_39 : decode cX6_become 39 = .ok (.getfield 22, 3) := by decide +kernel
theorem dX6_become_42 : decode cX6_become 42 = .ok (.aload_n 0, 1) := by decide +kernel
theorem dX6_become_43 : decode cX6_become 43 = .ok (.getfield 28, 3) := by decide +kernel
theorem dX6_become_46 : decode cX6_become 46 = .ok (.iload_n 3, 1) := by decide +kernel
theorem dX6_become_47 : decode cX6_become 47 = .ok (.iastore, 1) := by decide +kernel
theorem dX6_become_48 : decode cX6_become 48 = .ok (.aload_n 0, 1) := by decide +kernel
theorem dX6_become_49 : decode cX6_become 49 = .ok (.getfield 25, 3) := by decide +kernel
theorem dX6_become_52 : decode cX6_become 52 = .ok (.aload_n 0, 1) := by decide +kernel
theorem dX6_become_53 : decode cX6_become 53 = .ok (.getfield 28, 3) := by decide +kernel
theorem dX6_become_56 : decode cX6_become 56 = .ok (.iload_n 2, 1) := by decide +kernel
theorem dX6_become_57 : decode cX6_become 57 = .ok (.iastore, 1) := by decide +kernel
theorem dX6_become_58 : decode cX6_become 58 = .ok (.aload_n 0, 1) := by decide +kernel
theorem dX6_become_59 : decode cX6_become 59 = .ok (.dup, 1) := by decide +kernel
theorem dX6_become_60 : decode cX6_become 60 = .ok (.getfield 28, 3) := by decide +kernel
theorem dX6_become_63 : decode cX6_become 63 = .ok (.iconst 1, 1) := by decide +kernel
theorem dX6_become_64 : decode cX6_become 64 = .ok (.iadd, 1) := by decide +kernel
theorem dX6_become_65 : decode cX6_become 65 = .ok (.putfield 28, 3) := by decide +kernel
theorem dX6_become_68 : decode cX6_become 68 = .ok (.aload_n 0, 1) := by decide +kernel
theorem dX6_become_69 : decode cX6_become 69 = .ok (.aload_n 0, 1) := by decide +kernel
theorem dX6_become_70 : decode cX6_become 70 = .ok (.getfield 28, 3) := by decide +kernel
theorem dX6_become_73 : decode cX6_become 73 = .ok (.putfield 31, 3) := by decide +kernel
theorem dX6_become_76 : decode cX6_become 76 = .ok (.aload_n 0, 1) := by decide +kernel
theorem dX6_become_77 : decode cX6_become 77 = .ok (.getfield 11, 3) := by decide +kernel
theorem dX6_become_80 : decode cX6_become 80 = .ok (.iload_n 1, 1) := by decide +kernel
theorem dX6_become_81 : decode cX6_become 81 = .ok (.iload_n 2, 1) := by decide +kernel
theorem dX6_become_82 : decode cX6_become 82 = .ok (.iastore, 1) := by decide +kernel
theorem dX6_become_83 : decode cX6_become 83 = .ok (.iload_n 3, 1) := by decide +kernel
theorem dX6_become_84 : decode cX6_become 84 = .ok (.ireturn, 1) := by decide +kernel
theorem dX6_dropOldest_0 : decode cX6_dropOldest 0 = .ok (.aload_n 0, 1) := by decide +kernel
theorem dX6_dropOldest_1 : decode cX6_dropOldest 1 = .ok (.getfield 28, 3) := by decide +kernel
theorem dX6_dropOldest_4 : decode cX6_dropOldest 4 = .ok (.bipush 40, 2) := by decide +kernel
theorem dX6_dropOldest_6 : decode cX6_dropOldest 6 = .ok (.if_icmp .ge 4, 3) := by decide +kernel
theorem dX6_dropOldest_9 : decode cX6_dropOldest 9 = .ok (.return_, 1) := by decide +kernel
theorem dX6_dropOldest_10 : decode cX6_dropOldest 10 = .ok (.aload_n 0, 1) := by decide +kernel
theorem dX6_dropOldest_11 : decode cX6_dropOldest 11 = .ok (.getfield 19, 3) := by decide +kernel
theorem dX6_dropOldest_14 : decode cX6_dropOldest 14 = .ok (.iconst 1, 1) := by decide +kernel
theorem dX6_dropOldest_15 : decode cX6_dropOldest 15 = .ok (.aload_n 0, 1) := by decide +kernel
theorem dX6_dropOldest_16 : decode cX6_dropOldest 16 = .ok (.getfield 19, 3) := by decide +kernel
theorem dX6_dropOldest_19 : decode cX6_dropOldest 19 = .ok (.iconst 0, 1) := by decide +kernel
theorem dX6_dropOldest_20 : decode cX6_dropOldest 20 = .ok (.bipush 39, 2) := by decide +kernel
theorem dX6_dropOldest_22 : decode cX6_dropOldest 22 = .ok (.invokestatic 54, 3) := by decide +kernel
theorem dX6_dropOldest_25 : decode cX6_dropOldest 25 = .ok (.aload_n 0, 1) := by decide +kernel
theorem dX6_dropOldest_26 : decode cX6_dropOldest 26 = .ok (.getfield 22, 3) := by decide +kernel
theorem dX6_dropOldest_29 : decode cX6_dropOldest 29 = .ok (.iconst 1, 1) := by decide +kernel
theorem dX6_dropOldest_30 : decode cX6_dropOldest 30 = .ok (.aload_n 0, 1) := by decide +kernel
theorem dX6_dropOldest_31 : decode cX6_dropOldest 31 = .ok (.getfield 22, 3) := by decide +kernel
theorem dX6_dropOldest_34 : decode cX6_dropOldest 34 = .ok (.iconst 0, 1) := by decide +kernel
theorem dX6_dropOldest_35 : decode cX6_dropOldest 35 = .ok (.bipush 39, 2) := by decide +kernel
theorem dX6_dropOldest_37 : decode cX6_dropOldest 37 = .ok (.invokestatic 54, 3) := by decide +kernel
theorem dX6_dropOldest_40 : decode cX6_dropOldest 40 = .ok (.aload_n 0, 1) := by decide +kernel
theorem dX6_dropOldest_41 : decode cX6_dropOldest 41 = .ok (.getfield 25, 3) := by decide +kernel
theorem dX6_dropOldest_44 : decode cX6_dropOldest 44 = .ok (.iconst 1, 1) := by decide +kernel
theorem dX6_dropOldest_45 : decode cX6_dropOldest 45 = .ok (.aload_n 0, 1) := by decide +kernel
theorem dX6_dropOldest_46 : decode cX6_dropOldest 46 = .ok (.getfield 25, 3) := by decide +kernel
theorem dX6_dropOldest_49 : decode cX6_dropOldest 49 = .ok (.iconst 0, 1) := by decide +kernel
theorem dX6_dropOldest_50 : decode cX6_dropOldest 50 = .ok (.bipush 39, 2) := by decide +kernel
theorem dX6_dropOldest_52 : decode cX6_dropOldest 52 = .ok (.invokestatic 54, 3) := by decide +kernel
theorem dX6_dropOldest_55 : decode cX6_dropOldest 55 = .ok (.aload_n 0, 1) := by decide +kernel
theorem dX6_dropOldest_56 : decode cX6_dropOldest 56 = .ok (.bipush 39, 2) := by decide +kernel
theorem dX6_dropOldest_58 : decode cX6_dropOldest 58 = .ok (.putfield 28, 3) := by decide +kernel
theorem dX6_dropOldest_61 : decode cX6_dropOldest 61 = .ok (.return_, 1) := by decide +kernel
theorem dX6_stepBack_0 : decode cX6_stepBack 0 = .ok (.aload_n 0, 1) := by decide +kernel
theorem dX6_stepBack_1 : decode cX6_stepBack 1 = .ok (.getfield 28, 3) := by decide +kernel
theorem dX6_stepBack_4 : decode cX6_stepBack 4 = .ok (.ifCond .le 36, 3) := by decide +kernel
theorem dX6_stepBack_7 : decode cX6_stepBack 7 = .ok (.aload_n 0, 1) := by decide +kernel
theorem dX6_stepBack_8 : decode cX6_stepBack 8 = .ok (.dup, 1) := by decide +kernel
theorem dX6_stepBack_9 : decode cX6_stepBack 9 = .ok (.getfield 28, 3) := by decide +kernel
theorem dX6_stepBack_12 : decode cX6_stepBack 12 = .ok (.iconst 1, 1) := by decide +kernel
theorem dX6_stepBack_13 : decode cX6_stepBack 13 = .ok (.isub, 1) := by decide +kernel
theorem dX6_stepBack_14 : decode cX6_stepBack 14 = .ok (.putfield 28, 3) := by decide +kernel
theorem dX6_stepBack_17 : decode cX6_stepBack 17 = .ok (.aload_n 0, 1) := by decide +kernel
theorem dX6_stepBack_18 : decode cX6_stepBack 18 = .ok (.getfield 11, 3) := by decide +kernel
theorem dX6_stepBack_21 : decode cX6_stepBack 21 = .ok (.aload_n 0, 1) := by decide +kernel
theorem dX6_stepBack_22 : decode cX6_stepBack 22 = .ok (.getfield 19, 3) := by decide +kernel
theorem dX6_stepBack_25 : decode cX6_stepBack 25 = .ok (.aload_n 0, 1) := by decide +kernel
theorem dX6_stepBack_26 : decode cX6_stepBack 26 = .ok (.getfield 28, 3) := by decide +kernel
theorem dX6_stepBack_29 : decode cX6_stepBack 29 = .ok (.iaload, 1) := by decide +kernel
theorem dX6_stepBack_30 : decode cX6_stepBack 30 = .ok (.aload_n 0, 1) := by decide +kernel
theorem dX6_stepBack_31 : decode cX6_stepBack 31 = .ok (.getfield 22, 3) := by decide +kernel
theorem dX6_stepBack_34 : decode cX6_stepBack 34 = .ok (.aload_n 0, 1) := by decide +kernel
theorem dX6_stepBack_35 : decode cX6_stepBack 35 = .ok (.getfield 28, 3) := by decide +kernel
theorem dX6_stepBack_38 : decode cX6_stepBack 38 = .ok (.iaload, 1) := by decide +kernel
theorem dX6_stepBack_39 : decode cX6_stepBack 39 = .ok (.iastore, 1) := by decide +kernel
theorem dX6_stepBack_40 : decode cX6_stepBack 40 = .ok (.aload_n 0, 1) := by decide +kernel
theorem dX6_stepBack_41 : decode cX6_stepBack 41 = .ok (.getfield 28, 3) := by decide +kernel
theorem dX6_stepBack_44 : decode cX6_stepBack 44 = .ok (.ireturn, 1) := by decide +kernel
theorem dX6_stepOn_0 : decode cX6_stepOn 0 = .ok (.aload_n 0, 1) := by decide +kernel
theorem dX6_stepOn_1 : decode cX6_stepOn 1 = .ok (.getfield 28, 3) := by decide +kernel
theorem dX6_stepOn_4 : decode cX6_stepOn 4 = .ok (.aload_n 0, 1) := by decide +kernel
theorem dX6_stepOn_5 : decode cX6_stepOn 5 = .ok (.getfield 31, 3) := by decide +kernel
theorem dX6_stepOn_8 : decode cX6_stepOn 8 = .ok (.if_icmp .ge 36, 3) := by decide +kernel
theorem dX6_stepOn_11 : decode cX6_stepOn 11 = .ok (.aload_n 0, 1) := by decide +kernel
theorem dX6_stepOn_12 : decode cX6_stepOn 12 = .ok (.getfield 11, 3) := by decide +kernel
theorem dX6_stepOn_15 : decode cX6_stepOn 15 = .ok (.aload_n 0, 1) := by decide +kernel
theorem dX6_stepOn_16 : decode cX6_stepOn 16 = .ok (.getfield 19, 3) := by decide +kernel
theorem dX6_stepOn_19 : decode cX6_stepOn 19 = .ok (.aload_n 0, 1) := by decide +kernel
theorem dX6_stepOn_20 : decode cX6_stepOn 20 = .ok (.getfield 28, 3) := by decide +kernel
theorem dX6_stepOn_23 : decode cX6_stepOn 23 = .ok (.iaload, 1) := by decide +kernel
theorem dX6_stepOn_24 : decode cX6_stepOn 24 = .ok (.aload_n 0, 1) := by decide +kernel
theorem dX6_stepOn_25 : decode cX6_stepOn 25 = .ok (.getfield 25, 3) := by decide +kernel
theorem dX6_stepOn_28 : decode cX6_stepOn 28 = .ok (.aload_n 0, 1) := by decide +kernel
theorem dX6_stepOn_29 : decode cX6_stepOn 29 = .ok (.getfield 28, 3) := by decide +kernel
theorem dX6_stepOn_32 : decode cX6_stepOn 32 = .ok (.iaload, 1) := by decide +kernel
theorem dX6_stepOn_33 : decode cX6_stepOn 33 = .ok (.iastore, 1) := by decide +kernel
theorem dX6_stepOn_34 : decode cX6_stepOn 34 = .ok (.aload_n 0, 1) := by decide +kernel
theorem dX6_stepOn_35 : decode cX6_stepOn 35 = .ok (.dup, 1) := by decide +kernel
theorem dX6_stepOn_36 : decode cX6_stepOn 36 = .ok (.getfield 28, 3) := by decide +kernel
theorem dX6_stepOn_39 : decode cX6_stepOn 39 = .ok (.iconst 1, 1) := by decide +kernel
theorem dX6_stepOn_40 : decode cX6_stepOn 40 = .ok (.iadd, 1) := by decide +kernel
theorem dX6_stepOn_41 : decode cX6_stepOn 41 = .ok (.putfield 28, 3) := by decide +kernel
theorem dX6_stepOn_44 : decode cX6_stepOn 44 = .ok (.aload_n 0, 1) := by decide +kernel
theorem dX6_stepOn_45 : decode cX6_stepOn 45 = .ok (.getfield 31, 3) := by decide +kernel
theorem dX6_stepOn_48 : decode cX6_stepOn 48 = .ok (.aload_n 0, 1) := by decide +kernel
theorem dX6_stepOn_49 : decode cX6_stepOn 49 = .ok (.getfield 28, 3) := by decide +kernel
theorem dX6_stepOn_52 : decode cX6_stepOn 52 = .ok (.isub, 1) := by decide +kernel
theorem dX6_stepOn_53 : decode cX6_stepOn 53 = .ok (.ireturn, 1) := by decide +kernel
theorem dX7_init_0 : decode cX7_init 0 = .ok (.aload_n 0, 1) := by decide +kernel
theorem dX7_init_1 : decode cX7_init 1 = .ok (.invokespecial 3, 3) := by decide +kernel
theorem dX7_init_4 : decode cX7_init 4 = .ok (.aload_n 0, 1) := by decide +kernel
theorem dX7_init_5 : decode cX7_init 5 = .ok (.bipush 123, 2) := by decide +kernel
theorem dX7_init_7 : decode cX7_init 7 = .ok (.newarray .int, 2) := by decide +kernel
theorem dX7_init_9 : decode cX7_init 9 = .ok (.putfield 11, 3) := by decide +kernel
theorem dX7_init_12 : decode cX7_init 12 = .ok (.aload_n 0, 1) := by decide +kernel
theorem dX7_init_13 : decode cX7_init 13 = .ok (.iconst 3, 1) := by decide +kernel
theorem dX7_init_14 : decode cX7_init 14 = .ok (.newarray .int, 2) := by decide +kernel
theorem dX7_init_16 : decode cX7_init 16 = .ok (.putfield 15, 3) := by decide +kernel
theorem dX7_init_19 : decode cX7_init 19 = .ok (.aload_n 0, 1) := by decide +kernel
theorem dX7_init_20 : decode cX7_init 20 = .ok (.iconst 3, 1) := by decide +kernel
theorem dX7_init_21 : decode cX7_init 21 = .ok (.newarray .int, 2) := by decide +kernel
theorem dX7_init_23 : decode cX7_init 23 = .ok (.putfield 18, 3) := by decide +kernel
theorem dX7_init_26 : decode cX7_init 26 = .ok (.aload_n 0, 1) := by decide +kernel
theorem dX7_init_27 : decode cX7_init 27 = .ok (.iconst 3, 1) := by decide +kernel
theorem dX7_init_28 : decode cX7_init 28 = .ok (.newarray .int, 2) := by decide +kernel
theorem dX7_init_30 : decode cX7_init 30 = .ok (.putfield 21, 3) := by decide +kernel
theorem dX7_init_33 : decode cX7_init 33 = .ok (.aload_n 0, 1) := by decide +kernel
theorem dX7_init_34 : decode cX7_init 34 = .ok (.iconst 0, 1) := by decide +kernel
theorem dX7_init_35 : decode cX7_init 35 = .ok (.putfield 24, 3) := by decide +kernel
theorem dX7_init_38 : decode cX7_init 38 = .ok (.aload_n 0, 1) := by decide +kernel
theorem dX7_init_39 : decode cX7_init 39 = .ok (.iconst 0, 1) := by decide +kernel
theorem dX7_init_40 : decode cX7_init 40 = .ok (.putfield 28, 3) := by decide +kernel
theorem dX7_init_43 : decode cX7_init 43 = .ok (.return_, 1) := by decide +kernel
theorem dX7_add_0 : decode cX7_add 0 = .ok (.iload_n 1, 1) := by decide +kernel
theorem dX7_add_1 : decode cX7_add 1 = .ok (.ifCond .lt 8, 3) := by decide +kernel
theorem dX7_add_4 : decode cX7_add 4 = .ok (.iload_n 1, 1) := by decide +kernel
theorem dX7_add_5 : decode cX7_add 5 = .ok (.iconst 3, 1) := by decide +kernel
theorem dX7_add_6 : decode cX7_add 6 = .ok (.if_icmp .lt 4, 3) := by decide +kernel
theorem dX7_add_9 : decode cX7_add 9 = .ok (.return_, 1) := by decide +kernel
theorem dX7_add_10 : decode cX7_add 10 = .ok (.aload_n 0, 1) := by decide +kernel
theorem dX7_add_11 : decode cX7_add 11 = .ok (.getfield 15, 3) := by decide +kernel
theorem dX7_add_14 : decode cX7_add 14 = .ok (.iload_n 1, 1) := by decide +kernel
theorem dX7_add_15 : decode cX7_add 15 = .ok (.iload_n 2, 1) := by decide +kernel
theorem dX7_add_16 : decode cX7_add 16 = .ok (.bipush 40, 2) := by decide +kernel
theorem dX7_add_18 : decode cX7_add 18 = .ok (.invokestatic 31, 3) := by decide +kernel
theorem dX7_add_21 : decode cX7_add 21 = .ok (.iastore, 1) := by decide +kernel
theorem dX7_add_22 : decode cX7_add 22 = .ok (.aload_n 0, 1) := by decide +kernel
theorem dX7_add_23 : decode cX7_add 23 = .ok (.getfield 18, 3) := by decide +kernel
theorem dX7_add_26 : decode cX7_add 26 = .ok (.iload_n 1, 1) := by decide +kernel
theorem dX7_add_27 : decode cX7_add 27 = .ok (.iload_n 3, 1) := by decide +kernel
theorem dX7_add_28 : decode cX7_add 28 = .ok (.iastore, 1) := by decide +kernel
theorem dX7_add_29 : decode cX7_add 29 = .ok (.return_, 1) := by decide +kernel
theorem dX7_tell_0 : decode cX7_tell 0 = .ok (.iload_n 1, 1) := by decide +kernel
theorem dX7_tell_1 : decode cX7_tell 1 = .ok (.ifCond .lt 18, 3) := by decide +kernel
theorem dX7_tell_4 : decode cX7_tell 4 = .ok (.iload_n 1, 1) := by decide +kernel
theorem dX7_tell_5 : decode cX7_tell 5 = .ok (.iconst 3, 1) := by decide +kernel
theorem dX7_tell_6 : decode cX7_tell 6 = .ok (.if_icmp .ge 13, 3) := by decide +kernel
theorem dX7_tell_9 : decode cX7_tell 9 = .ok (.iload_n 2, 1) := by decide +kernel
theorem dX7_tell_10 : decode cX7_tell 10 = .ok (.ifCond .lt 9, 3) := by decide +kernel
theorem dX7_tell_13 : decode cX7_tell 13 = .ok (.iload_n 2, 1) := by decide +kernel
theorem dX7_tell_14 : decode cX7_tell 14 = .ok (.bipush 40, 2) := by decide +kernel
theorem dX7_tell_16 : decode cX7_tell 16 = .ok (.if_icmp .le 4, 3) := by decide +kernel
theorem dX7_tell_19 : decode cX7_tell 19 = .ok (.return_, 1) := by decide +kernel
theorem dX7_tell_20 : decode cX7_tell 20 = .ok (.aload_n 0, 1) := by decide +kernel
theorem dX7_tell_21 : decode cX7_tell 21 = .ok (.getfield 11, 3) := by decide +kernel
theorem dX7_tell_24 : decode cX7_tell 24 = .ok (.iload_n 1, 1) := by decide +kernel
theorem dX7_tell_25 : decode cX7_tell 25 = .ok (.bipush 41, 2) := by decide +kernel
theorem dX7_tell_27 : decode cX7_tell 27 = .ok (.imul, 1) := by decide +kernel
theorem dX7_tell_28 : decode cX7_tell 28 = .ok (.iload_n 2, 1) := by decide +kernel
theorem dX7_tell_29 : decode cX7_tell 29 = .ok (.iadd, 1) := by decide +kernel
theorem dX7_tell_30 : decode cX7_tell 30 = .ok (.iload_n 3, 1) := by decide +kernel
theorem dX7_tell_31 : decode cX7_tell 31 = .ok (.iastore, 1) := by decide +kernel
theorem dX7_tell_32 : decode cX7_tell 32 = .ok (.return_, 1) := by decide +kernel
theorem dX7_search_0 : decode cX7_search 0 = .ok (.aload_n 0, 1) := by decide +kernel
theorem dX7_search_1 : decode cX7_search 1 = .ok (.iconst (-1), 1) := by decide +kernel
theorem dX7_search_2 : decode cX7_search 2 = .ok (.putfield 24, 3) := by decide +kernel
theorem dX7_search_5 : decode cX7_search 5 = .ok (.aload_n 0, 1) := by decide +kernel
theorem dX7_search_6 : decode cX7_search 6 = .ok (.iconst 0, 1) := by decide +kernel
theorem dX7_search_7 : decode cX7_search 7 = .ok (.putfield 28, 3) := by decide +kernel
theorem dX7_search_10 : decode cX7_search 10 = .ok (.iconst 0, 1) := by decide +kernel
theorem dX7_search_11 : decode cX7_search 11 = .ok (.istore_n 3, 1) := by decide +kernel
theorem dX7_search_12 : decode cX7_search 12 = .ok (.iload_n 3, 1) := by decide +kernel
theorem dX7_search_13 : decode cX7_search 13 = .ok (.iload_n 1, 1) := by decide +kernel
theorem dX7_search_14 : decode cX7_search 14 = .ok (.aload_n 0, 1) := by decide +kernel
theorem dX7_search_15 : decode cX7_search 15 = .ok (.getfield 15, 3) := by decide +kernel
theorem dX7_search_18 : decode cX7_search 18 = .ok (.iconst 0, 1) := by decide +kernel
theorem dX7_search_19 : decode cX7_search 19 = .ok (.iaload, 1) := by decide +kernel
theorem dX7_search_20 : decode cX7_search 20 = .ok (.invokestatic 31, 3) := by decide +kernel
theorem dX7_search_23 : decode cX7_search 23 = .ok (.if_icmp .gt 74, 3) := by decide +kernel
theorem dX7_search_26 : decode cX7_search 26 = .ok (.iconst 0, 1) := by decide +kernel
theorem dX7_search_27 : decode cX7_search 27 = .ok (.istore 4, 2) := by decide +kernel
theorem dX7_search_29 : decode cX7_search 29 = .ok (.iload 4, 2) := by decide +kernel
theorem dX7_search_31 : decode cX7_search 31 = .ok (.iload_n 1, 1) := by decide +kernel
theorem dX7_search_32 : decode cX7_search 32 = .ok (.iload_n 3, 1) := by decide +kernel
theorem dX7_search_33 : decode cX7_search 33 = .ok (.isub, 1) := by decide +kernel
theorem dX7_search_34 : decode cX7_search 34 = .ok (.aload_n 0, 1) := by decide +kernel
theorem dX7_search_35 : decode cX7_search 35 = .ok (.getfield 15, 3) := by decide +kernel
theorem dX7_search_38 : decode cX7_search 38 = .ok (.iconst 1, 1) := by decide +kernel
theorem dX7_search_39 : decode cX7_search 39 = .ok (.iaload, 1) := by decide +kernel
theorem dX7_search_40 : decode cX7_search 40 = .ok (.invokestatic 31, 3) := by decide +kernel
theorem dX7_search_43 : decode cX7_search 43 = .ok (.if_icmp .gt 48, 3) := by decide +kernel
theorem dX7_search_46 : decode cX7_search 46 = .ok (.iconst 0, 1) := by decide +kernel
theorem dX7_search_47 : decode cX7_search 47 = .ok (.istore 5, 2) := by decide +kernel
theorem dX7_search_49 : decode cX7_search 49 = .ok (.iload 5, 2) := by decide +kernel
theorem dX7_search_51 : decode cX7_search 51 = .ok (.iload_n 1, 1) := by decide +kernel
theorem dX7_search_52 : decode cX7_search 52 = .ok (.iload_n 3, 1) := by decide +kernel
theorem dX7_search_53 : decode cX7_search 53 = .ok (.isub, 1) := by decide +kernel
theorem dX7_search_54 : decode cX7_search 54 = .ok (.iload 4, 2) := by decide +kernel
theorem dX7_search_56 : decode cX7_search 56 = .ok (.isub, 1) := by decide +kernel
theorem dX7_search_57 : decode cX7_search 57 = .ok (.aload_n 0, 1) := by decide +kernel
theorem dX7_search_58 : decode cX7_search 58 = .ok (.getfield 15, 3) := by decide +kernel
theorem dX7_search_61 : decode cX7_search 61 = .ok (.iconst 2, 1) := by decide +kernel
theorem dX7_search_62 : decode cX7_search 62 = .ok (.iaload, 1) := by decide +kernel
theorem dX7_search_63 : decode cX7_search 63 = .ok (.invokestatic 31, 3) := by decide +kernel
theorem dX7_search_66 : decode cX7_search 66 = .ok (.if_icmp .gt 19, 3) := by decide +kernel
theorem dX7_search_69 : decode cX7_search 69 = .ok (.aload_n 0, 1) := by decide +kernel
theorem dX7_search_70 : decode cX7_search 70 = .ok (.iload_n 3, 1) := by decide +kernel
theorem dX7_search_71 : decode cX7_search 71 = .ok (.iload 4, 2) := by decide +kernel
theorem dX7_search_73 : decode cX7_search 73 = .ok (.iload 5, 2) := by decide +kernel
theorem dX7_search_75 : decode cX7_search 75 = .ok (.iload_n 2, 1) := by decide +kernel
theorem dX7_search_76 : decode cX7_search 76 = .ok (.invokevirtual 37, 3) := by decide +kernel
theorem dX7_search_79 : decode cX7_search 79 = .ok (.iinc 5 1, 3) := by decide +kernel
theorem dX7_search_82 : decode cX7_search 82 = .ok (.goto (-33), 3) := by decide +kernel
theorem dX7_search_85 : decode cX7_search 85 = .ok (.iinc 4 1, 3) := by decide +kernel
theorem dX7_search_88 : decode cX7_search 88 = .ok (.goto (-59), 3) := by decide +kernel
theorem dX7_search_91 : decode cX7_search 91 = .ok (.iinc 3 1, 3) := by decide +kernel
theorem dX7_search_94 : decode cX7_search 94 = .ok (.goto (-82), 3) := by decide +kernel
theorem dX7_search_97 : decode cX7_search 97 = .ok (.return_, 1) := by decide +kernel
theorem dX7_weigh_0 : decode cX7_weigh 0 = .ok (.iload_n 1, 1) := by decide +kernel
theorem dX7_weigh_1 : decode cX7_weigh 1 = .ok (.aload_n 0, 1) := by decide +kernel
theorem dX7_weigh_2 : decode cX7_weigh 2 = .ok (.getfield 18, 3) := by decide +kernel
theorem dX7_weigh_5 : decode cX7_weigh 5 = .ok (.iconst 0, 1) := by decide +kernel
theorem dX7_weigh_6 : decode cX7_weigh 6 = .ok (.iaload, 1) := by decide +kernel
theorem dX7_weigh_7 : decode cX7_weigh 7 = .ok (.imul, 1) := by decide +kernel
theorem dX7_weigh_8 : decode cX7_weigh 8 = .ok (.iload_n 2, 1) := by decide +kernel
theorem dX7_weigh_9 : decode cX7_weigh 9 = .ok (.aload_n 0, 1) := by decide +kernel
theorem dX7_weigh_10 : decode cX7_weigh 10 = .ok (.getfield 18, 3) := by decide +kernel
theorem dX7_weigh_13 : decode cX7_weigh 13 = .ok (.iconst 1, 1) := by decide +kernel
theorem dX7_weigh_14 : decode cX7_weigh 14 = .ok (.iaload, 1) := by decide +kernel
theorem dX7_weigh_15 : decode cX7_weigh 15 = .ok (.imul, 1) := by decide +kernel
theorem dX7_weigh_16 : decode cX7_weigh 16 = .ok (.iadd, 1) := by decide +kernel
theorem dX7_weigh_17 : decode cX7_weigh 17 = .ok (.iload_n 3, 1) := by decide +kernel
theorem dX7_weigh_18 : decode cX7_weigh 18 = .ok (.aload_n 0, 1) := by decide +kernel
theorem dX7_weigh_19 : decode cX7_weigh 19 = .ok (.getfield 18, 3) := by decide +kernel
theorem dX7_weigh_22 : decode cX7_weigh 22 = .ok (.iconst 2, 1) := by decide +kernel
theorem dX7_weigh_23 : decode cX7_weigh 23 = .ok (.iaload, 1) := by decide +kernel
theorem dX7_weigh_24 : decode cX7_weigh 24 = .ok (.imul, 1) := by decide +kernel
theorem dX7_weigh_25 : decode cX7_weigh 25 = .ok (.iadd, 1) := by decide +kernel
theorem dX7_weigh_26 : decode cX7_weigh 26 = .ok (.istore 5, 2) := by decide +kernel
theorem dX7_weigh_28 : decode cX7_weigh 28 = .ok (.iload 5, 2) := by decide +kernel
theorem dX7_weigh_30 : decode cX7_weigh 30 = .ok (.iload 4, 2) := by decide +kernel
theorem dX7_weigh_32 : decode cX7_weigh 32 = .ok (.if_icmp .le 4, 3) := by decide +kernel
theorem dX7_weigh_35 : decode cX7_weigh 35 = .ok (.return_, 1) := by decide +kernel
theorem dX7_weigh_36 : decode cX7_weigh 36 = .ok (.aload_n 0, 1) := by decide +kernel
theorem dX7_weigh_37 : decode cX7_weigh 37 = .ok (.getfield 11, 3) := by decide +kernel
theorem dX7_weigh_40 : decode cX7_weigh 40 = .ok (.iload_n 1, 1) := by decide +kernel
theorem dX7_weigh_41 : decode cX7_weigh 41 = .ok (.iaload, 1) := by decide +kernel
theorem dX7_weigh_42 : decode cX7_weigh 42 = .ok (.aload_n 0, 1) := by decide +kernel
theorem dX7_weigh_43 : decode cX7_weigh 43 = .ok (.getfield 11, 3) := by decide +kernel
theorem dX7_weigh_46 : decode cX7_weigh 46 = .ok (.bipush 41, 2) := by decide +kernel
theorem dX7_weigh_48 : decode cX7_weigh 48 = .ok (.iload_n 2, 1) := by decide +kernel
theorem dX7_weigh_49 : decode cX7_weigh 49 = .ok (.iadd, 1) := by decide +kernel
theorem dX7_weigh_50 : decode cX7_weigh 50 = .ok (.iaload, 1) := by decide +kernel
theorem dX7_weigh_51 : decode cX7_weigh 51 = .ok (.iadd, 1) := by decide +kernel
theorem dX7_weigh_52 : decode cX7_weigh 52 = .ok (.aload_n 0, 1) := by decide +kernel
theorem dX7_weigh_53 : decode cX7_weigh 53 = .ok (.getfield 11, 3) := by decide +kernel
theorem dX7_weigh_56 : decode cX7_weigh 56 = .ok (.bipush 82, 2) := by decide +kernel
theorem dX7_weigh_58 : decode cX7_weigh 58 = .ok (.iload_n 3, 1) := by decide +kernel
theorem dX7_weigh_59 : decode cX7_weigh 59 = .ok (.iadd, 1) := by decide +kernel
theorem dX7_weigh_60 : decode cX7_weigh 60 = .ok (.iaload, 1) := by decide +kernel
theorem dX7_weigh_61 : decode cX7_weigh 61 = .ok (.iadd, 1) := by decide +kernel
theorem dX7_weigh_62 : decode cX7_weigh 62 = .ok (.istore 6, 2) := by decide +kernel
theorem dX7_weigh_64 : decode cX7_weigh 64 = .ok (.iload 6, 2) := by decide +kernel
theorem dX7_weigh_66 : decode cX7_weigh 66 = .ok (.aload_n 0, 1) := by decide +kernel
theorem dX7_weigh_67 : decode cX7_weigh 67 = .ok (.getfield 24, 3) := by decide +kernel
theorem dX7_weigh_70 : decode cX7_weigh 70 = .ok (.if_icmp .lt 21, 3) := by decide +kernel
theorem dX7_weigh_73 : decode cX7_weigh 73 = .ok (.iload 6, 2) := by decide +kernel
theorem dX7_weigh_75 : decode cX7_weigh 75 = .ok (.aload_n 0, 1) := by decide +kernel
theorem dX7_weigh_76 : decode cX7_weigh 76 = .ok (.getfield 24, 3) := by decide +kernel
theorem dX7_weigh_79 : decode cX7_weigh 79 = .ok (.if_icmp .ne 13, 3) := by decide +kernel
theorem dX7_weigh_82 : decode cX7_weigh 82 = .ok (.iload 5, 2) := by decide +kernel
theorem dX7_weigh_84 : decode cX7_weigh 84 = .ok (.aload_n 0, 1) := by decide +kernel
theorem dX7_weigh_85 : decode cX7_weigh 85 = .ok (.getfield 28, 3) := by decide +kernel
theorem dX7_weigh_88 : decode cX7_weigh 88 = .ok (.if_icmp .lt 4, 3) := by decide +kernel
theorem dX7_weigh_91 : decode cX7_weigh 91 = .ok (.return_, 1) := by decide +kernel
theorem dX7_weigh_92 : decode cX7_weigh 92 = .ok (.aload_n 0, 1) := by decide +kernel
theorem dX7_weigh_93 : decode cX7_weigh 93 = .ok (.iload 6, 2) := by decide +kernel
theorem dX7_weigh_95 : decode cX7_weigh 95 = .ok (.putfield 24, 3) := by decide +kernel
theorem dX7_weigh_98 : decode cX7_weigh 98 = .ok (.aload_n 0, 1) := by decide +kernel
theorem dX7_weigh_99 : decode cX7_weigh 99 = .ok (.iload 5, 2) := by decide +kernel
theorem dX7_weigh_101 : decode cX7_weigh 101 = .ok (.putfield 28, 3) := by decide +kernel
theorem dX7_weigh_104 : decode cX7_weigh 104 = .ok (.aload_n 0, 1) := by decide +kernel
theorem dX7_weigh_105 : decode cX7_weigh 105 = .ok (.getfield 21, 3) := by decide +kernel
theorem dX7_weigh_108 : decode cX7_weigh 108 = .ok (.iconst 0, 1) := by decide +kernel
theorem dX7_weigh_109 : decode cX7_weigh 109 = .ok (.iload_n 1, 1) := by decide +kernel
theorem dX7_weigh_110 : decode cX7_weigh 110 = .ok (.iastore, 1) := by decide +kernel
theorem dX7_weigh_111 : decode cX7_weigh 111 = .ok (.aload_n 0, 1) := by decide +kernel
theorem dX7_weigh_112 : decode cX7_weigh 112 = .ok (.getfield 21, 3) := by decide +kernel
theorem dX7_weigh_115 : decode cX7_weigh 115 = .ok (.iconst 1, 1) := by decide +kernel
theorem dX7_weigh_116 : decode cX7_weigh 116 = .ok (.iload_n 2, 1) := by decide +kernel
theorem dX7_weigh_117 : decode cX7_weigh 117 = .ok (.iastore, 1) := by decide +kernel
theorem dX7_weigh_118 : decode cX7_weigh 118 = .ok (.aload_n 0, 1) := by decide +kernel
theorem dX7_weigh_119 : decode cX7_weigh 119 = .ok (.getfield 21, 3) := by decide +kernel
theorem dX7_weigh_122 : decode cX7_weigh 122 = .ok (.iconst 2, 1) := by decide +kernel
theorem dX7_weigh_123 : decode cX7_weigh 123 = .ok (.iload_n 3, 1) := by decide +kernel
theorem dX7_weigh_124 : decode cX7_weigh 124 = .ok (.iastore, 1) := by decide +kernel
theorem dX7_weigh_125 : decode cX7_weigh 125 = .ok (.return_, 1) := by decide +kernel
theorem dX7_heapsOf_0 : decode cX7_heapsOf 0 = .ok (.iload_n 1, 1) := by decide +kernel
theorem dX7_heapsOf_1 : decode cX7_heapsOf 1 = .ok (.ifCond .lt 17, 3) := by decide +kernel
theorem dX7_heapsOf_4 : decode cX7_heapsOf 4 = .ok (.iload_n 1, 1) := by decide +kernel
theorem dX7_heapsOf_5 : decode cX7_heapsOf 5 = .ok (.iconst 3, 1) := by decide +kernel
theorem dX7_heapsOf_6 : decode cX7_heapsOf 6 = .ok (.if_icmp .ge 12, 3) := by decide +kernel
theorem dX7_heapsOf_9 : decode cX7_heapsOf 9 = .ok (.aload_n 0, 1) := by decide +kernel
theorem dX7_heapsOf_10 : decode cX7_heapsOf 10 = .ok (.getfield 21, 3) := by decide +kernel
theorem dX7_heapsOf_13 : decode cX7_heapsOf 13 = .ok (.iload_n 1, 1) := by decide +kernel
theorem dX7_heapsOf_14 : decode cX7_heapsOf 14 = .ok (.iaload, 1) := by decide +kernel
theorem dX7_heapsOf_15 : decode cX7_heapsOf 15 = .ok (.goto 4, 3) := by decide +kernel
theorem dX7_heapsOf_18 : decode cX7_heapsOf 18 = .ok (.iconst (-1), 1) := by decide +kernel
theorem dX7_heapsOf_19 : decode cX7_heapsOf 19 = .ok (.ireturn, 1) := by decide +kernel
theorem dX8_init_0 : decode cX8_init 0 = .ok (.aload_n 0, 1) := by decide +kernel
theorem dX8_init_1 : decode cX8_init 1 = .ok (.invokespecial 3, 3) := by decide +kernel
theorem dX8_init_4 : decode cX8_init 4 = .ok (.aload_n 0, 1) := by decide +kernel
theorem dX8_init_5 : decode cX8_init 5 = .ok (.new 9, 3) := by decide +kernel
theorem dX8_init_8 : decode cX8_init 8 = .ok (.dup, 1) := by decide +kernel
theorem dX8_init_9 : decode cX8_init 9 = .ok (.invokespecial 11, 3) := by decide +kernel
theorem dX8_init_12 : decode cX8_init 12 = .ok (.putfield 12, 3) := by decide +kernel
theorem dX8_init_15 : decode cX8_init 15 = .ok (.aload_n 0, 1) := by decide +kernel
theorem dX8_init_16 : decode cX8_init 16 = .ok (.bipush 24, 2) := by decide +kernel
theorem dX8_init_18 : decode cX8_init 18 = .ok (.newarray .int, 2) := by decide +kernel
theorem dX8_init_20 : decode cX8_init 20 = .ok (.putfield 18, 3) := by decide +kernel
theorem dX8_init_23 : decode cX8_init 23 = .ok (.aload_n 0, 1) := by decide +kernel
theorem dX8_init_24 : decode cX8_init 24 = .ok (.bipush 6, 2) := by decide +kernel
theorem dX8_init_26 : decode cX8_init 26 = .ok (.newarray .int, 2) := by decide +kernel
theorem dX8_init_28 : decode cX8_init 28 = .ok (.putfield 22, 3) := by decide +kernel
theorem dX8_init_31 : decode cX8_init 31 = .ok (.aload_n 0, 1) := by decide +kernel
theorem dX8_init_32 : decode cX8_init 32 = .ok (.iconst 0, 1) := by decide +kernel
theorem dX8_init_33 : decode cX8_init 33 = .ok (.putfield 25, 3) := by decide +kernel
theorem dX8_init_36 : decode cX8_init 36 = .ok (.aload_n 0, 1) := by decide +kernel
theorem dX8_init_37 : decode cX8_init 37 = .ok (.iconst 0, 1) := by decide +kernel
theorem dX8_init_38 : decode cX8_init 38 = .ok (.putfield 29, 3) := by decide +kernel
theorem dX8_init_41 : decode cX8_init 41 = .ok (.aload_n 0, 1) := by decide +kernel
theorem dX8_init_42 : decode cX8_init 42 = .ok (.bipush (-2), 2) := by decide +kernel
theorem dX8_init_44 : decode cX8_init 44 = .ok (.putfield 32, 3) := by decide +kernel
theorem dX8_init_47 : decode cX8_init 47 = .ok (.return_, 1) := by decide +kernel
theorem dX8_leastOf_0 : decode cX8_leastOf 0 = .ok (.aload_n 0, 1) := by decide +kernel
theorem dX8_leastOf_1 : decode cX8_leastOf 1 = .ok (.bipush (-2), 2) := by decide +kernel
theorem dX8_leastOf_3 : decode cX8_leastOf 3 = .ok (.putfield 32, 3) := by decide +kernel
theorem dX8_leastOf_6 : decode cX8_leastOf 6 = .ok (.aload_n 0, 1) := by decide +kernel
theorem dX8_leastOf_7 : decode cX8_leastOf 7 = .ok (.iconst 0, 1) := by decide +kernel
theorem dX8_leastOf_8 : decode cX8_leastOf 8 = .ok (.iconst 0, 1) := by decide +kernel
theorem dX8_leastOf_9 : decode cX8_leastOf 9 = .ok (.iconst 3, 1) := by decide +kernel
theorem dX8_leastOf_10 : decode cX8_leastOf 10 = .ok (.iload_n 1, 1) := by decide +kernel
theorem dX8_leastOf_11 : decode cX8_leastOf 11 = .ok (.invokestatic 35, 3) := by decide +kernel
theorem dX8_leastOf_14 : decode cX8_leastOf 14 = .ok (.invokestatic 41, 3) := by decide +kernel
theorem dX8_leastOf_17 : decode cX8_leastOf 17 = .ok (.invokevirtual 44, 3) := by decide +kernel
theorem dX8_leastOf_20 : decode cX8_leastOf 20 = .ok (.lreturn, 1) := by decide +kernel
theorem dX8_least_0 : decode cX8_least 0 = .ok (.iload_n 2, 1) := by decide +kernel
theorem dX8_least_1 : decode cX8_least 1 = .ok (.ifCond .lt 8, 3) := by decide +kernel
theorem dX8_least_4 : decode cX8_least 4 = .ok (.iload_n 2, 1) := by decide +kernel
theorem dX8_least_5 : decode cX8_least 5 = .ok (.iconst 3, 1) := by decide +kernel
theorem dX8_least_6 : decode cX8_least 6 = .ok (.if_icmp .le 5, 3) := by decide +kernel
theorem dX8_least_9 : decode cX8_least 9 = .ok (.lconst 0, 1) := by decide +kernel
theorem dX8_least_10 : decode cX8_least 10 = .ok (.lreturn, 1) := by decide +kernel
theorem dX8_least_11 : decode cX8_least 11 = .ok (.aload_n 0, 1) := by decide +kernel
theorem dX8_least_12 : decode cX8_least 12 = .ok (.getfield 29, 3) := by decide +kernel
theorem dX8_least_15 : decode cX8_least 15 = .ok (.i2l, 1) := by decide +kernel
theorem dX8_least_16 : decode cX8_least 16 = .ok (.aload_n 0, 1) := by decide +kernel
theorem dX8_least_17 : decode cX8_least 17 = .ok (.getfield 12, 3) := by decide +kernel
theorem dX8_least_20 : decode cX8_least 20 = .ok (.iload_n 1, 1) := by decide +kernel
theorem dX8_least_21 : decode cX8_least 21 = .ok (.invokevirtual 48, 3) := by decide +kernel
theorem dX8_least_24 : decode cX8_least 24 = .ok (.lmul, 1) := by decide +kernel
theorem dX8_least_25 : decode cX8_least 25 = .ok (.getstatic 52, 3) := by decide +kernel
theorem dX8_least_28 : decode cX8_least 28 = .ok (.iload_n 2, 1) := by decide +kernel
theorem dX8_least_29 : decode cX8_least 29 = .ok (.laload, 1) := by decide +kernel
theorem dX8_least_30 : decode cX8_least 30 = .ok (.lmul, 1) := by decide +kernel
theorem dX8_least_31 : decode cX8_least 31 = .ok (.lstore_n 3, 1) := by decide +kernel
theorem dX8_least_32 : decode cX8_least 32 = .ok (.iload_n 2, 1) := by decide +kernel
theorem dX8_least_33 : decode cX8_least 33 = .ok (.ifCond .eq 8, 3) := by decide +kernel
theorem dX8_least_36 : decode cX8_least 36 = .ok (.iload_n 1, 1) := by decide +kernel
theorem dX8_least_37 : decode cX8_least 37 = .ok (.iconst 3, 1) := by decide +kernel
theorem dX8_least_38 : decode cX8_least 38 = .ok (.if_icmp .lt 5, 3) := by decide +kernel
theorem dX8_least_41 : decode cX8_least 41 = .ok (.lload_n 3, 1) := by decide +kernel
theorem dX8_least_42 : decode cX8_least 42 = .ok (.lreturn, 1) := by decide +kernel
theorem dX8_least_43 : decode cX8_least 43 = .ok (.iconst 0, 1) := by decide +kernel
theorem dX8_least_44 : decode cX8_least 44 = .ok (.istore 5, 2) := by decide +kernel
theorem dX8_least_46 : decode cX8_least 46 = .ok (.iload 5, 2) := by decide +kernel
theorem dX8_least_48 : decode cX8_least 48 = .ok (.aload_n 0, 1) := by decide +kernel
theorem dX8_least_49 : decode cX8_least 49 = .ok (.getfield 25, 3) := by decide +kernel
theorem dX8_least_52 : decode cX8_least 52 = .ok (.if_icmp .ge 46, 3) := by decide +kernel
theorem dX8_least_55 : decode cX8_least 55 = .ok (.iload 5, 2) := by decide +kernel
theorem dX8_least_57 : decode cX8_least 57 = .ok (.bipush 6, 2) := by decide +kernel
theorem dX8_least_59 : decode cX8_least 59 = .ok (.if_icmp .ge 39, 3) := by decide +kernel
theorem dX8_least_62 : decode cX8_least 62 = .ok (.aload_n 0, 1) := by decide +kernel
theorem dX8_least_63 : decode cX8_least 63 = .ok (.iload 5, 2) := by decide +kernel
theorem dX8_least_65 : decode cX8_least 65 = .ok (.iload_n 1, 1) := by decide +kernel
theorem dX8_least_66 : decode cX8_least 66 = .ok (.iload_n 2, 1) := by decide +kernel
theorem dX8_least_67 : decode cX8_least 67 = .ok (.invokevirtual 56, 3) := by decide +kernel
theorem dX8_least_70 : decode cX8_least 70 = .ok (.lstore 6, 2) := by decide +kernel
theorem dX8_least_72 : decode cX8_least 72 = .ok (.lload 6, 2) := by decide +kernel
theorem dX8_least_74 : decode cX8_least 74 = .ok (.lload_n 3, 1) := by decide +kernel
theorem dX8_least_75 : decode cX8_least 75 = .ok (.lcmp, 1) := by decide +kernel
theorem dX8_least_76 : decode cX8_least 76 = .ok (.ifCond .ge 16, 3) := by decide +kernel
theorem dX8_least_79 : decode cX8_least 79 = .ok (.lload 6, 2) := by decide +kernel
theorem dX8_least_81 : decode cX8_least 81 = .ok (.lstore_n 3, 1) := by decide +kernel
theorem dX8_least_82 : decode cX8_least 82 = .ok (.iload_n 1, 1) := by decide +kernel
theorem dX8_least_83 : decode cX8_least 83 = .ok (.ifCond .ne 9, 3) := by decide +kernel
theorem dX8_least_86 : decode cX8_least 86 = .ok (.aload_n 0, 1) := by decide +kernel
theorem dX8_least_87 : decode cX8_least 87 = .ok (.iload 5, 2) := by decide +kernel
theorem dX8_least_89 : decode cX8_least 89 = .ok (.putfield 32, 3) := by decide +kernel
theorem dX8_least_92 : decode cX8_least 92 = .ok (.iinc 5 1, 3) := by decide +kernel
theorem dX8_least_95 : decode cX8_least 95 = .ok (.goto (-49), 3) := by decide +kernel
theorem dX8_least_98 : decode cX8_least 98 = .ok (.lload_n 3, 1) := by decide +kernel
theorem dX8_least_99 : decode cX8_least 99 = .ok (.lreturn, 1) := by decide +kernel
theorem dX8_leastBy_0 : decode cX8_leastBy 0 = .ok (.aload_n 0, 1) := by decide +kernel
theorem dX8_leastBy_1 : decode cX8_leastBy 1 = .ok (.getfield 18, 3) := by decide +kernel
theorem dX8_leastBy_4 : decode cX8_leastBy 4 = .ok (.iload_n 1, 1) := by decide +kernel
theorem dX8_leastBy_5 : decode cX8_leastBy 5 = .ok (.iconst 4, 1) := by decide +kernel
theorem dX8_leastBy_6 : decode cX8_leastBy 6 = .ok (.imul, 1) := by decide +kernel
theorem dX8_leastBy_7 : decode cX8_leastBy 7 = .ok (.iload_n 2, 1) := by decide +kernel
theorem dX8_leastBy_8 : decode cX8_leastBy 8 = .ok (.iadd, 1) := by decide +kernel
theorem dX8_leastBy_9 : decode cX8_leastBy 9 = .ok (.iaload, 1) := by decide +kernel
theorem dX8_leastBy_10 : decode cX8_leastBy 10 = .ok (.istore 4, 2) := by decide +kernel
theorem dX8_leastBy_12 : decode cX8_leastBy 12 = .ok (.aload_n 0, 1) := by decide +kernel
theorem dX8_leastBy_13 : decode cX8_leastBy 13 = .ok (.getfield 22, 3) := by decide +kernel
theorem dX8_leastBy_16 : decode cX8_leastBy 16 = .ok (.iload_n 1, 1) := by decide +kernel
theorem dX8_leastBy_17 : decode cX8_leastBy 17 = .ok (.iaload, 1) := by decide +kernel
theorem dX8_leastBy_18 : decode cX8_leastBy 18 = .ok (.i2l, 1) := by decide +kernel
theorem dX8_leastBy_19 : decode cX8_leastBy 19 = .ok (.aload_n 0, 1) := by decide +kernel
theorem dX8_leastBy_20 : decode cX8_leastBy 20 = .ok (.getfield 12, 3) := by decide +kernel
theorem dX8_leastBy_23 : decode cX8_leastBy 23 = .ok (.iload_n 2, 1) := by decide +kernel
theorem dX8_leastBy_24 : decode cX8_leastBy 24 = .ok (.invokevirtual 60, 3) := by decide +kernel
theorem dX8_leastBy_27 : decode cX8_leastBy 27 = .ok (.lmul, 1) := by decide +kernel
theorem dX8_leastBy_28 : decode cX8_leastBy 28 = .ok (.getstatic 52, 3) := by decide +kernel
theorem dX8_leastBy_31 : decode cX8_leastBy 31 = .ok (.iload_n 3, 1) := by decide +kernel
theorem dX8_leastBy_32 : decode cX8_leastBy 32 = .ok (.laload, 1) := by decide +kernel
theorem dX8_leastBy_33 : decode cX8_leastBy 33 = .ok (.lmul, 1) := by decide +kernel
theorem dX8_leastBy_34 : decode cX8_leastBy 34 = .ok (.lstore 5, 2) := by decide +kernel
theorem dX8_leastBy_36 : decode cX8_leastBy 36 = .ok (.iload_n 3, 1) := by decide +kernel
theorem dX8_leastBy_37 : decode cX8_leastBy 37 = .ok (.iconst 1, 1) := by decide +kernel
theorem dX8_leastBy_38 : decode cX8_leastBy 38 = .ok (.if_icmp .ne 36, 3) := by decide +kernel
theorem dX8_leastBy_41 : decode cX8_leastBy 41 = .ok (.aload_n 0, 1) := by decide +kernel
theorem dX8_leastBy_42 : decode cX8_leastBy 42 = .ok (.getfield 12, 3) := by decide +kernel
theorem dX8_leastBy_45 : decode cX8_leastBy 45 = .ok (.iload_n 2, 1) := by decide +kernel
theorem dX8_leastBy_46 : decode cX8_leastBy 46 = .ok (.invokevirtual 48, 3) := by decide +kernel
theorem dX8_leastBy_49 : decode cX8_leastBy 49 = .ok (.bipush 12, 2) := by decide +kernel
theorem dX8_leastBy_51 : decode cX8_leastBy 51 = .ok (.iload 4, 2) := by decide +kernel
theorem dX8_leastBy_53 : decode cX8_leastBy 53 = .ok (.isub, 1) := by decide +kernel
theorem dX8_leastBy_54 : decode cX8_leastBy 54 = .ok (.i2l, 1) := by decide +kernel
theorem dX8_leastBy_55 : decode cX8_leastBy 55 = .ok (.lmul, 1) := by decide +kernel
theorem dX8_leastBy_56 : decode cX8_leastBy 56 = .ok (.ldc2_w 63, 3) := by decide +kernel
theorem dX8_leastBy_59 : decode cX8_leastBy 59 = .ok (.lmul, 1) := by decide +kernel
theorem dX8_leastBy_60 : decode cX8_leastBy 60 = .ok (.lstore 7, 2) := by decide +kernel
theorem dX8_leastBy_62 : decode cX8_leastBy 62 = .ok (.lload 5, 2) := by decide +kernel
theorem dX8_leastBy_64 : decode cX8_leastBy 64 = .ok (.aload_n 0, 1) := by decide +kernel
theorem dX8_leastBy_65 : decode cX8_leastBy 65 = .ok (.getfield 29, 3) := by decide +kernel
theorem dX8_leastBy_68 : decode cX8_leastBy 68 = .ok (.i2l, 1) := by decide +kernel
theorem dX8_leastBy_69 : decode cX8_leastBy 69 = .ok (.lload 7, 2) := by decide +kernel
theorem dX8_leastBy_71 : decode cX8_leastBy 71 = .ok (.lmul, 1) := by decide +kernel
theorem dX8_leastBy_72 : decode cX8_leastBy 72 = .ok (.ladd, 1) := by decide +kernel
theorem dX8_leastBy_73 : decode cX8_leastBy 73 = .ok (.lreturn, 1) := by decide +kernel
theorem dX8_leastBy_74 : decode cX8_leastBy 74 = .ok (.iconst 0, 1) := by decide +kernel
theorem dX8_leastBy_75 : decode cX8_leastBy 75 = .ok (.istore 7, 2) := by decide +kernel
theorem dX8_leastBy_77 : decode cX8_leastBy 77 = .ok (.iload 7, 2) := by decide +kernel
theorem dX8_leastBy_79 : decode cX8_leastBy 79 = .ok (.iconst 3, 1) := by decide +kernel
theorem dX8_leastBy_80 : decode cX8_leastBy 80 = .ok (.if_icmp .gt 51, 3) := by decide +kernel
theorem dX8_leastBy_83 : decode cX8_leastBy 83 = .ok (.aload_n 0, 1) := by decide +kernel
theorem dX8_leastBy_84 : decode cX8_leastBy 84 = .ok (.getfield 12, 3) := by decide +kernel
theorem dX8_leastBy_87 : decode cX8_leastBy 87 = .ok (.iload_n 2, 1) := by decide +kernel
theorem dX8_leastBy_88 : decode cX8_leastBy 88 = .ok (.iload 4, 2) := by decide +kernel
theorem dX8_leastBy_90 : decode cX8_leastBy 90 = .ok (.iload 7, 2) := by decide +kernel
theorem dX8_leastBy_92 : decode cX8_leastBy 92 = .ok (.invokevirtual 65, 3) := by decide +kernel
theorem dX8_leastBy_95 : decode cX8_leastBy 95 = .ok (.aload_n 0, 1) := by decide +kernel
theorem dX8_leastBy_96 : decode cX8_leastBy 96 = .ok (.getfield 12, 3) := by decide +kernel
theorem dX8_leastBy_99 : decode cX8_leastBy 99 = .ok (.iload_n 2, 1) := by decide +kernel
theorem dX8_leastBy_100 : decode cX8_leastBy 100 = .ok (.iconst 1, 1) := by decide +kernel
theorem dX8_leastBy_101 : decode cX8_leastBy 101 = .ok (.iadd, 1) := by decide +kernel
theorem dX8_leastBy_102 : decode cX8_leastBy 102 = .ok (.invokevirtual 48, 3) := by decide +kernel
theorem dX8_leastBy_105 : decode cX8_leastBy 105 = .ok (.lconst 0, 1) := by decide +kernel
theorem dX8_leastBy_106 : decode cX8_leastBy 106 = .ok (.lcmp, 1) := by decide +kernel
theorem dX8_leastBy_107 : decode cX8_leastBy 107 = .ok (.ifCond .le 18, 3) := by decide +kernel
theorem dX8_leastBy_110 : decode cX8_leastBy 110 = .ok (.lload 5, 2) := by decide +kernel
theorem dX8_leastBy_112 : decode cX8_leastBy 112 = .ok (.aload_n 0, 1) := by decide +kernel
theorem dX8_leastBy_113 : decode cX8_leastBy 113 = .ok (.iload_n 2, 1) := by decide +kernel
theorem dX8_leastBy_114 : decode cX8_leastBy 114 = .ok (.iconst 1, 1) := by decide +kernel
theorem dX8_leastBy_115 : decode cX8_leastBy 115 = .ok (.iadd, 1) := by decide +kernel
theorem dX8_leastBy_116 : decode cX8_leastBy 116 = .ok (.iload_n 3, 1) := by decide +kernel
theorem dX8_leastBy_117 : decode cX8_leastBy 117 = .ok (.iconst 1, 1) := by decide +kernel
theorem dX8_leastBy_118 : decode cX8_leastBy 118 = .ok (.isub, 1) := by decide +kernel
theorem dX8_leastBy_119 : decode cX8_leastBy 119 = .ok (.invokevirtual 44, 3) := by decide +kernel
theorem dX8_leastBy_122 : decode cX8_leastBy 122 = .ok (.ladd, 1) := by decide +kernel
theorem dX8_leastBy_123 : decode cX8_leastBy 123 = .ok (.lstore 5, 2) := by decide +kernel
theorem dX8_leastBy_125 : decode cX8_leastBy 125 = .ok (.iinc 7 1, 3) := by decide +kernel
theorem dX8_leastBy_128 : decode cX8_leastBy 128 = .ok (.goto (-51), 3) := by decide +kernel
theorem dX8_leastBy_131 : decode cX8_leastBy 131 = .ok (.lload 5, 2) := by decide +kernel
theorem dX8_leastBy_133 : decode cX8_leastBy 133 = .ok (.lreturn, 1) := by decide +kernel
theorem dX9_init_0 : decode cX9_init 0 = .ok (.aload_n 0, 1) := by decide +kernel
theorem dX9_init_1 : decode cX9_init 1 = .ok (.invokespecial 3, 3) := by decide +kernel
theorem dX9_init_4 : decode cX9_init 4 = .ok (.aload_n 0, 1) := by decide +kernel
theorem dX9_init_5 : decode cX9_init 5 = .ok (.iconst 0, 1) := by decide +kernel
theorem dX9_init_6 : decode cX9_init 6 = .ok (.putfield 11, 3) := by decide +kernel
theorem dX9_init_9 : decode cX9_init 9 = .ok (.aload_n 0, 1) := by decide +kernel
theorem dX9_init_10 : decode cX9_init 10 = .ok (.iconst (-1), 1) := by decide +kernel
theorem dX9_init_11 : decode cX9_init 11 = .ok (.putfield 15, 3) := by decide +kernel
theorem dX9_init_14 : decode cX9_init 14 = .ok (.aload_n 0, 1) := by decide +kernel
theorem dX9_init_15 : decode cX9_init 15 = .ok (.iconst 0, 1) := by decide +kernel
theorem dX9_init_16 : decode cX9_init 16 = .ok (.putfield 18, 3) := by decide +kernel
theorem dX9_init_19 : decode cX9_init 19 = .ok (.aload_n 0, 1) := by decide +kernel
theorem dX9_init_20 : decode cX9_init 20 = .ok (.iconst 0, 1) := by decide +kernel
theorem dX9_init_21 : decode cX9_init 21 = .ok (.putfield 21, 3) := by decide +kernel
theorem dX9_init_24 : decode cX9_init 24 = .ok (.aload_n 0, 1) := by decide +kernel
theorem dX9_init_25 : decode cX9_init 25 = .ok (.bipush 60, 2) := by decide +kernel
theorem dX9_init_27 : decode cX9_init 27 = .ok (.newarray .long, 2) := by decide +kernel
theorem dX9_init_29 : decode cX9_init 29 = .ok (.putfield 24, 3) := by decide +kernel
theorem dX9_init_32 : decode cX9_init 32 = .ok (.return_, 1) := by decide +kernel
theorem dX9_isEmpty_0 : decode cX9_isEmpty 0 = .ok (.aload_n 0, 1) := by decide +kernel
theorem dX9_isEmpty_1 : decode cX9_isEmpty 1 = .ok (.getfield 11, 3) := by decide +kernel
theorem dX9_isEmpty_4 : decode cX9_isEmpty 4 = .ok (.ifCond .ne 7, 3) := by decide +kernel
theorem dX9_isEmpty_7 : decode cX9_isEmpty 7 = .ok (.iconst 1, 1) := by decide +kernel
theorem dX9_isEmpty_8 : decode cX9_isEmpty 8 = .ok (.goto 4, 3) := by decide +kernel
theorem dX9_isEmpty_11 : decode cX9_isEmpty 11 = .ok (.iconst 0, 1) := by decide +kernel
theorem dX9_isEmpty_12 : decode cX9_isEmpty 12 = .ok (.ireturn, 1) := by decide +kernel
theorem dX9_isRow_0 : decode cX9_isRow 0 = .ok (.aload_n 0, 1) := by decide +kernel
theorem dX9_isRow_1 : decode cX9_isRow 1 = .ok (.getfield 11, 3) := by decide +kernel
theorem dX9_isRow_4 : decode cX9_isRow 4 = .ok (.iconst 2, 1) := by decide +kernel
theorem dX9_isRow_5 : decode cX9_isRow 5 = .ok (.if_icmp .ne 7, 3) := by decide +kernel
theorem dX9_isRow_8 : decode cX9_isRow 8 = .ok (.iconst 1, 1) := by decide +kernel
theorem dX9_isRow_9 : decode cX9_isRow 9 = .ok (.goto 4, 3) := by decide +kernel
theorem dX9_isRow_12 : decode cX9_isRow 12 = .ok (.iconst 0, 1) := by decide +kernel
theorem dX9_isRow_13 : decode cX9_isRow 13 = .ok (.ireturn, 1) := by decide +kernel
theorem dX9_isBytes_0 : decode cX9_isBytes 0 = .ok (.aload_n 0, 1) := by decide +kernel
theorem dX9_isBytes_1 : decode cX9_isBytes 1 = .ok (.getfield 11, 3) := by decide +kernel
theorem dX9_isBytes_4 : decode cX9_isBytes 4 = .ok (.iconst 2, 1) := by decide +kernel
theorem dX9_isBytes_5 : decode cX9_isBytes 5 = .ok (.if_icmp .ne 14, 3) := by decide +kernel
theorem dX9_isBytes_8 : decode cX9_isBytes 8 = .ok (.aload_n 0, 1) := by decide +kernel
theorem dX9_isBytes_9 : decode cX9_isBytes 9 = .ok (.getfield 18, 3) := by decide +kernel
theorem dX9_isBytes_12 : decode cX9_isBytes 12 = .ok (.ifCond .ne 7, 3) := by decide +kernel
theorem dX9_isBytes_15 : decode cX9_isBytes 15 = .ok (.iconst 1, 1) := by decide +kernel
theorem dX9_isBytes_16 : decode cX9_isBytes 16 = .ok (.goto 4, 3) := by decide +kernel
theorem dX9_isBytes_19 : decode cX9_isBytes 19 = .ok (.iconst 0, 1) := by decide +kernel
theorem dX9_isBytes_20 : decode cX9_isBytes 20 = .ok (.ireturn, 1) := by decide +kernel
theorem dX9_refusalAsBytes_0 : decode cX9_refusalAsBytes 0 = .ok (.aload_n 0, 1) := by decide +kernel
theorem dX9_refusalAsBytes_1 : decode cX9_refusalAsBytes 1 = .ok (.invokevirtual 28, 3) := by decide +kernel
theorem dX9_refusalAsBytes_4 : decode cX9_refusalAsBytes 4 = .ok (.ifCond .eq 8, 3) := by decide +kernel
theorem dX9_refusalAsBytes_7 : decode cX9_refusalAsBytes 7 = .ok (.bipush (-11), 2) := by decide +kernel
theorem dX9_refusalAsBytes_9 : decode cX9_refusalAsBytes 9 = .ok (.goto 16, 3) := by decide +kernel
theorem dX9_refusalAsBytes_12 : decode cX9_refusalAsBytes 12 = .ok (.aload_n 0, 1) := by decide +kernel
theorem dX9_refusalAsBytes_13 : decode cX9_refusalAsBytes 13 = .ok (.invokevirtual 32, 3) := by decide +kernel
theorem dX9_refusalAsBytes_16 : decode cX9_refusalAsBytes 16 = .ok (.ifCond .eq 7, 3) := by decide +kernel
theorem dX9_refusalAsBytes_19 : decode cX9_refusalAsBytes 19 = .ok (.iconst 0, 1) := by decide +kernel
theorem dX9_refusalAsBytes_20 : decode cX9_refusalAsBytes 20 = .ok (.goto 5, 3) := by decide +kernel
theorem dX9_refusalAsBytes_23 : decode cX9_refusalAsBytes 23 = .ok (.bipush (-12), 2) := by decide +kernel
theorem dX9_refusalAsBytes_25 : decode cX9_refusalAsBytes 25 = .ok (.ireturn, 1) := by decide +kernel
theorem dX9_hasPlace_0 : decode cX9_hasPlace 0 = .ok (.iload_n 1, 1) := by decide +kernel
theorem dX9_hasPlace_1 : decode cX9_hasPlace 1 = .ok (.ifCond .lt 15, 3) := by decide +kernel
theorem dX9_hasPlace_4 : decode cX9_hasPlace 4 = .ok (.iload_n 1, 1) := by decide +kernel
theorem dX9_hasPlace_5 : decode cX9_hasPlace 5 = .ok (.aload_n 0, 1) := by decide +kernel
theorem dX9_hasPlace_6 : decode cX9_hasPlace 6 = .ok (.getfield 21, 3) := by decide +kernel
theorem dX9_hasPlace_9 : decode cX9_hasPlace 9 = .ok (.if_icmp .ge 7, 3) := by decide +kernel
theorem dX9_hasPlace_12 : decode cX9_hasPlace 12 = .ok (.iconst 1, 1) := by decide +kernel
theorem dX9_hasPlace_13 : decode cX9_hasPlace 13 = .ok (.goto 4, 3) := by decide +kernel
theorem dX9_hasPlace_16 : decode cX9_hasPlace 16 = .ok (.iconst 0, 1) := by decide +kernel
theorem dX9_hasPlace_17 : decode cX9_hasPlace 17 = .ok (.ireturn, 1) := by decide +kernel
theorem dX9_hasPlaces_0 : decode cX9_hasPlaces 0 = .ok (.iload_n 1, 1) := by decide +kernel
theorem dX9_hasPlaces_1 : decode cX9_hasPlaces 1 = .ok (.ifCond .lt 29, 3) := by decide +kernel
theorem dX9_hasPlaces_4 : decode cX9_hasPlaces 4 = .ok (.iload_n 2, 1) := by decide +kernel
theorem dX9_hasPlaces_5 : decode cX9_hasPlaces 5 = .ok (.ifCond .lt 25, 3) := by decide +kernel
theorem dX9_hasPlaces_8 : decode cX9_hasPlaces 8 = .ok (.iload_n 2, 1) := by decide +kernel
theorem dX9_hasPlaces_9 : decode cX9_hasPlaces 9 = .ok (.aload_n 0, 1) := by decide +kernel
theorem dX9_hasPlaces_10 : decode cX9_hasPlaces 10 = .ok (.getfield 21, 3) := by decide +kernel
theorem dX9_hasPlaces_13 : decode cX9_hasPlaces 13 = .ok (.if_icmp .gt 17, 3) := by decide +kernel
theorem dX9_hasPlaces_16 : decode cX9_hasPlaces 16 = .ok (.iload_n 1, 1) := by decide +kernel
theorem dX9_hasPlaces_17 : decode cX9_hasPlaces 17 = .ok (.aload_n 0, 1) := by decide +kernel
theorem dX9_hasPlaces_18 : decode cX9_hasPlaces 18 = .ok (.getfield 21, 3) := by decide +kernel
theorem dX9_hasPlaces_21 : decode cX9_hasPlaces 21 = .ok (.iload_n 2, 1) := by decide +kernel
theorem dX9_hasPlaces_22 : decode cX9_hasPlaces 22 = .ok (.isub, 1) := by decide +kernel
theorem dX9_hasPlaces_23 : decode cX9_hasPlaces 23 = .ok (.if_icmp .gt 7, 3) := by decide +kernel
theorem dX9_hasPlaces_26 : decode cX9_hasPlaces 26 = .ok (.iconst 1, 1) := by decide +kernel
theorem dX9_hasPlaces_27 : decode cX9_hasPlaces 27 = .ok (.goto 4, 3) := by decide +kernel
theorem dX9_hasPlaces_30 : decode cX9_hasPlaces 30 = .ok (.iconst 0, 1) := by decide +kernel
theorem dX9_hasPlaces_31 : decode cX9_hasPlaces 31 = .ok (.ireturn, 1) := by decide +kernel
theorem dX9_holdNothing_0 : decode cX9_holdNothing 0 = .ok (.aload_n 0, 1) := by decide +kernel
theorem dX9_holdNothing_1 : decode cX9_holdNothing 1 = .ok (.iconst 0, 1) := by decide +kernel
theorem dX9_holdNothing_2 : decode cX9_holdNothing 2 = .ok (.putfield 11, 3) := by decide +kernel
theorem dX9_holdNothing_5 : decode cX9_holdNothing 5 = .ok (.return_, 1) := by decide +kernel
theorem dX9_holdBody_0 : decode cX9_holdBody 0 = .ok (.aload_n 0, 1) := by decide +kernel
theorem dX9_holdBody_1 : decode cX9_holdBody 1 = .ok (.iconst 1, 1) := by decide +kernel
theorem dX9_holdBody_2 : decode cX9_holdBody 2 = .ok (.putfield 11, 3) := by decide +kernel
theorem dX9_holdBody_5 : decode cX9_holdBody 5 = .ok (.aload_n 0, 1) := by decide +kernel
theorem dX9_holdBody_6 : decode cX9_holdBody 6 = .ok (.iload_n 1, 1) := by decide +kernel
theorem dX9_holdBody_7 : decode cX9_holdBody 7 = .ok (.putfield 15, 3) := by decide +kernel
theorem dX9_holdBody_10 : decode cX9_holdBody 10 = .ok (.return_, 1) := by decide +kernel
theorem dX9_holdRow_0 : decode cX9_holdRow 0 = .ok (.iload_n 2, 1) := by decide +kernel
theorem dX9_holdRow_1 : decode cX9_holdRow 1 = .ok (.ifCond .lt 9, 3) := by decide +kernel
theorem dX9_holdRow_4 : decode cX9_holdRow 4 = .ok (.iload_n 2, 1) := by decide +kernel
theorem dX9_holdRow_5 : decode cX9_holdRow 5 = .ok (.bipush 60, 2) := by decide +kernel
theorem dX9_holdRow_7 : decode cX9_holdRow 7 = .ok (.if_icmp .le 4, 3) := by decide +kernel
theorem dX9_holdRow_10 : decode cX9_holdRow 10 = .ok (.return_, 1) := by decide +kernel
theorem dX9_holdRow_11 : decode cX9_holdRow 11 = .ok (.aload_n 0, 1) := by decide +kernel
theorem dX9_holdRow_12 : decode cX9_holdRow 12 = .ok (.iconst 2, 1) := by decide +kernel
theorem dX9_holdRow_13 : decode cX9_holdRow 13 = .ok (.putfield 11, 3) := by decide +kernel
theorem dX9_holdRow_16 : decode cX9_holdRow 16 = .ok (.aload_n 0, 1) := by decide +kernel
theorem dX9_holdRow_17 : decode cX9_holdRow 17 = .ok (.iload_n 1, 1) := by decide +kernel
theorem dX9_holdRow_18 : decode cX9_holdRow 18 = .ok (.putfield 18, 3) := by decide +kernel
theorem dX9_holdRow_21 : decode cX9_holdRow 21 = .ok (.aload_n 0, 1) := by decide +kernel
theorem dX9_holdRow_22 : decode cX9_holdRow 22 = .ok (.iload_n 2, 1) := by decide +kernel
theorem dX9_holdRow_23 : decode cX9_holdRow 23 = .ok (.putfield 21, 3) := by decide +kernel
theorem dX9_holdRow_26 : decode cX9_holdRow 26 = .ok (.iconst 0, 1) := by decide +kernel
theorem dX9_holdRow_27 : decode cX9_holdRow 27 = .ok (.istore_n 3, 1) := by decide +kernel
theorem dX9_holdRow_28 : decode cX9_holdRow 28 = .ok (.iload_n 3, 1) := by decide +kernel
theorem dX9_holdRow_29 : decode cX9_holdRow 29 = .ok (.bipush 60, 2) := by decide +kernel
theorem dX9_holdRow_31 : decode cX9_holdRow 31 = .ok (.if_icmp .ge 16, 3) := by decide +kernel
theorem dX9_holdRow_34 : decode cX9_holdRow 34 = .ok (.aload_n 0, 1) := by decide +kernel
theorem dX9_holdRow_35 : decode cX9_holdRow 35 = .ok (.getfield 24, 3) := by decide +kernel
theorem dX9_holdRow_38 : decode cX9_holdRow 38 = .ok (.iload_n 3, 1) := by decide +kernel
theorem dX9_holdRow_39 : decode cX9_holdRow 39 = .ok (.lconst 0, 1) := by decide +kernel
theorem dX9_holdRow_40 : decode cX9_holdRow 40 = .ok (.lastore, 1) := by decide +kernel
theorem dX9_holdRow_41 : decode cX9_holdRow 41 = .ok (.iinc 3 1, 3) := by decide +kernel
theorem dX9_holdRow_44 : decode cX9_holdRow 44 = .ok (.goto (-16), 3) := by decide +kernel
theorem dX9_holdRow_47 : decode cX9_holdRow 47 = .ok (.return_, 1) := by decide +kernel
theorem dX9_read_0 : decode cX9_read 0 = .ok (.aload_n 0, 1) := by decide +kernel
theorem dX9_read_1 : decode cX9_read 1 = .ok (.iload_n 1, 1) := by decide +kernel
theorem dX9_read_2 : decode cX9_read 2 = .ok (.invokevirtual 35, 3) := by decide +kernel
theorem dX9_read_5 : decode cX9_read 5 = .ok (.ifCond .eq 12, 3) := by decide +kernel
theorem dX9_read_8 : decode cX9_read 8 = .ok (.aload_n 0, 1) := by decide +kernel
theorem dX9_read_9 : decode cX9_read 9 = .ok (.getfield 24, 3) := by decide +kernel
theorem dX9_read_12 : decode cX9_read 12 = .ok (.iload_n 1, 1) := by decide +kernel
theorem dX9_read_13 : decode cX9_read 13 = .ok (.laload, 1) := by decide +kernel
theorem dX9_read_14 : decode cX9_read 14 = .ok (.goto 4, 3) := by decide +kernel
theorem dX9_read_17 : decode cX9_read 17 = .ok (.lconst 0, 1) := by decide +kernel
theorem dX9_read_18 : decode cX9_read 18 = .ok (.lreturn, 1) := by decide +kernel
theorem dX9_write_0 : decode cX9_write 0 = .ok (.aload_n 0, 1) := by decide +kernel
theorem dX9_write_1 : decode cX9_write 1 = .ok (.iload_n 1, 1) := by decide +kernel
theorem dX9_write_2 : decode cX9_write 2 = .ok (.invokevirtual 35, 3) := by decide +kernel
theorem dX9_write_5 : decode cX9_write 5 = .ok (.ifCond .eq 14, 3) := by decide +kernel
theorem dX9_write_8 : decode cX9_write 8 = .ok (.aload_n 0, 1) := by decide +kernel
theorem dX9_write_9 : decode cX9_write 9 = .ok (.getfield 24, 3) := by decide +kernel
theorem dX9_write_12 : decode cX9_write 12 = .ok (.iload_n 1, 1) := by decide +kernel
theorem dX9_write_13 : decode cX9_write 13 = .ok (.aload_n 0, 1) := by decide +kernel
theorem dX9_write_14 : decode cX9_write 14 = .ok (.lload_n 2, 1) := by decide +kernel
theorem dX9_write_15 : decode cX9_write 15 = .ok (.invokevirtual 39, 3) := by decide +kernel
theorem dX9_write_18 : decode cX9_write 18 = .ok (.lastore, 1) := by decide +kernel
theorem dX9_write_19 : decode cX9_write 19 = .ok (.return_, 1) := by decide +kernel
theorem dX9_cut_0 : decode cX9_cut 0 = .ok (.aload_n 0, 1) := by decide +kernel
theorem dX9_cut_1 : decode cX9_cut 1 = .ok (.getfield 18, 3) := by decide +kernel
theorem dX9_cut_4 : decode cX9_cut 4 = .ok (.tableswitch 62 0 4 #[36, 41, 46, 62, 50], 36) := by decide +kernel
theorem dX9_cut_40 : decode cX9_cut 40 = .ok (.lload_n 1, 1) := by decide +kernel
theorem dX9_cut_41 : decode cX9_cut 41 = .ok (.l2i, 1) := by decide +kernel
theorem dX9_cut_42 : decode cX9_cut 42 = .ok (.i2b, 1) := by decide +kernel
theorem dX9_cut_43 : decode cX9_cut 43 = .ok (.i2l, 1) := by decide +kernel
theorem dX9_cut_44 : decode cX9_cut 44 = .ok (.lreturn, 1) := by decide +kernel
theorem dX9_cut_45 : decode cX9_cut 45 = .ok (.lload_n 1, 1) := by decide +kernel
theorem dX9_cut_46 : decode cX9_cut 46 = .ok (.l2i, 1) := by decide +kernel
theorem dX9_cut_47 : decode cX9_cut 47 = .ok (.i2s, 1) := by decide +kernel
theorem dX9_cut_48 : decode cX9_cut 48 = .ok (.i2l, 1) := by decide +kernel
theorem dX9_cut_49 : decode cX9_cut 49 = .ok (.lreturn, 1) := by decide +kernel
theorem dX9_cut_50 : decode cX9_cut 50 = .ok (.lload_n 1, 1) := by decide +kernel
theorem dX9_cut_51 : decode cX9_cut 51 = .ok (.l2i, 1) := by decide +kernel
theorem dX9_cut_52 : decode cX9_cut 52 = .ok (.i2l, 1) := by decide +kernel
theorem dX9_cut_53 : decode cX9_cut 53 = .ok (.lreturn, 1) := by decide +kernel
theorem dX9_cut_54 : decode cX9_cut 54 = .ok (.lload_n 1, 1) := by decide +kernel
theorem dX9_cut_55 : decode cX9_cut 55 = .ok (.lconst 0, 1) := by decide +kernel
theorem dX9_cut_56 : decode cX9_cut 56 = .ok (.lcmp, 1) := by decide +kernel
theorem dX9_cut_57 : decode cX9_cut 57 = .ok (.ifCond .eq 7, 3) := by decide +kernel
theorem dX9_cut_60 : decode cX9_cut 60 = .ok (.lconst 1, 1) := by decide +kernel
theorem dX9_cut_61 : decode cX9_cut 61 = .ok (.goto 4, 3) := by decide +kernel
theorem dX9_cut_64 : decode cX9_cut 64 = .ok (.lconst 0, 1) := by decide +kernel
theorem dX9_cut_65 : decode cX9_cut 65 = .ok (.lreturn, 1) := by decide +kernel
theorem dX9_cut_66 : decode cX9_cut 66 = .ok (.lload_n 1, 1) := by decide +kernel
theorem dX9_cut_67 : decode cX9_cut 67 = .ok (.lreturn, 1) := by decide +kernel
theorem dX9_copyTo_0 : decode cX9_copyTo 0 = .ok (.aload_n 0, 1) := by decide +kernel
theorem dX9_copyTo_1 : decode cX9_copyTo 1 = .ok (.iload_n 1, 1) := by decide +kernel
theorem dX9_copyTo_2 : decode cX9_copyTo 2 = .ok (.iload 4, 2) := by decide +kernel
theorem dX9_copyTo_4 : decode cX9_copyTo 4 = .ok (.invokevirtual 43, 3) := by decide +kernel
theorem dX9_copyTo_7 : decode cX9_copyTo 7 = .ok (.ifCond .eq 28, 3) := by decide +kernel
theorem dX9_copyTo_10 : decode cX9_copyTo 10 = .ok (.aload_n 2, 1) := by decide +kernel
theorem dX9_copyTo_11 : decode cX9_copyTo 11 = .ok (.iload_n 3, 1) := by decide +kernel
theorem dX9_copyTo_12 : decode cX9_copyTo 12 = .ok (.iload 4, 2) := by decide +kernel
theorem dX9_copyTo_14 : decode cX9_copyTo 14 = .ok (.invokevirtual 43, 3) := by decide +kernel
theorem dX9_copyTo_17 : decode cX9_copyTo 17 = .ok (.ifCond .eq 18, 3) := by decide +kernel
theorem dX9_copyTo_20 : decode cX9_copyTo 20 = .ok (.aload_n 0, 1) := by decide +kernel
theorem dX9_copyTo_21 : decode cX9_copyTo 21 = .ok (.getfield 24, 3) := by decide +kernel
theorem dX9_copyTo_24 : decode cX9_copyTo 24 = .ok (.iload_n 1, 1) := by decide +kernel
theorem dX9_copyTo_25 : decode cX9_copyTo 25 = .ok (.aload_n 2, 1) := by decide +kernel
theorem dX9_copyTo_26 : decode cX9_copyTo 26 = .ok (.getfield 24, 3) := by decide +kernel
theorem dX9_copyTo_29 : decode cX9_copyTo 29 = .ok (.iload_n 3, 1) := by decide +kernel
theorem dX9_copyTo_30 : decode cX9_copyTo 30 = .ok (.iload 4, 2) := by decide +kernel
theorem dX9_copyTo_32 : decode cX9_copyTo 32 = .ok (.invokestatic 47, 3) := by decide +kernel
theorem dX9_copyTo_35 : decode cX9_copyTo 35 = .ok (.return_, 1) := by decide +kernel
theorem dX10_init_0 : decode cX10_init 0 = .ok (.aload_n 0, 1) := by decide +kernel
theorem dX10_init_1 : decode cX10_init 1 = .ok (.invokespecial 3, 3) := by decide +kernel
theorem dX10_init_4 : decode cX10_init 4 = .ok (.aload_n 0, 1) := by decide +kernel
theorem dX10_init_5 : decode cX10_init 5 = .ok (.new 9, 3) := by decide +kernel
theorem dX10_init_8 : decode cX10_init 8 = .ok (.dup, 1) := by decide +kernel
theorem dX10_init_9 : decode cX10_init 9 = .ok (.invokespecial 11, 3) := by decide +kernel
theorem dX10_init_12 : decode cX10_init 12 = .ok (.putfield 12, 3) := by decide +kernel
theorem dX10_init_15 : decode cX10_init 15 = .ok (.aload_n 0, 1) := by decide +kernel
theorem dX10_init_16 : decode cX10_init 16 = .ok (.bipush 24, 2) := by decide +kernel
theorem dX10_init_18 : decode cX10_init 18 = .ok (.newarray .int, 2) := by decide +kernel
theorem dX10_init_20 : decode cX10_init 20 = .ok (.putfield 18, 3) := by decide +kernel
theorem dX10_init_23 : decode cX10_init 23 = .ok (.aload_n 0, 1) := by decide +kernel
theorem dX10_init_24 : decode cX10_init 24 = .ok (.iconst 4, 1) := by decide +kernel
theorem dX10_init_25 : decode cX10_init 25 = .ok (.newarray .int, 2) := by decide +kernel
theorem dX10_init_27 : decode cX10_init 27 = .ok (.putfield 22, 3) := by decide +kernel
theorem dX10_init_30 : decode cX10_init 30 = .ok (.aload_n 0, 1) := by decide +kernel
theorem dX10_init_31 : decode cX10_init 31 = .ok (.iconst 4, 1) := by decide +kernel
theorem dX10_init_32 : decode cX10_init 32 = .ok (.newarray .int, 2) := by decide +kernel
theorem dX10_init_34 : decode cX10_init 34 = .ok (.putfield 25, 3) := by decide +kernel
theorem dX10_init_37 : decode cX10_init 37 = .ok (.aload_n 0, 1) := by decide +kernel
theorem dX10_init_38 : decode cX10_init 38 = .ok (.iconst 4, 1) := by decide +kernel
theorem dX10_init_39 : decode cX10_init 39 = .ok (.newarray .int, 2) := by decide +kernel
theorem dX10_init_41 : decode cX10_init 41 = .ok (.putfield 28, 3) := by decide +kernel
theorem dX10_init_44 : decode cX10_init 44 = .ok (.aload_n 0, 1) := by decide +kernel
theorem dX10_init_45 : decode cX10_init 45 = .ok (.iconst 4, 1) := by decide +kernel
theorem dX10_init_46 : decode cX10_init 46 = .ok (.newarray .int, 2) := by decide +kernel
theorem dX10_init_48 : decode cX10_init 48 = .ok (.putfield 31, 3) := by decide +kernel
theorem dX10_init_51 : decode cX10_init 51 = .ok (.aload_n 0, 1) := by decide +kernel
theorem dX10_init_52 : decode cX10_init 52 = .ok (.iconst 0, 1) := by decide +kernel
theorem dX10_init_53 : decode cX10_init 53 = .ok (.putfield 34, 3) := by decide +kernel
theorem dX10_init_56 : decode cX10_init 56 = .ok (.aload_n 0, 1) := by decide +kernel
theorem dX10_init_57 : decode cX10_init 57 = .ok (.iconst 0, 1) := by decide +kernel
theorem dX10_init_58 : decode cX10_init 58 = .ok (.putfield 38, 3) := by decide +kernel
theorem dX10_init_61 : decode cX10_init 61 = .ok (.aload_n 0, 1) := by decide +kernel
theorem dX10_init_62 : decode cX10_init 62 = .ok (.iconst 0, 1) := by decide +kernel
theorem dX10_init_63 : decode cX10_init 63 = .ok (.putfield 41, 3) := by decide +kernel
theorem dX10_init_66 : decode cX10_init 66 = .ok (.aload_n 0, 1) := by decide +kernel
theorem dX10_init_67 : decode cX10_init 67 = .ok (.lconst 0, 1) := by decide +kernel
theorem dX10_init_68 : decode cX10_init 68 = .ok (.putfield 44, 3) := by decide +kernel
theorem dX10_init_71 : decode cX10_init 71 = .ok (.return_, 1) := by decide +kernel
theorem dX10_hear_0 : decode cX10_hear 0 = .ok (.aload_n 0, 1) := by decide +kernel
theorem dX10_hear_1 : decode cX10_hear 1 = .ok (.iconst 0, 1) := by decide +kernel
theorem dX10_hear_2 : decode cX10_hear 2 = .ok (.putfield 34, 3) := by decide +kernel
theorem dX10_hear_5 : decode cX10_hear 5 = .ok (.aload_n 0, 1) := by decide +kernel
theorem dX10_hear_6 : decode cX10_hear 6 = .ok (.iload_n 2, 1) := by decide +kernel
theorem dX10_hear_7 : decode cX10_hear 7 = .ok (.putfield 38, 3) := by decide +kernel
theorem dX10_hear_10 : decode cX10_hear 10 = .ok (.aload_n 0, 1) := by decide +kernel
theorem dX10_hear_11 : decode cX10_hear 11 = .ok (.iconst 0, 1) := by decide +kernel
theorem dX10_hear_12 : decode cX10_hear 12 = .ok (.putfield 41, 3) := by decide +kernel
theorem dX10_hear_15 : decode cX10_hear 15 = .ok (.aload_n 0, 1) := by decide +kernel
theorem dX10_hear_16 : decode cX10_hear 16 = .ok (.lconst 0, 1) := by decide +kernel
theorem dX10_hear_17 : decode cX10_hear 17 = .ok (.putfield 44, 3) := by decide +kernel
theorem dX10_hear_20 : decode cX10_hear 20 = .ok (.aload_n 0, 1) := by decide +kernel
theorem dX10_hear_21 : decode cX10_hear 21 = .ok (.getfield 34, 3) := by decide +kernel
theorem dX10_hear_24 : decode cX10_hear 24 = .ok (.iconst 4, 1) := by decide +kernel
theorem dX10_hear_25 : decode cX10_hear 25 = .ok (.if_icmp .ge 24, 3) := by decide +kernel
theorem dX10_hear_28 : decode cX10_hear 28 = .ok (.aload_n 0, 1) := by decide +kernel
theorem dX10_hear_29 : decode cX10_hear 29 = .ok (.aload_n 1, 1) := by decide +kernel
theorem dX10_hear_30 : decode cX10_hear 30 = .ok (.invokevirtual 48, 3) := by decide +kernel
theorem dX10_hear_33 : decode cX10_hear 33 = .ok (.ifCond .eq 16, 3) := by decide +kernel
theorem dX10_hear_36 : decode cX10_hear 36 = .ok (.aload_n 0, 1) := by decide +kernel
theorem dX10_hear_37 : decode cX10_hear 37 = .ok (.dup, 1) := by decide +kernel
theorem dX10_hear_38 : decode cX10_hear 38 = .ok (.getfield 34, 3) := by decide +kernel
theorem dX10_hear_41 : decode cX10_hear 41 = .ok (.iconst 1, 1) := by decide +kernel
theorem dX10_hear_42 : decode cX10_hear 42 = .ok (.iadd, 1) := by decide +kernel
theorem dX10_hear_43 : decode cX10_hear 43 = .ok (.putfield 34, 3) := by decide +kernel
theorem dX10_hear_46 : decode cX10_hear 46 = .ok (.goto (-26), 3) := by decide +kernel
theorem dX10_hear_49 : decode cX10_hear 49 = .ok (.aload_n 0, 1) := by decide +kernel
theorem dX10_hear_50 : decode cX10_hear 50 = .ok (.iconst 0, 1) := by decide +kernel
theorem dX10_hear_51 : decode cX10_hear 51 = .ok (.invokevirtual 52, 3) := by decide +kernel
theorem dX10_hear_54 : decode cX10_hear 54 = .ok (.return_, 1) := by decide +kernel
theorem dX10_hearOne_0 : decode cX10_hearOne 0 = .ok (.aload_n 1, 1) := by decide +kernel
theorem dX10_hearOne_1 : decode cX10_hearOne 1 = .ok (.aload_n 0, 1) := by decide +kernel
theorem dX10_hearOne_2 : decode cX10_hearOne 2 = .ok (.getfield 34, 3) := by decide +kernel
theorem dX10_hearOne_5 : decode cX10_hearOne 5 = .ok (.invokevirtual 56, 3) := by decide +kernel
theorem dX10_hearOne_8 : decode cX10_hearOne 8 = .ok (.ifCond .eq 17, 3) := by decide +kernel
theorem dX10_hearOne_11 : decode cX10_hearOne 11 = .ok (.aload_n 1, 1) := by decide +kernel
theorem dX10_hearOne_12 : decode cX10_hearOne 12 = .ok (.aload_n 0, 1) := by decide +kernel
theorem dX10_hearOne_13 : decode cX10_hearOne 13 = .ok (.getfield 34, 3) := by decide +kernel
theorem dX10_hearOne_16 : decode cX10_hearOne 16 = .ok (.invokevirtual 62, 3) := by decide +kernel
theorem dX10_hearOne_19 : decode cX10_hearOne 19 = .ok (.invokestatic 66, 3) := by decide +kernel
theorem dX10_hearOne_22 : decode cX10_hearOne 22 = .ok (.ifCond .ne 5, 3) := by decide +kernel
theorem dX10_hearOne_25 : decode cX10_hearOne 25 = .ok (.iconst 0, 1) := by decide +kernel
theorem dX10_hearOne_26 : decode cX10_hearOne 26 = .ok (.ireturn, 1) := by decide +kernel
theorem dX10_hearOne_27 : decode cX10_hearOne 27 = .ok (.aload_n 0, 1) := by decide +kernel
theorem dX10_hearOne_28 : decode cX10_hearOne 28 = .ok (.getfield 22, 3) := by decide +kernel
theorem dX10_hearOne_31 : decode cX10_hearOne 31 = .ok (.aload_n 0, 1) := by decide +kernel
theorem dX10_hearOne_32 : decode cX10_hearOne 32 = .ok (.getfield 34, 3) := by decide +kernel
theorem dX10_hearOne_35 : decode cX10_hearOne 35 = .ok (.aload_n 1, 1) := by decide +kernel
theorem dX10_hearOne_36 : decode cX10_hearOne 36 = .ok (.aload_n 0, 1) := by decide +kernel
theorem dX10_hearOne_37 : decode cX10_hearOne 37 = .ok (.getfield 34, 3) := by decide +kernel
theorem dX10_hearOne_40 : decode cX10_hearOne 40 = .ok (.invokevirtual 62, 3) := by decide +kernel
theorem dX10_hearOne_43 : decode cX10_hearOne 43 = .ok (.l2i, 1) := by decide +kernel
theorem dX10_hearOne_44 : decode cX10_hearOne 44 = .ok (.iastore, 1) := by decide +kernel
theorem dX10_hearOne_45 : decode cX10_hearOne 45 = .ok (.aload_n 0, 1) := by decide +kernel
theorem dX10_hearOne_46 : decode cX10_hearOne 46 = .ok (.getfield 28, 3) := by decide +kernel
theorem dX10_hearOne_49 : decode cX10_hearOne 49 = .ok (.aload_n 0, 1) := by decide +kernel
theorem dX10_hearOne_50 : decode cX10_hearOne 50 = .ok (.getfield 34, 3) := by decide +kernel
theorem dX10_hearOne_53 : decode cX10_hearOne 53 = .ok (.iconst 0, 1) := by decide +kernel
theorem dX10_hearOne_54 : decode cX10_hearOne 54 = .ok (.iastore, 1) := by decide +kernel
theorem dX10_hearOne_55 : decode cX10_hearOne 55 = .ok (.iconst 1, 1) := by decide +kernel
theorem dX10_hearOne_56 : decode cX10_hearOne 56 = .ok (.ireturn, 1) := by decide +kernel
theorem dX10_goOn_0 : decode cX10_goOn 0 = .ok (.iload_n 1, 1) := by decide +kernel
theorem dX10_goOn_1 : decode cX10_goOn 1 = .ok (.aload_n 0, 1) := by decide +kernel
theorem dX10_goOn_2 : decode cX10_goOn 2 = .ok (.getfield 34, 3) := by decide +kernel
theorem dX10_goOn_5 : decode cX10_goOn 5 = .ok (.if_icmp .lt 8, 3) := by decide +kernel
theorem dX10_goOn_8 : decode cX10_goOn 8 = .ok (.aload_n 0, 1) := by decide +kernel
theorem dX10_goOn_9 : decode cX10_goOn 9 = .ok (.invokevirtual 72, 3) := by decide +kernel
theorem dX10_goOn_12 : decode cX10_goOn 12 = .ok (.return_, 1) := by decide +kernel
theorem dX10_goOn_13 : decode cX10_goOn 13 = .ok (.iconst 0, 1) := by decide +kernel
theorem dX10_goOn_14 : decode cX10_goOn 14 = .ok (.istore_n 2, 1) := by decide +kernel
theorem dX10_goOn_15 : decode cX10_goOn 15 = .ok (.iload_n 2, 1) := by decide +kernel
theorem dX10_goOn_16 : decode cX10_goOn 16 = .ok (.aload_n 0, 1) := by decide +kernel
theorem dX10_goOn_17 : decode cX10_goOn 17 = .ok (.getfield 38, 3) := by decide +kernel
theorem dX10_goOn_20 : decode cX10_goOn 20 = .ok (.if_icmp .ge 38, 3) := by decide +kernel
theorem dX10_goOn_23 : decode cX10_goOn 23 = .ok (.iload_n 2, 1) := by decide +kernel
theorem dX10_goOn_24 : decode cX10_goOn 24 = .ok (.bipush 6, 2) := by decide +kernel
theorem dX10_goOn_26 : decode cX10_goOn 26 = .ok (.if_icmp .ge 32, 3) := by decide +kernel
theorem dX10_goOn_29 : decode cX10_goOn 29 = .ok (.aload_n 0, 1) := by decide +kernel
theorem dX10_goOn_30 : decode cX10_goOn 30 = .ok (.getfield 25, 3) := by decide +kernel
theorem dX10_goOn_33 : decode cX10_goOn 33 = .ok (.iload_n 1, 1) := by decide +kernel
theorem dX10_goOn_34 : decode cX10_goOn 34 = .ok (.iload_n 2, 1) := by decide +kernel
theorem dX10_goOn_35 : decode cX10_goOn 35 = .ok (.iastore, 1) := by decide +kernel
theorem dX10_goOn_36 : decode cX10_goOn 36 = .ok (.aload_n 0, 1) := by decide +kernel
theorem dX10_goOn_37 : decode cX10_goOn 37 = .ok (.iload_n 2, 1) := by decide +kernel
theorem dX10_goOn_38 : decode cX10_goOn 38 = .ok (.iload_n 1, 1) := by decide +kernel
theorem dX10_goOn_39 : decode cX10_goOn 39 = .ok (.invokevirtual 75, 3) := by decide +kernel
theorem dX10_goOn_42 : decode cX10_goOn 42 = .ok (.ifCond .eq 10, 3) := by decide +kernel
theorem dX10_goOn_45 : decode cX10_goOn 45 = .ok (.aload_n 0, 1) := by decide +kernel
theorem dX10_goOn_46 : decode cX10_goOn 46 = .ok (.iload_n 1, 1) := by decide +kernel
theorem dX10_goOn_47 : decode cX10_goOn 47 = .ok (.iconst 1, 1) := by decide +kernel
theorem dX10_goOn_48 : decode cX10_goOn 48 = .ok (.iadd, 1) := by decide +kernel
theorem dX10_goOn_49 : decode cX10_goOn 49 = .ok (.invokevirtual 52, 3) := by decide +kernel
theorem dX10_goOn_52 : decode cX10_goOn 52 = .ok (.iinc 2 1, 3) := by decide +kernel
theorem dX10_goOn_55 : decode cX10_goOn 55 = .ok (.goto (-40), 3) := by decide +kernel
theorem dX10_goOn_58 : decode cX10_goOn 58 = .ok (.return_, 1) := by decide +kernel
theorem dX10_canHaveFound_0 : decode cX10_canHaveFound 0 = .ok (.aload_n 0, 1) := by decide +kernel
theorem dX10_canHaveFound_1 : decode cX10_canHaveFound 1 = .ok (.getfield 12, 3) := by decide +kernel
theorem dX10_canHaveFound_4 : decode cX10_canHaveFound 4 = .ok (.iload_n 2, 1) := by decide +kernel
theorem dX10_canHaveFound_5 : decode cX10_canHaveFound 5 = .ok (.aload_n 0, 1) := by decide +kernel
theorem dX10_canHaveFound_6 : decode cX10_canHaveFound 6 = .ok (.getfield 18, 3) := by decide +kernel
theorem dX10_canHaveFound_9 : decode cX10_canHaveFound 9 = .ok (.iload_n 1, 1) := by decide +kernel
theorem dX10_canHaveFound_10 : decode cX10_canHaveFound 10 = .ok (.iconst 4, 1) := by decide +kernel
theorem dX10_canHaveFound_11 : decode cX10_canHaveFound 11 = .ok (.imul, 1) := by decide +kernel
theorem dX10_canHaveFound_12 : decode cX10_canHaveFound 12 = .ok (.iload_n 2, 1) := by decide +kernel
theorem dX10_canHaveFound_13 : decode cX10_canHaveFound 13 = .ok (.iadd, 1) := by decide +kernel
theorem dX10_canHaveFound_14 : decode cX10_canHaveFound 14 = .ok (.iaload, 1) := by decide +kernel
theorem dX10_canHaveFound_15 : decode cX10_canHaveFound 15 = .ok (.aload_n 0, 1) := by decide +kernel
theorem dX10_canHaveFound_16 : decode cX10_canHaveFound 16 = .ok (.getfield 22, 3) := by decide +kernel
theorem dX10_canHaveFound_19 : decode cX10_canHaveFound 19 = .ok (.iload_n 2, 1) := by decide +kernel
theorem dX10_canHaveFound_20 : decode cX10_canHaveFound 20 = .ok (.iaload, 1) := by decide +kernel
theorem dX10_canHaveFound_21 : decode cX10_canHaveFound 21 = .ok (.invokevirtual 79, 3) := by decide +kernel
theorem dX10_canHaveFound_24 : decode cX10_canHaveFound 24 = .ok (.aload_n 0, 1) := by decide +kernel
theorem dX10_canHaveFound_25 : decode cX10_canHaveFound 25 = .ok (.getfield 12, 3) := by decide +kernel
theorem dX10_canHaveFound_28 : decode cX10_canHaveFound 28 = .ok (.iload_n 2, 1) := by decide +kernel
theorem dX10_canHaveFound_29 : decode cX10_canHaveFound 29 = .ok (.iconst 1, 1) := by decide +kernel
theorem dX10_canHaveFound_30 : decode cX10_canHaveFound 30 = .ok (.iadd, 1) := by decide +kernel
theorem dX10_canHaveFound_31 : decode cX10_canHaveFound 31 = .ok (.invokevirtual 83, 3) := by decide +kernel
theorem dX10_canHaveFound_34 : decode cX10_canHaveFound 34 = .ok (.lconst 0, 1) := by decide +kernel
theorem dX10_canHaveFound_35 : decode cX10_canHaveFound 35 = .ok (.lcmp, 1) := by decide +kernel
theorem dX10_canHaveFound_36 : decode cX10_canHaveFound 36 = .ok (.ifCond .le 7, 3) := by decide +kernel
theorem dX10_canHaveFound_39 : decode cX10_canHaveFound 39 = .ok (.iconst 1, 1) := by decide +kernel
theorem dX10_canHaveFound_40 : decode cX10_canHaveFound 40 = .ok (.goto 4, 3) := by decide +kernel
theorem dX10_canHaveFound_43 : decode cX10_canHaveFound 43 = .ok (.iconst 0, 1) := by decide +kernel
theorem dX10_canHaveFound_44 : decode cX10_canHaveFound 44 = .ok (.ireturn, 1) := by decide +kernel
theorem dX10_note_0 : decode cX10_note 0 = .ok (.aload_n 0, 1) := by decide +kernel
theorem dX10_note_1 : decode cX10_note 1 = .ok (.dup, 1) := by decide +kernel
theorem dX10_note_2 : decode cX10_note 2 = .ok (.getfield 41, 3) := by decide +kernel
theorem dX10_note_5 : decode cX10_note 5 = .ok (.iconst 1, 1) := by decide +kernel
theorem dX10_note_6 : decode cX10_note 6 = .ok (.iadd, 1) := by decide +kernel
theorem dX10_note_7 : decode cX10_note 7 = .ok (.putfield 41, 3) := by decide +kernel
theorem dX10_note_10 : decode cX10_note 10 = .ok (.iconst 0, 1) := by decide +kernel
theorem dX10_note_11 : decode cX10_note 11 = .ok (.istore_n 1, 1) := by decide +kernel
theorem dX10_note_12 : decode cX10_note 12 = .ok (.iload_n 1, 1) := by decide +kernel
theorem dX10_note_13 : decode cX10_note 13 = .ok (.aload_n 0, 1) := by decide +kernel
theorem dX10_note_14 : decode cX10_note 14 = .ok (.getfield 34, 3) := by decide +kernel
theorem dX10_note_17 : decode cX10_note 17 = .ok (.if_icmp .ge 26, 3) := by decide +kernel
theorem dX10_note_20 : decode cX10_note 20 = .ok (.aload_n 0, 1) := by decide +kernel
theorem dX10_note_21 : decode cX10_note 21 = .ok (.getfield 28, 3) := by decide +kernel
theorem dX10_note_24 : decode cX10_note 24 = .ok (.iload_n 1, 1) := by decide +kernel
theorem dX10_note_25 : decode cX10_note 25 = .ok (.dup2, 1) := by decide +kernel
theorem dX10_note_26 : decode cX10_note 26 = .ok (.iaload, 1) := by decide +kernel
theorem dX10_note_27 : decode cX10_note 27 = .ok (.iconst 1, 1) := by decide +kernel
theorem dX10_note_28 : decode cX10_note 28 = .ok (.aload_n 0, 1) := by decide +kernel
theorem dX10_note_29 : decode cX10_note 29 = .ok (.getfield 25, 3) := by decide +kernel
theorem dX10_note_32 : decode cX10_note 32 = .ok (.iload_n 1, 1) := by decide +kernel
theorem dX10_note_33 : decode cX10_note 33 = .ok (.iaload, 1) := by decide +kernel
theorem dX10_note_34 : decode cX10_note 34 = .ok (.ishl, 1) := by decide +kernel
theorem dX10_note_35 : decode cX10_note 35 = .ok (.ior, 1) := by decide +kernel
theorem dX10_note_36 : decode cX10_note 36 = .ok (.iastore, 1) := by decide +kernel
theorem dX10_note_37 : decode cX10_note 37 = .ok (.iinc 1 1, 3) := by decide +kernel
theorem dX10_note_40 : decode cX10_note 40 = .ok (.goto (-28), 3) := by decide +kernel
theorem dX10_note_43 : decode cX10_note 43 = .ok (.aload_n 0, 1) := by decide +kernel
theorem dX10_note_44 : decode cX10_note 44 = .ok (.getfield 12, 3) := by decide +kernel
theorem dX10_note_47 : decode cX10_note 47 = .ok (.aload_n 0, 1) := by decide +kernel
theorem dX10_note_48 : decode cX10_note 48 = .ok (.getfield 34, 3) := by decide +kernel
theorem dX10_note_51 : decode cX10_note 51 = .ok (.invokevirtual 83, 3) := by decide +kernel
theorem dX10_note_54 : decode cX10_note 54 = .ok (.lstore_n 1, 1) := by decide +kernel
theorem dX10_note_55 : decode cX10_note 55 = .ok (.lload_n 1, 1) := by decide +kernel
theorem dX10_note_56 : decode cX10_note 56 = .ok (.aload_n 0, 1) := by decide +kernel
theorem dX10_note_57 : decode cX10_note 57 = .ok (.getfield 44, 3) := by decide +kernel
theorem dX10_note_60 : decode cX10_note 60 = .ok (.lcmp, 1) := by decide +kernel
theorem dX10_note_61 : decode cX10_note 61 = .ok (.ifCond .gt 4, 3) := by decide +kernel
theorem dX10_note_64 : decode cX10_note 64 = .ok (.return_, 1) := by decide +kernel
theorem dX10_note_65 : decode cX10_note 65 = .ok (.aload_n 0, 1) := by decide +kernel
theorem dX10_note_66 : decode cX10_note 66 = .ok (.lload_n 1, 1) := by decide +kernel
theorem dX10_note_67 : decode cX10_note 67 = .ok (.putfield 44, 3) := by decide +kernel
theorem dX10_note_70 : decode cX10_note 70 = .ok (.aload_n 0, 1) := by decide +kernel
theorem dX10_note_71 : decode cX10_note 71 = .ok (.getfield 25, 3) := by decide +kernel
theorem dX10_note_74 : decode cX10_note 74 = .ok (.iconst 0, 1) := by decide +kernel
theorem dX10_note_75 : decode cX10_note 75 = .ok (.aload_n 0, 1) := by decide +kernel
theorem dX10_note_76 : decode cX10_note 76 = .ok (.getfield 31, 3) := by decide +kernel
theorem dX10_note_79 : decode cX10_note 79 = .ok (.iconst 0, 1) := by decide +kernel
theorem dX10_note_80 : decode cX10_note 80 = .ok (.aload_n 0, 1) := by decide +kernel
theorem dX10_note_81 : decode cX10_note 81 = .ok (.getfield 34, 3) := by decide +kernel
theorem dX10_note_84 : decode cX10_note 84 = .ok (.invokestatic 86, 3) := by decide +kernel
theorem dX10_note_87 : decode cX10_note 87 = .ok (.return_, 1) := by decide +kernel
theorem dX10_sureBy_0 : decode cX10_sureBy 0 = .ok (.iload_n 1, 1) := by decide +kernel
theorem dX10_sureBy_1 : decode cX10_sureBy 1 = .ok (.ifCond .lt 11, 3) := by decide +kernel
theorem dX10_sureBy_4 : decode cX10_sureBy 4 = .ok (.iload_n 1, 1) := by decide +kernel
theorem dX10_sureBy_5 : decode cX10_sureBy 5 = .ok (.aload_n 0, 1) := by decide +kernel
theorem dX10_sureBy_6 : decode cX10_sureBy 6 = .ok (.getfield 34, 3) := by decide +kernel
theorem dX10_sureBy_9 : decode cX10_sureBy 9 = .ok (.if_icmp .lt 5, 3) := by decide +kernel
theorem dX10_sureBy_12 : decode cX10_sureBy 12 = .ok (.iconst (-1), 1) := by decide +kernel
theorem dX10_sureBy_13 : decode cX10_sureBy 13 = .ok (.ireturn, 1) := by decide +kernel
theorem dX10_sureBy_14 : decode cX10_sureBy 14 = .ok (.aload_n 0, 1) := by decide +kernel
theorem dX10_sureBy_15 : decode cX10_sureBy 15 = .ok (.getfield 28, 3) := by decide +kernel
theorem dX10_sureBy_18 : decode cX10_sureBy 18 = .ok (.iload_n 1, 1) := by decide +kernel
theorem dX10_sureBy_19 : decode cX10_sureBy 19 = .ok (.iaload, 1) := by decide +kernel
theorem dX10_sureBy_20 : decode cX10_sureBy 20 = .ok (.invokestatic 92, 3) := by decide +kernel
theorem dX10_sureBy_23 : decode cX10_sureBy 23 = .ok (.iconst 1, 1) := by decide +kernel
theorem dX10_sureBy_24 : decode cX10_sureBy 24 = .ok (.if_icmp .ne 12, 3) := by decide +kernel
theorem dX10_sureBy_27 : decode cX10_sureBy 27 = .ok (.aload_n 0, 1) := by decide +kernel
theorem dX10_sureBy_28 : decode cX10_sureBy 28 = .ok (.getfield 28, 3) := by decide +kernel
theorem dX10_sureBy_31 : decode cX10_sureBy 31 = .ok (.iload_n 1, 1) := by decide +kernel
theorem dX10_sureBy_32 : decode cX10_sureBy 32 = .ok (.iaload, 1) := by decide +kernel
theorem dX10_sureBy_33 : decode cX10_sureBy 33 = .ok (.goto 4, 3) := by decide +kernel
theorem dX10_sureBy_36 : decode cX10_sureBy 36 = .ok (.iconst 0, 1) := by decide +kernel
theorem dX10_sureBy_37 : decode cX10_sureBy 37 = .ok (.ireturn, 1) := by decide +kernel
theorem dX10_most_0 : decode cX10_most 0 = .ok (.iload_n 1, 1) := by decide +kernel
theorem dX10_most_1 : decode cX10_most 1 = .ok (.ifCond .lt 11, 3) := by decide +kernel
theorem dX10_most_4 : decode cX10_most 4 = .ok (.iload_n 1, 1) := by decide +kernel
theorem dX10_most_5 : decode cX10_most 5 = .ok (.aload_n 0, 1) := by decide +kernel
theorem dX10_most_6 : decode cX10_most 6 = .ok (.getfield 34, 3) := by decide +kernel
theorem dX10_most_9 : decode cX10_most 9 = .ok (.if_icmp .lt 5, 3) := by decide +kernel
theorem dX10_most_12 : decode cX10_most 12 = .ok (.iconst (-1), 1) := by decide +kernel
theorem dX10_most_13 : decode cX10_most 13 = .ok (.ireturn, 1) := by decide +kernel
theorem dX10_most_14 : decode cX10_most 14 = .ok (.aload_n 0, 1) := by decide +kernel
theorem dX10_most_15 : decode cX10_most 15 = .ok (.getfield 41, 3) := by decide +kernel
theorem dX10_most_18 : decode cX10_most 18 = .ok (.ifCond .ne 8, 3) := by decide +kernel
theorem dX10_most_21 : decode cX10_most 21 = .ok (.bipush (-2), 2) := by decide +kernel
theorem dX10_most_23 : decode cX10_most 23 = .ok (.goto 9, 3) := by decide +kernel
theorem dX10_most_26 : decode cX10_most 26 = .ok (.aload_n 0, 1) := by decide +kernel
theorem dX10_most_27 : decode cX10_most 27 = .ok (.getfield 31, 3) := by decide +kernel
theorem dX10_most_30 : decode cX10_most 30 = .ok (.iload_n 1, 1) := by decide +kernel
theorem dX10_most_31 : decode cX10_most 31 = .ok (.iaload, 1) := by decide +kernel
theorem dX10_most_32 : decode cX10_most 32 = .ok (.ireturn, 1) := by decide +kernel
theorem dX11_init_0 : decode cX11_init 0 = .ok (.aload_n 0, 1) := by decide +kernel
theorem dX11_init_1 : decode cX11_init 1 = .ok (.invokespecial 1, 3) := by decide +kernel
theorem dX11_init_4 : decode cX11_init 4 = .ok (.aload_n 0, 1) := by decide +kernel
theorem dX11_init_5 : decode cX11_init 5 = .ok (.new 7, 3) := by decide +kernel
theorem dX11_init_8 : decode cX11_init 8 = .ok (.dup, 1) := by decide +kernel
theorem dX11_init_9 : decode cX11_init 9 = .ok (.invokespecial 9, 3) := by decide +kernel
theorem dX11_init_12 : decode cX11_init 12 = .ok (.putfield 10, 3) := by decide +kernel
theorem dX11_init_15 : decode cX11_init 15 = .ok (.aload_n 0, 1) := by decide +kernel
theorem dX11_init_16 : decode cX11_init 16 = .ok (.new 16, 3) := by decide +kernel
theorem dX11_init_19 : decode cX11_init 19 = .ok (.dup, 1) := by decide +kernel
theorem dX11_init_20 : decode cX11_init 20 = .ok (.invokespecial 18, 3) := by decide +kernel
theorem dX11_init_23 : decode cX11_init 23 = .ok (.putfield 19, 3) := by decide +kernel
theorem dX11_init_26 : decode cX11_init 26 = .ok (.aload_n 0, 1) := by decide +kernel
theorem dX11_init_27 : decode cX11_init 27 = .ok (.bipush 6, 2) := by decide +kernel
theorem dX11_init_29 : decode cX11_init 29 = .ok (.anewarray 23, 3) := by decide +kernel
theorem dX11_init_32 : decode cX11_init 32 = .ok (.putfield 25, 3) := by decide +kernel
theorem dX11_init_35 : decode cX11_init 35 = .ok (.aload_n 0, 1) := by decide +kernel
theorem dX11_init_36 : decode cX11_init 36 = .ok (.new 29, 3) := by decide +kernel
theorem dX11_init_39 : decode cX11_init 39 = .ok (.dup, 1) := by decide +kernel
theorem dX11_init_40 : decode cX11_init 40 = .ok (.invokespecial 31, 3) := by decide +kernel
theorem dX11_init_43 : decode cX11_init 43 = .ok (.putfield 32, 3) := by decide +kernel
theorem dX11_init_46 : decode cX11_init 46 = .ok (.aload_n 0, 1) := by decide +kernel
theorem dX11_init_47 : decode cX11_init 47 = .ok (.new 36, 3) := by decide +kernel
theorem dX11_init_50 : decode cX11_init 50 = .ok (.dup, 1) := by decide +kernel
theorem dX11_init_51 : decode cX11_init 51 = .ok (.invokespecial 38, 3) := by decide +kernel
theorem dX11_init_54 : decode cX11_init 54 = .ok (.putfield 39, 3) := by decide +kernel
theorem dX11_init_57 : decode cX11_init 57 = .ok (.aload_n 0, 1) := by decide +kernel
theorem dX11_init_58 : decode cX11_init 58 = .ok (.new 43, 3) := by decide +kernel
theorem dX11_init_61 : decode cX11_init 61 = .ok (.dup, 1) := by decide +kernel
theorem dX11_init_62 : decode cX11_init 62 = .ok (.invokespecial 45, 3) := by decide +kernel
theorem dX11_init_65 : decode cX11_init 65 = .ok (.putfield 46, 3) := by decide +kernel
theorem dX11_init_68 : decode cX11_init 68 = .ok (.aload_n 0, 1) := by decide +kernel
theorem dX11_init_69 : decode cX11_init 69 = .ok (.new 50, 3) := by decide +kernel
theorem dX11_init_72 : decode cX11_init 72 = .ok (.dup, 1) := by decide +kernel
theorem dX11_init_73 : decode cX11_init 73 = .ok (.invokespecial 52, 3) := by decide +kernel
theorem dX11_init_76 : decode cX11_init 76 = .ok (.putfield 53, 3) := by decide +kernel
theorem dX11_init_79 : decode cX11_init 79 = .ok (.aload_n 0, 1) := by decide +kernel
theorem dX11_init_80 : decode cX11_init 80 = .ok (.new 57, 3) := by decide +kernel
theorem dX11_init_83 : decode cX11_init 83 = .ok (.dup, 1) := by decide +kernel
theorem dX11_init_84 : decode cX11_init 84 = .ok (.invokespecial 59, 3) := by decide +kernel
theorem dX11_init_87 : decode cX11_init 87 = .ok (.putfield 60, 3) := by decide +kernel
theorem dX11_init_90 : decode cX11_init 90 = .ok (.aload_n 0, 1) := by decide +kernel
theorem dX11_init_91 : decode cX11_init 91 = .ok (.new 64, 3) := by decide +kernel
theorem dX11_init_94 : decode cX11_init 94 = .ok (.dup, 1) := by decide +kernel
theorem dX11_init_95 : decode cX11_init 95 = .ok (.invokespecial 66, 3) := by decide +kernel
theorem dX11_init_98 : decode cX11_init 98 = .ok (.putfield 67, 3) := by decide +kernel
theorem dX11_init_101 : decode cX11_init 101 = .ok (.aload_n 0, 1) := by decide +kernel
theorem dX11_init_102 : decode cX11_init 102 = .ok (.new 71, 3) := by decide +kernel
theorem dX11_init_105 : decode cX11_init 105 = .ok (.dup, 1) := by decide +kernel
theorem dX11_init_106 : decode cX11_init 106 = .ok (.invokespecial 73, 3) := by decide +kernel
theorem dX11_init_109 : decode cX11_init 109 = .ok (.putfield 74, 3) := by decide +kernel
theorem dX11_init_112 : decode cX11_init 112 = .ok (.aload_n 0, 1) := by decide +kernel
theorem dX11_init_113 : decode cX11_init 113 = .ok (.new 71, 3) := by decide +kernel
theorem dX11_init_116 : decode cX11_init 116 = .ok (.dup, 1) := by decide +kernel
theorem dX11_init_117 : decode cX11_init 117 = .ok (.invokespecial 73, 3) := by decide +kernel
theorem dX11_init_120 : decode cX11_init 120 = .ok (.putfield 78, 3) := by decide +kernel
theorem dX11_init_123 : decode cX11_init 123 = .ok (.aload_n 0, 1) := by decide +kernel
theorem dX11_init_124 : decode cX11_init 124 = .ok (.iconst 0, 1) := by decide +kernel
theorem dX11_init_125 : decode cX11_init 125 = .ok (.putfield 81, 3) := by decide +kernel
theorem dX11_init_128 : decode cX11_init 128 = .ok (.aload_n 0, 1) := by decide +kernel
theorem dX11_init_129 : decode cX11_init 129 = .ok (.new 85, 3) := by decide +kernel
theorem dX11_init_132 : decode cX11_init 132 = .ok (.dup, 1) := by decide +kernel
theorem dX11_init_133 : decode cX11_init 133 = .ok (.invokespecial 87, 3) := by decide +kernel
theorem dX11_init_136 : decode cX11_init 136 = .ok (.putfield 88, 3) := by decide +kernel
theorem dX11_init_139 : decode cX11_init 139 = .ok (.iconst 0, 1) := by decide +kernel
theorem dX11_init_140 : decode cX11_init 140 = .ok (.istore_n 1, 1) := by decide +kernel
theorem dX11_init_141 : decode cX11_init 141 = .ok (.iload_n 1, 1) := by decide +kernel
theorem dX11_init_142 : decode cX11_init 142 = .ok (.bipush 6, 2) := by decide +kernel
theorem dX11_init_144 : decode cX11_init 144 = .ok (.if_icmp .ge 22, 3) := by decide +kernel
theorem dX11_init_147 : decode cX11_init 147 = .ok (.aload_n 0, 1) := by decide +kernel
theorem dX11_init_148 : decode cX11_init 148 = .ok (.getfield 25, 3) := by decide +kernel
theorem dX11_init_151 : decode cX11_init 151 = .ok (.iload_n 1, 1) := by decide +kernel
theorem dX11_init_152 : decode cX11_init 152 = .ok (.new 23, 3) := by decide +kernel
theorem dX11_init_155 : decode cX11_init 155 = .ok (.dup, 1) := by decide +kernel
theorem dX11_init_156 : decode cX11_init 156 = .ok (.invokespecial 92, 3) := by decide +kernel
theorem dX11_init_159 : decode cX11_init 159 = .ok (.aastore, 1) := by decide +kernel
theorem dX11_init_160 : decode cX11_init 160 = .ok (.iinc 1 1, 3) := by decide +kernel
theorem dX11_init_163 : decode cX11_init 163 = .ok (.goto (-22), 3) := by decide +kernel
theorem dX11_init_166 : decode cX11_init 166 = .ok (.return_, 1) := by decide +kernel
theorem dX11_looker_0 : decode cX11_looker 0 = .ok (.iload_n 1, 1) := by decide +kernel
theorem dX11_looker_1 : decode cX11_looker 1 = .ok (.ifCond .lt 18, 3) := by decide +kernel
theorem dX11_looker_4 : decode cX11_looker 4 = .ok (.aload_n 0, 1) := by decide +kernel
theorem dX11_looker_5 : decode cX11_looker 5 = .ok (.getfield 10, 3) := by decide +kernel
theorem dX11_looker_8 : decode cX11_looker 8 = .ok (.iconst 5, 1) := by decide +kernel
theorem dX11_looker_9 : decode cX11_looker 9 = .ok (.iload_n 1, 1) := by decide +kernel
theorem dX11_looker_10 : decode cX11_looker 10 = .ok (.bipush 100, 2) := by decide +kernel
theorem dX11_looker_12 : decode cX11_looker 12 = .ok (.idiv, 1) := by decide +kernel
theorem dX11_looker_13 : decode cX11_looker 13 = .ok (.invokevirtual 93, 3) := by decide +kernel
theorem dX11_looker_16 : decode cX11_looker 16 = .ok (.ifCond .ne 5, 3) := by decide +kernel
theorem dX11_looker_19 : decode cX11_looker 19 = .ok (.iconst (-1), 1) := by decide +kernel
theorem dX11_looker_20 : decode cX11_looker 20 = .ok (.ireturn, 1) := by decide +kernel
theorem dX11_looker_21 : decode cX11_looker 21 = .ok (.aload_n 0, 1) := by decide +kernel
theorem dX11_looker_22 : decode cX11_looker 22 = .ok (.getfield 10, 3) := by decide +kernel
theorem dX11_looker_25 : decode cX11_looker 25 = .ok (.iload_n 1, 1) := by decide +kernel
theorem dX11_looker_26 : decode cX11_looker 26 = .ok (.bipush 100, 2) := by decide +kernel
theorem dX11_looker_28 : decode cX11_looker 28 = .ok (.idiv, 1) := by decide +kernel
theorem dX11_looker_29 : decode cX11_looker 29 = .ok (.iload_n 1, 1) := by decide +kernel
theorem dX11_looker_30 : decode cX11_looker 30 = .ok (.bipush 100, 2) := by decide +kernel
theorem dX11_looker_32 : decode cX11_looker 32 = .ok (.irem, 1) := by decide +kernel
theorem dX11_looker_33 : decode cX11_looker 33 = .ok (.invokevirtual 97, 3) := by decide +kernel
theorem dX11_looker_36 : decode cX11_looker 36 = .ok (.ireturn, 1) := by decide +kernel
theorem dX11_lookers_0 : decode cX11_lookers 0 = .ok (.iload_n 1, 1) := by decide +kernel
theorem dX11_lookers_1 : decode cX11_lookers 1 = .ok (.invokestatic 101, 3) := by decide +kernel
theorem dX11_lookers_4 : decode cX11_lookers 4 = .ok (.ifCond .eq 14, 3) := by decide +kernel
theorem dX11_lookers_7 : decode cX11_lookers 7 = .ok (.iload_n 3, 1) := by decide +kernel
theorem dX11_lookers_8 : decode cX11_lookers 8 = .ok (.iconst 1, 1) := by decide +kernel
theorem dX11_lookers_9 : decode cX11_lookers 9 = .ok (.if_icmp .lt 9, 3) := by decide +kernel
theorem dX11_lookers_12 : decode cX11_lookers 12 = .ok (.iload_n 3, 1) := by decide +kernel
theorem dX11_lookers_13 : decode cX11_lookers 13 = .ok (.bipush 6, 2) := by decide +kernel
theorem dX11_lookers_15 : decode cX11_lookers 15 = .ok (.if_icmp .le 5, 3) := by decide +kernel
theorem dX11_lookers_18 : decode cX11_lookers 18 = .ok (.iconst (-1), 1) := by decide +kernel
theorem dX11_lookers_19 : decode cX11_lookers 19 = .ok (.ireturn, 1) := by decide +kernel
theorem dX11_lookers_20 : decode cX11_lookers 20 = .ok (.aload_n 0, 1) := by decide +kernel
theorem dX11_lookers_21 : decode cX11_lookers 21 = .ok (.getfield 25, 3) := by decide +kernel
theorem dX11_lookers_24 : decode cX11_lookers 24 = .ok (.iload_n 1, 1) := by decide +kernel
theorem dX11_lookers_25 : decode cX11_lookers 25 = .ok (.aaload, 1) := by decide +kernel
theorem dX11_lookers_26 : decode cX11_lookers 26 = .ok (.astore 4, 2) := by decide +kernel
theorem dX11_lookers_28 : decode cX11_lookers 28 = .ok (.aload 4, 2) := by decide +kernel
theorem dX11_lookers_30 : decode cX11_lookers 30 = .ok (.invokevirtual 105, 3) := by decide +kernel
theorem dX11_lookers_33 : decode cX11_lookers 33 = .ok (.ifCond .eq 5, 3) := by decide +kernel
theorem dX11_lookers_36 : decode cX11_lookers 36 = .ok (.iconst 0, 1) := by decide +kernel
theorem dX11_lookers_37 : decode cX11_lookers 37 = .ok (.ireturn, 1) := by decide +kernel
theorem dX11_lookers_38 : decode cX11_lookers 38 = .ok (.aload 4, 2) := by decide +kernel
theorem dX11_lookers_40 : decode cX11_lookers 40 = .ok (.invokevirtual 109, 3) := by decide +kernel
theorem dX11_lookers_43 : decode cX11_lookers 43 = .ok (.ifCond .ne 6, 3) := by decide +kernel
theorem dX11_lookers_46 : decode cX11_lookers 46 = .ok (.bipush (-12), 2) := by decide +kernel
theorem dX11_lookers_48 : decode cX11_lookers 48 = .ok (.ireturn, 1) := by decide +kernel
theorem dX11_lookers_49 : decode cX11_lookers 49 = .ok (.iconst 0, 1) := by decide +kernel
theorem dX11_lookers_50 : decode cX11_lookers 50 = .ok (.istore 5, 2) := by decide +kernel
theorem dX11_lookers_52 : decode cX11_lookers 52 = .ok (.iload 5, 2) := by decide +kernel
theorem dX11_lookers_54 : decode cX11_lookers 54 = .ok (.iload_n 3, 1) := by decide +kernel
theorem dX11_lookers_55 : decode cX11_lookers 55 = .ok (.if_icmp .ge 23, 3) := by decide +kernel
theorem dX11_lookers_58 : decode cX11_lookers 58 = .ok (.aload_n 0, 1) := by decide +kernel
theorem dX11_lookers_59 : decode cX11_lookers 59 = .ok (.aload 4, 2) := by decide +kernel
theorem dX11_lookers_61 : decode cX11_lookers 61 = .ok (.iload_n 2, 1) := by decide +kernel
theorem dX11_lookers_62 : decode cX11_lookers 62 = .ok (.iconst 2, 1) := by decide +kernel
theorem dX11_lookers_63 : decode cX11_lookers 63 = .ok (.iload 5, 2) := by decide +kernel
theorem dX11_lookers_65 : decode cX11_lookers 65 = .ok (.imul, 1) := by decide +kernel
theorem dX11_lookers_66 : decode cX11_lookers 66 = .ok (.invokevirtual 112, 3) := by decide +kernel
theorem dX11_lookers_69 : decode cX11_lookers 69 = .ok (.ifCond .eq 9, 3) := by decide +kernel
theorem dX11_lookers_72 : decode cX11_lookers 72 = .ok (.iinc 5 1, 3) := by decide +kernel
theorem dX11_lookers_75 : decode cX11_lookers 75 = .ok (.goto (-23), 3) := by decide +kernel
theorem dX11_lookers_78 : decode cX11_lookers 78 = .ok (.iload 5, 2) := by decide +kernel
theorem dX11_lookers_80 : decode cX11_lookers 80 = .ok (.ireturn, 1) := by decide +kernel
theorem dX11_mend_0 : decode cX11_mend 0 = .ok (.aload_n 0, 1) := by decide +kernel
theorem dX11_mend_1 : decode cX11_mend 1 = .ok (.getfield 10, 3) := by decide +kernel
theorem dX11_mend_4 : decode cX11_mend 4 = .ok (.iload_n 1, 1) := by decide +kernel
theorem dX11_mend_5 : decode cX11_mend 5 = .ok (.iload_n 2, 1) := by decide +kernel
theorem dX11_mend_6 : decode cX11_mend 6 = .ok (.invokevirtual 116, 3) := by decide +kernel
theorem dX11_mend_9 : decode cX11_mend 9 = .ok (.istore 4, 2) := by decide +kernel
theorem dX11_mend_11 : decode cX11_mend 11 = .ok (.iload 4, 2) := by decide +kernel
theorem dX11_mend_13 : decode cX11_mend 13 = .ok (.ifCond .lt 15, 3) := by decide +kernel
theorem dX11_mend_16 : decode cX11_mend 16 = .ok (.aload_n 0, 1) := by decide +kernel
theorem dX11_mend_17 : decode cX11_mend 17 = .ok (.getfield 10, 3) := by decide +kernel
theorem dX11_mend_20 : decode cX11_mend 20 = .ok (.iload_n 2, 1) := by decide +kernel
theorem dX11_mend_21 : decode cX11_mend 21 = .ok (.iload_n 3, 1) := by decide +kernel
theorem dX11_mend_22 : decode cX11_mend 22 = .ok (.invokevirtual 93, 3) := by decide +kernel
theorem dX11_mend_25 : decode cX11_mend 25 = .ok (.ifCond .ne 5, 3) := by decide +kernel
theorem dX11_mend_28 : decode cX11_mend 28 = .ok (.iconst (-1), 1) := by decide +kernel
theorem dX11_mend_29 : decode cX11_mend 29 = .ok (.ireturn, 1) := by decide +kernel
theorem dX11_mend_30 : decode cX11_mend 30 = .ok (.aload_n 0, 1) := by decide +kernel
theorem dX11_mend_31 : decode cX11_mend 31 = .ok (.getfield 10, 3) := by decide +kernel
theorem dX11_mend_34 : decode cX11_mend 34 = .ok (.iload 4, 2) := by decide +kernel
theorem dX11_mend_36 : decode cX11_mend 36 = .ok (.iload_n 3, 1) := by decide +kernel
theorem dX11_mend_37 : decode cX11_mend 37 = .ok (.invokevirtual 119, 3) := by decide +kernel
theorem dX11_mend_40 : decode cX11_mend 40 = .ok (.ireturn, 1) := by decide +kernel
theorem dX11_of_0 : decode cX11_of 0 = .ok (.aload_n 0, 1) := by decide +kernel
theorem dX11_of_1 : decode cX11_of 1 = .ok (.getfield 10, 3) := by decide +kernel
theorem dX11_of_4 : decode cX11_of 4 = .ok (.iload_n 1, 1) := by decide +kernel
theorem dX11_of_5 : decode cX11_of 5 = .ok (.iload_n 2, 1) := by decide +kernel
theorem dX11_of_6 : decode cX11_of 6 = .ok (.invokevirtual 116, 3) := by decide +kernel
theorem dX11_of_9 : decode cX11_of 9 = .ok (.ifCond .ge 7, 3) := by decide +kernel
theorem dX11_of_12 : decode cX11_of 12 = .ok (.iconst (-1), 1) := by decide +kernel
theorem dX11_of_13 : decode cX11_of 13 = .ok (.goto 12, 3) := by decide +kernel
theorem dX11_of_16 : decode cX11_of 16 = .ok (.aload_n 0, 1) := by decide +kernel
theorem dX11_of_17 : decode cX11_of 17 = .ok (.getfield 10, 3) := by decide +kernel
theorem dX11_of_20 : decode cX11_of 20 = .ok (.iload_n 1, 1) := by decide +kernel
theorem dX11_of_21 : decode cX11_of 21 = .ok (.iload_n 2, 1) := by decide +kernel
theorem dX11_of_22 : decode cX11_of 22 = .ok (.invokevirtual 122, 3) := by decide +kernel
theorem dX11_of_25 : decode cX11_of 25 = .ok (.ireturn, 1) := by decide +kernel
theorem dX11_feed_0 : decode cX11_feed 0 = .ok (.iload_n 1, 1) := by decide +kernel
theorem dX11_feed_1 : decode cX11_feed 1 = .ok (.ifCond .lt 10, 3) := by decide +kernel
theorem dX11_feed_4 : decode cX11_feed 4 = .ok (.iload_n 1, 1) := by decide +kernel
theorem dX11_feed_5 : decode cX11_feed 5 = .ok (.sipush 255, 3) := by decide +kernel
theorem dX11_feed_8 : decode cX11_feed 8 = .ok (.if_icmp .le 5, 3) := by decide +kernel
theorem dX11_feed_11 : decode cX11_feed 11 = .ok (.iconst (-1), 1) := by decide +kernel
theorem dX11_feed_12 : decode cX11_feed 12 = .ok (.ireturn, 1) := by decide +kernel
theorem dX11_feed_13 : decode cX11_feed 13 = .ok (.aload_n 0, 1) := by decide +kernel
theorem dX11_feed_14 : decode cX11_feed 14 = .ok (.getfield 19, 3) := by decide +kernel
theorem dX11_feed_17 : decode cX11_feed 17 = .ok (.invokevirtual 125, 3) := by decide +kernel
theorem dX11_feed_20 : decode cX11_feed 20 = .ok (.ifCond .eq 8, 3) := by decide +kernel
theorem dX11_feed_23 : decode cX11_feed 23 = .ok (.bipush (-3), 2) := by decide +kernel
theorem dX11_feed_25 : decode cX11_feed 25 = .ok (.goto 11, 3) := by decide +kernel
theorem dX11_feed_28 : decode cX11_feed 28 = .ok (.aload_n 0, 1) := by decide +kernel
theorem dX11_feed_29 : decode cX11_feed 29 = .ok (.getfield 19, 3) := by decide +kernel
theorem dX11_feed_32 : decode cX11_feed 32 = .ok (.iload_n 1, 1) := by decide +kernel
theorem dX11_feed_33 : decode cX11_feed 33 = .ok (.invokevirtual 128, 3) := by decide +kernel
theorem dX11_feed_36 : decode cX11_feed 36 = .ok (.ireturn, 1) := by decide +kernel
theorem dX11_law_0 : decode cX11_law 0 = .ok (.aload_n 0, 1) := by decide +kernel
theorem dX11_law_1 : decode cX11_law 1 = .ok (.getfield 19, 3) := by decide +kernel
theorem dX11_law_4 : decode cX11_law 4 = .ok (.invokevirtual 132, 3) := by decide +kernel
theorem dX11_law_7 : decode cX11_law 7 = .ok (.istore_n 1, 1) := by decide +kernel
theorem dX11_law_8 : decode cX11_law 8 = .ok (.iload_n 1, 1) := by decide +kernel
theorem dX11_law_9 : decode cX11_law 9 = .ok (.ifCond .ge 7, 3) := by decide +kernel
theorem dX11_law_12 : decode cX11_law 12 = .ok (.iconst 1, 1) := by decide +kernel
theorem dX11_law_13 : decode cX11_law 13 = .ok (.goto 7, 3) := by decide +kernel
theorem dX11_law_16 : decode cX11_law 16 = .ok (.bipush (-100), 2) := by decide +kernel
theorem dX11_law_18 : decode cX11_law 18 = .ok (.iload_n 1, 1) := by decide +kernel
theorem dX11_law_19 : decode cX11_law 19 = .ok (.isub, 1) := by decide +kernel
theorem dX11_law_20 : decode cX11_law 20 = .ok (.ireturn, 1) := by decide +kernel
theorem dX11_finds_0 : decode cX11_finds 0 = .ok (.aload_n 0, 1) := by decide +kernel
theorem dX11_finds_1 : decode cX11_finds 1 = .ok (.getfield 10, 3) := by decide +kernel
theorem dX11_finds_4 : decode cX11_finds 4 = .ok (.iload_n 1, 1) := by decide +kernel
theorem dX11_finds_5 : decode cX11_finds 5 = .ok (.invokevirtual 136, 3) := by decide +kernel
theorem dX11_finds_8 : decode cX11_finds 8 = .ok (.ifCond .eq 13, 3) := by decide +kernel
theorem dX11_finds_11 : decode cX11_finds 11 = .ok (.iload_n 2, 1) := by decide +kernel
theorem dX11_finds_12 : decode cX11_finds 12 = .ok (.ifCond .lt 9, 3) := by decide +kernel
theorem dX11_finds_15 : decode cX11_finds 15 = .ok (.iload_n 2, 1) := by decide +kernel
theorem dX11_finds_16 : decode cX11_finds 16 = .ok (.bipush 9, 2) := by decide +kernel
theorem dX11_finds_18 : decode cX11_finds 18 = .ok (.if_icmp .le 5, 3) := by decide +kernel
theorem dX11_finds_21 : decode cX11_finds 21 = .ok (.iconst (-1), 1) := by decide +kernel
theorem dX11_finds_22 : decode cX11_finds 22 = .ok (.ireturn, 1) := by decide +kernel
theorem dX11_finds_23 : decode cX11_finds 23 = .ok (.aload_n 0, 1) := by decide +kernel
theorem dX11_finds_24 : decode cX11_finds 24 = .ok (.iload_n 1, 1) := by decide +kernel
theorem dX11_finds_25 : decode cX11_finds 25 = .ok (.iload_n 2, 1) := by decide +kernel
theorem dX11_finds_26 : decode cX11_finds 26 = .ok (.invokevirtual 139, 3) := by decide +kernel
theorem dX11_finds_29 : decode cX11_finds 29 = .ok (.ireturn, 1) := by decide +kernel
theorem dX11_left_0 : decode cX11_left 0 = .ok (.aload_n 0, 1) := by decide +kernel
theorem dX11_left_1 : decode cX11_left 1 = .ok (.iload_n 1, 1) := by decide +kernel
theorem dX11_left_2 : decode cX11_left 2 = .ok (.iload_n 2, 1) := by decide +kernel
theorem dX11_left_3 : decode cX11_left 3 = .ok (.invokevirtual 142, 3) := by decide +kernel
theorem dX11_left_6 : decode cX11_left 6 = .ok (.ifCond .eq 20, 3) := by decide +kernel
theorem dX11_left_9 : decode cX11_left 9 = .ok (.iload_n 3, 1) := by decide +kernel
theorem dX11_left_10 : decode cX11_left 10 = .ok (.ifCond .lt 16, 3) := by decide +kernel
theorem dX11_left_13 : decode cX11_left 13 = .ok (.iload_n 3, 1) := by decide +kernel
theorem dX11_left_14 : decode cX11_left 14 = .ok (.iconst 3, 1) := by decide +kernel
theorem dX11_left_15 : decode cX11_left 15 = .ok (.if_icmp .gt 11, 3) := by decide +kernel
theorem dX11_left_18 : decode cX11_left 18 = .ok (.iload 4, 2) := by decide +kernel
theorem dX11_left_20 : decode cX11_left 20 = .ok (.invokestatic 145, 3) := by decide +kernel
theorem dX11_left_23 : decode cX11_left 23 = .ok (.ifCond .ne 7, 3) := by decide +kernel
theorem dX11_left_26 : decode cX11_left 26 = .ok (.ldc2_w 148, 3) := by decide +kernel
theorem dX11_left_29 : decode cX11_left 29 = .ok (.lreturn, 1) := by decide +kernel
theorem dX11_left_30 : decode cX11_left 30 = .ok (.aload_n 0, 1) := by decide +kernel
theorem dX11_left_31 : decode cX11_left 31 = .ok (.iload_n 1, 1) := by decide +kernel
theorem dX11_left_32 : decode cX11_left 32 = .ok (.iload_n 2, 1) := by decide +kernel
theorem dX11_left_33 : decode cX11_left 33 = .ok (.invokevirtual 150, 3) := by decide +kernel
theorem dX11_left_36 : decode cX11_left 36 = .ok (.istore 5, 2) := by decide +kernel
theorem dX11_left_38 : decode cX11_left 38 = .ok (.aload_n 0, 1) := by decide +kernel
theorem dX11_left_39 : decode cX11_left 39 = .ok (.getfield 39, 3) := by decide +kernel
theorem dX11_left_42 : decode cX11_left 42 = .ok (.iload 5, 2) := by decide +kernel
theorem dX11_left_44 : decode cX11_left 44 = .ok (.invokevirtual 153, 3) := by decide +kernel
theorem dX11_left_47 : decode cX11_left 47 = .ok (.lstore 6, 2) := by decide +kernel
theorem dX11_left_49 : decode cX11_left 49 = .ok (.lload 6, 2) := by decide +kernel
theorem dX11_left_51 : decode cX11_left 51 = .ok (.lconst 0, 1) := by decide +kernel
theorem dX11_left_52 : decode cX11_left 52 = .ok (.lcmp, 1) := by decide +kernel
theorem dX11_left_53 : decode cX11_left 53 = .ok (.ifCond .ne 9, 3) := by decide +kernel
theorem dX11_left_56 : decode cX11_left 56 = .ok (.ldc2_w 157, 3) := by decide +kernel
theorem dX11_left_59 : decode cX11_left 59 = .ok (.goto 20, 3) := by decide +kernel
theorem dX11_left_62 : decode cX11_left 62 = .ok (.aload_n 0, 1) := by decide +kernel
theorem dX11_left_63 : decode cX11_left 63 = .ok (.getfield 39, 3) := by decide +kernel
theorem dX11_left_66 : decode cX11_left 66 = .ok (.iload 5, 2) := by decide +kernel
theorem dX11_left_68 : decode cX11_left 68 = .ok (.iload_n 3, 1) := by decide +kernel
theorem dX11_left_69 : decode cX11_left 69 = .ok (.invokevirtual 159, 3) := by decide +kernel
theorem dX11_left_72 : decode cX11_left 72 = .ok (.lload 6, 2) := by decide +kernel
theorem dX11_left_74 : decode cX11_left 74 = .ok (.iload 4, 2) := by decide +kernel
theorem dX11_left_76 : decode cX11_left 76 = .ok (.invokestatic 163, 3) := by decide +kernel
theorem dX11_left_79 : decode cX11_left 79 = .ok (.lreturn, 1) := by decide +kernel
theorem dX11_mean_0 : decode cX11_mean 0 = .ok (.aload_n 0, 1) := by decide +kernel
theorem dX11_mean_1 : decode cX11_mean 1 = .ok (.iload_n 1, 1) := by decide +kernel
theorem dX11_mean_2 : decode cX11_mean 2 = .ok (.iload_n 2, 1) := by decide +kernel
theorem dX11_mean_3 : decode cX11_mean 3 = .ok (.invokevirtual 142, 3) := by decide +kernel
theorem dX11_mean_6 : decode cX11_mean 6 = .ok (.ifCond .eq 20, 3) := by decide +kernel
theorem dX11_mean_9 : decode cX11_mean 9 = .ok (.iload_n 3, 1) := by decide +kernel
theorem dX11_mean_10 : decode cX11_mean 10 = .ok (.ifCond .lt 16, 3) := by decide +kernel
theorem dX11_mean_13 : decode cX11_mean 13 = .ok (.iload_n 3, 1) := by decide +kernel
theorem dX11_mean_14 : decode cX11_mean 14 = .ok (.iconst 2, 1) := by decide +kernel
theorem dX11_mean_15 : decode cX11_mean 15 = .ok (.if_icmp .gt 11, 3) := by decide +kernel
theorem dX11_mean_18 : decode cX11_mean 18 = .ok (.iload 4, 2) := by decide +kernel
theorem dX11_mean_20 : decode cX11_mean 20 = .ok (.invokestatic 145, 3) := by decide +kernel
theorem dX11_mean_23 : decode cX11_mean 23 = .ok (.ifCond .ne 7, 3) := by decide +kernel
theorem dX11_mean_26 : decode cX11_mean 26 = .ok (.ldc2_w 148, 3) := by decide +kernel
theorem dX11_mean_29 : decode cX11_mean 29 = .ok (.lreturn, 1) := by decide +kernel
theorem dX11_mean_30 : decode cX11_mean 30 = .ok (.aload_n 0, 1) := by decide +kernel
theorem dX11_mean_31 : decode cX11_mean 31 = .ok (.iload_n 1, 1) := by decide +kernel
theorem dX11_mean_32 : decode cX11_mean 32 = .ok (.iload_n 2, 1) := by decide +kernel
theorem dX11_mean_33 : decode cX11_mean 33 = .ok (.invokevirtual 150, 3) := by decide +kernel
theorem dX11_mean_36 : decode cX11_mean 36 = .ok (.istore 5, 2) := by decide +kernel
theorem dX11_mean_38 : decode cX11_mean 38 = .ok (.aload_n 0, 1) := by decide +kernel
theorem dX11_mean_39 : decode cX11_mean 39 = .ok (.getfield 39, 3) := by decide +kernel
theorem dX11_mean_42 : decode cX11_mean 42 = .ok (.iload 5, 2) := by decide +kernel
theorem dX11_mean_44 : decode cX11_mean 44 = .ok (.invokevirtual 153, 3) := by decide +kernel
theorem dX11_mean_47 : decode cX11_mean 47 = .ok (.lstore 6, 2) := by decide +kernel
theorem dX11_mean_49 : decode cX11_mean 49 = .ok (.iload_n 3, 1) := by decide +kernel
theorem dX11_mean_50 : decode cX11_mean 50 = .ok (.iconst 2, 1) := by decide +kernel
theorem dX11_mean_51 : decode cX11_mean 51 = .ok (.if_icmp .ne 20, 3) := by decide +kernel
theorem dX11_mean_54 : decode cX11_mean 54 = .ok (.lload 6, 2) := by decide +kernel
theorem dX11_mean_56 : decode cX11_mean 56 = .ok (.aload_n 0, 1) := by decide +kernel
theorem dX11_mean_57 : decode cX11_mean 57 = .ok (.getfield 39, 3) := by decide +kernel
theorem dX11_mean_60 : decode cX11_mean 60 = .ok (.iload 5, 2) := by decide +kernel
theorem dX11_mean_62 : decode cX11_mean 62 = .ok (.invokevirtual 167, 3) := by decide +kernel
theorem dX11_mean_65 : decode cX11_mean 65 = .ok (.iload 4, 2) := by decide +kernel
theorem dX11_mean_67 : decode cX11_mean 67 = .ok (.invokestatic 163, 3) := by decide +kernel
theorem dX11_mean_70 : decode cX11_mean 70 = .ok (.lreturn, 1) := by decide +kernel
theorem dX11_mean_71 : decode cX11_mean 71 = .ok (.lload 6, 2) := by decide +kernel
theorem dX11_mean_73 : decode cX11_mean 73 = .ok (.lconst 0, 1) := by decide +kernel
theorem dX11_mean_74 : decode cX11_mean 74 = .ok (.lcmp, 1) := by decide +kernel
theorem dX11_mean_75 : decode cX11_mean 75 = .ok (.ifCond .ne 7, 3) := by decide +kernel
theorem dX11_mean_78 : decode cX11_mean 78 = .ok (.ldc2_w 157, 3) := by decide +kernel
theorem dX11_mean_81 : decode cX11_mean 81 = .ok (.lreturn, 1) := by decide +kernel
theorem dX11_mean_82 : decode cX11_mean 82 = .ok (.iload_n 3, 1) := by decide +kernel
theorem dX11_mean_83 : decode cX11_mean 83 = .ok (.ifCond .ne 15, 3) := by decide +kernel
theorem dX11_mean_86 : decode cX11_mean 86 = .ok (.aload_n 0, 1) := by decide +kernel
theorem dX11_mean_87 : decode cX11_mean 87 = .ok (.getfield 39, 3) := by decide +kernel
theorem dX11_mean_90 : decode cX11_mean 90 = .ok (.iload 5, 2) := by decide +kernel
theorem dX11_mean_92 : decode cX11_mean 92 = .ok (.invokevirtual 170, 3) := by decide +kernel
theorem dX11_mean_95 : decode cX11_mean 95 = .ok (.goto 13, 3) := by decide +kernel
theorem dX11_mean_98 : decode cX11_mean 98 = .ok (.aload_n 0, 1) := by decide +kernel
theorem dX11_mean_99 : decode cX11_mean 99 = .ok (.getfield 39, 3) := by decide +kernel
theorem dX11_mean_102 : decode cX11_mean 102 = .ok (.iload 5, 2) := by decide +kernel
theorem dX11_mean_104 : decode cX11_mean 104 = .ok (.iconst 0, 1) := by decide +kernel
theorem dX11_mean_105 : decode cX11_mean 105 = .ok (.invokevirtual 159, 3) := by decide +kernel
theorem dX11_mean_108 : decode cX11_mean 108 = .ok (.lload 6, 2) := by decide +kernel
theorem dX11_mean_110 : decode cX11_mean 110 = .ok (.iload 4, 2) := by decide +kernel
theorem dX11_mean_112 : decode cX11_mean 112 = .ok (.invokestatic 163, 3) := by decide +kernel
theorem dX11_mean_115 : decode cX11_mean 115 = .ok (.lreturn, 1) := by decide +kernel
theorem dX11_worth_0 : decode cX11_worth 0 = .ok (.iload_n 2, 1) := by decide +kernel
theorem dX11_worth_1 : decode cX11_worth 1 = .ok (.ifCond .lt 22, 3) := by decide +kernel
theorem dX11_worth_4 : decode cX11_worth 4 = .ok (.aload_n 0, 1) := by decide +kernel
theorem dX11_worth_5 : decode cX11_worth 5 = .ok (.iload_n 1, 1) := by decide +kernel
theorem dX11_worth_6 : decode cX11_worth 6 = .ok (.iload_n 2, 1) := by decide +kernel
theorem dX11_worth_7 : decode cX11_worth 7 = .ok (.bipush 10, 2) := by decide +kernel
theorem dX11_worth_9 : decode cX11_worth 9 = .ok (.idiv, 1) := by decide +kernel
theorem dX11_worth_10 : decode cX11_worth 10 = .ok (.invokevirtual 142, 3) := by decide +kernel
theorem dX11_worth_13 : decode cX11_worth 13 = .ok (.ifCond .eq 10, 3) := by decide +kernel
theorem dX11_worth_16 : decode cX11_worth 16 = .ok (.iload_n 3, 1) := by decide +kernel
theorem dX11_worth_17 : decode cX11_worth 17 = .ok (.invokestatic 145, 3) := by decide +kernel
theorem dX11_worth_20 : decode cX11_worth 20 = .ok (.ifCond .ne 7, 3) := by decide +kernel
theorem dX11_worth_23 : decode cX11_worth 23 = .ok (.ldc2_w 148, 3) := by decide +kernel
theorem dX11_worth_26 : decode cX11_worth 26 = .ok (.lreturn, 1) := by decide +kernel
theorem dX11_worth_27 : decode cX11_worth 27 = .ok (.iload_n 2, 1) := by decide +kernel
theorem dX11_worth_28 : decode cX11_worth 28 = .ok (.bipush 10, 2) := by decide +kernel
theorem dX11_worth_30 : decode cX11_worth 30 = .ok (.irem, 1) := by decide +kernel
theorem dX11_worth_31 : decode cX11_worth 31 = .ok (.istore 4, 2) := by decide +kernel
theorem dX11_worth_33 : decode cX11_worth 33 = .ok (.iload 4, 2) := by decide +kernel
theorem dX11_worth_35 : decode cX11_worth 35 = .ok (.bipush 6, 2) := by decide +kernel
theorem dX11_worth_37 : decode cX11_worth 37 = .ok (.if_icmp .eq 19, 3) := by decide +kernel
theorem dX11_worth_40 : decode cX11_worth 40 = .ok (.aload_n 0, 1) := by decide +kernel
theorem dX11_worth_41 : decode cX11_worth 41 = .ok (.getfield 10, 3) := by decide +kernel
theorem dX11_worth_44 : decode cX11_worth 44 = .ok (.iload 4, 2) := by decide +kernel
theorem dX11_worth_46 : decode cX11_worth 46 = .ok (.invokevirtual 136, 3) := by decide +kernel
theorem dX11_worth_49 : decode cX11_worth 49 = .ok (.ifCond .ne 7, 3) := by decide +kernel
theorem dX11_worth_52 : decode cX11_worth 52 = .ok (.ldc2_w 148, 3) := by decide +kernel
theorem dX11_worth_55 : decode cX11_worth 55 = .ok (.lreturn, 1) := by decide +kernel
theorem dX11_worth_56 : decode cX11_worth 56 = .ok (.aload_n 0, 1) := by decide +kernel
theorem dX11_worth_57 : decode cX11_worth 57 = .ok (.iload_n 1, 1) := by decide +kernel
theorem dX11_worth_58 : decode cX11_worth 58 = .ok (.iload_n 2, 1) := by decide +kernel
theorem dX11_worth_59 : decode cX11_worth 59 = .ok (.bipush 10, 2) := by decide +kernel
theorem dX11_worth_61 : decode cX11_worth 61 = .ok (.idiv, 1) := by decide +kernel
theorem dX11_worth_62 : decode cX11_worth 62 = .ok (.invokevirtual 150, 3) := by decide +kernel
theorem dX11_worth_65 : decode cX11_worth 65 = .ok (.istore 5, 2) := by decide +kernel
theorem dX11_worth_67 : decode cX11_worth 67 = .ok (.aload_n 0, 1) := by decide +kernel
theorem dX11_worth_68 : decode cX11_worth 68 = .ok (.getfield 39, 3) := by decide +kernel
theorem dX11_worth_71 : decode cX11_worth 71 = .ok (.iload 5, 2) := by decide +kernel
theorem dX11_worth_73 : decode cX11_worth 73 = .ok (.invokevirtual 153, 3) := by decide +kernel
theorem dX11_worth_76 : decode cX11_worth 76 = .ok (.lstore 6, 2) := by decide +kernel
theorem dX11_worth_78 : decode cX11_worth 78 = .ok (.lload 6, 2) := by decide +kernel
theorem dX11_worth_80 : decode cX11_worth 80 = .ok (.lconst 0, 1) := by decide +kernel
theorem dX11_worth_81 : decode cX11_worth 81 = .ok (.lcmp, 1) := by decide +kernel
theorem dX11_worth_82 : decode cX11_worth 82 = .ok (.ifCond .ne 9, 3) := by decide +kernel
theorem dX11_worth_85 : decode cX11_worth 85 = .ok (.ldc2_w 157, 3) := by decide +kernel
theorem dX11_worth_88 : decode cX11_worth 88 = .ok (.goto 21, 3) := by decide +kernel
theorem dX11_worth_91 : decode cX11_worth 91 = .ok (.aload_n 0, 1) := by decide +kernel
theorem dX11_worth_92 : decode cX11_worth 92 = .ok (.iload 4, 2) := by decide +kernel
theorem dX11_worth_94 : decode cX11_worth 94 = .ok (.iload 5, 2) := by decide +kernel
theorem dX11_worth_96 : decode cX11_worth 96 = .ok (.invokevirtual 173, 3) := by decide +kernel
theorem dX11_worth_99 : decode cX11_worth 99 = .ok (.ldc2_w 176, 3) := by decide +kernel
theorem dX11_worth_102 : decode cX11_worth 102 = .ok (.lload 6, 2) := by decide +kernel
theorem dX11_worth_104 : decode cX11_worth 104 = .ok (.lmul, 1) := by decide +kernel
theorem dX11_worth_105 : decode cX11_worth 105 = .ok (.iload_n 3, 1) := by decide +kernel
theorem dX11_worth_106 : decode cX11_worth 106 = .ok (.invokestatic 163, 3) := by decide +kernel
theorem dX11_worth_109 : decode cX11_worth 109 = .ok (.lreturn, 1) := by decide +kernel
theorem dX11_next_0 : decode cX11_next 0 = .ok (.iload_n 1, 1) := by decide +kernel
theorem dX11_next_1 : decode cX11_next 1 = .ok (.invokestatic 101, 3) := by decide +kernel
theorem dX11_next_4 : decode cX11_next 4 = .ok (.ifCond .eq 10, 3) := by decide +kernel
theorem dX11_next_7 : decode cX11_next 7 = .ok (.iload_n 2, 1) := by decide +kernel
theorem dX11_next_8 : decode cX11_next 8 = .ok (.invokestatic 178, 3) := by decide +kernel
theorem dX11_next_11 : decode cX11_next 11 = .ok (.ifCond .ne 5, 3) := by decide +kernel
theorem dX11_next_14 : decode cX11_next 14 = .ok (.iconst (-1), 1) := by decide +kernel
theorem dX11_next_15 : decode cX11_next 15 = .ok (.ireturn, 1) := by decide +kernel
theorem dX11_next_16 : decode cX11_next 16 = .ok (.aload_n 0, 1) := by decide +kernel
theorem dX11_next_17 : decode cX11_next 17 = .ok (.getfield 25, 3) := by decide +kernel
theorem dX11_next_20 : decode cX11_next 20 = .ok (.iload_n 1, 1) := by decide +kernel
theorem dX11_next_21 : decode cX11_next 21 = .ok (.aaload, 1) := by decide +kernel
theorem dX11_next_22 : decode cX11_next 22 = .ok (.invokevirtual 181, 3) := by decide +kernel
theorem dX11_next_25 : decode cX11_next 25 = .ok (.istore_n 3, 1) := by decide +kernel
theorem dX11_next_26 : decode cX11_next 26 = .ok (.iload_n 3, 1) := by decide +kernel
theorem dX11_next_27 : decode cX11_next 27 = .ok (.ifCond .ge 5, 3) := by decide +kernel
theorem dX11_next_30 : decode cX11_next 30 = .ok (.iload_n 3, 1) := by decide +kernel
theorem dX11_next_31 : decode cX11_next 31 = .ok (.ireturn, 1) := by decide +kernel
theorem dX11_next_32 : decode cX11_next 32 = .ok (.aload_n 0, 1) := by decide +kernel
theorem dX11_next_33 : decode cX11_next 33 = .ok (.iload_n 1, 1) := by decide +kernel
theorem dX11_next_34 : decode cX11_next 34 = .ok (.iload_n 2, 1) := by decide +kernel
theorem dX11_next_35 : decode cX11_next 35 = .ok (.invokevirtual 150, 3) := by decide +kernel
theorem dX11_next_38 : decode cX11_next 38 = .ok (.istore 4, 2) := by decide +kernel
theorem dX11_next_40 : decode cX11_next 40 = .ok (.bipush (-2), 2) := by decide +kernel
theorem dX11_next_42 : decode cX11_next 42 = .ok (.istore 5, 2) := by decide +kernel
theorem dX11_next_44 : decode cX11_next 44 = .ok (.lconst 0, 1) := by decide +kernel
theorem dX11_next_45 : decode cX11_next 45 = .ok (.lstore 6, 2) := by decide +kernel
theorem dX11_next_47 : decode cX11_next 47 = .ok (.iconst 0, 1) := by decide +kernel
theorem dX11_next_48 : decode cX11_next 48 = .ok (.istore 8, 2) := by decide +kernel
theorem dX11_next_50 : decode cX11_next 50 = .ok (.iload 8, 2) := by decide +kernel
theorem dX11_next_52 : decode cX11_next 52 = .ok (.bipush 6, 2) := by decide +kernel
theorem dX11_next_54 : decode cX11_next 54 = .ok (.if_icmp .gt 57, 3) := by decide +kernel
theorem dX11_next_57 : decode cX11_next 57 = .ok (.iload 8, 2) := by decide +kernel
theorem dX11_next_59 : decode cX11_next 59 = .ok (.bipush 6, 2) := by decide +kernel
theorem dX11_next_61 : decode cX11_next 61 = .ok (.if_icmp .eq 18, 3) := by decide +kernel
theorem dX11_next_64 : decode cX11_next 64 = .ok (.aload_n 0, 1) := by decide +kernel
theorem dX11_next_65 : decode cX11_next 65 = .ok (.getfield 10, 3) := by decide +kernel
theorem dX11_next_68 : decode cX11_next 68 = .ok (.iload 8, 2) := by decide +kernel
theorem dX11_next_70 : decode cX11_next 70 = .ok (.invokevirtual 136, 3) := by decide +kernel
theorem dX11_next_73 : decode cX11_next 73 = .ok (.ifCond .ne 6, 3) := by decide +kernel
theorem dX11_next_76 : decode cX11_next 76 = .ok (.goto 29, 3) := by decide +kernel
theorem dX11_next_79 : decode cX11_next 79 = .ok (.aload_n 0, 1) := by decide +kernel
theorem dX11_next_80 : decode cX11_next 80 = .ok (.iload 8, 2) := by decide +kernel
theorem dX11_next_82 : decode cX11_next 82 = .ok (.iload 4, 2) := by decide +kernel
theorem dX11_next_84 : decode cX11_next 84 = .ok (.invokevirtual 173, 3) := by decide +kernel
theorem dX11_next_87 : decode cX11_next 87 = .ok (.lstore 9, 2) := by decide +kernel
theorem dX11_next_89 : decode cX11_next 89 = .ok (.lload 9, 2) := by decide +kernel
theorem dX11_next_91 : decode cX11_next 91 = .ok (.lload 6, 2) := by decide +kernel
theorem dX11_next_93 : decode cX11_next 93 = .ok (.lcmp, 1) := by decide +kernel
theorem dX11_next_94 : decode cX11_next 94 = .ok (.ifCond .le 11, 3) := by decide +kernel
theorem dX11_next_97 : decode cX11_next 97 = .ok (.lload 9, 2) := by decide +kernel
theorem dX11_next_99 : decode cX11_next 99 = .ok (.lstore 6, 2) := by decide +kernel
theorem dX11_next_101 : decode cX11_next 101 = .ok (.iload 8, 2) := by decide +kernel
theorem dX11_next_103 : decode cX11_next 103 = .ok (.istore 5, 2) := by decide +kernel
theorem dX11_next_105 : decode cX11_next 105 = .ok (.iinc 8 1, 3) := by decide +kernel
theorem dX11_next_108 : decode cX11_next 108 = .ok (.goto (-58), 3) := by decide +kernel
theorem dX11_next_111 : decode cX11_next 111 = .ok (.iload 5, 2) := by decide +kernel
theorem dX11_next_113 : decode cX11_next 113 = .ok (.ireturn, 1) := by decide +kernel
theorem dX11_plan_0 : decode cX11_plan 0 = .ok (.iload_n 1, 1) := by decide +kernel
theorem dX11_plan_1 : decode cX11_plan 1 = .ok (.invokestatic 178, 3) := by decide +kernel
theorem dX11_plan_4 : decode cX11_plan 4 = .ok (.ifCond .eq 21, 3) := by decide +kernel
theorem dX11_plan_7 : decode cX11_plan 7 = .ok (.iload_n 2, 1) := by decide +kernel
theorem dX11_plan_8 : decode cX11_plan 8 = .ok (.ifCond .lt 17, 3) := by decide +kernel
theorem dX11_plan_11 : decode cX11_plan 11 = .ok (.iload_n 2, 1) := by decide +kernel
theorem dX11_plan_12 : decode cX11_plan 12 = .ok (.iconst 3, 1) := by decide +kernel
theorem dX11_plan_13 : decode cX11_plan 13 = .ok (.if_icmp .gt 12, 3) := by decide +kernel
theorem dX11_plan_16 : decode cX11_plan 16 = .ok (.iload_n 3, 1) := by decide +kernel
theorem dX11_plan_17 : decode cX11_plan 17 = .ok (.ifCond .lt 8, 3) := by decide +kernel
theorem dX11_plan_20 : decode cX11_plan 20 = .ok (.iload_n 3, 1) := by decide +kernel
theorem dX11_plan_21 : decode cX11_plan 21 = .ok (.iconst 2, 1) := by decide +kernel
theorem dX11_plan_22 : decode cX11_plan 22 = .ok (.if_icmp .le 7, 3) := by decide +kernel
theorem dX11_plan_25 : decode cX11_plan 25 = .ok (.ldc2_w 148, 3) := by decide +kernel
theorem dX11_plan_28 : decode cX11_plan 28 = .ok (.lreturn, 1) := by decide +kernel
theorem dX11_plan_29 : decode cX11_plan 29 = .ok (.aload_n 0, 1) := by decide +kernel
theorem dX11_plan_30 : decode cX11_plan 30 = .ok (.invokevirtual 184, 3) := by decide +kernel
theorem dX11_plan_33 : decode cX11_plan 33 = .ok (.aload_n 0, 1) := by decide +kernel
theorem dX11_plan_34 : decode cX11_plan 34 = .ok (.iload_n 1, 1) := by decide +kernel
theorem dX11_plan_35 : decode cX11_plan 35 = .ok (.iload_n 2, 1) := by decide +kernel
theorem dX11_plan_36 : decode cX11_plan 36 = .ok (.invokevirtual 187, 3) := by decide +kernel
theorem dX11_plan_39 : decode cX11_plan 39 = .ok (.lstore 4, 2) := by decide +kernel
theorem dX11_plan_41 : decode cX11_plan 41 = .ok (.iload_n 3, 1) := by decide +kernel
theorem dX11_plan_42 : decode cX11_plan 42 = .ok (.iconst 2, 1) := by decide +kernel
theorem dX11_plan_43 : decode cX11_plan 43 = .ok (.if_icmp .ne 14, 3) := by decide +kernel
theorem dX11_plan_46 : decode cX11_plan 46 = .ok (.aload_n 0, 1) := by decide +kernel
theorem dX11_plan_47 : decode cX11_plan 47 = .ok (.getfield 46, 3) := by decide +kernel
theorem dX11_plan_50 : decode cX11_plan 50 = .ok (.getfield 190, 3) := by decide +kernel
theorem dX11_plan_53 : decode cX11_plan 53 = .ok (.i2l, 1) := by decide +kernel
theorem dX11_plan_54 : decode cX11_plan 54 = .ok (.goto 20, 3) := by decide +kernel
theorem dX11_plan_57 : decode cX11_plan 57 = .ok (.lload 4, 2) := by decide +kernel
theorem dX11_plan_59 : decode cX11_plan 59 = .ok (.aload_n 0, 1) := by decide +kernel
theorem dX11_plan_60 : decode cX11_plan 60 = .ok (.getfield 46, 3) := by decide +kernel
theorem dX11_plan_63 : decode cX11_plan 63 = .ok (.getfield 194, 3) := by decide +kernel
theorem dX11_plan_66 : decode cX11_plan 66 = .ok (.iload_n 2, 1) := by decide +kernel
theorem dX11_plan_67 : decode cX11_plan 67 = .ok (.invokevirtual 167, 3) := by decide +kernel
theorem dX11_plan_70 : decode cX11_plan 70 = .ok (.iload_n 3, 1) := by decide +kernel
theorem dX11_plan_71 : decode cX11_plan 71 = .ok (.invokestatic 163, 3) := by decide +kernel
theorem dX11_plan_74 : decode cX11_plan 74 = .ok (.lreturn, 1) := by decide +kernel
theorem dX11_buy_0 : decode cX11_buy 0 = .ok (.iload_n 1, 1) := by decide +kernel
theorem dX11_buy_1 : decode cX11_buy 1 = .ok (.ifCond .lt 8, 3) := by decide +kernel
theorem dX11_buy_4 : decode cX11_buy 4 = .ok (.iload_n 1, 1) := by decide +kernel
theorem dX11_buy_5 : decode cX11_buy 5 = .ok (.iconst 2, 1) := by decide +kernel
theorem dX11_buy_6 : decode cX11_buy 6 = .ok (.if_icmp .le 7, 3) := by decide +kernel
theorem dX11_buy_9 : decode cX11_buy 9 = .ok (.ldc2_w 148, 3) := by decide +kernel
theorem dX11_buy_12 : decode cX11_buy 12 = .ok (.lreturn, 1) := by decide +kernel
theorem dX11_buy_13 : decode cX11_buy 13 = .ok (.aload_n 0, 1) := by decide +kernel
theorem dX11_buy_14 : decode cX11_buy 14 = .ok (.invokevirtual 184, 3) := by decide +kernel
theorem dX11_buy_17 : decode cX11_buy 17 = .ok (.iconst 0, 1) := by decide +kernel
theorem dX11_buy_18 : decode cX11_buy 18 = .ok (.istore_n 2, 1) := by decide +kernel
theorem dX11_buy_19 : decode cX11_buy 19 = .ok (.lconst 0, 1) := by decide +kernel
theorem dX11_buy_20 : decode cX11_buy 20 = .ok (.lstore_n 3, 1) := by decide +kernel
theorem dX11_buy_21 : decode cX11_buy 21 = .ok (.lconst 1, 1) := by decide +kernel
theorem dX11_buy_22 : decode cX11_buy 22 = .ok (.lstore 5, 2) := by decide +kernel
theorem dX11_buy_24 : decode cX11_buy 24 = .ok (.iconst 0, 1) := by decide +kernel
theorem dX11_buy_25 : decode cX11_buy 25 = .ok (.istore 7, 2) := by decide +kernel
theorem dX11_buy_27 : decode cX11_buy 27 = .ok (.iload 7, 2) := by decide +kernel
theorem dX11_buy_29 : decode cX11_buy 29 = .ok (.iconst 4, 1) := by decide +kernel
theorem dX11_buy_30 : decode cX11_buy 30 = .ok (.if_icmp .ge 87, 3) := by decide +kernel
theorem dX11_buy_33 : decode cX11_buy 33 = .ok (.aload_n 0, 1) := by decide +kernel
theorem dX11_buy_34 : decode cX11_buy 34 = .ok (.iload 7, 2) := by decide +kernel
theorem dX11_buy_36 : decode cX11_buy 36 = .ok (.iconst 2, 1) := by decide +kernel
theorem dX11_buy_37 : decode cX11_buy 37 = .ok (.invokevirtual 187, 3) := by decide +kernel
theorem dX11_buy_40 : decode cX11_buy 40 = .ok (.lstore 8, 2) := by decide +kernel
theorem dX11_buy_42 : decode cX11_buy 42 = .ok (.aload_n 0, 1) := by decide +kernel
theorem dX11_buy_43 : decode cX11_buy 43 = .ok (.getfield 46, 3) := by decide +kernel
theorem dX11_buy_46 : decode cX11_buy 46 = .ok (.getfield 194, 3) := by decide +kernel
theorem dX11_buy_49 : decode cX11_buy 49 = .ok (.iconst 0, 1) := by decide +kernel
theorem dX11_buy_50 : decode cX11_buy 50 = .ok (.invokevirtual 153, 3) := by decide +kernel
theorem dX11_buy_53 : decode cX11_buy 53 = .ok (.lstore 10, 2) := by decide +kernel
theorem dX11_buy_55 : decode cX11_buy 55 = .ok (.lload 8, 2) := by decide +kernel
theorem dX11_buy_57 : decode cX11_buy 57 = .ok (.aload_n 0, 1) := by decide +kernel
theorem dX11_buy_58 : decode cX11_buy 58 = .ok (.getfield 10, 3) := by decide +kernel
theorem dX11_buy_61 : decode cX11_buy 61 = .ok (.iload 7, 2) := by decide +kernel
theorem dX11_buy_63 : decode cX11_buy 63 = .ok (.iconst 4, 1) := by decide +kernel
theorem dX11_buy_64 : decode cX11_buy 64 = .ok (.invokevirtual 122, 3) := by decide +kernel
theorem dX11_buy_67 : decode cX11_buy 67 = .ok (.i2l, 1) := by decide +kernel
theorem dX11_buy_68 : decode cX11_buy 68 = .ok (.aload_n 0, 1) := by decide +kernel
theorem dX11_buy_69 : decode cX11_buy 69 = .ok (.getfield 46, 3) := by decide +kernel
theorem dX11_buy_72 : decode cX11_buy 72 = .ok (.getfield 194, 3) := by decide +kernel
theorem dX11_buy_75 : decode cX11_buy 75 = .ok (.iconst 2, 1) := by decide +kernel
theorem dX11_buy_76 : decode cX11_buy 76 = .ok (.invokevirtual 167, 3) := by decide +kernel
theorem dX11_buy_79 : decode cX11_buy 79 = .ok (.lmul, 1) := by decide +kernel
theorem dX11_buy_80 : decode cX11_buy 80 = .ok (.ladd, 1) := by decide +kernel
theorem dX11_buy_81 : decode cX11_buy 81 = .ok (.lstore 12, 2) := by decide +kernel
theorem dX11_buy_83 : decode cX11_buy 83 = .ok (.iload 7, 2) := by decide +kernel
theorem dX11_buy_85 : decode cX11_buy 85 = .ok (.ifCond .eq 16, 3) := by decide +kernel
theorem dX11_buy_88 : decode cX11_buy 88 = .ok (.lload 12, 2) := by decide +kernel
theorem dX11_buy_90 : decode cX11_buy 90 = .ok (.lload 5, 2) := by decide +kernel
theorem dX11_buy_92 : decode cX11_buy 92 = .ok (.lmul, 1) := by decide +kernel
theorem dX11_buy_93 : decode cX11_buy 93 = .ok (.lload_n 3, 1) := by decide +kernel
theorem dX11_buy_94 : decode cX11_buy 94 = .ok (.lload 10, 2) := by decide +kernel
theorem dX11_buy_96 : decode cX11_buy 96 = .ok (.lmul, 1) := by decide +kernel
theorem dX11_buy_97 : decode cX11_buy 97 = .ok (.lcmp, 1) := by decide +kernel
theorem dX11_buy_98 : decode cX11_buy 98 = .ok (.ifCond .ge 13, 3) := by decide +kernel
theorem dX11_buy_101 : decode cX11_buy 101 = .ok (.iload 7, 2) := by decide +kernel
theorem dX11_buy_103 : decode cX11_buy 103 = .ok (.istore_n 2, 1) := by decide +kernel
theorem dX11_buy_104 : decode cX11_buy 104 = .ok (.lload 12, 2) := by decide +kernel
theorem dX11_buy_106 : decode cX11_buy 106 = .ok (.lstore_n 3, 1) := by decide +kernel
theorem dX11_buy_107 : decode cX11_buy 107 = .ok (.lload 10, 2) := by decide +kernel
theorem dX11_buy_109 : decode cX11_buy 109 = .ok (.lstore 5, 2) := by decide +kernel
theorem dX11_buy_111 : decode cX11_buy 111 = .ok (.iinc 7 1, 3) := by decide +kernel
theorem dX11_buy_114 : decode cX11_buy 114 = .ok (.goto (-87), 3) := by decide +kernel
theorem dX11_buy_117 : decode cX11_buy 117 = .ok (.iload_n 1, 1) := by decide +kernel
theorem dX11_buy_118 : decode cX11_buy 118 = .ok (.iconst 2, 1) := by decide +kernel
theorem dX11_buy_119 : decode cX11_buy 119 = .ok (.if_icmp .ne 8, 3) := by decide +kernel
theorem dX11_buy_122 : decode cX11_buy 122 = .ok (.iload_n 2, 1) := by decide +kernel
theorem dX11_buy_123 : decode cX11_buy 123 = .ok (.i2l, 1) := by decide +kernel
theorem dX11_buy_124 : decode cX11_buy 124 = .ok (.goto 18, 3) := by decide +kernel
theorem dX11_buy_127 : decode cX11_buy 127 = .ok (.lload_n 3, 1) := by decide +kernel
theorem dX11_buy_128 : decode cX11_buy 128 = .ok (.lload 5, 2) := by decide +kernel
theorem dX11_buy_130 : decode cX11_buy 130 = .ok (.ldc2_w 195, 3) := by decide +kernel
theorem dX11_buy_133 : decode cX11_buy 133 = .ok (.lmul, 1) := by decide +kernel
theorem dX11_buy_134 : decode cX11_buy 134 = .ok (.ldc2_w 195, 3) := by decide +kernel
theorem dX11_buy_137 : decode cX11_buy 137 = .ok (.lmul, 1) := by decide +kernel
theorem dX11_buy_138 : decode cX11_buy 138 = .ok (.iload_n 1, 1) := by decide +kernel
theorem dX11_buy_139 : decode cX11_buy 139 = .ok (.invokestatic 163, 3) := by decide +kernel
theorem dX11_buy_142 : decode cX11_buy 142 = .ok (.lreturn, 1) := by decide +kernel
theorem dX11_lists_0 : decode cX11_lists 0 = .ok (.iload_n 1, 1) := by decide +kernel
theorem dX11_lists_1 : decode cX11_lists 1 = .ok (.invokestatic 197, 3) := by decide +kernel
theorem dX11_lists_4 : decode cX11_lists 4 = .ok (.ifCond .eq 19, 3) := by decide +kernel
theorem dX11_lists_7 : decode cX11_lists 7 = .ok (.iload_n 2, 1) := by decide +kernel
theorem dX11_lists_8 : decode cX11_lists 8 = .ok (.ifCond .lt 15, 3) := by decide +kernel
theorem dX11_lists_11 : decode cX11_lists 11 = .ok (.iload_n 2, 1) := by decide +kernel
theorem dX11_lists_12 : decode cX11_lists 12 = .ok (.iconst 1, 1) := by decide +kernel
theorem dX11_lists_13 : decode cX11_lists 13 = .ok (.if_icmp .gt 10, 3) := by decide +kernel
theorem dX11_lists_16 : decode cX11_lists 16 = .ok (.iload_n 3, 1) := by decide +kernel
theorem dX11_lists_17 : decode cX11_lists 17 = .ok (.invokestatic 145, 3) := by decide +kernel
theorem dX11_lists_20 : decode cX11_lists 20 = .ok (.ifCond .ne 7, 3) := by decide +kernel
theorem dX11_lists_23 : decode cX11_lists 23 = .ok (.ldc2_w 148, 3) := by decide +kernel
theorem dX11_lists_26 : decode cX11_lists 26 = .ok (.lreturn, 1) := by decide +kernel
theorem dX11_lists_27 : decode cX11_lists 27 = .ok (.iload_n 1, 1) := by decide +kernel
theorem dX11_lists_28 : decode cX11_lists 28 = .ok (.sipush 10000, 3) := by decide +kernel
theorem dX11_lists_31 : decode cX11_lists 31 = .ok (.idiv, 1) := by decide +kernel
theorem dX11_lists_32 : decode cX11_lists 32 = .ok (.istore 4, 2) := by decide +kernel
theorem dX11_lists_34 : decode cX11_lists 34 = .ok (.iload_n 1, 1) := by decide +kernel
theorem dX11_lists_35 : decode cX11_lists 35 = .ok (.bipush 100, 2) := by decide +kernel
theorem dX11_lists_37 : decode cX11_lists 37 = .ok (.idiv, 1) := by decide +kernel
theorem dX11_lists_38 : decode cX11_lists 38 = .ok (.bipush 100, 2) := by decide +kernel
theorem dX11_lists_40 : decode cX11_lists 40 = .ok (.irem, 1) := by decide +kernel
theorem dX11_lists_41 : decode cX11_lists 41 = .ok (.istore 5, 2) := by decide +kernel
theorem dX11_lists_43 : decode cX11_lists 43 = .ok (.iload_n 1, 1) := by decide +kernel
theorem dX11_lists_44 : decode cX11_lists 44 = .ok (.bipush 100, 2) := by decide +kernel
theorem dX11_lists_46 : decode cX11_lists 46 = .ok (.irem, 1) := by decide +kernel
theorem dX11_lists_47 : decode cX11_lists 47 = .ok (.istore 6, 2) := by decide +kernel
theorem dX11_lists_49 : decode cX11_lists 49 = .ok (.iload 6, 2) := by decide +kernel
theorem dX11_lists_51 : decode cX11_lists 51 = .ok (.ifCond .ne 7, 3) := by decide +kernel
theorem dX11_lists_54 : decode cX11_lists 54 = .ok (.ldc2_w 157, 3) := by decide +kernel
theorem dX11_lists_57 : decode cX11_lists 57 = .ok (.lreturn, 1) := by decide +kernel
theorem dX11_lists_58 : decode cX11_lists 58 = .ok (.iload_n 2, 1) := by decide +kernel
theorem dX11_lists_59 : decode cX11_lists 59 = .ok (.ifCond .ne 19, 3) := by decide +kernel
theorem dX11_lists_62 : decode cX11_lists 62 = .ok (.iload 4, 2) := by decide +kernel
theorem dX11_lists_64 : decode cX11_lists 64 = .ok (.iload 5, 2) := by decide +kernel
theorem dX11_lists_66 : decode cX11_lists 66 = .ok (.imul, 1) := by decide +kernel
theorem dX11_lists_67 : decode cX11_lists 67 = .ok (.i2l, 1) := by decide +kernel
theorem dX11_lists_68 : decode cX11_lists 68 = .ok (.iload 6, 2) := by decide +kernel
theorem dX11_lists_70 : decode cX11_lists 70 = .ok (.i2l, 1) := by decide +kernel
theorem dX11_lists_71 : decode cX11_lists 71 = .ok (.iload_n 3, 1) := by decide +kernel
theorem dX11_lists_72 : decode cX11_lists 72 = .ok (.invokestatic 163, 3) := by decide +kernel
theorem dX11_lists_75 : decode cX11_lists 75 = .ok (.goto 22, 3) := by decide +kernel
theorem dX11_lists_78 : decode cX11_lists 78 = .ok (.iload 4, 2) := by decide +kernel
theorem dX11_lists_80 : decode cX11_lists 80 = .ok (.iload 6, 2) := by decide +kernel
theorem dX11_lists_82 : decode cX11_lists 82 = .ok (.isub, 1) := by decide +kernel
theorem dX11_lists_83 : decode cX11_lists 83 = .ok (.iload 5, 2) := by decide +kernel
theorem dX11_lists_85 : decode cX11_lists 85 = .ok (.iload 6, 2) := by decide +kernel
theorem dX11_lists_87 : decode cX11_lists 87 = .ok (.isub, 1) := by decide +kernel
theorem dX11_lists_88 : decode cX11_lists 88 = .ok (.imul, 1) := by decide +kernel
theorem dX11_lists_89 : decode cX11_lists 89 = .ok (.i2l, 1) := by decide +kernel
theorem dX11_lists_90 : decode cX11_lists 90 = .ok (.iload 6, 2) := by decide +kernel
theorem dX11_lists_92 : decode cX11_lists 92 = .ok (.i2l, 1) := by decide +kernel
theorem dX11_lists_93 : decode cX11_lists 93 = .ok (.iload_n 3, 1) := by decide +kernel
theorem dX11_lists_94 : decode cX11_lists 94 = .ok (.invokestatic 163, 3) := by decide +kernel
theorem dX11_lists_97 : decode cX11_lists 97 = .ok (.lreturn, 1) := by decide +kernel
theorem dX11_likeliest_0 : decode cX11_likeliest 0 = .ok (.iload_n 1, 1) := by decide +kernel
theorem dX11_likeliest_1 : decode cX11_likeliest 1 = .ok (.invokestatic 197, 3) := by decide +kernel
theorem dX11_likeliest_4 : decode cX11_likeliest 4 = .ok (.ifCond .ne 5, 3) := by decide +kernel
theorem dX11_likeliest_7 : decode cX11_likeliest 7 = .ok (.iconst (-1), 1) := by decide +kernel
theorem dX11_likeliest_8 : decode cX11_likeliest 8 = .ok (.ireturn, 1) := by decide +kernel
theorem dX11_likeliest_9 : decode cX11_likeliest 9 = .ok (.iload_n 1, 1) := by decide +kernel
theorem dX11_likeliest_10 : decode cX11_likeliest 10 = .ok (.sipush 10000, 3) := by decide +kernel
theorem dX11_likeliest_13 : decode cX11_likeliest 13 = .ok (.idiv, 1) := by decide +kernel
theorem dX11_likeliest_14 : decode cX11_likeliest 14 = .ok (.istore_n 2, 1) := by decide +kernel
theorem dX11_likeliest_15 : decode cX11_likeliest 15 = .ok (.iload_n 1, 1) := by decide +kernel
theorem dX11_likeliest_16 : decode cX11_likeliest 16 = .ok (.bipush 100, 2) := by decide +kernel
theorem dX11_likeliest_18 : decode cX11_likeliest 18 = .ok (.idiv, 1) := by decide +kernel
theorem dX11_likeliest_19 : decode cX11_likeliest 19 = .ok (.bipush 100, 2) := by decide +kernel
theorem dX11_likeliest_21 : decode cX11_likeliest 21 = .ok (.irem, 1) := by decide +kernel
theorem dX11_likeliest_22 : decode cX11_likeliest 22 = .ok (.istore_n 3, 1) := by decide +kernel
theorem dX11_likeliest_23 : decode cX11_likeliest 23 = .ok (.iload_n 1, 1) := by decide +kernel
theorem dX11_likeliest_24 : decode cX11_likeliest 24 = .ok (.bipush 100, 2) := by decide +kernel
theorem dX11_likeliest_26 : decode cX11_likeliest 26 = .ok (.irem, 1) := by decide +kernel
theorem dX11_likeliest_27 : decode cX11_likeliest 27 = .ok (.istore 4, 2) := by decide +kernel
theorem dX11_likeliest_29 : decode cX11_likeliest 29 = .ok (.iload_n 2, 1) := by decide +kernel
theorem dX11_likeliest_30 : decode cX11_likeliest 30 = .ok (.iload_n 3, 1) := by decide +kernel
theorem dX11_likeliest_31 : decode cX11_likeliest 31 = .ok (.iadd, 1) := by decide +kernel
theorem dX11_likeliest_32 : decode cX11_likeliest 32 = .ok (.iload 4, 2) := by decide +kernel
theorem dX11_likeliest_34 : decode cX11_likeliest 34 = .ok (.isub, 1) := by decide +kernel
theorem dX11_likeliest_35 : decode cX11_likeliest 35 = .ok (.istore 5, 2) := by decide +kernel
theorem dX11_likeliest_37 : decode cX11_likeliest 37 = .ok (.iload 5, 2) := by decide +kernel
theorem dX11_likeliest_39 : decode cX11_likeliest 39 = .ok (.bipush 60, 2) := by decide +kernel
theorem dX11_likeliest_41 : decode cX11_likeliest 41 = .ok (.if_icmp .ge 22, 3) := by decide +kernel
theorem dX11_likeliest_44 : decode cX11_likeliest 44 = .ok (.iload 5, 2) := by decide +kernel
theorem dX11_likeliest_46 : decode cX11_likeliest 46 = .ok (.iconst 1, 1) := by decide +kernel
theorem dX11_likeliest_47 : decode cX11_likeliest 47 = .ok (.iadd, 1) := by decide +kernel
theorem dX11_likeliest_48 : decode cX11_likeliest 48 = .ok (.iload 4, 2) := by decide +kernel
theorem dX11_likeliest_50 : decode cX11_likeliest 50 = .ok (.imul, 1) := by decide +kernel
theorem dX11_likeliest_51 : decode cX11_likeliest 51 = .ok (.iload_n 2, 1) := by decide +kernel
theorem dX11_likeliest_52 : decode cX11_likeliest 52 = .ok (.iload_n 3, 1) := by decide +kernel
theorem dX11_likeliest_53 : decode cX11_likeliest 53 = .ok (.imul, 1) := by decide +kernel
theorem dX11_likeliest_54 : decode cX11_likeliest 54 = .ok (.if_icmp .ge 9, 3) := by decide +kernel
theorem dX11_likeliest_57 : decode cX11_likeliest 57 = .ok (.iinc 5 1, 3) := by decide +kernel
theorem dX11_likeliest_60 : decode cX11_likeliest 60 = .ok (.goto (-23), 3) := by decide +kernel
theorem dX11_likeliest_63 : decode cX11_likeliest 63 = .ok (.iload 5, 2) := by decide +kernel
theorem dX11_likeliest_65 : decode cX11_likeliest 65 = .ok (.ireturn, 1) := by decide +kernel
theorem dX11_seesFor_0 : decode cX11_seesFor 0 = .ok (.iload_n 1, 1) := by decide +kernel
theorem dX11_seesFor_1 : decode cX11_seesFor 1 = .ok (.invokestatic 200, 3) := by decide +kernel
theorem dX11_seesFor_4 : decode cX11_seesFor 4 = .ok (.ifCond .eq 17, 3) := by decide +kernel
theorem dX11_seesFor_7 : decode cX11_seesFor 7 = .ok (.iload_n 1, 1) := by decide +kernel
theorem dX11_seesFor_8 : decode cX11_seesFor 8 = .ok (.bipush 100, 2) := by decide +kernel
theorem dX11_seesFor_10 : decode cX11_seesFor 10 = .ok (.idiv, 1) := by decide +kernel
theorem dX11_seesFor_11 : decode cX11_seesFor 11 = .ok (.iload_n 1, 1) := by decide +kernel
theorem dX11_seesFor_12 : decode cX11_seesFor 12 = .ok (.bipush 100, 2) := by decide +kernel
theorem dX11_seesFor_14 : decode cX11_seesFor 14 = .ok (.irem, 1) := by decide +kernel
theorem dX11_seesFor_15 : decode cX11_seesFor 15 = .ok (.invokestatic 203, 3) := by decide +kernel
theorem dX11_seesFor_18 : decode cX11_seesFor 18 = .ok (.goto 4, 3) := by decide +kernel
theorem dX11_seesFor_21 : decode cX11_seesFor 21 = .ok (.iconst (-1), 1) := by decide +kernel
theorem dX11_seesFor_22 : decode cX11_seesFor 22 = .ok (.ireturn, 1) := by decide +kernel
theorem dX11_besides_0 : decode cX11_besides 0 = .ok (.iload_n 1, 1) := by decide +kernel
theorem dX11_besides_1 : decode cX11_besides 1 = .ok (.invokestatic 200, 3) := by decide +kernel
theorem dX11_besides_4 : decode cX11_besides 4 = .ok (.ifCond .eq 20, 3) := by decide +kernel
theorem dX11_besides_7 : decode cX11_besides 7 = .ok (.iload_n 2, 1) := by decide +kernel
theorem dX11_besides_8 : decode cX11_besides 8 = .ok (.ifCond .lt 16, 3) := by decide +kernel
theorem dX11_besides_11 : decode cX11_besides 11 = .ok (.iload_n 2, 1) := by decide +kernel
theorem dX11_besides_12 : decode cX11_besides 12 = .ok (.bipush 99, 2) := by decide +kernel
theorem dX11_besides_14 : decode cX11_besides 14 = .ok (.if_icmp .gt 10, 3) := by decide +kernel
theorem dX11_besides_17 : decode cX11_besides 17 = .ok (.iload_n 3, 1) := by decide +kernel
theorem dX11_besides_18 : decode cX11_besides 18 = .ok (.invokestatic 145, 3) := by decide +kernel
theorem dX11_besides_21 : decode cX11_besides 21 = .ok (.ifCond .ne 7, 3) := by decide +kernel
theorem dX11_besides_24 : decode cX11_besides 24 = .ok (.ldc2_w 148, 3) := by decide +kernel
theorem dX11_besides_27 : decode cX11_besides 27 = .ok (.lreturn, 1) := by decide +kernel
theorem dX11_besides_28 : decode cX11_besides 28 = .ok (.iload_n 1, 1) := by decide +kernel
theorem dX11_besides_29 : decode cX11_besides 29 = .ok (.bipush 100, 2) := by decide +kernel
theorem dX11_besides_31 : decode cX11_besides 31 = .ok (.idiv, 1) := by decide +kernel
theorem dX11_besides_32 : decode cX11_besides 32 = .ok (.iload_n 1, 1) := by decide +kernel
theorem dX11_besides_33 : decode cX11_besides 33 = .ok (.bipush 100, 2) := by decide +kernel
theorem dX11_besides_35 : decode cX11_besides 35 = .ok (.irem, 1) := by decide +kernel
theorem dX11_besides_36 : decode cX11_besides 36 = .ok (.invokestatic 203, 3) := by decide +kernel
theorem dX11_besides_39 : decode cX11_besides 39 = .ok (.istore 4, 2) := by decide +kernel
theorem dX11_besides_41 : decode cX11_besides 41 = .ok (.iload 4, 2) := by decide +kernel
theorem dX11_besides_43 : decode cX11_besides 43 = .ok (.ifCond .ne 9, 3) := by decide +kernel
theorem dX11_besides_46 : decode cX11_besides 46 = .ok (.ldc2_w 157, 3) := by decide +kernel
theorem dX11_besides_49 : decode cX11_besides 49 = .ok (.goto 15, 3) := by decide +kernel
theorem dX11_besides_52 : decode cX11_besides 52 = .ok (.iload_n 2, 1) := by decide +kernel
theorem dX11_besides_53 : decode cX11_besides 53 = .ok (.bipush 12, 2) := by decide +kernel
theorem dX11_besides_55 : decode cX11_besides 55 = .ok (.imul, 1) := by decide +kernel
theorem dX11_besides_56 : decode cX11_besides 56 = .ok (.i2l, 1) := by decide +kernel
theorem dX11_besides_57 : decode cX11_besides 57 = .ok (.iload 4, 2) := by decide +kernel
theorem dX11_besides_59 : decode cX11_besides 59 = .ok (.i2l, 1) := by decide +kernel
theorem dX11_besides_60 : decode cX11_besides 60 = .ok (.iload_n 3, 1) := by decide +kernel
theorem dX11_besides_61 : decode cX11_besides 61 = .ok (.invokestatic 163, 3) := by decide +kernel
theorem dX11_besides_64 : decode cX11_besides 64 = .ok (.lreturn, 1) := by decide +kernel
theorem dX11_handful_0 : decode cX11_handful 0 = .ok (.iload_n 1, 1) := by decide +kernel
theorem dX11_handful_1 : decode cX11_handful 1 = .ok (.invokestatic 178, 3) := by decide +kernel
theorem dX11_handful_4 : decode cX11_handful 4 = .ok (.ifCond .eq 24, 3) := by decide +kernel
theorem dX11_handful_7 : decode cX11_handful 7 = .ok (.iload_n 2, 1) := by decide +kernel
theorem dX11_handful_8 : decode cX11_handful 8 = .ok (.ifCond .lt 20, 3) := by decide +kernel
theorem dX11_handful_11 : decode cX11_handful 11 = .ok (.iload_n 3, 1) := by decide +kernel
theorem dX11_handful_12 : decode cX11_handful 12 = .ok (.ifCond .lt 16, 3) := by decide +kernel
theorem dX11_handful_15 : decode cX11_handful 15 = .ok (.iload_n 3, 1) := by decide +kernel
theorem dX11_handful_16 : decode cX11_handful 16 = .ok (.iconst 1, 1) := by decide +kernel
theorem dX11_handful_17 : decode cX11_handful 17 = .ok (.if_icmp .gt 11, 3) := by decide +kernel
theorem dX11_handful_20 : decode cX11_handful 20 = .ok (.iload 4, 2) := by decide +kernel
theorem dX11_handful_22 : decode cX11_handful 22 = .ok (.invokestatic 145, 3) := by decide +kernel
theorem dX11_handful_25 : decode cX11_handful 25 = .ok (.ifCond .ne 7, 3) := by decide +kernel
theorem dX11_handful_28 : decode cX11_handful 28 = .ok (.ldc2_w 148, 3) := by decide +kernel
theorem dX11_handful_31 : decode cX11_handful 31 = .ok (.lreturn, 1) := by decide +kernel
theorem dX11_handful_32 : decode cX11_handful 32 = .ok (.iload_n 2, 1) := by decide +kernel
theorem dX11_handful_33 : decode cX11_handful 33 = .ok (.bipush 100, 2) := by decide +kernel
theorem dX11_handful_35 : decode cX11_handful 35 = .ok (.idiv, 1) := by decide +kernel
theorem dX11_handful_36 : decode cX11_handful 36 = .ok (.istore 5, 2) := by decide +kernel
theorem dX11_handful_38 : decode cX11_handful 38 = .ok (.iload_n 2, 1) := by decide +kernel
theorem dX11_handful_39 : decode cX11_handful 39 = .ok (.bipush 100, 2) := by decide +kernel
theorem dX11_handful_41 : decode cX11_handful 41 = .ok (.irem, 1) := by decide +kernel
theorem dX11_handful_42 : decode cX11_handful 42 = .ok (.istore 6, 2) := by decide +kernel
theorem dX11_handful_44 : decode cX11_handful 44 = .ok (.iload 5, 2) := by decide +kernel
theorem dX11_handful_46 : decode cX11_handful 46 = .ok (.iconst 1, 1) := by decide +kernel
theorem dX11_handful_47 : decode cX11_handful 47 = .ok (.if_icmp .lt 17, 3) := by decide +kernel
theorem dX11_handful_50 : decode cX11_handful 50 = .ok (.iload 5, 2) := by decide +kernel
theorem dX11_handful_52 : decode cX11_handful 52 = .ok (.bipush 60, 2) := by decide +kernel
theorem dX11_handful_54 : decode cX11_handful 54 = .ok (.if_icmp .gt 10, 3) := by decide +kernel
theorem dX11_handful_57 : decode cX11_handful 57 = .ok (.iload 6, 2) := by decide +kernel
theorem dX11_handful_59 : decode cX11_handful 59 = .ok (.iload 5, 2) := by decide +kernel
theorem dX11_handful_61 : decode cX11_handful 61 = .ok (.if_icmp .le 7, 3) := by decide +kernel
theorem dX11_handful_64 : decode cX11_handful 64 = .ok (.ldc2_w 148, 3) := by decide +kernel
theorem dX11_handful_67 : decode cX11_handful 67 = .ok (.lreturn, 1) := by decide +kernel
theorem dX11_handful_68 : decode cX11_handful 68 = .ok (.iload 5, 2) := by decide +kernel
theorem dX11_handful_70 : decode cX11_handful 70 = .ok (.iconst 3, 1) := by decide +kernel
theorem dX11_handful_71 : decode cX11_handful 71 = .ok (.invokestatic 206, 3) := by decide +kernel
theorem dX11_handful_74 : decode cX11_handful 74 = .ok (.istore 7, 2) := by decide +kernel
theorem dX11_handful_76 : decode cX11_handful 76 = .ok (.lconst 0, 1) := by decide +kernel
theorem dX11_handful_77 : decode cX11_handful 77 = .ok (.lstore 8, 2) := by decide +kernel
theorem dX11_handful_79 : decode cX11_handful 79 = .ok (.lconst 0, 1) := by decide +kernel
theorem dX11_handful_80 : decode cX11_handful 80 = .ok (.lstore 10, 2) := by decide +kernel
theorem dX11_handful_82 : decode cX11_handful 82 = .ok (.iconst 0, 1) := by decide +kernel
theorem dX11_handful_83 : decode cX11_handful 83 = .ok (.istore 12, 2) := by decide +kernel
theorem dX11_handful_85 : decode cX11_handful 85 = .ok (.iload 12, 2) := by decide +kernel
theorem dX11_handful_87 : decode cX11_handful 87 = .ok (.iload 7, 2) := by decide +kernel
theorem dX11_handful_89 : decode cX11_handful 89 = .ok (.if_icmp .gt 58, 3) := by decide +kernel
theorem dX11_handful_92 : decode cX11_handful 92 = .ok (.aload_n 0, 1) := by decide +kernel
theorem dX11_handful_93 : decode cX11_handful 93 = .ok (.getfield 10, 3) := by decide +kernel
theorem dX11_handful_96 : decode cX11_handful 96 = .ok (.iload_n 1, 1) := by decide +kernel
theorem dX11_handful_97 : decode cX11_handful 97 = .ok (.iload 12, 2) := by decide +kernel
theorem dX11_handful_99 : decode cX11_handful 99 = .ok (.invokevirtual 122, 3) := by decide +kernel
theorem dX11_handful_102 : decode cX11_handful 102 = .ok (.i2l, 1) := by decide +kernel
theorem dX11_handful_103 : decode cX11_handful 103 = .ok (.lstore 13, 2) := by decide +kernel
theorem dX11_handful_105 : decode cX11_handful 105 = .ok (.lload 8, 2) := by decide +kernel
theorem dX11_handful_107 : decode cX11_handful 107 = .ok (.lload 13, 2) := by decide +kernel
theorem dX11_handful_109 : decode cX11_handful 109 = .ok (.ladd, 1) := by decide +kernel
theorem dX11_handful_110 : decode cX11_handful 110 = .ok (.lstore 8, 2) := by decide +kernel
theorem dX11_handful_112 : decode cX11_handful 112 = .ok (.lload 10, 2) := by decide +kernel
theorem dX11_handful_114 : decode cX11_handful 114 = .ok (.lload 13, 2) := by decide +kernel
theorem dX11_handful_116 : decode cX11_handful 116 = .ok (.iload 5, 2) := by decide +kernel
theorem dX11_handful_118 : decode cX11_handful 118 = .ok (.iload 6, 2) := by decide +kernel
theorem dX11_handful_120 : decode cX11_handful 120 = .ok (.isub, 1) := by decide +kernel
theorem dX11_handful_121 : decode cX11_handful 121 = .ok (.iconst 0, 1) := by decide +kernel
theorem dX11_handful_122 : decode cX11_handful 122 = .ok (.iload 12, 2) := by decide +kernel
theorem dX11_handful_124 : decode cX11_handful 124 = .ok (.invokestatic 211, 3) := by decide +kernel
theorem dX11_handful_127 : decode cX11_handful 127 = .ok (.lmul, 1) := by decide +kernel
theorem dX11_handful_128 : decode cX11_handful 128 = .ok (.iload 5, 2) := by decide +kernel
theorem dX11_handful_130 : decode cX11_handful 130 = .ok (.iload 12, 2) := by decide +kernel
theorem dX11_handful_132 : decode cX11_handful 132 = .ok (.iload 7, 2) := by decide +kernel
theorem dX11_handful_134 : decode cX11_handful 134 = .ok (.invokestatic 211, 3) := by decide +kernel
theorem dX11_handful_137 : decode cX11_handful 137 = .ok (.lmul, 1) := by decide +kernel
theorem dX11_handful_138 : decode cX11_handful 138 = .ok (.ladd, 1) := by decide +kernel
theorem dX11_handful_139 : decode cX11_handful 139 = .ok (.lstore 10, 2) := by decide +kernel
theorem dX11_handful_141 : decode cX11_handful 141 = .ok (.iinc 12 1, 3) := by decide +kernel
theorem dX11_handful_144 : decode cX11_handful 144 = .ok (.goto (-59), 3) := by decide +kernel
theorem dX11_handful_147 : decode cX11_handful 147 = .ok (.iload 5, 2) := by decide +kernel
theorem dX11_handful_149 : decode cX11_handful 149 = .ok (.iconst 0, 1) := by decide +kernel
theorem dX11_handful_150 : decode cX11_handful 150 = .ok (.iload 7, 2) := by decide +kernel
theorem dX11_handful_152 : decode cX11_handful 152 = .ok (.invokestatic 211, 3) := by decide +kernel
theorem dX11_handful_155 : decode cX11_handful 155 = .ok (.lstore 12, 2) := by decide +kernel
theorem dX11_handful_157 : decode cX11_handful 157 = .ok (.aload_n 0, 1) := by decide +kernel
theorem dX11_handful_158 : decode cX11_handful 158 = .ok (.getfield 10, 3) := by decide +kernel
theorem dX11_handful_161 : decode cX11_handful 161 = .ok (.iload_n 1, 1) := by decide +kernel
theorem dX11_handful_162 : decode cX11_handful 162 = .ok (.iconst 0, 1) := by decide +kernel
theorem dX11_handful_163 : decode cX11_handful 163 = .ok (.invokevirtual 122, 3) := by decide +kernel
theorem dX11_handful_166 : decode cX11_handful 166 = .ok (.i2l, 1) := by decide +kernel
theorem dX11_handful_167 : decode cX11_handful 167 = .ok (.lload 12, 2) := by decide +kernel
theorem dX11_handful_169 : decode cX11_handful 169 = .ok (.lmul, 1) := by decide +kernel
theorem dX11_handful_170 : decode cX11_handful 170 = .ok (.lstore 14, 2) := by decide +kernel
theorem dX11_handful_172 : decode cX11_handful 172 = .ok (.lload 8, 2) := by decide +kernel
theorem dX11_handful_174 : decode cX11_handful 174 = .ok (.lconst 0, 1) := by decide +kernel
theorem dX11_handful_175 : decode cX11_handful 175 = .ok (.lcmp, 1) := by decide +kernel
theorem dX11_handful_176 : decode cX11_handful 176 = .ok (.ifCond .ne 14, 3) := by decide +kernel
theorem dX11_handful_179 : decode cX11_handful 179 = .ok (.lconst 1, 1) := by decide +kernel
theorem dX11_handful_180 : decode cX11_handful 180 = .ok (.lstore 8, 2) := by decide +kernel
theorem dX11_handful_182 : decode cX11_handful 182 = .ok (.lload 12, 2) := by decide +kernel
theorem dX11_handful_184 : decode cX11_handful 184 = .ok (.lstore 10, 2) := by decide +kernel
theorem dX11_handful_186 : decode cX11_handful 186 = .ok (.lload 12, 2) := by decide +kernel
theorem dX11_handful_188 : decode cX11_handful 188 = .ok (.lstore 14, 2) := by decide +kernel
theorem dX11_handful_190 : decode cX11_handful 190 = .ok (.iload_n 3, 1) := by decide +kernel
theorem dX11_handful_191 : decode cX11_handful 191 = .ok (.ifCond .ne 16, 3) := by decide +kernel
theorem dX11_handful_194 : decode cX11_handful 194 = .ok (.lload 10, 2) := by decide +kernel
theorem dX11_handful_196 : decode cX11_handful 196 = .ok (.lload 8, 2) := by decide +kernel
theorem dX11_handful_198 : decode cX11_handful 198 = .ok (.lload 12, 2) := by decide +kernel
theorem dX11_handful_200 : decode cX11_handful 200 = .ok (.lmul, 1) := by decide +kernel
theorem dX11_handful_201 : decode cX11_handful 201 = .ok (.iload 4, 2) := by decide +kernel
theorem dX11_handful_203 : decode cX11_handful 203 = .ok (.invokestatic 163, 3) := by decide +kernel
theorem dX11_handful_206 : decode cX11_handful 206 = .ok (.lreturn, 1) := by decide +kernel
theorem dX11_handful_207 : decode cX11_handful 207 = .ok (.lload 10, 2) := by decide +kernel
theorem dX11_handful_209 : decode cX11_handful 209 = .ok (.lconst 0, 1) := by decide +kernel
theorem dX11_handful_210 : decode cX11_handful 210 = .ok (.lcmp, 1) := by decide +kernel
theorem dX11_handful_211 : decode cX11_handful 211 = .ok (.ifCond .ne 9, 3) := by decide +kernel
theorem dX11_handful_214 : decode cX11_handful 214 = .ok (.ldc2_w 157, 3) := by decide +kernel
theorem dX11_handful_217 : decode cX11_handful 217 = .ok (.goto 12, 3) := by decide +kernel
theorem dX11_handful_220 : decode cX11_handful 220 = .ok (.lload 14, 2) := by decide +kernel
theorem dX11_handful_222 : decode cX11_handful 222 = .ok (.lload 10, 2) := by decide +kernel
theorem dX11_handful_224 : decode cX11_handful 224 = .ok (.iload 4, 2) := by decide +kernel
theorem dX11_handful_226 : decode cX11_handful 226 = .ok (.invokestatic 163, 3) := by decide +kernel
theorem dX11_handful_229 : decode cX11_handful 229 = .ok (.lreturn, 1) := by decide +kernel
theorem dX11_heaps_0 : decode cX11_heaps 0 = .ok (.iload_n 1, 1) := by decide +kernel
theorem dX11_heaps_1 : decode cX11_heaps 1 = .ok (.iconst 1, 1) := by decide +kernel
theorem dX11_heaps_2 : decode cX11_heaps 2 = .ok (.if_icmp .lt 20, 3) := by decide +kernel
theorem dX11_heaps_5 : decode cX11_heaps 5 = .ok (.iload_n 1, 1) := by decide +kernel
theorem dX11_heaps_6 : decode cX11_heaps 6 = .ok (.bipush 40, 2) := by decide +kernel
theorem dX11_heaps_8 : decode cX11_heaps 8 = .ok (.if_icmp .gt 14, 3) := by decide +kernel
theorem dX11_heaps_11 : decode cX11_heaps 11 = .ok (.iload_n 2, 1) := by decide +kernel
theorem dX11_heaps_12 : decode cX11_heaps 12 = .ok (.ifCond .lt 10, 3) := by decide +kernel
theorem dX11_heaps_15 : decode cX11_heaps 15 = .ok (.iload_n 2, 1) := by decide +kernel
theorem dX11_heaps_16 : decode cX11_heaps 16 = .ok (.sipush 999, 3) := by decide +kernel
theorem dX11_heaps_19 : decode cX11_heaps 19 = .ok (.if_icmp .le 5, 3) := by decide +kernel
theorem dX11_heaps_22 : decode cX11_heaps 22 = .ok (.iconst (-1), 1) := by decide +kernel
theorem dX11_heaps_23 : decode cX11_heaps 23 = .ok (.ireturn, 1) := by decide +kernel
theorem dX11_heaps_24 : decode cX11_heaps 24 = .ok (.iload_n 3, 1) := by decide +kernel
theorem dX11_heaps_25 : decode cX11_heaps 25 = .ok (.ifCond .lt 21, 3) := by decide +kernel
theorem dX11_heaps_28 : decode cX11_heaps 28 = .ok (.iload_n 3, 1) := by decide +kernel
theorem dX11_heaps_29 : decode cX11_heaps 29 = .ok (.iconst 1, 1) := by decide +kernel
theorem dX11_heaps_30 : decode cX11_heaps 30 = .ok (.if_icmp .le 18, 3) := by decide +kernel
theorem dX11_heaps_33 : decode cX11_heaps 33 = .ok (.aload_n 0, 1) := by decide +kernel
theorem dX11_heaps_34 : decode cX11_heaps 34 = .ok (.getfield 10, 3) := by decide +kernel
theorem dX11_heaps_37 : decode cX11_heaps 37 = .ok (.iload_n 3, 1) := by decide +kernel
theorem dX11_heaps_38 : decode cX11_heaps 38 = .ok (.iconst 2, 1) := by decide +kernel
theorem dX11_heaps_39 : decode cX11_heaps 39 = .ok (.isub, 1) := by decide +kernel
theorem dX11_heaps_40 : decode cX11_heaps 40 = .ok (.invokevirtual 136, 3) := by decide +kernel
theorem dX11_heaps_43 : decode cX11_heaps 43 = .ok (.ifCond .ne 5, 3) := by decide +kernel
theorem dX11_heaps_46 : decode cX11_heaps 46 = .ok (.iconst (-1), 1) := by decide +kernel
theorem dX11_heaps_47 : decode cX11_heaps 47 = .ok (.ireturn, 1) := by decide +kernel
theorem dX11_heaps_48 : decode cX11_heaps 48 = .ok (.aload_n 0, 1) := by decide +kernel
theorem dX11_heaps_49 : decode cX11_heaps 49 = .ok (.getfield 10, 3) := by decide +kernel
theorem dX11_heaps_52 : decode cX11_heaps 52 = .ok (.getfield 215, 3) := by decide +kernel
theorem dX11_heaps_55 : decode cX11_heaps 55 = .ok (.iconst 3, 1) := by decide +kernel
theorem dX11_heaps_56 : decode cX11_heaps 56 = .ok (.if_icmp .le 6, 3) := by decide +kernel
theorem dX11_heaps_59 : decode cX11_heaps 59 = .ok (.bipush (-5), 2) := by decide +kernel
theorem dX11_heaps_61 : decode cX11_heaps 61 = .ok (.ireturn, 1) := by decide +kernel
theorem dX11_heaps_62 : decode cX11_heaps 62 = .ok (.iconst 0, 1) := by decide +kernel
theorem dX11_heaps_63 : decode cX11_heaps 63 = .ok (.istore 4, 2) := by decide +kernel
theorem dX11_heaps_65 : decode cX11_heaps 65 = .ok (.iload 4, 2) := by decide +kernel
theorem dX11_heaps_67 : decode cX11_heaps 67 = .ok (.aload_n 0, 1) := by decide +kernel
theorem dX11_heaps_68 : decode cX11_heaps 68 = .ok (.getfield 10, 3) := by decide +kernel
theorem dX11_heaps_71 : decode cX11_heaps 71 = .ok (.getfield 215, 3) := by decide +kernel
theorem dX11_heaps_74 : decode cX11_heaps 74 = .ok (.if_icmp .ge 16, 3) := by decide +kernel
theorem dX11_heaps_77 : decode cX11_heaps 77 = .ok (.aload_n 0, 1) := by decide +kernel
theorem dX11_heaps_78 : decode cX11_heaps 78 = .ok (.iload 4, 2) := by decide +kernel
theorem dX11_heaps_80 : decode cX11_heaps 80 = .ok (.iload_n 1, 1) := by decide +kernel
theorem dX11_heaps_81 : decode cX11_heaps 81 = .ok (.invokevirtual 218, 3) := by decide +kernel
theorem dX11_heaps_84 : decode cX11_heaps 84 = .ok (.iinc 4 1, 3) := by decide +kernel
theorem dX11_heaps_87 : decode cX11_heaps 87 = .ok (.goto (-22), 3) := by decide +kernel
theorem dX11_heaps_90 : decode cX11_heaps 90 = .ok (.aload_n 0, 1) := by decide +kernel
theorem dX11_heaps_91 : decode cX11_heaps 91 = .ok (.getfield 60, 3) := by decide +kernel
theorem dX11_heaps_94 : decode cX11_heaps 94 = .ok (.iload_n 1, 1) := by decide +kernel
theorem dX11_heaps_95 : decode cX11_heaps 95 = .ok (.iload_n 2, 1) := by decide +kernel
theorem dX11_heaps_96 : decode cX11_heaps 96 = .ok (.invokevirtual 222, 3) := by decide +kernel
theorem dX11_heaps_99 : decode cX11_heaps 99 = .ok (.iload_n 3, 1) := by decide +kernel
theorem dX11_heaps_100 : decode cX11_heaps 100 = .ok (.ifCond .ne 13, 3) := by decide +kernel
theorem dX11_heaps_103 : decode cX11_heaps 103 = .ok (.aload_n 0, 1) := by decide +kernel
theorem dX11_heaps_104 : decode cX11_heaps 104 = .ok (.getfield 60, 3) := by decide +kernel
theorem dX11_heaps_107 : decode cX11_heaps 107 = .ok (.getfield 225, 3) := by decide +kernel
theorem dX11_heaps_110 : decode cX11_heaps 110 = .ok (.goto 28, 3) := by decide +kernel
theorem dX11_heaps_113 : decode cX11_heaps 113 = .ok (.iload_n 3, 1) := by decide +kernel
theorem dX11_heaps_114 : decode cX11_heaps 114 = .ok (.iconst 1, 1) := by decide +kernel
theorem dX11_heaps_115 : decode cX11_heaps 115 = .ok (.if_icmp .ne 13, 3) := by decide +kernel
theorem dX11_heaps_118 : decode cX11_heaps 118 = .ok (.aload_n 0, 1) := by decide +kernel
theorem dX11_heaps_119 : decode cX11_heaps 119 = .ok (.getfield 60, 3) := by decide +kernel
theorem dX11_heaps_122 : decode cX11_heaps 122 = .ok (.getfield 227, 3) := by decide +kernel
theorem dX11_heaps_125 : decode cX11_heaps 125 = .ok (.goto 13, 3) := by decide +kernel
theorem dX11_heaps_128 : decode cX11_heaps 128 = .ok (.aload_n 0, 1) := by decide +kernel
theorem dX11_heaps_129 : decode cX11_heaps 129 = .ok (.getfield 60, 3) := by decide +kernel
theorem dX11_heaps_132 : decode cX11_heaps 132 = .ok (.iload_n 3, 1) := by decide +kernel
theorem dX11_heaps_133 : decode cX11_heaps 133 = .ok (.iconst 2, 1) := by decide +kernel
theorem dX11_heaps_134 : decode cX11_heaps 134 = .ok (.isub, 1) := by decide +kernel
theorem dX11_heaps_135 : decode cX11_heaps 135 = .ok (.invokevirtual 230, 3) := by decide +kernel
theorem dX11_heaps_138 : decode cX11_heaps 138 = .ok (.ireturn, 1) := by decide +kernel
theorem dX11_who_0 : decode cX11_who 0 = .ok (.iload_n 1, 1) := by decide +kernel
theorem dX11_who_1 : decode cX11_who 1 = .ok (.invokestatic 101, 3) := by decide +kernel
theorem dX11_who_4 : decode cX11_who 4 = .ok (.ifCond .eq 19, 3) := by decide +kernel
theorem dX11_who_7 : decode cX11_who 7 = .ok (.iload_n 2, 1) := by decide +kernel
theorem dX11_who_8 : decode cX11_who 8 = .ok (.invokestatic 178, 3) := by decide +kernel
theorem dX11_who_11 : decode cX11_who 11 = .ok (.ifCond .eq 12, 3) := by decide +kernel
theorem dX11_who_14 : decode cX11_who 14 = .ok (.iload_n 3, 1) := by decide +kernel
theorem dX11_who_15 : decode cX11_who 15 = .ok (.ifCond .lt 8, 3) := by decide +kernel
theorem dX11_who_18 : decode cX11_who 18 = .ok (.iload_n 3, 1) := by decide +kernel
theorem dX11_who_19 : decode cX11_who 19 = .ok (.iconst 2, 1) := by decide +kernel
theorem dX11_who_20 : decode cX11_who 20 = .ok (.if_icmp .le 5, 3) := by decide +kernel
theorem dX11_who_23 : decode cX11_who 23 = .ok (.iconst (-1), 1) := by decide +kernel
theorem dX11_who_24 : decode cX11_who 24 = .ok (.ireturn, 1) := by decide +kernel
theorem dX11_who_25 : decode cX11_who 25 = .ok (.iload_n 3, 1) := by decide +kernel
theorem dX11_who_26 : decode cX11_who 26 = .ok (.ifCond .le 16, 3) := by decide +kernel
theorem dX11_who_29 : decode cX11_who 29 = .ok (.iload 4, 2) := by decide +kernel
theorem dX11_who_31 : decode cX11_who 31 = .ok (.ifCond .lt 9, 3) := by decide +kernel
theorem dX11_who_34 : decode cX11_who 34 = .ok (.iload 4, 2) := by decide +kernel
theorem dX11_who_36 : decode cX11_who 36 = .ok (.iconst 4, 1) := by decide +kernel
theorem dX11_who_37 : decode cX11_who 37 = .ok (.if_icmp .lt 5, 3) := by decide +kernel
theorem dX11_who_40 : decode cX11_who 40 = .ok (.iconst (-1), 1) := by decide +kernel
theorem dX11_who_41 : decode cX11_who 41 = .ok (.ireturn, 1) := by decide +kernel
theorem dX11_who_42 : decode cX11_who 42 = .ok (.aload_n 0, 1) := by decide +kernel
theorem dX11_who_43 : decode cX11_who 43 = .ok (.getfield 25, 3) := by decide +kernel
theorem dX11_who_46 : decode cX11_who 46 = .ok (.iload_n 1, 1) := by decide +kernel
theorem dX11_who_47 : decode cX11_who 47 = .ok (.aaload, 1) := by decide +kernel
theorem dX11_who_48 : decode cX11_who 48 = .ok (.invokevirtual 181, 3) := by decide +kernel
theorem dX11_who_51 : decode cX11_who 51 = .ok (.istore 5, 2) := by decide +kernel
theorem dX11_who_53 : decode cX11_who 53 = .ok (.iload 5, 2) := by decide +kernel
theorem dX11_who_55 : decode cX11_who 55 = .ok (.ifCond .ge 6, 3) := by decide +kernel
theorem dX11_who_58 : decode cX11_who 58 = .ok (.iload 5, 2) := by decide +kernel
theorem dX11_who_60 : decode cX11_who 60 = .ok (.ireturn, 1) := by decide +kernel
theorem dX11_who_61 : decode cX11_who 61 = .ok (.aload_n 0, 1) := by decide +kernel
theorem dX11_who_62 : decode cX11_who 62 = .ok (.aload_n 0, 1) := by decide +kernel
theorem dX11_who_63 : decode cX11_who 63 = .ok (.getfield 53, 3) := by decide +kernel
theorem dX11_who_66 : decode cX11_who 66 = .ok (.getfield 233, 3) := by decide +kernel
theorem dX11_who_69 : decode cX11_who 69 = .ok (.invokevirtual 237, 3) := by decide +kernel
theorem dX11_who_72 : decode cX11_who 72 = .ok (.aload_n 0, 1) := by decide +kernel
theorem dX11_who_73 : decode cX11_who 73 = .ok (.getfield 53, 3) := by decide +kernel
theorem dX11_who_76 : decode cX11_who 76 = .ok (.getfield 241, 3) := by decide +kernel
theorem dX11_who_79 : decode cX11_who 79 = .ok (.aload_n 0, 1) := by decide +kernel
theorem dX11_who_80 : decode cX11_who 80 = .ok (.getfield 10, 3) := by decide +kernel
theorem dX11_who_83 : decode cX11_who 83 = .ok (.iload_n 2, 1) := by decide +kernel
theorem dX11_who_84 : decode cX11_who 84 = .ok (.invokevirtual 242, 3) := by decide +kernel
theorem dX11_who_87 : decode cX11_who 87 = .ok (.aload_n 0, 1) := by decide +kernel
theorem dX11_who_88 : decode cX11_who 88 = .ok (.getfield 53, 3) := by decide +kernel
theorem dX11_who_91 : decode cX11_who 91 = .ok (.aload_n 0, 1) := by decide +kernel
theorem dX11_who_92 : decode cX11_who 92 = .ok (.getfield 25, 3) := by decide +kernel
theorem dX11_who_95 : decode cX11_who 95 = .ok (.iload_n 1, 1) := by decide +kernel
theorem dX11_who_96 : decode cX11_who 96 = .ok (.aaload, 1) := by decide +kernel
theorem dX11_who_97 : decode cX11_who 97 = .ok (.aload_n 0, 1) := by decide +kernel
theorem dX11_who_98 : decode cX11_who 98 = .ok (.getfield 10, 3) := by decide +kernel
theorem dX11_who_101 : decode cX11_who 101 = .ok (.getfield 215, 3) := by decide +kernel
theorem dX11_who_104 : decode cX11_who 104 = .ok (.invokevirtual 246, 3) := by decide +kernel
theorem dX11_who_107 : decode cX11_who 107 = .ok (.iload_n 3, 1) := by decide +kernel
theorem dX11_who_108 : decode cX11_who 108 = .ok (.ifCond .ne 11, 3) := by decide +kernel
theorem dX11_who_111 : decode cX11_who 111 = .ok (.aload_n 0, 1) := by decide +kernel
theorem dX11_who_112 : decode cX11_who 112 = .ok (.getfield 53, 3) := by decide +kernel
theorem dX11_who_115 : decode cX11_who 115 = .ok (.getfield 250, 3) := by decide +kernel
theorem dX11_who_118 : decode cX11_who 118 = .ok (.ireturn, 1) := by decide +kernel
theorem dX11_who_119 : decode cX11_who 119 = .ok (.iload_n 3, 1) := by decide +kernel
theorem dX11_who_120 : decode cX11_who 120 = .ok (.iconst 1, 1) := by decide +kernel
theorem dX11_who_121 : decode cX11_who 121 = .ok (.if_icmp .ne 15, 3) := by decide +kernel
theorem dX11_who_124 : decode cX11_who 124 = .ok (.aload_n 0, 1) := by decide +kernel
theorem dX11_who_125 : decode cX11_who 125 = .ok (.getfield 53, 3) := by decide +kernel
theorem dX11_who_128 : decode cX11_who 128 = .ok (.iload 4, 2) := by decide +kernel
theorem dX11_who_130 : decode cX11_who 130 = .ok (.invokevirtual 253, 3) := by decide +kernel
theorem dX11_who_133 : decode cX11_who 133 = .ok (.goto 12, 3) := by decide +kernel
theorem dX11_who_136 : decode cX11_who 136 = .ok (.aload_n 0, 1) := by decide +kernel
theorem dX11_who_137 : decode cX11_who 137 = .ok (.getfield 53, 3) := by decide +kernel
theorem dX11_who_140 : decode cX11_who 140 = .ok (.iload 4, 2) := by decide +kernel
theorem dX11_who_142 : decode cX11_who 142 = .ok (.invokevirtual 256, 3) := by decide +kernel
theorem dX11_who_145 : decode cX11_who 145 = .ok (.ireturn, 1) := by decide +kernel
theorem dX11_drawn_0 : decode cX11_drawn 0 = .ok (.iload_n 1, 1) := by decide +kernel
theorem dX11_drawn_1 : decode cX11_drawn 1 = .ok (.invokestatic 101, 3) := by decide +kernel
theorem dX11_drawn_4 : decode cX11_drawn 4 = .ok (.ifCond .eq 17, 3) := by decide +kernel
theorem dX11_drawn_7 : decode cX11_drawn 7 = .ok (.iload_n 3, 1) := by decide +kernel
theorem dX11_drawn_8 : decode cX11_drawn 8 = .ok (.ifCond .lt 13, 3) := by decide +kernel
theorem dX11_drawn_11 : decode cX11_drawn 11 = .ok (.iload_n 3, 1) := by decide +kernel
theorem dX11_drawn_12 : decode cX11_drawn 12 = .ok (.bipush 100, 2) := by decide +kernel
theorem dX11_drawn_14 : decode cX11_drawn 14 = .ok (.idiv, 1) := by decide +kernel
theorem dX11_drawn_15 : decode cX11_drawn 15 = .ok (.invokestatic 178, 3) := by decide +kernel
theorem dX11_drawn_18 : decode cX11_drawn 18 = .ok (.ifCond .ne 5, 3) := by decide +kernel
theorem dX11_drawn_21 : decode cX11_drawn 21 = .ok (.iconst (-1), 1) := by decide +kernel
theorem dX11_drawn_22 : decode cX11_drawn 22 = .ok (.ireturn, 1) := by decide +kernel
theorem dX11_drawn_23 : decode cX11_drawn 23 = .ok (.iload_n 3, 1) := by decide +kernel
theorem dX11_drawn_24 : decode cX11_drawn 24 = .ok (.bipush 100, 2) := by decide +kernel
theorem dX11_drawn_26 : decode cX11_drawn 26 = .ok (.irem, 1) := by decide +kernel
theorem dX11_drawn_27 : decode cX11_drawn 27 = .ok (.istore 5, 2) := by decide +kernel
theorem dX11_drawn_29 : decode cX11_drawn 29 = .ok (.iload 5, 2) := by decide +kernel
theorem dX11_drawn_31 : decode cX11_drawn 31 = .ok (.iconst 1, 1) := by decide +kernel
theorem dX11_drawn_32 : decode cX11_drawn 32 = .ok (.if_icmp .lt 21, 3) := by decide +kernel
theorem dX11_drawn_35 : decode cX11_drawn 35 = .ok (.iload 5, 2) := by decide +kernel
theorem dX11_drawn_37 : decode cX11_drawn 37 = .ok (.bipush 30, 2) := by decide +kernel
theorem dX11_drawn_39 : decode cX11_drawn 39 = .ok (.if_icmp .gt 14, 3) := by decide +kernel
theorem dX11_drawn_42 : decode cX11_drawn 42 = .ok (.iload 4, 2) := by decide +kernel
theorem dX11_drawn_44 : decode cX11_drawn 44 = .ok (.ifCond .lt 9, 3) := by decide +kernel
theorem dX11_drawn_47 : decode cX11_drawn 47 = .ok (.iload 4, 2) := by decide +kernel
theorem dX11_drawn_49 : decode cX11_drawn 49 = .ok (.iconst 1, 1) := by decide +kernel
theorem dX11_drawn_50 : decode cX11_drawn 50 = .ok (.if_icmp .le 5, 3) := by decide +kernel
theorem dX11_drawn_53 : decode cX11_drawn 53 = .ok (.iconst (-1), 1) := by decide +kernel
theorem dX11_drawn_54 : decode cX11_drawn 54 = .ok (.ireturn, 1) := by decide +kernel
theorem dX11_drawn_55 : decode cX11_drawn 55 = .ok (.aload_n 0, 1) := by decide +kernel
theorem dX11_drawn_56 : decode cX11_drawn 56 = .ok (.getfield 25, 3) := by decide +kernel
theorem dX11_drawn_59 : decode cX11_drawn 59 = .ok (.iload_n 1, 1) := by decide +kernel
theorem dX11_drawn_60 : decode cX11_drawn 60 = .ok (.aaload, 1) := by decide +kernel
theorem dX11_drawn_61 : decode cX11_drawn 61 = .ok (.invokevirtual 181, 3) := by decide +kernel
theorem dX11_drawn_64 : decode cX11_drawn 64 = .ok (.istore 6, 2) := by decide +kernel
theorem dX11_drawn_66 : decode cX11_drawn 66 = .ok (.iload 6, 2) := by decide +kernel
theorem dX11_drawn_68 : decode cX11_drawn 68 = .ok (.ifCond .ge 6, 3) := by decide +kernel
theorem dX11_drawn_71 : decode cX11_drawn 71 = .ok (.iload 6, 2) := by decide +kernel
theorem dX11_drawn_73 : decode cX11_drawn 73 = .ok (.ireturn, 1) := by decide +kernel
theorem dX11_drawn_74 : decode cX11_drawn 74 = .ok (.aload_n 0, 1) := by decide +kernel
theorem dX11_drawn_75 : decode cX11_drawn 75 = .ok (.getfield 32, 3) := by decide +kernel
theorem dX11_drawn_78 : decode cX11_drawn 78 = .ok (.aload_n 0, 1) := by decide +kernel
theorem dX11_drawn_79 : decode cX11_drawn 79 = .ok (.getfield 25, 3) := by decide +kernel
theorem dX11_drawn_82 : decode cX11_drawn 82 = .ok (.iload_n 1, 1) := by decide +kernel
theorem dX11_drawn_83 : decode cX11_drawn 83 = .ok (.aaload, 1) := by decide +kernel
theorem dX11_drawn_84 : decode cX11_drawn 84 = .ok (.aload_n 0, 1) := by decide +kernel
theorem dX11_drawn_85 : decode cX11_drawn 85 = .ok (.getfield 10, 3) := by decide +kernel
theorem dX11_drawn_88 : decode cX11_drawn 88 = .ok (.getfield 215, 3) := by decide +kernel
theorem dX11_drawn_91 : decode cX11_drawn 91 = .ok (.iconst 1, 1) := by decide +kernel
theorem dX11_drawn_92 : decode cX11_drawn 92 = .ok (.invokevirtual 259, 3) := by decide +kernel
theorem dX11_drawn_95 : decode cX11_drawn 95 = .ok (.aload_n 0, 1) := by decide +kernel
theorem dX11_drawn_96 : decode cX11_drawn 96 = .ok (.getfield 67, 3) := by decide +kernel
theorem dX11_drawn_99 : decode cX11_drawn 99 = .ok (.iload_n 2, 1) := by decide +kernel
theorem dX11_drawn_100 : decode cX11_drawn 100 = .ok (.putfield 263, 3) := by decide +kernel
theorem dX11_drawn_103 : decode cX11_drawn 103 = .ok (.iconst 0, 1) := by decide +kernel
theorem dX11_drawn_104 : decode cX11_drawn 104 = .ok (.istore 7, 2) := by decide +kernel
theorem dX11_drawn_106 : decode cX11_drawn 106 = .ok (.iconst 0, 1) := by decide +kernel
theorem dX11_drawn_107 : decode cX11_drawn 107 = .ok (.istore 8, 2) := by decide +kernel
theorem dX11_drawn_109 : decode cX11_drawn 109 = .ok (.iload 8, 2) := by decide +kernel
theorem dX11_drawn_111 : decode cX11_drawn 111 = .ok (.iload 5, 2) := by decide +kernel
theorem dX11_drawn_113 : decode cX11_drawn 113 = .ok (.if_icmp .ge 22, 3) := by decide +kernel
theorem dX11_drawn_116 : decode cX11_drawn 116 = .ok (.iload 7, 2) := by decide +kernel
theorem dX11_drawn_118 : decode cX11_drawn 118 = .ok (.aload_n 0, 1) := by decide +kernel
theorem dX11_drawn_119 : decode cX11_drawn 119 = .ok (.iload_n 3, 1) := by decide +kernel
theorem dX11_drawn_120 : decode cX11_drawn 120 = .ok (.bipush 100, 2) := by decide +kernel
theorem dX11_drawn_122 : decode cX11_drawn 122 = .ok (.idiv, 1) := by decide +kernel
theorem dX11_drawn_123 : decode cX11_drawn 123 = .ok (.invokevirtual 266, 3) := by decide +kernel
theorem dX11_drawn_126 : decode cX11_drawn 126 = .ok (.iadd, 1) := by decide +kernel
theorem dX11_drawn_127 : decode cX11_drawn 127 = .ok (.istore 7, 2) := by decide +kernel
theorem dX11_drawn_129 : decode cX11_drawn 129 = .ok (.iinc 8 1, 3) := by decide +kernel
theorem dX11_drawn_132 : decode cX11_drawn 132 = .ok (.goto (-23), 3) := by decide +kernel
theorem dX11_drawn_135 : decode cX11_drawn 135 = .ok (.iload 4, 2) := by decide +kernel
theorem dX11_drawn_137 : decode cX11_drawn 137 = .ok (.ifCond .ne 6, 3) := by decide +kernel
theorem dX11_drawn_140 : decode cX11_drawn 140 = .ok (.iload 7, 2) := by decide +kernel
theorem dX11_drawn_142 : decode cX11_drawn 142 = .ok (.ireturn, 1) := by decide +kernel
theorem dX11_drawn_143 : decode cX11_drawn 143 = .ok (.iconst 0, 1) := by decide +kernel
theorem dX11_drawn_144 : decode cX11_drawn 144 = .ok (.istore 8, 2) := by decide +kernel
theorem dX11_drawn_146 : decode cX11_drawn 146 = .ok (.iconst 0, 1) := by decide +kernel
theorem dX11_drawn_147 : decode cX11_drawn 147 = .ok (.istore 9, 2) := by decide +kernel
theorem dX11_drawn_149 : decode cX11_drawn 149 = .ok (.iload 9, 2) := by decide +kernel
theorem dX11_drawn_151 : decode cX11_drawn 151 = .ok (.aload_n 0, 1) := by decide +kernel
theorem dX11_drawn_152 : decode cX11_drawn 152 = .ok (.getfield 32, 3) := by decide +kernel
theorem dX11_drawn_155 : decode cX11_drawn 155 = .ok (.getfield 269, 3) := by decide +kernel
theorem dX11_drawn_158 : decode cX11_drawn 158 = .ok (.if_icmp .ge 32, 3) := by decide +kernel
theorem dX11_drawn_161 : decode cX11_drawn 161 = .ok (.iload 8, 2) := by decide +kernel
theorem dX11_drawn_163 : decode cX11_drawn 163 = .ok (.aload_n 0, 1) := by decide +kernel
theorem dX11_drawn_164 : decode cX11_drawn 164 = .ok (.getfield 10, 3) := by decide +kernel
theorem dX11_drawn_167 : decode cX11_drawn 167 = .ok (.aload_n 0, 1) := by decide +kernel
theorem dX11_drawn_168 : decode cX11_drawn 168 = .ok (.getfield 32, 3) := by decide +kernel
theorem dX11_drawn_171 : decode cX11_drawn 171 = .ok (.iload 9, 2) := by decide +kernel
theorem dX11_drawn_173 : decode cX11_drawn 173 = .ok (.invokevirtual 272, 3) := by decide +kernel
theorem dX11_drawn_176 : decode cX11_drawn 176 = .ok (.bipush 6, 2) := by decide +kernel
theorem dX11_drawn_178 : decode cX11_drawn 178 = .ok (.invokevirtual 122, 3) := by decide +kernel
theorem dX11_drawn_181 : decode cX11_drawn 181 = .ok (.iadd, 1) := by decide +kernel
theorem dX11_drawn_182 : decode cX11_drawn 182 = .ok (.istore 8, 2) := by decide +kernel
theorem dX11_drawn_184 : decode cX11_drawn 184 = .ok (.iinc 9 1, 3) := by decide +kernel
theorem dX11_drawn_187 : decode cX11_drawn 187 = .ok (.goto (-38), 3) := by decide +kernel
theorem dX11_drawn_190 : decode cX11_drawn 190 = .ok (.iload 5, 2) := by decide +kernel
theorem dX11_drawn_192 : decode cX11_drawn 192 = .ok (.iload 8, 2) := by decide +kernel
theorem dX11_drawn_194 : decode cX11_drawn 194 = .ok (.imul, 1) := by decide +kernel
theorem dX11_drawn_195 : decode cX11_drawn 195 = .ok (.iload 7, 2) := by decide +kernel
theorem dX11_drawn_197 : decode cX11_drawn 197 = .ok (.aload_n 0, 1) := by decide +kernel
theorem dX11_drawn_198 : decode cX11_drawn 198 = .ok (.getfield 10, 3) := by decide +kernel
theorem dX11_drawn_201 : decode cX11_drawn 201 = .ok (.iconst 0, 1) := by decide +kernel
theorem dX11_drawn_202 : decode cX11_drawn 202 = .ok (.bipush 10, 2) := by decide +kernel
theorem dX11_drawn_204 : decode cX11_drawn 204 = .ok (.invokevirtual 122, 3) := by decide +kernel
theorem dX11_drawn_207 : decode cX11_drawn 207 = .ok (.imul, 1) := by decide +kernel
theorem dX11_drawn_208 : decode cX11_drawn 208 = .ok (.iadd, 1) := by decide +kernel
theorem dX11_drawn_209 : decode cX11_drawn 209 = .ok (.ireturn, 1) := by decide +kernel
theorem dX11_open_0 : decode cX11_open 0 = .ok (.iload_n 1, 1) := by decide +kernel
theorem dX11_open_1 : decode cX11_open 1 = .ok (.invokestatic 178, 3) := by decide +kernel
theorem dX11_open_4 : decode cX11_open 4 = .ok (.ifCond .ne 5, 3) := by decide +kernel
theorem dX11_open_7 : decode cX11_open 7 = .ok (.iconst (-1), 1) := by decide +kernel
theorem dX11_open_8 : decode cX11_open 8 = .ok (.ireturn, 1) := by decide +kernel
theorem dX11_open_9 : decode cX11_open 9 = .ok (.aload_n 0, 1) := by decide +kernel
theorem dX11_open_10 : decode cX11_open 10 = .ok (.getfield 74, 3) := by decide +kernel
theorem dX11_open_13 : decode cX11_open 13 = .ok (.getfield 275, 3) := by decide +kernel
theorem dX11_open_16 : decode cX11_open 16 = .ok (.ifCond .eq 6, 3) := by decide +kernel
theorem dX11_open_19 : decode cX11_open 19 = .ok (.bipush (-5), 2) := by decide +kernel
theorem dX11_open_21 : decode cX11_open 21 = .ok (.ireturn, 1) := by decide +kernel
theorem dX11_open_22 : decode cX11_open 22 = .ok (.aload_n 0, 1) := by decide +kernel
theorem dX11_open_23 : decode cX11_open 23 = .ok (.getfield 67, 3) := by decide +kernel
theorem dX11_open_26 : decode cX11_open 26 = .ok (.iload_n 2, 1) := by decide +kernel
theorem dX11_open_27 : decode cX11_open 27 = .ok (.putfield 263, 3) := by decide +kernel
theorem dX11_open_30 : decode cX11_open 30 = .ok (.aload_n 0, 1) := by decide +kernel
theorem dX11_open_31 : decode cX11_open 31 = .ok (.getfield 74, 3) := by decide +kernel
theorem dX11_open_34 : decode cX11_open 34 = .ok (.aload_n 0, 1) := by decide +kernel
theorem dX11_open_35 : decode cX11_open 35 = .ok (.getfield 67, 3) := by decide +kernel
theorem dX11_open_38 : decode cX11_open 38 = .ok (.aload_n 0, 1) := by decide +kernel
theorem dX11_open_39 : decode cX11_open 39 = .ok (.getfield 10, 3) := by decide +kernel
theorem dX11_open_42 : decode cX11_open 42 = .ok (.iload_n 1, 1) := by decide +kernel
theorem dX11_open_43 : decode cX11_open 43 = .ok (.invokevirtual 278, 3) := by decide +kernel
theorem dX11_open_46 : decode cX11_open 46 = .ok (.aload_n 0, 1) := by decide +kernel
theorem dX11_open_47 : decode cX11_open 47 = .ok (.getfield 67, 3) := by decide +kernel
theorem dX11_open_50 : decode cX11_open 50 = .ok (.getfield 263, 3) := by decide +kernel
theorem dX11_open_53 : decode cX11_open 53 = .ok (.invokevirtual 281, 3) := by decide +kernel
theorem dX11_open_56 : decode cX11_open 56 = .ok (.iload_n 1, 1) := by decide +kernel
theorem dX11_open_57 : decode cX11_open 57 = .ok (.ireturn, 1) := by decide +kernel
theorem dX11_look_0 : decode cX11_look 0 = .ok (.aload_n 0, 1) := by decide +kernel
theorem dX11_look_1 : decode cX11_look 1 = .ok (.getfield 10, 3) := by decide +kernel
theorem dX11_look_4 : decode cX11_look 4 = .ok (.iload_n 1, 1) := by decide +kernel
theorem dX11_look_5 : decode cX11_look 5 = .ok (.invokevirtual 136, 3) := by decide +kernel
theorem dX11_look_8 : decode cX11_look 8 = .ok (.ifCond .ne 5, 3) := by decide +kernel
theorem dX11_look_11 : decode cX11_look 11 = .ok (.iconst (-1), 1) := by decide +kernel
theorem dX11_look_12 : decode cX11_look 12 = .ok (.ireturn, 1) := by decide +kernel
theorem dX11_look_13 : decode cX11_look 13 = .ok (.aload_n 0, 1) := by decide +kernel
theorem dX11_look_14 : decode cX11_look 14 = .ok (.getfield 74, 3) := by decide +kernel
theorem dX11_look_17 : decode cX11_look 17 = .ok (.getfield 275, 3) := by decide +kernel
theorem dX11_look_20 : decode cX11_look 20 = .ok (.ifCond .ne 6, 3) := by decide +kernel
theorem dX11_look_23 : decode cX11_look 23 = .ok (.bipush (-5), 2) := by decide +kernel
theorem dX11_look_25 : decode cX11_look 25 = .ok (.ireturn, 1) := by decide +kernel
theorem dX11_look_26 : decode cX11_look 26 = .ok (.aload_n 0, 1) := by decide +kernel
theorem dX11_look_27 : decode cX11_look 27 = .ok (.getfield 67, 3) := by decide +kernel
theorem dX11_look_30 : decode cX11_look 30 = .ok (.aload_n 0, 1) := by decide +kernel
theorem dX11_look_31 : decode cX11_look 31 = .ok (.getfield 74, 3) := by decide +kernel
theorem dX11_look_34 : decode cX11_look 34 = .ok (.getfield 283, 3) := by decide +kernel
theorem dX11_look_37 : decode cX11_look 37 = .ok (.putfield 263, 3) := by decide +kernel
theorem dX11_look_40 : decode cX11_look 40 = .ok (.aload_n 0, 1) := by decide +kernel
theorem dX11_look_41 : decode cX11_look 41 = .ok (.getfield 67, 3) := by decide +kernel
theorem dX11_look_44 : decode cX11_look 44 = .ok (.aload_n 0, 1) := by decide +kernel
theorem dX11_look_45 : decode cX11_look 45 = .ok (.getfield 74, 3) := by decide +kernel
theorem dX11_look_48 : decode cX11_look 48 = .ok (.getfield 284, 3) := by decide +kernel
theorem dX11_look_51 : decode cX11_look 51 = .ok (.aload_n 0, 1) := by decide +kernel
theorem dX11_look_52 : decode cX11_look 52 = .ok (.iload_n 1, 1) := by decide +kernel
theorem dX11_look_53 : decode cX11_look 53 = .ok (.aload_n 0, 1) := by decide +kernel
theorem dX11_look_54 : decode cX11_look 54 = .ok (.getfield 74, 3) := by decide +kernel
theorem dX11_look_57 : decode cX11_look 57 = .ok (.getfield 286, 3) := by decide +kernel
theorem dX11_look_60 : decode cX11_look 60 = .ok (.invokevirtual 139, 3) := by decide +kernel
theorem dX11_look_63 : decode cX11_look 63 = .ok (.invokevirtual 289, 3) := by decide +kernel
theorem dX11_look_66 : decode cX11_look 66 = .ok (.istore_n 2, 1) := by decide +kernel
theorem dX11_look_67 : decode cX11_look 67 = .ok (.aload_n 0, 1) := by decide +kernel
theorem dX11_look_68 : decode cX11_look 68 = .ok (.getfield 74, 3) := by decide +kernel
theorem dX11_look_71 : decode cX11_look 71 = .ok (.iload_n 2, 1) := by decide +kernel
theorem dX11_look_72 : decode cX11_look 72 = .ok (.aload_n 0, 1) := by decide +kernel
theorem dX11_look_73 : decode cX11_look 73 = .ok (.getfield 10, 3) := by decide +kernel
theorem dX11_look_76 : decode cX11_look 76 = .ok (.iload_n 1, 1) := by decide +kernel
theorem dX11_look_77 : decode cX11_look 77 = .ok (.bipush 6, 2) := by decide +kernel
theorem dX11_look_79 : decode cX11_look 79 = .ok (.invokevirtual 122, 3) := by decide +kernel
theorem dX11_look_82 : decode cX11_look 82 = .ok (.aload_n 0, 1) := by decide +kernel
theorem dX11_look_83 : decode cX11_look 83 = .ok (.getfield 67, 3) := by decide +kernel
theorem dX11_look_86 : decode cX11_look 86 = .ok (.getfield 263, 3) := by decide +kernel
theorem dX11_look_89 : decode cX11_look 89 = .ok (.invokevirtual 292, 3) := by decide +kernel
theorem dX11_look_92 : decode cX11_look 92 = .ok (.iload_n 2, 1) := by decide +kernel
theorem dX11_look_93 : decode cX11_look 93 = .ok (.ireturn, 1) := by decide +kernel
theorem dX11_eat_0 : decode cX11_eat 0 = .ok (.aload_n 0, 1) := by decide +kernel
theorem dX11_eat_1 : decode cX11_eat 1 = .ok (.getfield 74, 3) := by decide +kernel
theorem dX11_eat_4 : decode cX11_eat 4 = .ok (.getfield 275, 3) := by decide +kernel
theorem dX11_eat_7 : decode cX11_eat 7 = .ok (.ifCond .eq 23, 3) := by decide +kernel
theorem dX11_eat_10 : decode cX11_eat 10 = .ok (.aload_n 0, 1) := by decide +kernel
theorem dX11_eat_11 : decode cX11_eat 11 = .ok (.getfield 74, 3) := by decide +kernel
theorem dX11_eat_14 : decode cX11_eat 14 = .ok (.aload_n 0, 1) := by decide +kernel
theorem dX11_eat_15 : decode cX11_eat 15 = .ok (.getfield 10, 3) := by decide +kernel
theorem dX11_eat_18 : decode cX11_eat 18 = .ok (.iconst 0, 1) := by decide +kernel
theorem dX11_eat_19 : decode cX11_eat 19 = .ok (.bipush 10, 2) := by decide +kernel
theorem dX11_eat_21 : decode cX11_eat 21 = .ok (.invokevirtual 122, 3) := by decide +kernel
theorem dX11_eat_24 : decode cX11_eat 24 = .ok (.invokevirtual 296, 3) := by decide +kernel
theorem dX11_eat_27 : decode cX11_eat 27 = .ok (.goto 5, 3) := by decide +kernel
theorem dX11_eat_30 : decode cX11_eat 30 = .ok (.bipush (-5), 2) := by decide +kernel
theorem dX11_eat_32 : decode cX11_eat 32 = .ok (.ireturn, 1) := by decide +kernel
theorem dX11_led_0 : decode cX11_led 0 = .ok (.iload_n 1, 1) := by decide +kernel
theorem dX11_led_1 : decode cX11_led 1 = .ok (.tableswitch 102 0 5 #[39, 47, 55, 63, 71, 79], 39) := by decide +kernel
theorem dX11_led_40 : decode cX11_led 40 = .ok (.aload_n 0, 1) := by decide +kernel
theorem dX11_led_41 : decode cX11_led 41 = .ok (.getfield 74, 3) := by decide +kernel
theorem dX11_led_44 : decode cX11_led 44 = .ok (.getfield 299, 3) := by decide +kernel
theorem dX11_led_47 : decode cX11_led 47 = .ok (.ireturn, 1) := by decide +kernel
theorem dX11_led_48 : decode cX11_led 48 = .ok (.aload_n 0, 1) := by decide +kernel
theorem dX11_led_49 : decode cX11_led 49 = .ok (.getfield 74, 3) := by decide +kernel
theorem dX11_led_52 : decode cX11_led 52 = .ok (.getfield 302, 3) := by decide +kernel
theorem dX11_led_55 : decode cX11_led 55 = .ok (.ireturn, 1) := by decide +kernel
theorem dX11_led_56 : decode cX11_led 56 = .ok (.aload_n 0, 1) := by decide +kernel
theorem dX11_led_57 : decode cX11_led 57 = .ok (.getfield 74, 3) := by decide +kernel
theorem dX11_led_60 : decode cX11_led 60 = .ok (.getfield 304, 3) := by decide +kernel
theorem dX11_led_63 : decode cX11_led 63 = .ok (.ireturn, 1) := by decide +kernel
theorem dX11_led_64 : decode cX11_led 64 = .ok (.aload_n 0, 1) := by decide +kernel
theorem dX11_led_65 : decode cX11_led 65 = .ok (.getfield 74, 3) := by decide +kernel
theorem dX11_led_68 : decode cX11_led 68 = .ok (.getfield 306, 3) := by decide +kernel
theorem dX11_led_71 : decode cX11_led 71 = .ok (.ireturn, 1) := by decide +kernel
theorem dX11_led_72 : decode cX11_led 72 = .ok (.aload_n 0, 1) := by decide +kernel
theorem dX11_led_73 : decode cX11_led 73 = .ok (.getfield 74, 3) := by decide +kernel
theorem dX11_led_76 : decode cX11_led 76 = .ok (.getfield 309, 3) := by decide +kernel
theorem dX11_led_79 : decode cX11_led 79 = .ok (.ireturn, 1) := by decide +kernel
theorem dX11_led_80 : decode cX11_led 80 = .ok (.aload_n 0, 1) := by decide +kernel
theorem dX11_led_81 : decode cX11_led 81 = .ok (.getfield 74, 3) := by decide +kernel
theorem dX11_led_84 : decode cX11_led 84 = .ok (.getfield 275, 3) := by decide +kernel
theorem dX11_led_87 : decode cX11_led 87 = .ok (.ifCond .eq 13, 3) := by decide +kernel
theorem dX11_led_90 : decode cX11_led 90 = .ok (.aload_n 0, 1) := by decide +kernel
theorem dX11_led_91 : decode cX11_led 91 = .ok (.getfield 74, 3) := by decide +kernel
theorem dX11_led_94 : decode cX11_led 94 = .ok (.getfield 286, 3) := by decide +kernel
theorem dX11_led_97 : decode cX11_led 97 = .ok (.goto 5, 3) := by decide +kernel
theorem dX11_led_100 : decode cX11_led 100 = .ok (.bipush (-5), 2) := by decide +kernel
theorem dX11_led_102 : decode cX11_led 102 = .ok (.ireturn, 1) := by decide +kernel
theorem dX11_led_103 : decode cX11_led 103 = .ok (.iconst (-1), 1) := by decide +kernel
theorem dX11_led_104 : decode cX11_led 104 = .ok (.ireturn, 1) := by decide +kernel
theorem dX11_image_0 : decode cX11_image 0 = .ok (.aload_n 0, 1) := by decide +kernel
theorem dX11_image_1 : decode cX11_image 1 = .ok (.getfield 78, 3) := by decide +kernel
theorem dX11_image_4 : decode cX11_image 4 = .ok (.aload_n 0, 1) := by decide +kernel
theorem dX11_image_5 : decode cX11_image 5 = .ok (.getfield 74, 3) := by decide +kernel
theorem dX11_image_8 : decode cX11_image 8 = .ok (.invokevirtual 312, 3) := by decide +kernel
theorem dX11_image_11 : decode cX11_image 11 = .ok (.aload_n 0, 1) := by decide +kernel
theorem dX11_image_12 : decode cX11_image 12 = .ok (.iconst 1, 1) := by decide +kernel
theorem dX11_image_13 : decode cX11_image 13 = .ok (.putfield 81, 3) := by decide +kernel
theorem dX11_image_16 : decode cX11_image 16 = .ok (.aload_n 0, 1) := by decide +kernel
theorem dX11_image_17 : decode cX11_image 17 = .ok (.getfield 74, 3) := by decide +kernel
theorem dX11_image_20 : decode cX11_image 20 = .ok (.getfield 299, 3) := by decide +kernel
theorem dX11_image_23 : decode cX11_image 23 = .ok (.ireturn, 1) := by decide +kernel
theorem dX11_back_0 : decode cX11_back 0 = .ok (.aload_n 0, 1) := by decide +kernel
theorem dX11_back_1 : decode cX11_back 1 = .ok (.getfield 81, 3) := by decide +kernel
theorem dX11_back_4 : decode cX11_back 4 = .ok (.ifCond .ne 6, 3) := by decide +kernel
theorem dX11_back_7 : decode cX11_back 7 = .ok (.bipush (-5), 2) := by decide +kernel
theorem dX11_back_9 : decode cX11_back 9 = .ok (.ireturn, 1) := by decide +kernel
theorem dX11_back_10 : decode cX11_back 10 = .ok (.aload_n 0, 1) := by decide +kernel
theorem dX11_back_11 : decode cX11_back 11 = .ok (.getfield 74, 3) := by decide +kernel
theorem dX11_back_14 : decode cX11_back 14 = .ok (.aload_n 0, 1) := by decide +kernel
theorem dX11_back_15 : decode cX11_back 15 = .ok (.getfield 78, 3) := by decide +kernel
theorem dX11_back_18 : decode cX11_back 18 = .ok (.invokevirtual 312, 3) := by decide +kernel
theorem dX11_back_21 : decode cX11_back 21 = .ok (.aload_n 0, 1) := by decide +kernel
theorem dX11_back_22 : decode cX11_back 22 = .ok (.getfield 74, 3) := by decide +kernel
theorem dX11_back_25 : decode cX11_back 25 = .ok (.getfield 299, 3) := by decide +kernel
theorem dX11_back_28 : decode cX11_back 28 = .ok (.ireturn, 1) := by decide +kernel
theorem dX11_undo_0 : decode cX11_undo 0 = .ok (.aload_n 0, 1) := by decide +kernel
theorem dX11_undo_1 : decode cX11_undo 1 = .ok (.getfield 10, 3) := by decide +kernel
theorem dX11_undo_4 : decode cX11_undo 4 = .ok (.getfield 315, 3) := by decide +kernel
theorem dX11_undo_7 : decode cX11_undo 7 = .ok (.ifCond .ne 8, 3) := by decide +kernel
theorem dX11_undo_10 : decode cX11_undo 10 = .ok (.bipush (-5), 2) := by decide +kernel
theorem dX11_undo_12 : decode cX11_undo 12 = .ok (.goto 10, 3) := by decide +kernel
theorem dX11_undo_15 : decode cX11_undo 15 = .ok (.aload_n 0, 1) := by decide +kernel
theorem dX11_undo_16 : decode cX11_undo 16 = .ok (.getfield 10, 3) := by decide +kernel
theorem dX11_undo_19 : decode cX11_undo 19 = .ok (.invokevirtual 318, 3) := by decide +kernel
theorem dX11_undo_22 : decode cX11_undo 22 = .ok (.ireturn, 1) := by decide +kernel
theorem dX11_redo_0 : decode cX11_redo 0 = .ok (.aload_n 0, 1) := by decide +kernel
theorem dX11_redo_1 : decode cX11_redo 1 = .ok (.getfield 10, 3) := by decide +kernel
theorem dX11_redo_4 : decode cX11_redo 4 = .ok (.getfield 315, 3) := by decide +kernel
theorem dX11_redo_7 : decode cX11_redo 7 = .ok (.aload_n 0, 1) := by decide +kernel
theorem dX11_redo_8 : decode cX11_redo 8 = .ok (.getfield 10, 3) := by decide +kernel
theorem dX11_redo_11 : decode cX11_redo 11 = .ok (.getfield 321, 3) := by decide +kernel
theorem dX11_redo_14 : decode cX11_redo 14 = .ok (.if_icmp .ne 8, 3) := by decide +kernel
theorem dX11_redo_17 : decode cX11_redo 17 = .ok (.bipush (-5), 2) := by decide +kernel
theorem dX11_redo_19 : decode cX11_redo 19 = .ok (.goto 10, 3) := by decide +kernel
theorem dX11_redo_22 : decode cX11_redo 22 = .ok (.aload_n 0, 1) := by decide +kernel
theorem dX11_redo_23 : decode cX11_redo 23 = .ok (.getfield 10, 3) := by decide +kernel
theorem dX11_redo_26 : decode cX11_redo 26 = .ok (.invokevirtual 324, 3) := by decide +kernel
theorem dX11_redo_29 : decode cX11_redo 29 = .ok (.ireturn, 1) := by decide +kernel
theorem dX11_body_0 : decode cX11_body 0 = .ok (.iload_n 1, 1) := by decide +kernel
theorem dX11_body_1 : decode cX11_body 1 = .ok (.invokestatic 327, 3) := by decide +kernel
theorem dX11_body_4 : decode cX11_body 4 = .ok (.ifCond .eq 14, 3) := by decide +kernel
theorem dX11_body_7 : decode cX11_body 7 = .ok (.aload_n 0, 1) := by decide +kernel
theorem dX11_body_8 : decode cX11_body 8 = .ok (.getfield 88, 3) := by decide +kernel
theorem dX11_body_11 : decode cX11_body 11 = .ok (.iload_n 1, 1) := by decide +kernel
theorem dX11_body_12 : decode cX11_body 12 = .ok (.invokevirtual 330, 3) := by decide +kernel
theorem dX11_body_15 : decode cX11_body 15 = .ok (.goto 4, 3) := by decide +kernel
theorem dX11_body_18 : decode cX11_body 18 = .ok (.iconst (-1), 1) := by decide +kernel
theorem dX11_body_19 : decode cX11_body 19 = .ok (.ireturn, 1) := by decide +kernel
theorem dX11_act_0 : decode cX11_act 0 = .ok (.aload_n 0, 1) := by decide +kernel
theorem dX11_act_1 : decode cX11_act 1 = .ok (.getfield 88, 3) := by decide +kernel
theorem dX11_act_4 : decode cX11_act 4 = .ok (.invokevirtual 331, 3) := by decide +kernel
theorem dX11_act_7 : decode cX11_act 7 = .ok (.aload_n 0, 1) := by decide +kernel
theorem dX11_act_8 : decode cX11_act 8 = .ok (.getfield 88, 3) := by decide +kernel
theorem dX11_act_11 : decode cX11_act 11 = .ok (.iload_n 1, 1) := by decide +kernel
theorem dX11_act_12 : decode cX11_act 12 = .ok (.invokevirtual 334, 3) := by decide +kernel
theorem dX11_act_15 : decode cX11_act 15 = .ok (.ifCond .eq 12, 3) := by decide +kernel
theorem dX11_act_18 : decode cX11_act 18 = .ok (.iload_n 2, 1) := by decide +kernel
theorem dX11_act_19 : decode cX11_act 19 = .ok (.ifCond .lt 8, 3) := by decide +kernel
theorem dX11_act_22 : decode cX11_act 22 = .ok (.iload_n 2, 1) := by decide +kernel
theorem dX11_act_23 : decode cX11_act 23 = .ok (.iconst 4, 1) := by decide +kernel
theorem dX11_act_24 : decode cX11_act 24 = .ok (.if_icmp .lt 5, 3) := by decide +kernel
theorem dX11_act_27 : decode cX11_act 27 = .ok (.iconst 0, 1) := by decide +kernel
theorem dX11_act_28 : decode cX11_act 28 = .ok (.ireturn, 1) := by decide +kernel
theorem dX11_act_29 : decode cX11_act 29 = .ok (.aload_n 0, 1) := by decide +kernel
theorem dX11_act_30 : decode cX11_act 30 = .ok (.getfield 88, 3) := by decide +kernel
theorem dX11_act_33 : decode cX11_act 33 = .ok (.iload_n 1, 1) := by decide +kernel
theorem dX11_act_34 : decode cX11_act 34 = .ok (.iload_n 2, 1) := by decide +kernel
theorem dX11_act_35 : decode cX11_act 35 = .ok (.iload_n 3, 1) := by decide +kernel
theorem dX11_act_36 : decode cX11_act 36 = .ok (.invokevirtual 337, 3) := by decide +kernel
theorem dX11_act_39 : decode cX11_act 39 = .ok (.ireturn, 1) := by decide +kernel
theorem dX11_trace_0 : decode cX11_trace 0 = .ok (.iload_n 1, 1) := by decide +kernel
theorem dX11_trace_1 : decode cX11_trace 1 = .ok (.ifCond .lt 19, 3) := by decide +kernel
theorem dX11_trace_4 : decode cX11_trace 4 = .ok (.iload_n 1, 1) := by decide +kernel
theorem dX11_trace_5 : decode cX11_trace 5 = .ok (.aload_n 0, 1) := by decide +kernel
theorem dX11_trace_6 : decode cX11_trace 6 = .ok (.getfield 88, 3) := by decide +kernel
theorem dX11_trace_9 : decode cX11_trace 9 = .ok (.getfield 341, 3) := by decide +kernel
theorem dX11_trace_12 : decode cX11_trace 12 = .ok (.bipush 24, 2) := by decide +kernel
theorem dX11_trace_14 : decode cX11_trace 14 = .ok (.invokestatic 206, 3) := by decide +kernel
theorem dX11_trace_17 : decode cX11_trace 17 = .ok (.if_icmp .lt 7, 3) := by decide +kernel
theorem dX11_trace_20 : decode cX11_trace 20 = .ok (.iconst (-1), 1) := by decide +kernel
theorem dX11_trace_21 : decode cX11_trace 21 = .ok (.goto 11, 3) := by decide +kernel
theorem dX11_trace_24 : decode cX11_trace 24 = .ok (.aload_n 0, 1) := by decide +kernel
theorem dX11_trace_25 : decode cX11_trace 25 = .ok (.getfield 88, 3) := by decide +kernel
theorem dX11_trace_28 : decode cX11_trace 28 = .ok (.iload_n 1, 1) := by decide +kernel
theorem dX11_trace_29 : decode cX11_trace 29 = .ok (.invokevirtual 344, 3) := by decide +kernel
theorem dX11_trace_32 : decode cX11_trace 32 = .ok (.ireturn, 1) := by decide +kernel
theorem dX11_keep_0 : decode cX11_keep 0 = .ok (.iload_n 1, 1) := by decide +kernel
theorem dX11_keep_1 : decode cX11_keep 1 = .ok (.invokestatic 101, 3) := by decide +kernel
theorem dX11_keep_4 : decode cX11_keep 4 = .ok (.ifCond .eq 19, 3) := by decide +kernel
theorem dX11_keep_7 : decode cX11_keep 7 = .ok (.iload_n 2, 1) := by decide +kernel
theorem dX11_keep_8 : decode cX11_keep 8 = .ok (.iconst (-1), 1) := by decide +kernel
theorem dX11_keep_9 : decode cX11_keep 9 = .ok (.if_icmp .eq 16, 3) := by decide +kernel
theorem dX11_keep_12 : decode cX11_keep 12 = .ok (.aload_n 0, 1) := by decide +kernel
theorem dX11_keep_13 : decode cX11_keep 13 = .ok (.getfield 88, 3) := by decide +kernel
theorem dX11_keep_16 : decode cX11_keep 16 = .ok (.iload_n 2, 1) := by decide +kernel
theorem dX11_keep_17 : decode cX11_keep 17 = .ok (.invokevirtual 334, 3) := by decide +kernel
theorem dX11_keep_20 : decode cX11_keep 20 = .ok (.ifCond .ne 5, 3) := by decide +kernel
theorem dX11_keep_23 : decode cX11_keep 23 = .ok (.iconst (-1), 1) := by decide +kernel
theorem dX11_keep_24 : decode cX11_keep 24 = .ok (.ireturn, 1) := by decide +kernel
theorem dX11_keep_25 : decode cX11_keep 25 = .ok (.iload_n 2, 1) := by decide +kernel
theorem dX11_keep_26 : decode cX11_keep 26 = .ok (.iconst (-1), 1) := by decide +kernel
theorem dX11_keep_27 : decode cX11_keep 27 = .ok (.if_icmp .ne 15, 3) := by decide +kernel
theorem dX11_keep_30 : decode cX11_keep 30 = .ok (.aload_n 0, 1) := by decide +kernel
theorem dX11_keep_31 : decode cX11_keep 31 = .ok (.getfield 25, 3) := by decide +kernel
theorem dX11_keep_34 : decode cX11_keep 34 = .ok (.iload_n 1, 1) := by decide +kernel
theorem dX11_keep_35 : decode cX11_keep 35 = .ok (.aaload, 1) := by decide +kernel
theorem dX11_keep_36 : decode cX11_keep 36 = .ok (.invokevirtual 347, 3) := by decide +kernel
theorem dX11_keep_39 : decode cX11_keep 39 = .ok (.goto 13, 3) := by decide +kernel
theorem dX11_keep_42 : decode cX11_keep 42 = .ok (.aload_n 0, 1) := by decide +kernel
theorem dX11_keep_43 : decode cX11_keep 43 = .ok (.getfield 25, 3) := by decide +kernel
theorem dX11_keep_46 : decode cX11_keep 46 = .ok (.iload_n 1, 1) := by decide +kernel
theorem dX11_keep_47 : decode cX11_keep 47 = .ok (.aaload, 1) := by decide +kernel
theorem dX11_keep_48 : decode cX11_keep 48 = .ok (.iload_n 2, 1) := by decide +kernel
theorem dX11_keep_49 : decode cX11_keep 49 = .ok (.invokevirtual 350, 3) := by decide +kernel
theorem dX11_keep_52 : decode cX11_keep 52 = .ok (.iconst 1, 1) := by decide +kernel
theorem dX11_keep_53 : decode cX11_keep 53 = .ok (.ireturn, 1) := by decide +kernel
theorem dX11_row_0 : decode cX11_row 0 = .ok (.iload_n 1, 1) := by decide +kernel
theorem dX11_row_1 : decode cX11_row 1 = .ok (.invokestatic 101, 3) := by decide +kernel
theorem dX11_row_4 : decode cX11_row 4 = .ok (.ifCond .eq 18, 3) := by decide +kernel
theorem dX11_row_7 : decode cX11_row 7 = .ok (.iload_n 2, 1) := by decide +kernel
theorem dX11_row_8 : decode cX11_row 8 = .ok (.ifCond .lt 14, 3) := by decide +kernel
theorem dX11_row_11 : decode cX11_row 11 = .ok (.iload_n 2, 1) := by decide +kernel
theorem dX11_row_12 : decode cX11_row 12 = .ok (.iconst 4, 1) := by decide +kernel
theorem dX11_row_13 : decode cX11_row 13 = .ok (.if_icmp .gt 9, 3) := by decide +kernel
theorem dX11_row_16 : decode cX11_row 16 = .ok (.iload_n 3, 1) := by decide +kernel
theorem dX11_row_17 : decode cX11_row 17 = .ok (.bipush 60, 2) := by decide +kernel
theorem dX11_row_19 : decode cX11_row 19 = .ok (.if_icmp .le 5, 3) := by decide +kernel
theorem dX11_row_22 : decode cX11_row 22 = .ok (.iconst (-1), 1) := by decide +kernel
theorem dX11_row_23 : decode cX11_row 23 = .ok (.ireturn, 1) := by decide +kernel
theorem dX11_row_24 : decode cX11_row 24 = .ok (.iload_n 3, 1) := by decide +kernel
theorem dX11_row_25 : decode cX11_row 25 = .ok (.ifCond .ge 6, 3) := by decide +kernel
theorem dX11_row_28 : decode cX11_row 28 = .ok (.bipush (-14), 2) := by decide +kernel
theorem dX11_row_30 : decode cX11_row 30 = .ok (.ireturn, 1) := by decide +kernel
theorem dX11_row_31 : decode cX11_row 31 = .ok (.aload_n 0, 1) := by decide +kernel
theorem dX11_row_32 : decode cX11_row 32 = .ok (.getfield 25, 3) := by decide +kernel
theorem dX11_row_35 : decode cX11_row 35 = .ok (.iload_n 1, 1) := by decide +kernel
theorem dX11_row_36 : decode cX11_row 36 = .ok (.aaload, 1) := by decide +kernel
theorem dX11_row_37 : decode cX11_row 37 = .ok (.iload_n 2, 1) := by decide +kernel
theorem dX11_row_38 : decode cX11_row 38 = .ok (.iload_n 3, 1) := by decide +kernel
theorem dX11_row_39 : decode cX11_row 39 = .ok (.invokevirtual 354, 3) := by decide +kernel
theorem dX11_row_42 : decode cX11_row 42 = .ok (.iconst 1, 1) := by decide +kernel
theorem dX11_row_43 : decode cX11_row 43 = .ok (.ireturn, 1) := by decide +kernel
theorem dX11_put_0 : decode cX11_put 0 = .ok (.iload_n 1, 1) := by decide +kernel
theorem dX11_put_1 : decode cX11_put 1 = .ok (.invokestatic 101, 3) := by decide +kernel
theorem dX11_put_4 : decode cX11_put 4 = .ok (.ifCond .ne 5, 3) := by decide +kernel
theorem dX11_put_7 : decode cX11_put 7 = .ok (.iconst (-1), 1) := by decide +kernel
theorem dX11_put_8 : decode cX11_put 8 = .ok (.ireturn, 1) := by decide +kernel
theorem dX11_put_9 : decode cX11_put 9 = .ok (.aload_n 0, 1) := by decide +kernel
theorem dX11_put_10 : decode cX11_put 10 = .ok (.getfield 25, 3) := by decide +kernel
theorem dX11_put_13 : decode cX11_put 13 = .ok (.iload_n 1, 1) := by decide +kernel
theorem dX11_put_14 : decode cX11_put 14 = .ok (.aaload, 1) := by decide +kernel
theorem dX11_put_15 : decode cX11_put 15 = .ok (.astore 5, 2) := by decide +kernel
theorem dX11_put_17 : decode cX11_put 17 = .ok (.aload 5, 2) := by decide +kernel
theorem dX11_put_19 : decode cX11_put 19 = .ok (.invokevirtual 105, 3) := by decide +kernel
theorem dX11_put_22 : decode cX11_put 22 = .ok (.ifCond .eq 6, 3) := by decide +kernel
theorem dX11_put_25 : decode cX11_put 25 = .ok (.bipush (-11), 2) := by decide +kernel
theorem dX11_put_27 : decode cX11_put 27 = .ok (.ireturn, 1) := by decide +kernel
theorem dX11_put_28 : decode cX11_put 28 = .ok (.aload 5, 2) := by decide +kernel
theorem dX11_put_30 : decode cX11_put 30 = .ok (.invokevirtual 357, 3) := by decide +kernel
theorem dX11_put_33 : decode cX11_put 33 = .ok (.ifCond .ne 6, 3) := by decide +kernel
theorem dX11_put_36 : decode cX11_put 36 = .ok (.bipush (-12), 2) := by decide +kernel
theorem dX11_put_38 : decode cX11_put 38 = .ok (.ireturn, 1) := by decide +kernel
theorem dX11_put_39 : decode cX11_put 39 = .ok (.aload 5, 2) := by decide +kernel
theorem dX11_put_41 : decode cX11_put 41 = .ok (.iload_n 2, 1) := by decide +kernel
theorem dX11_put_42 : decode cX11_put 42 = .ok (.invokevirtual 360, 3) := by decide +kernel
theorem dX11_put_45 : decode cX11_put 45 = .ok (.ifCond .ne 6, 3) := by decide +kernel
theorem dX11_put_48 : decode cX11_put 48 = .ok (.bipush (-13), 2) := by decide +kernel
theorem dX11_put_50 : decode cX11_put 50 = .ok (.ireturn, 1) := by decide +kernel
theorem dX11_put_51 : decode cX11_put 51 = .ok (.aload 5, 2) := by decide +kernel
theorem dX11_put_53 : decode cX11_put 53 = .ok (.iload_n 2, 1) := by decide +kernel
theorem dX11_put_54 : decode cX11_put 54 = .ok (.lload_n 3, 1) := by decide +kernel
theorem dX11_put_55 : decode cX11_put 55 = .ok (.invokevirtual 363, 3) := by decide +kernel
theorem dX11_put_58 : decode cX11_put 58 = .ok (.iconst 1, 1) := by decide +kernel
theorem dX11_put_59 : decode cX11_put 59 = .ok (.ireturn, 1) := by decide +kernel
theorem dX11_element_0 : decode cX11_element 0 = .ok (.iload_n 1, 1) := by decide +kernel
theorem dX11_element_1 : decode cX11_element 1 = .ok (.invokestatic 101, 3) := by decide +kernel
theorem dX11_element_4 : decode cX11_element 4 = .ok (.ifCond .eq 28, 3) := by decide +kernel
theorem dX11_element_7 : decode cX11_element 7 = .ok (.aload_n 0, 1) := by decide +kernel
theorem dX11_element_8 : decode cX11_element 8 = .ok (.getfield 25, 3) := by decide +kernel
theorem dX11_element_11 : decode cX11_element 11 = .ok (.iload_n 1, 1) := by decide +kernel
theorem dX11_element_12 : decode cX11_element 12 = .ok (.aaload, 1) := by decide +kernel
theorem dX11_element_13 : decode cX11_element 13 = .ok (.invokevirtual 357, 3) := by decide +kernel
theorem dX11_element_16 : decode cX11_element 16 = .ok (.ifCond .eq 16, 3) := by decide +kernel
theorem dX11_element_19 : decode cX11_element 19 = .ok (.aload_n 0, 1) := by decide +kernel
theorem dX11_element_20 : decode cX11_element 20 = .ok (.getfield 25, 3) := by decide +kernel
theorem dX11_element_23 : decode cX11_element 23 = .ok (.iload_n 1, 1) := by decide +kernel
theorem dX11_element_24 : decode cX11_element 24 = .ok (.aaload, 1) := by decide +kernel
theorem dX11_element_25 : decode cX11_element 25 = .ok (.iload_n 2, 1) := by decide +kernel
theorem dX11_element_26 : decode cX11_element 26 = .ok (.invokevirtual 360, 3) := by decide +kernel
theorem dX11_element_29 : decode cX11_element 29 = .ok (.ifCond .ne 7, 3) := by decide +kernel
theorem dX11_element_32 : decode cX11_element 32 = .ok (.ldc2_w 148, 3) := by decide +kernel
theorem dX11_element_35 : decode cX11_element 35 = .ok (.lreturn, 1) := by decide +kernel
theorem dX11_element_36 : decode cX11_element 36 = .ok (.aload_n 0, 1) := by decide +kernel
theorem dX11_element_37 : decode cX11_element 37 = .ok (.getfield 25, 3) := by decide +kernel
theorem dX11_element_40 : decode cX11_element 40 = .ok (.iload_n 1, 1) := by decide +kernel
theorem dX11_element_41 : decode cX11_element 41 = .ok (.aaload, 1) := by decide +kernel
theorem dX11_element_42 : decode cX11_element 42 = .ok (.iload_n 2, 1) := by decide +kernel
theorem dX11_element_43 : decode cX11_element 43 = .ok (.invokevirtual 367, 3) := by decide +kernel
theorem dX11_element_46 : decode cX11_element 46 = .ok (.lreturn, 1) := by decide +kernel
theorem dX11_shift_0 : decode cX11_shift 0 = .ok (.iload_n 1, 1) := by decide +kernel
theorem dX11_shift_1 : decode cX11_shift 1 = .ok (.invokestatic 101, 3) := by decide +kernel
theorem dX11_shift_4 : decode cX11_shift 4 = .ok (.ifCond .eq 10, 3) := by decide +kernel
theorem dX11_shift_7 : decode cX11_shift 7 = .ok (.iload_n 3, 1) := by decide +kernel
theorem dX11_shift_8 : decode cX11_shift 8 = .ok (.invokestatic 101, 3) := by decide +kernel
theorem dX11_shift_11 : decode cX11_shift 11 = .ok (.ifCond .ne 5, 3) := by decide +kernel
theorem dX11_shift_14 : decode cX11_shift 14 = .ok (.iconst (-1), 1) := by decide +kernel
theorem dX11_shift_15 : decode cX11_shift 15 = .ok (.ireturn, 1) := by decide +kernel
theorem dX11_shift_16 : decode cX11_shift 16 = .ok (.aload_n 0, 1) := by decide +kernel
theorem dX11_shift_17 : decode cX11_shift 17 = .ok (.getfield 25, 3) := by decide +kernel
theorem dX11_shift_20 : decode cX11_shift 20 = .ok (.iload_n 1, 1) := by decide +kernel
theorem dX11_shift_21 : decode cX11_shift 21 = .ok (.aaload, 1) := by decide +kernel
theorem dX11_shift_22 : decode cX11_shift 22 = .ok (.astore 6, 2) := by decide +kernel
theorem dX11_shift_24 : decode cX11_shift 24 = .ok (.aload_n 0, 1) := by decide +kernel
theorem dX11_shift_25 : decode cX11_shift 25 = .ok (.getfield 25, 3) := by decide +kernel
theorem dX11_shift_28 : decode cX11_shift 28 = .ok (.iload_n 3, 1) := by decide +kernel
theorem dX11_shift_29 : decode cX11_shift 29 = .ok (.aaload, 1) := by decide +kernel
theorem dX11_shift_30 : decode cX11_shift 30 = .ok (.astore 7, 2) := by decide +kernel
theorem dX11_shift_32 : decode cX11_shift 32 = .ok (.aload 6, 2) := by decide +kernel
theorem dX11_shift_34 : decode cX11_shift 34 = .ok (.invokevirtual 105, 3) := by decide +kernel
theorem dX11_shift_37 : decode cX11_shift 37 = .ok (.ifCond .ne 11, 3) := by decide +kernel
theorem dX11_shift_40 : decode cX11_shift 40 = .ok (.aload 7, 2) := by decide +kernel
theorem dX11_shift_42 : decode cX11_shift 42 = .ok (.invokevirtual 105, 3) := by decide +kernel
theorem dX11_shift_45 : decode cX11_shift 45 = .ok (.ifCond .eq 6, 3) := by decide +kernel
theorem dX11_shift_48 : decode cX11_shift 48 = .ok (.bipush (-11), 2) := by decide +kernel
theorem dX11_shift_50 : decode cX11_shift 50 = .ok (.ireturn, 1) := by decide +kernel
theorem dX11_shift_51 : decode cX11_shift 51 = .ok (.aload 6, 2) := by decide +kernel
theorem dX11_shift_53 : decode cX11_shift 53 = .ok (.invokevirtual 357, 3) := by decide +kernel
theorem dX11_shift_56 : decode cX11_shift 56 = .ok (.ifCond .eq 24, 3) := by decide +kernel
theorem dX11_shift_59 : decode cX11_shift 59 = .ok (.aload 7, 2) := by decide +kernel
theorem dX11_shift_61 : decode cX11_shift 61 = .ok (.invokevirtual 357, 3) := by decide +kernel
theorem dX11_shift_64 : decode cX11_shift 64 = .ok (.ifCond .eq 16, 3) := by decide +kernel
theorem dX11_shift_67 : decode cX11_shift 67 = .ok (.aload 6, 2) := by decide +kernel
theorem dX11_shift_69 : decode cX11_shift 69 = .ok (.getfield 369, 3) := by decide +kernel
theorem dX11_shift_72 : decode cX11_shift 72 = .ok (.aload 7, 2) := by decide +kernel
theorem dX11_shift_74 : decode cX11_shift 74 = .ok (.getfield 369, 3) := by decide +kernel
theorem dX11_shift_77 : decode cX11_shift 77 = .ok (.if_icmp .eq 6, 3) := by decide +kernel
theorem dX11_shift_80 : decode cX11_shift 80 = .ok (.bipush (-12), 2) := by decide +kernel
theorem dX11_shift_82 : decode cX11_shift 82 = .ok (.ireturn, 1) := by decide +kernel
theorem dX11_shift_83 : decode cX11_shift 83 = .ok (.aload 6, 2) := by decide +kernel
theorem dX11_shift_85 : decode cX11_shift 85 = .ok (.iload_n 2, 1) := by decide +kernel
theorem dX11_shift_86 : decode cX11_shift 86 = .ok (.iload 5, 2) := by decide +kernel
theorem dX11_shift_88 : decode cX11_shift 88 = .ok (.invokevirtual 372, 3) := by decide +kernel
theorem dX11_shift_91 : decode cX11_shift 91 = .ok (.ifCond .eq 15, 3) := by decide +kernel
theorem dX11_shift_94 : decode cX11_shift 94 = .ok (.aload 7, 2) := by decide +kernel
theorem dX11_shift_96 : decode cX11_shift 96 = .ok (.iload 4, 2) := by decide +kernel
theorem dX11_shift_98 : decode cX11_shift 98 = .ok (.iload 5, 2) := by decide +kernel
theorem dX11_shift_100 : decode cX11_shift 100 = .ok (.invokevirtual 372, 3) := by decide +kernel
theorem dX11_shift_103 : decode cX11_shift 103 = .ok (.ifCond .ne 6, 3) := by decide +kernel
theorem dX11_shift_106 : decode cX11_shift 106 = .ok (.bipush (-13), 2) := by decide +kernel
theorem dX11_shift_108 : decode cX11_shift 108 = .ok (.ireturn, 1) := by decide +kernel
theorem dX11_shift_109 : decode cX11_shift 109 = .ok (.aload 6, 2) := by decide +kernel
theorem dX11_shift_111 : decode cX11_shift 111 = .ok (.iload_n 2, 1) := by decide +kernel
theorem dX11_shift_112 : decode cX11_shift 112 = .ok (.aload 7, 2) := by decide +kernel
theorem dX11_shift_114 : decode cX11_shift 114 = .ok (.iload 4, 2) := by decide +kernel
theorem dX11_shift_116 : decode cX11_shift 116 = .ok (.iload 5, 2) := by decide +kernel
theorem dX11_shift_118 : decode cX11_shift 118 = .ok (.invokevirtual 375, 3) := by decide +kernel
theorem dX11_shift_121 : decode cX11_shift 121 = .ok (.iload 5, 2) := by decide +kernel
theorem dX11_shift_123 : decode cX11_shift 123 = .ok (.ireturn, 1) := by decide +kernel
theorem dX11_taken_0 : decode cX11_taken 0 = .ok (.iload_n 1, 1) := by decide +kernel
theorem dX11_taken_1 : decode cX11_taken 1 = .ok (.invokestatic 101, 3) := by decide +kernel
theorem dX11_taken_4 : decode cX11_taken 4 = .ok (.ifCond .eq 10, 3) := by decide +kernel
theorem dX11_taken_7 : decode cX11_taken 7 = .ok (.iload_n 2, 1) := by decide +kernel
theorem dX11_taken_8 : decode cX11_taken 8 = .ok (.invokestatic 327, 3) := by decide +kernel
theorem dX11_taken_11 : decode cX11_taken 11 = .ok (.ifCond .ne 5, 3) := by decide +kernel
theorem dX11_taken_14 : decode cX11_taken 14 = .ok (.iconst (-1), 1) := by decide +kernel
theorem dX11_taken_15 : decode cX11_taken 15 = .ok (.ireturn, 1) := by decide +kernel
theorem dX11_taken_16 : decode cX11_taken 16 = .ok (.aload_n 0, 1) := by decide +kernel
theorem dX11_taken_17 : decode cX11_taken 17 = .ok (.getfield 25, 3) := by decide +kernel
theorem dX11_taken_20 : decode cX11_taken 20 = .ok (.iload_n 1, 1) := by decide +kernel
theorem dX11_taken_21 : decode cX11_taken 21 = .ok (.aaload, 1) := by decide +kernel
theorem dX11_taken_22 : decode cX11_taken 22 = .ok (.astore_n 3, 1) := by decide +kernel
theorem dX11_taken_23 : decode cX11_taken 23 = .ok (.aload_n 3, 1) := by decide +kernel
theorem dX11_taken_24 : decode cX11_taken 24 = .ok (.invokevirtual 105, 3) := by decide +kernel
theorem dX11_taken_27 : decode cX11_taken 27 = .ok (.ifCond .eq 6, 3) := by decide +kernel
theorem dX11_taken_30 : decode cX11_taken 30 = .ok (.bipush (-11), 2) := by decide +kernel
theorem dX11_taken_32 : decode cX11_taken 32 = .ok (.ireturn, 1) := by decide +kernel
theorem dX11_taken_33 : decode cX11_taken 33 = .ok (.aload_n 3, 1) := by decide +kernel
theorem dX11_taken_34 : decode cX11_taken 34 = .ok (.invokevirtual 357, 3) := by decide +kernel
theorem dX11_taken_37 : decode cX11_taken 37 = .ok (.ifCond .eq 6, 3) := by decide +kernel
theorem dX11_taken_40 : decode cX11_taken 40 = .ok (.bipush (-12), 2) := by decide +kernel
theorem dX11_taken_42 : decode cX11_taken 42 = .ok (.ireturn, 1) := by decide +kernel
theorem dX11_taken_43 : decode cX11_taken 43 = .ok (.aload_n 0, 1) := by decide +kernel
theorem dX11_taken_44 : decode cX11_taken 44 = .ok (.getfield 88, 3) := by decide +kernel
theorem dX11_taken_47 : decode cX11_taken 47 = .ok (.aload_n 3, 1) := by decide +kernel
theorem dX11_taken_48 : decode cX11_taken 48 = .ok (.getfield 379, 3) := by decide +kernel
theorem dX11_taken_51 : decode cX11_taken 51 = .ok (.invokevirtual 382, 3) := by decide +kernel
theorem dX11_taken_54 : decode cX11_taken 54 = .ok (.istore 4, 2) := by decide +kernel
theorem dX11_taken_56 : decode cX11_taken 56 = .ok (.iload 4, 2) := by decide +kernel
theorem dX11_taken_58 : decode cX11_taken 58 = .ok (.iload_n 2, 1) := by decide +kernel
theorem dX11_taken_59 : decode cX11_taken 59 = .ok (.invokestatic 385, 3) := by decide +kernel
theorem dX11_taken_62 : decode cX11_taken 62 = .ok (.ifCond .eq 8, 3) := by decide +kernel
theorem dX11_taken_65 : decode cX11_taken 65 = .ok (.iload 4, 2) := by decide +kernel
theorem dX11_taken_67 : decode cX11_taken 67 = .ok (.goto 5, 3) := by decide +kernel
theorem dX11_taken_70 : decode cX11_taken 70 = .ok (.bipush (-12), 2) := by decide +kernel
theorem dX11_taken_72 : decode cX11_taken 72 = .ok (.ireturn, 1) := by decide +kernel
theorem dX11_count_0 : decode cX11_count 0 = .ok (.iload_n 1, 1) := by decide +kernel
theorem dX11_count_1 : decode cX11_count 1 = .ok (.tableswitch 75 0 4 #[35, 43, 51, 59, 67], 35) := by decide +kernel
theorem dX11_count_36 : decode cX11_count 36 = .ok (.aload_n 0, 1) := by decide +kernel
theorem dX11_count_37 : decode cX11_count 37 = .ok (.getfield 10, 3) := by decide +kernel
theorem dX11_count_40 : decode cX11_count 40 = .ok (.getfield 215, 3) := by decide +kernel
theorem dX11_count_43 : decode cX11_count 43 = .ok (.ireturn, 1) := by decide +kernel
theorem dX11_count_44 : decode cX11_count 44 = .ok (.aload_n 0, 1) := by decide +kernel
theorem dX11_count_45 : decode cX11_count 45 = .ok (.getfield 19, 3) := by decide +kernel
theorem dX11_count_48 : decode cX11_count 48 = .ok (.getfield 388, 3) := by decide +kernel
theorem dX11_count_51 : decode cX11_count 51 = .ok (.ireturn, 1) := by decide +kernel
theorem dX11_count_52 : decode cX11_count 52 = .ok (.aload_n 0, 1) := by decide +kernel
theorem dX11_count_53 : decode cX11_count 53 = .ok (.getfield 10, 3) := by decide +kernel
theorem dX11_count_56 : decode cX11_count 56 = .ok (.getfield 315, 3) := by decide +kernel
theorem dX11_count_59 : decode cX11_count 59 = .ok (.ireturn, 1) := by decide +kernel
theorem dX11_count_60 : decode cX11_count 60 = .ok (.aload_n 0, 1) := by decide +kernel
theorem dX11_count_61 : decode cX11_count 61 = .ok (.getfield 88, 3) := by decide +kernel
theorem dX11_count_64 : decode cX11_count 64 = .ok (.getfield 391, 3) := by decide +kernel
theorem dX11_count_67 : decode cX11_count 67 = .ok (.ireturn, 1) := by decide +kernel
theorem dX11_count_68 : decode cX11_count 68 = .ok (.aload_n 0, 1) := by decide +kernel
theorem dX11_count_69 : decode cX11_count 69 = .ok (.getfield 88, 3) := by decide +kernel
theorem dX11_count_72 : decode cX11_count 72 = .ok (.getfield 341, 3) := by decide +kernel
theorem dX11_count_75 : decode cX11_count 75 = .ok (.ireturn, 1) := by decide +kernel
theorem dX11_count_76 : decode cX11_count 76 = .ok (.iconst (-1), 1) := by decide +kernel
theorem dX11_count_77 : decode cX11_count 77 = .ok (.ireturn, 1) := by decide +kernel
theorem dX11_isShelf_0 : decode cX11_isShelf 0 = .ok (.iload_n 0, 1) := by decide +kernel
theorem dX11_isShelf_1 : decode cX11_isShelf 1 = .ok (.ifCond .lt 13, 3) := by decide +kernel
theorem dX11_isShelf_4 : decode cX11_isShelf 4 = .ok (.iload_n 0, 1) := by decide +kernel
theorem dX11_isShelf_5 : decode cX11_isShelf 5 = .ok (.bipush 6, 2) := by decide +kernel
theorem dX11_isShelf_7 : decode cX11_isShelf 7 = .ok (.if_icmp .ge 7, 3) := by decide +kernel
theorem dX11_isShelf_10 : decode cX11_isShelf 10 = .ok (.iconst 1, 1) := by decide +kernel
theorem dX11_isShelf_11 : decode cX11_isShelf 11 = .ok (.goto 4, 3) := by decide +kernel
theorem dX11_isShelf_14 : decode cX11_isShelf 14 = .ok (.iconst 0, 1) := by decide +kernel
theorem dX11_isShelf_15 : decode cX11_isShelf 15 = .ok (.ireturn, 1) := by decide +kernel
theorem dX11_isBag_0 : decode cX11_isBag 0 = .ok (.iload_n 0, 1) := by decide +kernel
theorem dX11_isBag_1 : decode cX11_isBag 1 = .ok (.ifCond .lt 12, 3) := by decide +kernel
theorem dX11_isBag_4 : decode cX11_isBag 4 = .ok (.iload_n 0, 1) := by decide +kernel
theorem dX11_isBag_5 : decode cX11_isBag 5 = .ok (.iconst 4, 1) := by decide +kernel
theorem dX11_isBag_6 : decode cX11_isBag 6 = .ok (.if_icmp .ge 7, 3) := by decide +kernel
theorem dX11_isBag_9 : decode cX11_isBag 9 = .ok (.iconst 1, 1) := by decide +kernel
theorem dX11_isBag_10 : decode cX11_isBag 10 = .ok (.goto 4, 3) := by decide +kernel
theorem dX11_isBag_13 : decode cX11_isBag 13 = .ok (.iconst 0, 1) := by decide +kernel
theorem dX11_isBag_14 : decode cX11_isBag 14 = .ok (.ireturn, 1) := by decide +kernel
theorem dX11_isPart_0 : decode cX11_isPart 0 = .ok (.iload_n 0, 1) := by decide +kernel
theorem dX11_isPart_1 : decode cX11_isPart 1 = .ok (.ifCond .eq 8, 3) := by decide +kernel
theorem dX11_isPart_4 : decode cX11_isPart 4 = .ok (.iload_n 0, 1) := by decide +kernel
theorem dX11_isPart_5 : decode cX11_isPart 5 = .ok (.iconst 1, 1) := by decide +kernel
theorem dX11_isPart_6 : decode cX11_isPart 6 = .ok (.if_icmp .ne 7, 3) := by decide +kernel
theorem dX11_isPart_9 : decode cX11_isPart 9 = .ok (.iconst 1, 1) := by decide +kernel
theorem dX11_isPart_10 : decode cX11_isPart 10 = .ok (.goto 4, 3) := by decide +kernel
theorem dX11_isPart_13 : decode cX11_isPart 13 = .ok (.iconst 0, 1) := by decide +kernel
theorem dX11_isPart_14 : decode cX11_isPart 14 = .ok (.ireturn, 1) := by decide +kernel
theorem dX11_isThinkable_0 : decode cX11_isThinkable 0 = .ok (.iload_n 1, 1) := by decide +kernel
theorem dX11_isThinkable_1 : decode cX11_isThinkable 1 = .ok (.invokestatic 101, 3) := by decide +kernel
theorem dX11_isThinkable_4 : decode cX11_isThinkable 4 = .ok (.ifCond .eq 26, 3) := by decide +kernel
theorem dX11_isThinkable_7 : decode cX11_isThinkable 7 = .ok (.iload_n 2, 1) := by decide +kernel
theorem dX11_isThinkable_8 : decode cX11_isThinkable 8 = .ok (.invokestatic 178, 3) := by decide +kernel
theorem dX11_isThinkable_11 : decode cX11_isThinkable 11 = .ok (.ifCond .eq 19, 3) := by decide +kernel
theorem dX11_isThinkable_14 : decode cX11_isThinkable 14 = .ok (.aload_n 0, 1) := by decide +kernel
theorem dX11_isThinkable_15 : decode cX11_isThinkable 15 = .ok (.getfield 25, 3) := by decide +kernel
theorem dX11_isThinkable_18 : decode cX11_isThinkable 18 = .ok (.iload_n 1, 1) := by decide +kernel
theorem dX11_isThinkable_19 : decode cX11_isThinkable 19 = .ok (.aaload, 1) := by decide +kernel
theorem dX11_isThinkable_20 : decode cX11_isThinkable 20 = .ok (.invokevirtual 109, 3) := by decide +kernel
theorem dX11_isThinkable_23 : decode cX11_isThinkable 23 = .ok (.ifCond .eq 7, 3) := by decide +kernel
theorem dX11_isThinkable_26 : decode cX11_isThinkable 26 = .ok (.iconst 1, 1) := by decide +kernel
theorem dX11_isThinkable_27 : decode cX11_isThinkable 27 = .ok (.goto 4, 3) := by decide +kernel
theorem dX11_isThinkable_30 : decode cX11_isThinkable 30 = .ok (.iconst 0, 1) := by decide +kernel
theorem dX11_isThinkable_31 : decode cX11_isThinkable 31 = .ok (.ireturn, 1) := by decide +kernel
theorem dX11_areLists_0 : decode cX11_areLists 0 = .ok (.iload_n 0, 1) := by decide +kernel
theorem dX11_areLists_1 : decode cX11_areLists 1 = .ok (.ifCond .ge 5, 3) := by decide +kernel
theorem dX11_areLists_4 : decode cX11_areLists 4 = .ok (.iconst 0, 1) := by decide +kernel
theorem dX11_areLists_5 : decode cX11_areLists 5 = .ok (.ireturn, 1) := by decide +kernel
theorem dX11_areLists_6 : decode cX11_areLists 6 = .ok (.iload_n 0, 1) := by decide +kernel
theorem dX11_areLists_7 : decode cX11_areLists 7 = .ok (.sipush 10000, 3) := by decide +kernel
theorem dX11_areLists_10 : decode cX11_areLists 10 = .ok (.idiv, 1) := by decide +kernel
theorem dX11_areLists_11 : decode cX11_areLists 11 = .ok (.istore_n 1, 1) := by decide +kernel
theorem dX11_areLists_12 : decode cX11_areLists 12 = .ok (.iload_n 0, 1) := by decide +kernel
theorem dX11_areLists_13 : decode cX11_areLists 13 = .ok (.bipush 100, 2) := by decide +kernel
theorem dX11_areLists_15 : decode cX11_areLists 15 = .ok (.idiv, 1) := by decide +kernel
theorem dX11_areLists_16 : decode cX11_areLists 16 = .ok (.bipush 100, 2) := by decide +kernel
theorem dX11_areLists_18 : decode cX11_areLists 18 = .ok (.irem, 1) := by decide +kernel
theorem dX11_areLists_19 : decode cX11_areLists 19 = .ok (.istore_n 2, 1) := by decide +kernel
theorem dX11_areLists_20 : decode cX11_areLists 20 = .ok (.iload_n 0, 1) := by decide +kernel
theorem dX11_areLists_21 : decode cX11_areLists 21 = .ok (.bipush 100, 2) := by decide +kernel
theorem dX11_areLists_23 : decode cX11_areLists 23 = .ok (.irem, 1) := by decide +kernel
theorem dX11_areLists_24 : decode cX11_areLists 24 = .ok (.istore_n 3, 1) := by decide +kernel
theorem dX11_areLists_25 : decode cX11_areLists 25 = .ok (.iload_n 1, 1) := by decide +kernel
theorem dX11_areLists_26 : decode cX11_areLists 26 = .ok (.bipush 20, 2) := by decide +kernel
theorem dX11_areLists_28 : decode cX11_areLists 28 = .ok (.if_icmp .gt 22, 3) := by decide +kernel
theorem dX11_areLists_31 : decode cX11_areLists 31 = .ok (.iload_n 2, 1) := by decide +kernel
theorem dX11_areLists_32 : decode cX11_areLists 32 = .ok (.bipush 20, 2) := by decide +kernel
theorem dX11_areLists_34 : decode cX11_areLists 34 = .ok (.if_icmp .gt 16, 3) := by decide +kernel
theorem dX11_areLists_37 : decode cX11_areLists 37 = .ok (.iload_n 3, 1) := by decide +kernel
theorem dX11_areLists_38 : decode cX11_areLists 38 = .ok (.iload_n 1, 1) := by decide +kernel
theorem dX11_areLists_39 : decode cX11_areLists 39 = .ok (.iload_n 2, 1) := by decide +kernel
theorem dX11_areLists_40 : decode cX11_areLists 40 = .ok (.invokestatic 206, 3) := by decide +kernel
theorem dX11_areLists_43 : decode cX11_areLists 43 = .ok (.if_icmp .gt 7, 3) := by decide +kernel
theorem dX11_areLists_46 : decode cX11_areLists 46 = .ok (.iconst 1, 1) := by decide +kernel
theorem dX11_areLists_47 : decode cX11_areLists 47 = .ok (.goto 4, 3) := by decide +kernel
theorem dX11_areLists_50 : decode cX11_areLists 50 = .ok (.iconst 0, 1) := by decide +kernel
theorem dX11_areLists_51 : decode cX11_areLists 51 = .ok (.ireturn, 1) := by decide +kernel
theorem dX11_isPutIn_0 : decode cX11_isPutIn 0 = .ok (.iload_n 0, 1) := by decide +kernel
theorem dX11_isPutIn_1 : decode cX11_isPutIn 1 = .ok (.bipush 100, 2) := by decide +kernel
theorem dX11_isPutIn_3 : decode cX11_isPutIn 3 = .ok (.if_icmp .lt 27, 3) := by decide +kernel
theorem dX11_isPutIn_6 : decode cX11_isPutIn 6 = .ok (.iload_n 0, 1) := by decide +kernel
theorem dX11_isPutIn_7 : decode cX11_isPutIn 7 = .ok (.bipush 100, 2) := by decide +kernel
theorem dX11_isPutIn_9 : decode cX11_isPutIn 9 = .ok (.idiv, 1) := by decide +kernel
theorem dX11_isPutIn_10 : decode cX11_isPutIn 10 = .ok (.bipush 20, 2) := by decide +kernel
theorem dX11_isPutIn_12 : decode cX11_isPutIn 12 = .ok (.if_icmp .gt 18, 3) := by decide +kernel
theorem dX11_isPutIn_15 : decode cX11_isPutIn 15 = .ok (.iload_n 0, 1) := by decide +kernel
theorem dX11_isPutIn_16 : decode cX11_isPutIn 16 = .ok (.bipush 100, 2) := by decide +kernel
theorem dX11_isPutIn_18 : decode cX11_isPutIn 18 = .ok (.irem, 1) := by decide +kernel
theorem dX11_isPutIn_19 : decode cX11_isPutIn 19 = .ok (.iload_n 0, 1) := by decide +kernel
theorem dX11_isPutIn_20 : decode cX11_isPutIn 20 = .ok (.bipush 100, 2) := by decide +kernel
theorem dX11_isPutIn_22 : decode cX11_isPutIn 22 = .ok (.idiv, 1) := by decide +kernel
theorem dX11_isPutIn_23 : decode cX11_isPutIn 23 = .ok (.if_icmp .gt 7, 3) := by decide +kernel
theorem dX11_isPutIn_26 : decode cX11_isPutIn 26 = .ok (.iconst 1, 1) := by decide +kernel
theorem dX11_isPutIn_27 : decode cX11_isPutIn 27 = .ok (.goto 4, 3) := by decide +kernel
theorem dX11_isPutIn_30 : decode cX11_isPutIn 30 = .ok (.iconst 0, 1) := by decide +kernel
theorem dX11_isPutIn_31 : decode cX11_isPutIn 31 = .ok (.ireturn, 1) := by decide +kernel
theorem dX11_inLowest_0 : decode cX11_inLowest 0 = .ok (.lload_n 0, 1) := by decide +kernel
theorem dX11_inLowest_1 : decode cX11_inLowest 1 = .ok (.invokestatic 392, 3) := by decide +kernel
theorem dX11_inLowest_4 : decode cX11_inLowest 4 = .ok (.lstore 5, 2) := by decide +kernel
theorem dX11_inLowest_6 : decode cX11_inLowest 6 = .ok (.lload_n 2, 1) := by decide +kernel
theorem dX11_inLowest_7 : decode cX11_inLowest 7 = .ok (.lstore 7, 2) := by decide +kernel
theorem dX11_inLowest_9 : decode cX11_inLowest 9 = .ok (.iconst 0, 1) := by decide +kernel
theorem dX11_inLowest_10 : decode cX11_inLowest 10 = .ok (.istore 9, 2) := by decide +kernel
theorem dX11_inLowest_12 : decode cX11_inLowest 12 = .ok (.iload 9, 2) := by decide +kernel
theorem dX11_inLowest_14 : decode cX11_inLowest 14 = .ok (.bipush 100, 2) := by decide +kernel
theorem dX11_inLowest_16 : decode cX11_inLowest 16 = .ok (.if_icmp .ge 31, 3) := by decide +kernel
theorem dX11_inLowest_19 : decode cX11_inLowest 19 = .ok (.lload 7, 2) := by decide +kernel
theorem dX11_inLowest_21 : decode cX11_inLowest 21 = .ok (.lconst 0, 1) := by decide +kernel
theorem dX11_inLowest_22 : decode cX11_inLowest 22 = .ok (.lcmp, 1) := by decide +kernel
theorem dX11_inLowest_23 : decode cX11_inLowest 23 = .ok (.ifCond .eq 24, 3) := by decide +kernel
theorem dX11_inLowest_26 : decode cX11_inLowest 26 = .ok (.lload 5, 2) := by decide +kernel
theorem dX11_inLowest_28 : decode cX11_inLowest 28 = .ok (.lload 7, 2) := by decide +kernel
theorem dX11_inLowest_30 : decode cX11_inLowest 30 = .ok (.lrem, 1) := by decide +kernel
theorem dX11_inLowest_31 : decode cX11_inLowest 31 = .ok (.lstore 10, 2) := by decide +kernel
theorem dX11_inLowest_33 : decode cX11_inLowest 33 = .ok (.lload 7, 2) := by decide +kernel
theorem dX11_inLowest_35 : decode cX11_inLowest 35 = .ok (.lstore 5, 2) := by decide +kernel
theorem dX11_inLowest_37 : decode cX11_inLowest 37 = .ok (.lload 10, 2) := by decide +kernel
theorem dX11_inLowest_39 : decode cX11_inLowest 39 = .ok (.lstore 7, 2) := by decide +kernel
theorem dX11_inLowest_41 : decode cX11_inLowest 41 = .ok (.iinc 9 1, 3) := by decide +kernel
theorem dX11_inLowest_44 : decode cX11_inLowest 44 = .ok (.goto (-32), 3) := by decide +kernel
theorem dX11_inLowest_47 : decode cX11_inLowest 47 = .ok (.lload 5, 2) := by decide +kernel
theorem dX11_inLowest_49 : decode cX11_inLowest 49 = .ok (.lconst 0, 1) := by decide +kernel
theorem dX11_inLowest_50 : decode cX11_inLowest 50 = .ok (.lcmp, 1) := by decide +kernel
theorem dX11_inLowest_51 : decode cX11_inLowest 51 = .ok (.ifCond .ne 7, 3) := by decide +kernel
theorem dX11_inLowest_54 : decode cX11_inLowest 54 = .ok (.iload 4, 2) := by decide +kernel
theorem dX11_inLowest_56 : decode cX11_inLowest 56 = .ok (.i2l, 1) := by decide +kernel
theorem dX11_inLowest_57 : decode cX11_inLowest 57 = .ok (.lreturn, 1) := by decide +kernel
theorem dX11_inLowest_58 : decode cX11_inLowest 58 = .ok (.iload 4, 2) := by decide +kernel
theorem dX11_inLowest_60 : decode cX11_inLowest 60 = .ok (.ifCond .ne 10, 3) := by decide +kernel
theorem dX11_inLowest_63 : decode cX11_inLowest 63 = .ok (.lload_n 0, 1) := by decide +kernel
theorem dX11_inLowest_64 : decode cX11_inLowest 64 = .ok (.lload 5, 2) := by decide +kernel
theorem dX11_inLowest_66 : decode cX11_inLowest 66 = .ok (.ldiv, 1) := by decide +kernel
theorem dX11_inLowest_67 : decode cX11_inLowest 67 = .ok (.goto 7, 3) := by decide +kernel
theorem dX11_inLowest_70 : decode cX11_inLowest 70 = .ok (.lload_n 2, 1) := by decide +kernel
theorem dX11_inLowest_71 : decode cX11_inLowest 71 = .ok (.lload 5, 2) := by decide +kernel
theorem dX11_inLowest_73 : decode cX11_inLowest 73 = .ok (.ldiv, 1) := by decide +kernel
theorem dX11_inLowest_74 : decode cX11_inLowest 74 = .ok (.lreturn, 1) := by decide +kernel
theorem dX11_falling_0 : decode cX11_falling 0 = .ok (.lconst 1, 1) := by decide +kernel
theorem dX11_falling_1 : decode cX11_falling 1 = .ok (.lstore_n 3, 1) := by decide +kernel
theorem dX11_falling_2 : decode cX11_falling 2 = .ok (.iload_n 1, 1) := by decide +kernel
theorem dX11_falling_3 : decode cX11_falling 3 = .ok (.istore 5, 2) := by decide +kernel
theorem dX11_falling_5 : decode cX11_falling 5 = .ok (.iload 5, 2) := by decide +kernel
theorem dX11_falling_7 : decode cX11_falling 7 = .ok (.iload_n 2, 1) := by decide +kernel
theorem dX11_falling_8 : decode cX11_falling 8 = .ok (.if_icmp .ge 17, 3) := by decide +kernel
theorem dX11_falling_11 : decode cX11_falling 11 = .ok (.lload_n 3, 1) := by decide +kernel
theorem dX11_falling_12 : decode cX11_falling 12 = .ok (.iload_n 0, 1) := by decide +kernel
theorem dX11_falling_13 : decode cX11_falling 13 = .ok (.iload 5, 2) := by decide +kernel
theorem dX11_falling_15 : decode cX11_falling 15 = .ok (.isub, 1) := by decide +kernel
theorem dX11_falling_16 : decode cX11_falling 16 = .ok (.i2l, 1) := by decide +kernel
theorem dX11_falling_17 : decode cX11_falling 17 = .ok (.lmul, 1) := by decide +kernel
theorem dX11_falling_18 : decode cX11_falling 18 = .ok (.lstore_n 3, 1) := by decide +kernel
theorem dX11_falling_19 : decode cX11_falling 19 = .ok (.iinc 5 1, 3) := by decide +kernel
theorem dX11_falling_22 : decode cX11_falling 22 = .ok (.goto (-17), 3) := by decide +kernel
theorem dX11_falling_25 : decode cX11_falling 25 = .ok (.lload_n 3, 1) := by decide +kernel
theorem dX11_falling_26 : decode cX11_falling 26 = .ok (.lreturn, 1) := by decide +kernel
theorem dX11_likeliestTwelfths_0 : decode cX11_likeliestTwelfths 0 = .ok (.iconst 0, 1) := by decide +kernel
theorem dX11_likeliestTwelfths_1 : decode cX11_likeliestTwelfths 1 = .ok (.istore_n 2, 1) := by decide +kernel
theorem dX11_likeliestTwelfths_2 : decode cX11_likeliestTwelfths 2 = .ok (.iconst 1, 1) := by decide +kernel
theorem dX11_likeliestTwelfths_3 : decode cX11_likeliestTwelfths 3 = .ok (.istore_n 3, 1) := by decide +kernel
theorem dX11_likeliestTwelfths_4 : decode cX11_likeliestTwelfths 4 = .ok (.iload_n 3, 1) := by decide +kernel
theorem dX11_likeliestTwelfths_5 : decode cX11_likeliestTwelfths 5 = .ok (.bipush 12, 2) := by decide +kernel
theorem dX11_likeliestTwelfths_7 : decode cX11_likeliestTwelfths 7 = .ok (.if_icmp .gt 21, 3) := by decide +kernel
theorem dX11_likeliestTwelfths_10 : decode cX11_likeliestTwelfths 10 = .ok (.iload_n 3, 1) := by decide +kernel
theorem dX11_likeliestTwelfths_11 : decode cX11_likeliestTwelfths 11 = .ok (.iload_n 2, 1) := by decide +kernel
theorem dX11_likeliestTwelfths_12 : decode cX11_likeliestTwelfths 12 = .ok (.iload_n 0, 1) := by decide +kernel
theorem dX11_likeliestTwelfths_13 : decode cX11_likeliestTwelfths 13 = .ok (.iload_n 1, 1) := by decide +kernel
theorem dX11_likeliestTwelfths_14 : decode cX11_likeliestTwelfths 14 = .ok (.invokestatic 396, 3) := by decide +kernel
theorem dX11_likeliestTwelfths_17 : decode cX11_likeliestTwelfths 17 = .ok (.ifCond .eq 5, 3) := by decide +kernel
theorem dX11_likeliestTwelfths_20 : decode cX11_likeliestTwelfths 20 = .ok (.iload_n 3, 1) := by decide +kernel
theorem dX11_likeliestTwelfths_21 : decode cX11_likeliestTwelfths 21 = .ok (.istore_n 2, 1) := by decide +kernel
theorem dX11_likeliestTwelfths_22 : decode cX11_likeliestTwelfths 22 = .ok (.iinc 3 1, 3) := by decide +kernel
theorem dX11_likeliestTwelfths_25 : decode cX11_likeliestTwelfths 25 = .ok (.goto (-21), 3) := by decide +kernel
theorem dX11_likeliestTwelfths_28 : decode cX11_likeliestTwelfths 28 = .ok (.iload_n 2, 1) := by decide +kernel
theorem dX11_likeliestTwelfths_29 : decode cX11_likeliestTwelfths 29 = .ok (.ireturn, 1) := by decide +kernel
theorem dX11_isLikelier_0 : decode cX11_isLikelier 0 = .ok (.iload_n 0, 1) := by decide +kernel
theorem dX11_isLikelier_1 : decode cX11_isLikelier 1 = .ok (.iload_n 2, 1) := by decide +kernel
theorem dX11_isLikelier_2 : decode cX11_isLikelier 2 = .ok (.iload_n 3, 1) := by decide +kernel
theorem dX11_isLikelier_3 : decode cX11_isLikelier 3 = .ok (.iconst 1, 1) := by decide +kernel
theorem dX11_isLikelier_4 : decode cX11_isLikelier 4 = .ok (.invokestatic 400, 3) := by decide +kernel
theorem dX11_isLikelier_7 : decode cX11_isLikelier 7 = .ok (.lstore 4, 2) := by decide +kernel
theorem dX11_isLikelier_9 : decode cX11_isLikelier 9 = .ok (.iload_n 1, 1) := by decide +kernel
theorem dX11_isLikelier_10 : decode cX11_isLikelier 10 = .ok (.iload_n 2, 1) := by decide +kernel
theorem dX11_isLikelier_11 : decode cX11_isLikelier 11 = .ok (.iload_n 3, 1) := by decide +kernel
theorem dX11_isLikelier_12 : decode cX11_isLikelier 12 = .ok (.iconst 1, 1) := by decide +kernel
theorem dX11_isLikelier_13 : decode cX11_isLikelier 13 = .ok (.invokestatic 400, 3) := by decide +kernel
theorem dX11_isLikelier_16 : decode cX11_isLikelier 16 = .ok (.lstore 6, 2) := by decide +kernel
theorem dX11_isLikelier_18 : decode cX11_isLikelier 18 = .ok (.lload 4, 2) := by decide +kernel
theorem dX11_isLikelier_20 : decode cX11_isLikelier 20 = .ok (.lload 6, 2) := by decide +kernel
theorem dX11_isLikelier_22 : decode cX11_isLikelier 22 = .ok (.lcmp, 1) := by decide +kernel
theorem dX11_isLikelier_23 : decode cX11_isLikelier 23 = .ok (.ifCond .gt 29, 3) := by decide +kernel
theorem dX11_isLikelier_26 : decode cX11_isLikelier 26 = .ok (.lload 4, 2) := by decide +kernel
theorem dX11_isLikelier_28 : decode cX11_isLikelier 28 = .ok (.lload 6, 2) := by decide +kernel
theorem dX11_isLikelier_30 : decode cX11_isLikelier 30 = .ok (.lcmp, 1) := by decide +kernel
theorem dX11_isLikelier_31 : decode cX11_isLikelier 31 = .ok (.ifCond .ne 25, 3) := by decide +kernel
theorem dX11_isLikelier_34 : decode cX11_isLikelier 34 = .ok (.iload_n 0, 1) := by decide +kernel
theorem dX11_isLikelier_35 : decode cX11_isLikelier 35 = .ok (.iload_n 2, 1) := by decide +kernel
theorem dX11_isLikelier_36 : decode cX11_isLikelier 36 = .ok (.iload_n 3, 1) := by decide +kernel
theorem dX11_isLikelier_37 : decode cX11_isLikelier 37 = .ok (.iconst 0, 1) := by decide +kernel
theorem dX11_isLikelier_38 : decode cX11_isLikelier 38 = .ok (.invokestatic 400, 3) := by decide +kernel
theorem dX11_isLikelier_41 : decode cX11_isLikelier 41 = .ok (.iload_n 1, 1) := by decide +kernel
theorem dX11_isLikelier_42 : decode cX11_isLikelier 42 = .ok (.iload_n 2, 1) := by decide +kernel
theorem dX11_isLikelier_43 : decode cX11_isLikelier 43 = .ok (.iload_n 3, 1) := by decide +kernel
theorem dX11_isLikelier_44 : decode cX11_isLikelier 44 = .ok (.iconst 0, 1) := by decide +kernel
theorem dX11_isLikelier_45 : decode cX11_isLikelier 45 = .ok (.invokestatic 400, 3) := by decide +kernel
theorem dX11_isLikelier_48 : decode cX11_isLikelier 48 = .ok (.lcmp, 1) := by decide +kernel
theorem dX11_isLikelier_49 : decode cX11_isLikelier 49 = .ok (.ifCond .le 7, 3) := by decide +kernel
theorem dX11_isLikelier_52 : decode cX11_isLikelier 52 = .ok (.iconst 1, 1) := by decide +kernel
theorem dX11_isLikelier_53 : decode cX11_isLikelier 53 = .ok (.goto 4, 3) := by decide +kernel
theorem dX11_isLikelier_56 : decode cX11_isLikelier 56 = .ok (.iconst 0, 1) := by decide +kernel
theorem dX11_isLikelier_57 : decode cX11_isLikelier 57 = .ok (.ireturn, 1) := by decide +kernel
theorem dX11_limbOf_0 : decode cX11_limbOf 0 = .ok (.ldc2_w 404, 3) := by decide +kernel
theorem dX11_limbOf_3 : decode cX11_limbOf 3 = .ok (.lstore 4, 2) := by decide +kernel
theorem dX11_limbOf_5 : decode cX11_limbOf 5 = .ok (.lconst 0, 1) := by decide +kernel
theorem dX11_limbOf_6 : decode cX11_limbOf 6 = .ok (.lstore 6, 2) := by decide +kernel
theorem dX11_limbOf_8 : decode cX11_limbOf 8 = .ok (.lconst 1, 1) := by decide +kernel
theorem dX11_limbOf_9 : decode cX11_limbOf 9 = .ok (.lstore 8, 2) := by decide +kernel
theorem dX11_limbOf_11 : decode cX11_limbOf 11 = .ok (.iconst 0, 1) := by decide +kernel
theorem dX11_limbOf_12 : decode cX11_limbOf 12 = .ok (.istore 10, 2) := by decide +kernel
theorem dX11_limbOf_14 : decode cX11_limbOf 14 = .ok (.iload 10, 2) := by decide +kernel
theorem dX11_limbOf_16 : decode cX11_limbOf 16 = .ok (.iload_n 1, 1) := by decide +kernel
theorem dX11_limbOf_17 : decode cX11_limbOf 17 = .ok (.if_icmp .ge 54, 3) := by decide +kernel
theorem dX11_limbOf_20 : decode cX11_limbOf 20 = .ok (.iload 10, 2) := by decide +kernel
theorem dX11_limbOf_22 : decode cX11_limbOf 22 = .ok (.iload_n 2, 1) := by decide +kernel
theorem dX11_limbOf_23 : decode cX11_limbOf 23 = .ok (.if_icmp .ge 7, 3) := by decide +kernel
theorem dX11_limbOf_26 : decode cX11_limbOf 26 = .ok (.iload_n 0, 1) := by decide +kernel
theorem dX11_limbOf_27 : decode cX11_limbOf 27 = .ok (.goto 7, 3) := by decide +kernel
theorem dX11_limbOf_30 : decode cX11_limbOf 30 = .ok (.bipush 12, 2) := by decide +kernel
theorem dX11_limbOf_32 : decode cX11_limbOf 32 = .ok (.iload_n 0, 1) := by decide +kernel
theorem dX11_limbOf_33 : decode cX11_limbOf 33 = .ok (.isub, 1) := by decide +kernel
theorem dX11_limbOf_34 : decode cX11_limbOf 34 = .ok (.istore 11, 2) := by decide +kernel
theorem dX11_limbOf_36 : decode cX11_limbOf 36 = .ok (.lload 8, 2) := by decide +kernel
theorem dX11_limbOf_38 : decode cX11_limbOf 38 = .ok (.iload 11, 2) := by decide +kernel
theorem dX11_limbOf_40 : decode cX11_limbOf 40 = .ok (.i2l, 1) := by decide +kernel
theorem dX11_limbOf_41 : decode cX11_limbOf 41 = .ok (.lmul, 1) := by decide +kernel
theorem dX11_limbOf_42 : decode cX11_limbOf 42 = .ok (.lstore 8, 2) := by decide +kernel
theorem dX11_limbOf_44 : decode cX11_limbOf 44 = .ok (.lload 6, 2) := by decide +kernel
theorem dX11_limbOf_46 : decode cX11_limbOf 46 = .ok (.iload 11, 2) := by decide +kernel
theorem dX11_limbOf_48 : decode cX11_limbOf 48 = .ok (.i2l, 1) := by decide +kernel
theorem dX11_limbOf_49 : decode cX11_limbOf 49 = .ok (.lmul, 1) := by decide +kernel
theorem dX11_limbOf_50 : decode cX11_limbOf 50 = .ok (.lload 8, 2) := by decide +kernel
theorem dX11_limbOf_52 : decode cX11_limbOf 52 = .ok (.lload 4, 2) := by decide +kernel
theorem dX11_limbOf_54 : decode cX11_limbOf 54 = .ok (.ldiv, 1) := by decide +kernel
theorem dX11_limbOf_55 : decode cX11_limbOf 55 = .ok (.ladd, 1) := by decide +kernel
theorem dX11_limbOf_56 : decode cX11_limbOf 56 = .ok (.lstore 6, 2) := by decide +kernel
theorem dX11_limbOf_58 : decode cX11_limbOf 58 = .ok (.lload 8, 2) := by decide +kernel
theorem dX11_limbOf_60 : decode cX11_limbOf 60 = .ok (.lload 4, 2) := by decide +kernel
theorem dX11_limbOf_62 : decode cX11_limbOf 62 = .ok (.lrem, 1) := by decide +kernel
theorem dX11_limbOf_63 : decode cX11_limbOf 63 = .ok (.lstore 8, 2) := by decide +kernel
theorem dX11_limbOf_65 : decode cX11_limbOf 65 = .ok (.iinc 10 1, 3) := by decide +kernel
theorem dX11_limbOf_68 : decode cX11_limbOf 68 = .ok (.goto (-54), 3) := by decide +kernel
theorem dX11_limbOf_71 : decode cX11_limbOf 71 = .ok (.iload_n 3, 1) := by decide +kernel
theorem dX11_limbOf_72 : decode cX11_limbOf 72 = .ok (.ifCond .eq 8, 3) := by decide +kernel
theorem dX11_limbOf_75 : decode cX11_limbOf 75 = .ok (.lload 6, 2) := by decide +kernel
theorem dX11_limbOf_77 : decode cX11_limbOf 77 = .ok (.goto 5, 3) := by decide +kernel
theorem dX11_limbOf_80 : decode cX11_limbOf 80 = .ok (.lload 8, 2) := by decide +kernel
theorem dX11_limbOf_82 : decode cX11_limbOf 82 = .ok (.lreturn, 1) := by decide +kernel
theorem dX11_cameFrom_0 : decode cX11_cameFrom 0 = .ok (.aload_n 0, 1) := by decide +kernel
theorem dX11_cameFrom_1 : decode cX11_cameFrom 1 = .ok (.getfield 10, 3) := by decide +kernel
theorem dX11_cameFrom_4 : decode cX11_cameFrom 4 = .ok (.getfield 215, 3) := by decide +kernel
theorem dX11_cameFrom_7 : decode cX11_cameFrom 7 = .ok (.bipush 6, 2) := by decide +kernel
theorem dX11_cameFrom_9 : decode cX11_cameFrom 9 = .ok (.if_icmp .eq 11, 3) := by decide +kernel
theorem dX11_cameFrom_12 : decode cX11_cameFrom 12 = .ok (.aload_n 1, 1) := by decide +kernel
theorem dX11_cameFrom_13 : decode cX11_cameFrom 13 = .ok (.iload_n 2, 1) := by decide +kernel
theorem dX11_cameFrom_14 : decode cX11_cameFrom 14 = .ok (.invokevirtual 360, 3) := by decide +kernel
theorem dX11_cameFrom_17 : decode cX11_cameFrom 17 = .ok (.ifCond .ne 5, 3) := by decide +kernel
theorem dX11_cameFrom_20 : decode cX11_cameFrom 20 = .ok (.iconst 0, 1) := by decide +kernel
theorem dX11_cameFrom_21 : decode cX11_cameFrom 21 = .ok (.ireturn, 1) := by decide +kernel
theorem dX11_cameFrom_22 : decode cX11_cameFrom 22 = .ok (.iload_n 2, 1) := by decide +kernel
theorem dX11_cameFrom_23 : decode cX11_cameFrom 23 = .ok (.iload_n 3, 1) := by decide +kernel
theorem dX11_cameFrom_24 : decode cX11_cameFrom 24 = .ok (.iadd, 1) := by decide +kernel
theorem dX11_cameFrom_25 : decode cX11_cameFrom 25 = .ok (.istore 4, 2) := by decide +kernel
theorem dX11_cameFrom_27 : decode cX11_cameFrom 27 = .ok (.aload_n 1, 1) := by decide +kernel
theorem dX11_cameFrom_28 : decode cX11_cameFrom 28 = .ok (.iload 4, 2) := by decide +kernel
theorem dX11_cameFrom_30 : decode cX11_cameFrom 30 = .ok (.iconst 2, 1) := by decide +kernel
theorem dX11_cameFrom_31 : decode cX11_cameFrom 31 = .ok (.invokevirtual 372, 3) := by decide +kernel
theorem dX11_cameFrom_34 : decode cX11_cameFrom 34 = .ok (.ifCond .ne 5, 3) := by decide +kernel
theorem dX11_cameFrom_37 : decode cX11_cameFrom 37 = .ok (.iconst 0, 1) := by decide +kernel
theorem dX11_cameFrom_38 : decode cX11_cameFrom 38 = .ok (.ireturn, 1) := by decide +kernel
theorem dX11_cameFrom_39 : decode cX11_cameFrom 39 = .ok (.aload_n 1, 1) := by decide +kernel
theorem dX11_cameFrom_40 : decode cX11_cameFrom 40 = .ok (.iload 4, 2) := by decide +kernel
theorem dX11_cameFrom_42 : decode cX11_cameFrom 42 = .ok (.invokevirtual 367, 3) := by decide +kernel
theorem dX11_cameFrom_45 : decode cX11_cameFrom 45 = .ok (.l2i, 1) := by decide +kernel
theorem dX11_cameFrom_46 : decode cX11_cameFrom 46 = .ok (.istore 5, 2) := by decide +kernel
theorem dX11_cameFrom_48 : decode cX11_cameFrom 48 = .ok (.aload_n 1, 1) := by decide +kernel
theorem dX11_cameFrom_49 : decode cX11_cameFrom 49 = .ok (.iload 4, 2) := by decide +kernel
theorem dX11_cameFrom_51 : decode cX11_cameFrom 51 = .ok (.iconst 1, 1) := by decide +kernel
theorem dX11_cameFrom_52 : decode cX11_cameFrom 52 = .ok (.iadd, 1) := by decide +kernel
theorem dX11_cameFrom_53 : decode cX11_cameFrom 53 = .ok (.invokevirtual 367, 3) := by decide +kernel
theorem dX11_cameFrom_56 : decode cX11_cameFrom 56 = .ok (.l2i, 1) := by decide +kernel
theorem dX11_cameFrom_57 : decode cX11_cameFrom 57 = .ok (.istore 6, 2) := by decide +kernel
theorem dX11_cameFrom_59 : decode cX11_cameFrom 59 = .ok (.aload_n 0, 1) := by decide +kernel
theorem dX11_cameFrom_60 : decode cX11_cameFrom 60 = .ok (.getfield 10, 3) := by decide +kernel
theorem dX11_cameFrom_63 : decode cX11_cameFrom 63 = .ok (.iconst 5, 1) := by decide +kernel
theorem dX11_cameFrom_64 : decode cX11_cameFrom 64 = .ok (.iload 5, 2) := by decide +kernel
theorem dX11_cameFrom_66 : decode cX11_cameFrom 66 = .ok (.invokevirtual 93, 3) := by decide +kernel
theorem dX11_cameFrom_69 : decode cX11_cameFrom 69 = .ok (.ifCond .eq 17, 3) := by decide +kernel
theorem dX11_cameFrom_72 : decode cX11_cameFrom 72 = .ok (.aload_n 0, 1) := by decide +kernel
theorem dX11_cameFrom_73 : decode cX11_cameFrom 73 = .ok (.getfield 10, 3) := by decide +kernel
theorem dX11_cameFrom_76 : decode cX11_cameFrom 76 = .ok (.bipush 6, 2) := by decide +kernel
theorem dX11_cameFrom_78 : decode cX11_cameFrom 78 = .ok (.iload 6, 2) := by decide +kernel
theorem dX11_cameFrom_80 : decode cX11_cameFrom 80 = .ok (.invokevirtual 93, 3) := by decide +kernel
theorem dX11_cameFrom_83 : decode cX11_cameFrom 83 = .ok (.ifCond .ne 5, 3) := by decide +kernel
theorem dX11_cameFrom_86 : decode cX11_cameFrom 86 = .ok (.iconst 0, 1) := by decide +kernel
theorem dX11_cameFrom_87 : decode cX11_cameFrom 87 = .ok (.ireturn, 1) := by decide +kernel
theorem dX11_cameFrom_88 : decode cX11_cameFrom 88 = .ok (.aload_n 0, 1) := by decide +kernel
theorem dX11_cameFrom_89 : decode cX11_cameFrom 89 = .ok (.getfield 10, 3) := by decide +kernel
theorem dX11_cameFrom_92 : decode cX11_cameFrom 92 = .ok (.iload 5, 2) := by decide +kernel
theorem dX11_cameFrom_94 : decode cX11_cameFrom 94 = .ok (.iload 6, 2) := by decide +kernel
theorem dX11_cameFrom_96 : decode cX11_cameFrom 96 = .ok (.invokevirtual 97, 3) := by decide +kernel
theorem dX11_cameFrom_99 : decode cX11_cameFrom 99 = .ok (.pop, 1) := by decide +kernel
theorem dX11_cameFrom_100 : decode cX11_cameFrom 100 = .ok (.iconst 1, 1) := by decide +kernel
theorem dX11_cameFrom_101 : decode cX11_cameFrom 101 = .ok (.ireturn, 1) := by decide +kernel
theorem dX11_twelfths_0 : decode cX11_twelfths 0 = .ok (.aload_n 0, 1) := by decide +kernel
theorem dX11_twelfths_1 : decode cX11_twelfths 1 = .ok (.iload_n 1, 1) := by decide +kernel
theorem dX11_twelfths_2 : decode cX11_twelfths 2 = .ok (.iload_n 2, 1) := by decide +kernel
theorem dX11_twelfths_3 : decode cX11_twelfths 3 = .ok (.aload_n 0, 1) := by decide +kernel
theorem dX11_twelfths_4 : decode cX11_twelfths 4 = .ok (.getfield 10, 3) := by decide +kernel
theorem dX11_twelfths_7 : decode cX11_twelfths 7 = .ok (.iconst 0, 1) := by decide +kernel
theorem dX11_twelfths_8 : decode cX11_twelfths 8 = .ok (.bipush 9, 2) := by decide +kernel
theorem dX11_twelfths_10 : decode cX11_twelfths 10 = .ok (.invokevirtual 122, 3) := by decide +kernel
theorem dX11_twelfths_13 : decode cX11_twelfths 13 = .ok (.invokevirtual 406, 3) := by decide +kernel
theorem dX11_twelfths_16 : decode cX11_twelfths 16 = .ok (.ireturn, 1) := by decide +kernel
theorem dX11_twelfthsIn_0 : decode cX11_twelfthsIn 0 = .ok (.aload_n 0, 1) := by decide +kernel
theorem dX11_twelfthsIn_1 : decode cX11_twelfthsIn 1 = .ok (.getfield 10, 3) := by decide +kernel
theorem dX11_twelfthsIn_4 : decode cX11_twelfthsIn 4 = .ok (.iload_n 1, 1) := by decide +kernel
theorem dX11_twelfthsIn_5 : decode cX11_twelfthsIn 5 = .ok (.iconst 5, 1) := by decide +kernel
theorem dX11_twelfthsIn_6 : decode cX11_twelfthsIn 6 = .ok (.invokevirtual 122, 3) := by decide +kernel
theorem dX11_twelfthsIn_9 : decode cX11_twelfthsIn 9 = .ok (.istore 4, 2) := by decide +kernel
theorem dX11_twelfthsIn_11 : decode cX11_twelfthsIn 11 = .ok (.aload_n 0, 1) := by decide +kernel
theorem dX11_twelfthsIn_12 : decode cX11_twelfthsIn 12 = .ok (.getfield 10, 3) := by decide +kernel
theorem dX11_twelfthsIn_15 : decode cX11_twelfthsIn 15 = .ok (.iconst 0, 1) := by decide +kernel
theorem dX11_twelfthsIn_16 : decode cX11_twelfthsIn 16 = .ok (.bipush 7, 2) := by decide +kernel
theorem dX11_twelfthsIn_18 : decode cX11_twelfthsIn 18 = .ok (.invokevirtual 122, 3) := by decide +kernel
theorem dX11_twelfthsIn_21 : decode cX11_twelfthsIn 21 = .ok (.istore 5, 2) := by decide +kernel
theorem dX11_twelfthsIn_23 : decode cX11_twelfthsIn 23 = .ok (.aload_n 0, 1) := by decide +kernel
theorem dX11_twelfthsIn_24 : decode cX11_twelfthsIn 24 = .ok (.getfield 10, 3) := by decide +kernel
theorem dX11_twelfthsIn_27 : decode cX11_twelfthsIn 27 = .ok (.iconst 0, 1) := by decide +kernel
theorem dX11_twelfthsIn_28 : decode cX11_twelfthsIn 28 = .ok (.bipush 8, 2) := by decide +kernel
theorem dX11_twelfthsIn_30 : decode cX11_twelfthsIn 30 = .ok (.invokevirtual 122, 3) := by decide +kernel
theorem dX11_twelfthsIn_33 : decode cX11_twelfthsIn 33 = .ok (.istore 6, 2) := by decide +kernel
theorem dX11_twelfthsIn_35 : decode cX11_twelfthsIn 35 = .ok (.aload_n 0, 1) := by decide +kernel
theorem dX11_twelfthsIn_36 : decode cX11_twelfthsIn 36 = .ok (.getfield 19, 3) := by decide +kernel
theorem dX11_twelfthsIn_39 : decode cX11_twelfthsIn 39 = .ok (.invokevirtual 409, 3) := by decide +kernel
theorem dX11_twelfthsIn_42 : decode cX11_twelfthsIn 42 = .ok (.ifCond .eq 22, 3) := by decide +kernel
theorem dX11_twelfthsIn_45 : decode cX11_twelfthsIn 45 = .ok (.aload_n 0, 1) := by decide +kernel
theorem dX11_twelfthsIn_46 : decode cX11_twelfthsIn 46 = .ok (.getfield 19, 3) := by decide +kernel
theorem dX11_twelfthsIn_49 : decode cX11_twelfthsIn 49 = .ok (.iload 4, 2) := by decide +kernel
theorem dX11_twelfthsIn_51 : decode cX11_twelfthsIn 51 = .ok (.iload 5, 2) := by decide +kernel
theorem dX11_twelfthsIn_53 : decode cX11_twelfthsIn 53 = .ok (.iload 6, 2) := by decide +kernel
theorem dX11_twelfthsIn_55 : decode cX11_twelfthsIn 55 = .ok (.iload_n 3, 1) := by decide +kernel
theorem dX11_twelfthsIn_56 : decode cX11_twelfthsIn 56 = .ok (.iload_n 2, 1) := by decide +kernel
theorem dX11_twelfthsIn_57 : decode cX11_twelfthsIn 57 = .ok (.iload_n 1, 1) := by decide +kernel
theorem dX11_twelfthsIn_58 : decode cX11_twelfthsIn 58 = .ok (.invokevirtual 412, 3) := by decide +kernel
theorem dX11_twelfthsIn_61 : decode cX11_twelfthsIn 61 = .ok (.goto 12, 3) := by decide +kernel
theorem dX11_twelfthsIn_64 : decode cX11_twelfthsIn 64 = .ok (.iload 4, 2) := by decide +kernel
theorem dX11_twelfthsIn_66 : decode cX11_twelfthsIn 66 = .ok (.iload 5, 2) := by decide +kernel
theorem dX11_twelfthsIn_68 : decode cX11_twelfthsIn 68 = .ok (.isub, 1) := by decide +kernel
theorem dX11_twelfthsIn_69 : decode cX11_twelfthsIn 69 = .ok (.iload_n 3, 1) := by decide +kernel
theorem dX11_twelfthsIn_70 : decode cX11_twelfthsIn 70 = .ok (.isub, 1) := by decide +kernel
theorem dX11_twelfthsIn_71 : decode cX11_twelfthsIn 71 = .ok (.iconst 1, 1) := by decide +kernel
theorem dX11_twelfthsIn_72 : decode cX11_twelfthsIn 72 = .ok (.iadd, 1) := by decide +kernel
theorem dX11_twelfthsIn_73 : decode cX11_twelfthsIn 73 = .ok (.istore 7, 2) := by decide +kernel
theorem dX11_twelfthsIn_75 : decode cX11_twelfthsIn 75 = .ok (.iconst 0, 1) := by decide +kernel
theorem dX11_twelfthsIn_76 : decode cX11_twelfthsIn 76 = .ok (.bipush 12, 2) := by decide +kernel
theorem dX11_twelfthsIn_78 : decode cX11_twelfthsIn 78 = .ok (.iload 7, 2) := by decide +kernel
theorem dX11_twelfthsIn_80 : decode cX11_twelfthsIn 80 = .ok (.invokestatic 206, 3) := by decide +kernel
theorem dX11_twelfthsIn_83 : decode cX11_twelfthsIn 83 = .ok (.invokestatic 416, 3) := by decide +kernel
theorem dX11_twelfthsIn_86 : decode cX11_twelfthsIn 86 = .ok (.ireturn, 1) := by decide +kernel
theorem dX11_fillShares_0 : decode cX11_fillShares 0 = .ok (.iconst 0, 1) := by decide +kernel
theorem dX11_fillShares_1 : decode cX11_fillShares 1 = .ok (.istore_n 2, 1) := by decide +kernel
theorem dX11_fillShares_2 : decode cX11_fillShares 2 = .ok (.iload_n 2, 1) := by decide +kernel
theorem dX11_fillShares_3 : decode cX11_fillShares 3 = .ok (.aload_n 0, 1) := by decide +kernel
theorem dX11_fillShares_4 : decode cX11_fillShares 4 = .ok (.getfield 10, 3) := by decide +kernel
theorem dX11_fillShares_7 : decode cX11_fillShares 7 = .ok (.getfield 215, 3) := by decide +kernel
theorem dX11_fillShares_10 : decode cX11_fillShares 10 = .ok (.if_icmp .ge 46, 3) := by decide +kernel
theorem dX11_fillShares_13 : decode cX11_fillShares 13 = .ok (.iconst 0, 1) := by decide +kernel
theorem dX11_fillShares_14 : decode cX11_fillShares 14 = .ok (.istore_n 3, 1) := by decide +kernel
theorem dX11_fillShares_15 : decode cX11_fillShares 15 = .ok (.iload_n 3, 1) := by decide +kernel
theorem dX11_fillShares_16 : decode cX11_fillShares 16 = .ok (.iconst 4, 1) := by decide +kernel
theorem dX11_fillShares_17 : decode cX11_fillShares 17 = .ok (.if_icmp .ge 33, 3) := by decide +kernel
theorem dX11_fillShares_20 : decode cX11_fillShares 20 = .ok (.iload_n 2, 1) := by decide +kernel
theorem dX11_fillShares_21 : decode cX11_fillShares 21 = .ok (.iconst 4, 1) := by decide +kernel
theorem dX11_fillShares_22 : decode cX11_fillShares 22 = .ok (.imul, 1) := by decide +kernel
theorem dX11_fillShares_23 : decode cX11_fillShares 23 = .ok (.iload_n 3, 1) := by decide +kernel
theorem dX11_fillShares_24 : decode cX11_fillShares 24 = .ok (.iadd, 1) := by decide +kernel
theorem dX11_fillShares_25 : decode cX11_fillShares 25 = .ok (.istore 4, 2) := by decide +kernel
theorem dX11_fillShares_27 : decode cX11_fillShares 27 = .ok (.iload 4, 2) := by decide +kernel
theorem dX11_fillShares_29 : decode cX11_fillShares 29 = .ok (.aload_n 1, 1) := by decide +kernel
theorem dX11_fillShares_30 : decode cX11_fillShares 30 = .ok (.arraylength, 1) := by decide +kernel
theorem dX11_fillShares_31 : decode cX11_fillShares 31 = .ok (.if_icmp .ge 13, 3) := by decide +kernel
theorem dX11_fillShares_34 : decode cX11_fillShares 34 = .ok (.aload_n 1, 1) := by decide +kernel
theorem dX11_fillShares_35 : decode cX11_fillShares 35 = .ok (.iload 4, 2) := by decide +kernel
theorem dX11_fillShares_37 : decode cX11_fillShares 37 = .ok (.aload_n 0, 1) := by decide +kernel
theorem dX11_fillShares_38 : decode cX11_fillShares 38 = .ok (.iload_n 2, 1) := by decide +kernel
theorem dX11_fillShares_39 : decode cX11_fillShares 39 = .ok (.iload_n 3, 1) := by decide +kernel
theorem dX11_fillShares_40 : decode cX11_fillShares 40 = .ok (.invokevirtual 139, 3) := by decide +kernel
theorem dX11_fillShares_43 : decode cX11_fillShares 43 = .ok (.iastore, 1) := by decide +kernel
theorem dX11_fillShares_44 : decode cX11_fillShares 44 = .ok (.iinc 3 1, 3) := by decide +kernel
theorem dX11_fillShares_47 : decode cX11_fillShares 47 = .ok (.goto (-32), 3) := by decide +kernel
theorem dX11_fillShares_50 : decode cX11_fillShares 50 = .ok (.iinc 2 1, 3) := by decide +kernel
theorem dX11_fillShares_53 : decode cX11_fillShares 53 = .ok (.goto (-51), 3) := by decide +kernel
theorem dX11_fillShares_56 : decode cX11_fillShares 56 = .ok (.return_, 1) := by decide +kernel
theorem dX11_tellPlanner_0 : decode cX11_tellPlanner 0 = .ok (.aload_n 0, 1) := by decide +kernel
theorem dX11_tellPlanner_1 : decode cX11_tellPlanner 1 = .ok (.aload_n 0, 1) := by decide +kernel
theorem dX11_tellPlanner_2 : decode cX11_tellPlanner 2 = .ok (.getfield 46, 3) := by decide +kernel
theorem dX11_tellPlanner_5 : decode cX11_tellPlanner 5 = .ok (.getfield 419, 3) := by decide +kernel
theorem dX11_tellPlanner_8 : decode cX11_tellPlanner 8 = .ok (.invokevirtual 237, 3) := by decide +kernel
theorem dX11_tellPlanner_11 : decode cX11_tellPlanner 11 = .ok (.aload_n 0, 1) := by decide +kernel
theorem dX11_tellPlanner_12 : decode cX11_tellPlanner 12 = .ok (.getfield 46, 3) := by decide +kernel
theorem dX11_tellPlanner_15 : decode cX11_tellPlanner 15 = .ok (.aload_n 0, 1) := by decide +kernel
theorem dX11_tellPlanner_16 : decode cX11_tellPlanner 16 = .ok (.getfield 10, 3) := by decide +kernel
theorem dX11_tellPlanner_19 : decode cX11_tellPlanner 19 = .ok (.getfield 215, 3) := by decide +kernel
theorem dX11_tellPlanner_22 : decode cX11_tellPlanner 22 = .ok (.putfield 420, 3) := by decide +kernel
theorem dX11_tellPlanner_25 : decode cX11_tellPlanner 25 = .ok (.aload_n 0, 1) := by decide +kernel
theorem dX11_tellPlanner_26 : decode cX11_tellPlanner 26 = .ok (.getfield 46, 3) := by decide +kernel
theorem dX11_tellPlanner_29 : decode cX11_tellPlanner 29 = .ok (.aload_n 0, 1) := by decide +kernel
theorem dX11_tellPlanner_30 : decode cX11_tellPlanner 30 = .ok (.getfield 10, 3) := by decide +kernel
theorem dX11_tellPlanner_33 : decode cX11_tellPlanner 33 = .ok (.iconst 0, 1) := by decide +kernel
theorem dX11_tellPlanner_34 : decode cX11_tellPlanner 34 = .ok (.bipush 10, 2) := by decide +kernel
theorem dX11_tellPlanner_36 : decode cX11_tellPlanner 36 = .ok (.invokevirtual 122, 3) := by decide +kernel
theorem dX11_tellPlanner_39 : decode cX11_tellPlanner 39 = .ok (.putfield 421, 3) := by decide +kernel
theorem dX11_tellPlanner_42 : decode cX11_tellPlanner 42 = .ok (.iconst 0, 1) := by decide +kernel
theorem dX11_tellPlanner_43 : decode cX11_tellPlanner 43 = .ok (.istore_n 1, 1) := by decide +kernel
theorem dX11_tellPlanner_44 : decode cX11_tellPlanner 44 = .ok (.iload_n 1, 1) := by decide +kernel
theorem dX11_tellPlanner_45 : decode cX11_tellPlanner 45 = .ok (.bipush 6, 2) := by decide +kernel
theorem dX11_tellPlanner_47 : decode cX11_tellPlanner 47 = .ok (.if_icmp .ge 28, 3) := by decide +kernel
theorem dX11_tellPlanner_50 : decode cX11_tellPlanner 50 = .ok (.aload_n 0, 1) := by decide +kernel
theorem dX11_tellPlanner_51 : decode cX11_tellPlanner 51 = .ok (.getfield 46, 3) := by decide +kernel
theorem dX11_tellPlanner_54 : decode cX11_tellPlanner 54 = .ok (.getfield 424, 3) := by decide +kernel
theorem dX11_tellPlanner_57 : decode cX11_tellPlanner 57 = .ok (.iload_n 1, 1) := by decide +kernel
theorem dX11_tellPlanner_58 : decode cX11_tellPlanner 58 = .ok (.aload_n 0, 1) := by decide +kernel
theorem dX11_tellPlanner_59 : decode cX11_tellPlanner 59 = .ok (.getfield 10, 3) := by decide +kernel
theorem dX11_tellPlanner_62 : decode cX11_tellPlanner 62 = .ok (.iload_n 1, 1) := by decide +kernel
theorem dX11_tellPlanner_63 : decode cX11_tellPlanner 63 = .ok (.bipush 6, 2) := by decide +kernel
theorem dX11_tellPlanner_65 : decode cX11_tellPlanner 65 = .ok (.invokevirtual 122, 3) := by decide +kernel
theorem dX11_tellPlanner_68 : decode cX11_tellPlanner 68 = .ok (.iastore, 1) := by decide +kernel
theorem dX11_tellPlanner_69 : decode cX11_tellPlanner 69 = .ok (.iinc 1 1, 3) := by decide +kernel
theorem dX11_tellPlanner_72 : decode cX11_tellPlanner 72 = .ok (.goto (-28), 3) := by decide +kernel
theorem dX11_tellPlanner_75 : decode cX11_tellPlanner 75 = .ok (.return_, 1) := by decide +kernel
theorem dX11_leastFor_0 : decode cX11_leastFor 0 = .ok (.aload_n 0, 1) := by decide +kernel
theorem dX11_leastFor_1 : decode cX11_leastFor 1 = .ok (.getfield 46, 3) := by decide +kernel
theorem dX11_leastFor_4 : decode cX11_leastFor 4 = .ok (.getfield 194, 3) := by decide +kernel
theorem dX11_leastFor_7 : decode cX11_leastFor 7 = .ok (.aload_n 0, 1) := by decide +kernel
theorem dX11_leastFor_8 : decode cX11_leastFor 8 = .ok (.getfield 10, 3) := by decide +kernel
theorem dX11_leastFor_11 : decode cX11_leastFor 11 = .ok (.iload_n 1, 1) := by decide +kernel
theorem dX11_leastFor_12 : decode cX11_leastFor 12 = .ok (.invokevirtual 242, 3) := by decide +kernel
theorem dX11_leastFor_15 : decode cX11_leastFor 15 = .ok (.aload_n 0, 1) := by decide +kernel
theorem dX11_leastFor_16 : decode cX11_leastFor 16 = .ok (.getfield 46, 3) := by decide +kernel
theorem dX11_leastFor_19 : decode cX11_leastFor 19 = .ok (.iload_n 2, 1) := by decide +kernel
theorem dX11_leastFor_20 : decode cX11_leastFor 20 = .ok (.invokevirtual 426, 3) := by decide +kernel
theorem dX11_leastFor_23 : decode cX11_leastFor 23 = .ok (.lreturn, 1) := by decide +kernel
theorem dX11_fillParting_0 : decode cX11_fillParting 0 = .ok (.aload_n 0, 1) := by decide +kernel
theorem dX11_fillParting_1 : decode cX11_fillParting 1 = .ok (.getfield 10, 3) := by decide +kernel
theorem dX11_fillParting_4 : decode cX11_fillParting 4 = .ok (.iconst 0, 1) := by decide +kernel
theorem dX11_fillParting_5 : decode cX11_fillParting 5 = .ok (.bipush 9, 2) := by decide +kernel
theorem dX11_fillParting_7 : decode cX11_fillParting 7 = .ok (.invokevirtual 122, 3) := by decide +kernel
theorem dX11_fillParting_10 : decode cX11_fillParting 10 = .ok (.istore_n 3, 1) := by decide +kernel
theorem dX11_fillParting_11 : decode cX11_fillParting 11 = .ok (.iconst 0, 1) := by decide +kernel
theorem dX11_fillParting_12 : decode cX11_fillParting 12 = .ok (.istore 4, 2) := by decide +kernel
theorem dX11_fillParting_14 : decode cX11_fillParting 14 = .ok (.iconst 0, 1) := by decide +kernel
theorem dX11_fillParting_15 : decode cX11_fillParting 15 = .ok (.istore 5, 2) := by decide +kernel
theorem dX11_fillParting_17 : decode cX11_fillParting 17 = .ok (.iload 5, 2) := by decide +kernel
theorem dX11_fillParting_19 : decode cX11_fillParting 19 = .ok (.iload_n 2, 1) := by decide +kernel
theorem dX11_fillParting_20 : decode cX11_fillParting 20 = .ok (.if_icmp .gt 45, 3) := by decide +kernel
theorem dX11_fillParting_23 : decode cX11_fillParting 23 = .ok (.iload 5, 2) := by decide +kernel
theorem dX11_fillParting_25 : decode cX11_fillParting 25 = .ok (.iconst 5, 1) := by decide +kernel
theorem dX11_fillParting_26 : decode cX11_fillParting 26 = .ok (.irem, 1) := by decide +kernel
theorem dX11_fillParting_27 : decode cX11_fillParting 27 = .ok (.ifCond .ne 17, 3) := by decide +kernel
theorem dX11_fillParting_30 : decode cX11_fillParting 30 = .ok (.aload_n 0, 1) := by decide +kernel
theorem dX11_fillParting_31 : decode cX11_fillParting 31 = .ok (.iload_n 1, 1) := by decide +kernel
theorem dX11_fillParting_32 : decode cX11_fillParting 32 = .ok (.iconst 0, 1) := by decide +kernel
theorem dX11_fillParting_33 : decode cX11_fillParting 33 = .ok (.iload_n 3, 1) := by decide +kernel
theorem dX11_fillParting_34 : decode cX11_fillParting 34 = .ok (.iload 5, 2) := by decide +kernel
theorem dX11_fillParting_36 : decode cX11_fillParting 36 = .ok (.iconst 5, 1) := by decide +kernel
theorem dX11_fillParting_37 : decode cX11_fillParting 37 = .ok (.idiv, 1) := by decide +kernel
theorem dX11_fillParting_38 : decode cX11_fillParting 38 = .ok (.iadd, 1) := by decide +kernel
theorem dX11_fillParting_39 : decode cX11_fillParting 39 = .ok (.invokevirtual 406, 3) := by decide +kernel
theorem dX11_fillParting_42 : decode cX11_fillParting 42 = .ok (.istore 4, 2) := by decide +kernel
theorem dX11_fillParting_44 : decode cX11_fillParting 44 = .ok (.aload_n 0, 1) := by decide +kernel
theorem dX11_fillParting_45 : decode cX11_fillParting 45 = .ok (.getfield 60, 3) := by decide +kernel
theorem dX11_fillParting_48 : decode cX11_fillParting 48 = .ok (.iload_n 1, 1) := by decide +kernel
theorem dX11_fillParting_49 : decode cX11_fillParting 49 = .ok (.iload 5, 2) := by decide +kernel
theorem dX11_fillParting_51 : decode cX11_fillParting 51 = .ok (.iload 5, 2) := by decide +kernel
theorem dX11_fillParting_53 : decode cX11_fillParting 53 = .ok (.iload 4, 2) := by decide +kernel
theorem dX11_fillParting_55 : decode cX11_fillParting 55 = .ok (.imul, 1) := by decide +kernel
theorem dX11_fillParting_56 : decode cX11_fillParting 56 = .ok (.invokevirtual 429, 3) := by decide +kernel
theorem dX11_fillParting_59 : decode cX11_fillParting 59 = .ok (.iinc 5 1, 3) := by decide +kernel
theorem dX11_fillParting_62 : decode cX11_fillParting 62 = .ok (.goto (-45), 3) := by decide +kernel
theorem dX11_fillParting_65 : decode cX11_fillParting 65 = .ok (.aload_n 0, 1) := by decide +kernel
theorem dX11_fillParting_66 : decode cX11_fillParting 66 = .ok (.getfield 60, 3) := by decide +kernel
theorem dX11_fillParting_69 : decode cX11_fillParting 69 = .ok (.iload_n 1, 1) := by decide +kernel
theorem dX11_fillParting_70 : decode cX11_fillParting 70 = .ok (.iload_n 2, 1) := by decide +kernel
theorem dX11_fillParting_71 : decode cX11_fillParting 71 = .ok (.aload_n 0, 1) := by decide +kernel
theorem dX11_fillParting_72 : decode cX11_fillParting 72 = .ok (.getfield 10, 3) := by decide +kernel
theorem dX11_fillParting_75 : decode cX11_fillParting 75 = .ok (.iload_n 1, 1) := by decide +kernel
theorem dX11_fillParting_76 : decode cX11_fillParting 76 = .ok (.bipush 6, 2) := by decide +kernel
theorem dX11_fillParting_78 : decode cX11_fillParting 78 = .ok (.invokevirtual 122, 3) := by decide +kernel
theorem dX11_fillParting_81 : decode cX11_fillParting 81 = .ok (.invokevirtual 432, 3) := by decide +kernel
theorem dX11_fillParting_84 : decode cX11_fillParting 84 = .ok (.return_, 1) := by decide +kernel
theorem dX11_think_0 : decode cX11_think 0 = .ok (.aload_n 0, 1) := by decide +kernel
theorem dX11_think_1 : decode cX11_think 1 = .ok (.getfield 32, 3) := by decide +kernel
theorem dX11_think_4 : decode cX11_think 4 = .ok (.aload_n 0, 1) := by decide +kernel
theorem dX11_think_5 : decode cX11_think 5 = .ok (.getfield 25, 3) := by decide +kernel
theorem dX11_think_8 : decode cX11_think 8 = .ok (.iload_n 1, 1) := by decide +kernel
theorem dX11_think_9 : decode cX11_think 9 = .ok (.aaload, 1) := by decide +kernel
theorem dX11_think_10 : decode cX11_think 10 = .ok (.aload_n 0, 1) := by decide +kernel
theorem dX11_think_11 : decode cX11_think 11 = .ok (.getfield 10, 3) := by decide +kernel
theorem dX11_think_14 : decode cX11_think 14 = .ok (.getfield 215, 3) := by decide +kernel
theorem dX11_think_17 : decode cX11_think 17 = .ok (.iconst 0, 1) := by decide +kernel
theorem dX11_think_18 : decode cX11_think 18 = .ok (.invokevirtual 259, 3) := by decide +kernel
theorem dX11_think_21 : decode cX11_think 21 = .ok (.aload_n 0, 1) := by decide +kernel
theorem dX11_think_22 : decode cX11_think 22 = .ok (.getfield 39, 3) := by decide +kernel
theorem dX11_think_25 : decode cX11_think 25 = .ok (.aload_n 0, 1) := by decide +kernel
theorem dX11_think_26 : decode cX11_think 26 = .ok (.getfield 10, 3) := by decide +kernel
theorem dX11_think_29 : decode cX11_think 29 = .ok (.iload_n 2, 1) := by decide +kernel
theorem dX11_think_30 : decode cX11_think 30 = .ok (.invokevirtual 242, 3) := by decide +kernel
theorem dX11_think_33 : decode cX11_think 33 = .ok (.iconst 0, 1) := by decide +kernel
theorem dX11_think_34 : decode cX11_think 34 = .ok (.istore_n 3, 1) := by decide +kernel
theorem dX11_think_35 : decode cX11_think 35 = .ok (.iload_n 3, 1) := by decide +kernel
theorem dX11_think_36 : decode cX11_think 36 = .ok (.aload_n 0, 1) := by decide +kernel
theorem dX11_think_37 : decode cX11_think 37 = .ok (.getfield 32, 3) := by decide +kernel
theorem dX11_think_40 : decode cX11_think 40 = .ok (.getfield 269, 3) := by decide +kernel
theorem dX11_think_43 : decode cX11_think 43 = .ok (.if_icmp .ge 38, 3) := by decide +kernel
theorem dX11_think_46 : decode cX11_think 46 = .ok (.aload_n 0, 1) := by decide +kernel
theorem dX11_think_47 : decode cX11_think 47 = .ok (.getfield 39, 3) := by decide +kernel
theorem dX11_think_50 : decode cX11_think 50 = .ok (.iload_n 3, 1) := by decide +kernel
theorem dX11_think_51 : decode cX11_think 51 = .ok (.aload_n 0, 1) := by decide +kernel
theorem dX11_think_52 : decode cX11_think 52 = .ok (.aload_n 0, 1) := by decide +kernel
theorem dX11_think_53 : decode cX11_think 53 = .ok (.getfield 32, 3) := by decide +kernel
theorem dX11_think_56 : decode cX11_think 56 = .ok (.iload_n 3, 1) := by decide +kernel
theorem dX11_think_57 : decode cX11_think 57 = .ok (.invokevirtual 272, 3) := by decide +kernel
theorem dX11_think_60 : decode cX11_think 60 = .ok (.iload_n 3, 1) := by decide +kernel
theorem dX11_think_61 : decode cX11_think 61 = .ok (.invokevirtual 139, 3) := by decide +kernel
theorem dX11_think_64 : decode cX11_think 64 = .ok (.aload_n 0, 1) := by decide +kernel
theorem dX11_think_65 : decode cX11_think 65 = .ok (.getfield 32, 3) := by decide +kernel
theorem dX11_think_68 : decode cX11_think 68 = .ok (.iload_n 3, 1) := by decide +kernel
theorem dX11_think_69 : decode cX11_think 69 = .ok (.invokevirtual 434, 3) := by decide +kernel
theorem dX11_think_72 : decode cX11_think 72 = .ok (.invokevirtual 436, 3) := by decide +kernel
theorem dX11_think_75 : decode cX11_think 75 = .ok (.iinc 3 1, 3) := by decide +kernel
theorem dX11_think_78 : decode cX11_think 78 = .ok (.goto (-43), 3) := by decide +kernel
theorem dX11_think_81 : decode cX11_think 81 = .ok (.aload_n 0, 1) := by decide +kernel
theorem dX11_think_82 : decode cX11_think 82 = .ok (.getfield 32, 3) := by decide +kernel
theorem dX11_think_85 : decode cX11_think 85 = .ok (.getfield 269, 3) := by decide +kernel
theorem dX11_think_88 : decode cX11_think 88 = .ok (.ireturn, 1) := by decide +kernel
theorem dX11_gain_0 : decode cX11_gain 0 = .ok (.iload_n 1, 1) := by decide +kernel
theorem dX11_gain_1 : decode cX11_gain 1 = .ok (.bipush 6, 2) := by decide +kernel
theorem dX11_gain_3 : decode cX11_gain 3 = .ok (.if_icmp .ne 16, 3) := by decide +kernel
theorem dX11_gain_6 : decode cX11_gain 6 = .ok (.aload_n 0, 1) := by decide +kernel
theorem dX11_gain_7 : decode cX11_gain 7 = .ok (.getfield 10, 3) := by decide +kernel
theorem dX11_gain_10 : decode cX11_gain 10 = .ok (.iconst 0, 1) := by decide +kernel
theorem dX11_gain_11 : decode cX11_gain 11 = .ok (.bipush 11, 2) := by decide +kernel
theorem dX11_gain_13 : decode cX11_gain 13 = .ok (.invokevirtual 122, 3) := by decide +kernel
theorem dX11_gain_16 : decode cX11_gain 16 = .ok (.goto 9, 3) := by decide +kernel
theorem dX11_gain_19 : decode cX11_gain 19 = .ok (.aload_n 0, 1) := by decide +kernel
theorem dX11_gain_20 : decode cX11_gain 20 = .ok (.iload_n 1, 1) := by decide +kernel
theorem dX11_gain_21 : decode cX11_gain 21 = .ok (.iload_n 2, 1) := by decide +kernel
theorem dX11_gain_22 : decode cX11_gain 22 = .ok (.invokevirtual 139, 3) := by decide +kernel
theorem dX11_gain_25 : decode cX11_gain 25 = .ok (.istore_n 3, 1) := by decide +kernel
theorem dX11_gain_26 : decode cX11_gain 26 = .ok (.iload_n 1, 1) := by decide +kernel
theorem dX11_gain_27 : decode cX11_gain 27 = .ok (.bipush 6, 2) := by decide +kernel
theorem dX11_gain_29 : decode cX11_gain 29 = .ok (.if_icmp .ne 7, 3) := by decide +kernel
theorem dX11_gain_32 : decode cX11_gain 32 = .ok (.iconst 1, 1) := by decide +kernel
theorem dX11_gain_33 : decode cX11_gain 33 = .ok (.goto 13, 3) := by decide +kernel
theorem dX11_gain_36 : decode cX11_gain 36 = .ok (.aload_n 0, 1) := by decide +kernel
theorem dX11_gain_37 : decode cX11_gain 37 = .ok (.getfield 10, 3) := by decide +kernel
theorem dX11_gain_40 : decode cX11_gain 40 = .ok (.iload_n 1, 1) := by decide +kernel
theorem dX11_gain_41 : decode cX11_gain 41 = .ok (.bipush 6, 2) := by decide +kernel
theorem dX11_gain_43 : decode cX11_gain 43 = .ok (.invokevirtual 122, 3) := by decide +kernel
theorem dX11_gain_46 : decode cX11_gain 46 = .ok (.istore 4, 2) := by decide +kernel
theorem dX11_gain_48 : decode cX11_gain 48 = .ok (.aload_n 0, 1) := by decide +kernel
theorem dX11_gain_49 : decode cX11_gain 49 = .ok (.getfield 10, 3) := by decide +kernel
theorem dX11_gain_52 : decode cX11_gain 52 = .ok (.iconst 0, 1) := by decide +kernel
theorem dX11_gain_53 : decode cX11_gain 53 = .ok (.bipush 10, 2) := by decide +kernel
theorem dX11_gain_55 : decode cX11_gain 55 = .ok (.invokevirtual 122, 3) := by decide +kernel
theorem dX11_gain_58 : decode cX11_gain 58 = .ok (.iload_n 3, 1) := by decide +kernel
theorem dX11_gain_59 : decode cX11_gain 59 = .ok (.imul, 1) := by decide +kernel
theorem dX11_gain_60 : decode cX11_gain 60 = .ok (.i2l, 1) := by decide +kernel
theorem dX11_gain_61 : decode cX11_gain 61 = .ok (.aload_n 0, 1) := by decide +kernel
theorem dX11_gain_62 : decode cX11_gain 62 = .ok (.getfield 39, 3) := by decide +kernel
theorem dX11_gain_65 : decode cX11_gain 65 = .ok (.iload_n 2, 1) := by decide +kernel
theorem dX11_gain_66 : decode cX11_gain 66 = .ok (.invokevirtual 170, 3) := by decide +kernel
theorem dX11_gain_69 : decode cX11_gain 69 = .ok (.lmul, 1) := by decide +kernel
theorem dX11_gain_70 : decode cX11_gain 70 = .ok (.bipush 12, 2) := by decide +kernel
theorem dX11_gain_72 : decode cX11_gain 72 = .ok (.iload 4, 2) := by decide +kernel
theorem dX11_gain_74 : decode cX11_gain 74 = .ok (.imul, 1) := by decide +kernel
theorem dX11_gain_75 : decode cX11_gain 75 = .ok (.i2l, 1) := by decide +kernel
theorem dX11_gain_76 : decode cX11_gain 76 = .ok (.aload_n 0, 1) := by decide +kernel
theorem dX11_gain_77 : decode cX11_gain 77 = .ok (.getfield 39, 3) := by decide +kernel
theorem dX11_gain_80 : decode cX11_gain 80 = .ok (.iload_n 2, 1) := by decide +kernel
theorem dX11_gain_81 : decode cX11_gain 81 = .ok (.invokevirtual 153, 3) := by decide +kernel
theorem dX11_gain_84 : decode cX11_gain 84 = .ok (.lmul, 1) := by decide +kernel
theorem dX11_gain_85 : decode cX11_gain 85 = .ok (.lsub, 1) := by decide +kernel
theorem dX11_gain_86 : decode cX11_gain 86 = .ok (.lreturn, 1) := by decide +kernel
theorem dX11_stillInOneMore_0 : decode cX11_stillInOneMore 0 = .ok (.aload_n 0, 1) := by decide +kernel
theorem dX11_stillInOneMore_1 : decode cX11_stillInOneMore 1 = .ok (.getfield 67, 3) := by decide +kernel
theorem dX11_stillInOneMore_4 : decode cX11_stillInOneMore 4 = .ok (.aload_n 0, 1) := by decide +kernel
theorem dX11_stillInOneMore_5 : decode cX11_stillInOneMore 5 = .ok (.getfield 10, 3) := by decide +kernel
theorem dX11_stillInOneMore_8 : decode cX11_stillInOneMore 8 = .ok (.iload_n 1, 1) := by decide +kernel
theorem dX11_stillInOneMore_9 : decode cX11_stillInOneMore 9 = .ok (.invokevirtual 278, 3) := by decide +kernel
theorem dX11_stillInOneMore_12 : decode cX11_stillInOneMore 12 = .ok (.istore_n 2, 1) := by decide +kernel
theorem dX11_stillInOneMore_13 : decode cX11_stillInOneMore 13 = .ok (.iconst 0, 1) := by decide +kernel
theorem dX11_stillInOneMore_14 : decode cX11_stillInOneMore 14 = .ok (.istore_n 3, 1) := by decide +kernel
theorem dX11_stillInOneMore_15 : decode cX11_stillInOneMore 15 = .ok (.iload_n 3, 1) := by decide +kernel
theorem dX11_stillInOneMore_16 : decode cX11_stillInOneMore 16 = .ok (.aload_n 0, 1) := by decide +kernel
theorem dX11_stillInOneMore_17 : decode cX11_stillInOneMore 17 = .ok (.getfield 32, 3) := by decide +kernel
theorem dX11_stillInOneMore_20 : decode cX11_stillInOneMore 20 = .ok (.getfield 269, 3) := by decide +kernel
theorem dX11_stillInOneMore_23 : decode cX11_stillInOneMore 23 = .ok (.if_icmp .ge 33, 3) := by decide +kernel
theorem dX11_stillInOneMore_26 : decode cX11_stillInOneMore 26 = .ok (.iload_n 2, 1) := by decide +kernel
theorem dX11_stillInOneMore_27 : decode cX11_stillInOneMore 27 = .ok (.aload_n 0, 1) := by decide +kernel
theorem dX11_stillInOneMore_28 : decode cX11_stillInOneMore 28 = .ok (.getfield 67, 3) := by decide +kernel
theorem dX11_stillInOneMore_31 : decode cX11_stillInOneMore 31 = .ok (.iload_n 2, 1) := by decide +kernel
theorem dX11_stillInOneMore_32 : decode cX11_stillInOneMore 32 = .ok (.aload_n 0, 1) := by decide +kernel
theorem dX11_stillInOneMore_33 : decode cX11_stillInOneMore 33 = .ok (.aload_n 0, 1) := by decide +kernel
theorem dX11_stillInOneMore_34 : decode cX11_stillInOneMore 34 = .ok (.getfield 32, 3) := by decide +kernel
theorem dX11_stillInOneMore_37 : decode cX11_stillInOneMore 37 = .ok (.iload_n 3, 1) := by decide +kernel
theorem dX11_stillInOneMore_38 : decode cX11_stillInOneMore 38 = .ok (.invokevirtual 272, 3) := by decide +kernel
theorem dX11_stillInOneMore_41 : decode cX11_stillInOneMore 41 = .ok (.iload_n 3, 1) := by decide +kernel
theorem dX11_stillInOneMore_42 : decode cX11_stillInOneMore 42 = .ok (.invokevirtual 139, 3) := by decide +kernel
theorem dX11_stillInOneMore_45 : decode cX11_stillInOneMore 45 = .ok (.invokevirtual 289, 3) := by decide +kernel
theorem dX11_stillInOneMore_48 : decode cX11_stillInOneMore 48 = .ok (.isub, 1) := by decide +kernel
theorem dX11_stillInOneMore_49 : decode cX11_stillInOneMore 49 = .ok (.istore_n 2, 1) := by decide +kernel
theorem dX11_stillInOneMore_50 : decode cX11_stillInOneMore 50 = .ok (.iinc 3 1, 3) := by decide +kernel
theorem dX11_stillInOneMore_53 : decode cX11_stillInOneMore 53 = .ok (.goto (-38), 3) := by decide +kernel
theorem dX11_stillInOneMore_56 : decode cX11_stillInOneMore 56 = .ok (.iload_n 2, 1) := by decide +kernel
theorem dX11_stillInOneMore_57 : decode cX11_stillInOneMore 57 = .ok (.ireturn, 1) := by decide +kernel
theorem dX12_init_0 : decode cX12_init 0 = .ok (.aload_n 0, 1) := by decide +kernel
theorem dX12_init_1 : decode cX12_init 1 = .ok (.invokespecial 3, 3) := by decide +kernel
theorem dX12_init_4 : decode cX12_init 4 = .ok (.aload_n 0, 1) := by decide +kernel
theorem dX12_init_5 : decode cX12_init 5 = .ok (.bipush 16, 2) := by decide +kernel
theorem dX12_init_7 : decode cX12_init 7 = .ok (.newarray .int, 2) := by decide +kernel
theorem dX12_init_9 : decode cX12_init 9 = .ok (.dup, 1) := by decide +kernel
theorem dX12_init_10 : decode cX12_init 10 = .ok (.iconst 0, 1) := by decide +kernel
theorem dX12_init_11 : decode cX12_init 11 = .ok (.iconst 1, 1) := by decide +kernel
theorem dX12_init_12 : decode cX12_init 12 = .ok (.iastore, 1) := by decide +kernel
theorem dX12_init_13 : decode cX12_init 13 = .ok (.dup, 1) := by decide +kernel
theorem dX12_init_14 : decode cX12_init 14 = .ok (.iconst 1, 1) := by decide +kernel
theorem dX12_init_15 : decode cX12_init 15 = .ok (.iconst 1, 1) := by decide +kernel
theorem dX12_init_16 : decode cX12_init 16 = .ok (.iastore, 1) := by decide +kernel
theorem dX12_init_17 : decode cX12_init 17 = .ok (.dup, 1) := by decide +kernel
theorem dX12_init_18 : decode cX12_init 18 = .ok (.iconst 2, 1) := by decide +kernel
theorem dX12_init_19 : decode cX12_init 19 = .ok (.iconst 1, 1) := by decide +kernel
theorem dX12_init_20 : decode cX12_init 20 = .ok (.iastore, 1) := by decide +kernel
theorem dX12_init_21 : decode cX12_init 21 = .ok (.dup, 1) := by decide +kernel
theorem dX12_init_22 : decode cX12_init 22 = .ok (.iconst 3, 1) := by decide +kernel
theorem dX12_init_23 : decode cX12_init 23 = .ok (.iconst 1, 1) := by decide +kernel
theorem dX12_init_24 : decode cX12_init 24 = .ok (.iastore, 1) := by decide +kernel
theorem dX12_init_25 : decode cX12_init 25 = .ok (.dup, 1) := by decide +kernel
theorem dX12_init_26 : decode cX12_init 26 = .ok (.iconst 4, 1) := by decide +kernel
theorem dX12_init_27 : decode cX12_init 27 = .ok (.iconst 1, 1) := by decide +kernel
theorem dX12_init_28 : decode cX12_init 28 = .ok (.iastore, 1) := by decide +kernel
theorem dX12_init_29 : decode cX12_init 29 = .ok (.dup, 1) := by decide +kernel
theorem dX12_init_30 : decode cX12_init 30 = .ok (.iconst 5, 1) := by decide +kernel
theorem dX12_init_31 : decode cX12_init 31 = .ok (.iconst 1, 1) := by decide +kernel
theorem dX12_init_32 : decode cX12_init 32 = .ok (.iastore, 1) := by decide +kernel
theorem dX12_init_33 : decode cX12_init 33 = .ok (.dup, 1) := by decide +kernel
theorem dX12_init_34 : decode cX12_init 34 = .ok (.bipush 6, 2) := by decide +kernel
theorem dX12_init_36 : decode cX12_init 36 = .ok (.iconst 1, 1) := by decide +kernel
theorem dX12_init_37 : decode cX12_init 37 = .ok (.iastore, 1) := by decide +kernel
theorem dX12_init_38 : decode cX12_init 38 = .ok (.dup, 1) := by decide +kernel
theorem dX12_init_39 : decode cX12_init 39 = .ok (.bipush 7, 2) := by decide +kernel
theorem dX12_init_41 : decode cX12_init 41 = .ok (.iconst 1, 1) := by decide +kernel
theorem dX12_init_42 : decode cX12_init 42 = .ok (.iastore, 1) := by decide +kernel
theorem dX12_init_43 : decode cX12_init 43 = .ok (.dup, 1) := by decide +kernel
theorem dX12_init_44 : decode cX12_init 44 = .ok (.bipush 8, 2) := by decide +kernel
theorem dX12_init_46 : decode cX12_init 46 = .ok (.iconst 1, 1) := by decide +kernel
theorem dX12_init_47 : decode cX12_init 47 = .ok (.iastore, 1) := by decide +kernel
theorem dX12_init_48 : decode cX12_init 48 = .ok (.dup, 1) := by decide +kernel
theorem dX12_init_49 : decode cX12_init 49 = .ok (.bipush 9, 2) := by decide +kernel
theorem dX12_init_51 : decode cX12_init 51 = .ok (.iconst 1, 1) := by decide +kernel
theorem dX12_init_52 : decode cX12_init 52 = .ok (.iastore, 1) := by decide +kernel
theorem dX12_init_53 : decode cX12_init 53 = .ok (.dup, 1) := by decide +kernel
theorem dX12_init_54 : decode cX12_init 54 = .ok (.bipush 10, 2) := by decide +kernel
theorem dX12_init_56 : decode cX12_init 56 = .ok (.iconst 1, 1) := by decide +kernel
theorem dX12_init_57 : decode cX12_init 57 = .ok (.iastore, 1) := by decide +kernel
theorem dX12_init_58 : decode cX12_init 58 = .ok (.dup, 1) := by decide +kernel
theorem dX12_init_59 : decode cX12_init 59 = .ok (.bipush 11, 2) := by decide +kernel
theorem dX12_init_61 : decode cX12_init 61 = .ok (.iconst 1, 1) := by decide +kernel
theorem dX12_init_62 : decode cX12_init 62 = .ok (.iastore, 1) := by decide +kernel
theorem dX12_init_63 : decode cX12_init 63 = .ok (.dup, 1) := by decide +kernel
theorem dX12_init_64 : decode cX12_init 64 = .ok (.bipush 12, 2) := by decide +kernel
theorem dX12_init_66 : decode cX12_init 66 = .ok (.iconst 1, 1) := by decide +kernel
theorem dX12_init_67 : decode cX12_init 67 = .ok (.iastore, 1) := by decide +kernel
theorem dX12_init_68 : decode cX12_init 68 = .ok (.dup, 1) := by decide +kernel
theorem dX12_init_69 : decode cX12_init 69 = .ok (.bipush 13, 2) := by decide +kernel
theorem dX12_init_71 : decode cX12_init 71 = .ok (.iconst 1, 1) := by decide +kernel
theorem dX12_init_72 : decode cX12_init 72 = .ok (.iastore, 1) := by decide +kernel
theorem dX12_init_73 : decode cX12_init 73 = .ok (.dup, 1) := by decide +kernel
theorem dX12_init_74 : decode cX12_init 74 = .ok (.bipush 14, 2) := by decide +kernel
theorem dX12_init_76 : decode cX12_init 76 = .ok (.iconst 1, 1) := by decide +kernel
theorem dX12_init_77 : decode cX12_init 77 = .ok (.iastore, 1) := by decide +kernel
theorem dX12_init_78 : decode cX12_init 78 = .ok (.dup, 1) := by decide +kernel
theorem dX12_init_79 : decode cX12_init 79 = .ok (.bipush 15, 2) := by decide +kernel
theorem dX12_init_81 : decode cX12_init 81 = .ok (.iconst 1, 1) := by decide +kernel
theorem dX12_init_82 : decode cX12_init 82 = .ok (.iastore, 1) := by decide +kernel
theorem dX12_init_83 : decode cX12_init 83 = .ok (.putfield 9, 3) := by decide +kernel
theorem dX12_init_86 : decode cX12_init 86 = .ok (.aload_n 0, 1) := by decide +kernel
theorem dX12_init_87 : decode cX12_init 87 = .ok (.iconst 4, 1) := by decide +kernel
theorem dX12_init_88 : decode cX12_init 88 = .ok (.newarray .int, 2) := by decide +kernel
theorem dX12_init_90 : decode cX12_init 90 = .ok (.dup, 1) := by decide +kernel
theorem dX12_init_91 : decode cX12_init 91 = .ok (.iconst 0, 1) := by decide +kernel
theorem dX12_init_92 : decode cX12_init 92 = .ok (.bipush 10, 2) := by decide +kernel
theorem dX12_init_94 : decode cX12_init 94 = .ok (.iastore, 1) := by decide +kernel
theorem dX12_init_95 : decode cX12_init 95 = .ok (.dup, 1) := by decide +kernel
theorem dX12_init_96 : decode cX12_init 96 = .ok (.iconst 1, 1) := by decide +kernel
theorem dX12_init_97 : decode cX12_init 97 = .ok (.bipush 10, 2) := by decide +kernel
theorem dX12_init_99 : decode cX12_init 99 = .ok (.iastore, 1) := by decide +kernel
theorem dX12_init_100 : decode cX12_init 100 = .ok (.dup, 1) := by decide +kernel
theorem dX12_init_101 : decode cX12_init 101 = .ok (.iconst 2, 1) := by decide +kernel
theorem dX12_init_102 : decode cX12_init 102 = .ok (.bipush 10, 2) := by decide +kernel
theorem dX12_init_104 : decode cX12_init 104 = .ok (.iastore, 1) := by decide +kernel
theorem dX12_init_105 : decode cX12_init 105 = .ok (.dup, 1) := by decide +kernel
theorem dX12_init_106 : decode cX12_init 106 = .ok (.iconst 3, 1) := by decide +kernel
theorem dX12_init_107 : decode cX12_init 107 = .ok (.bipush 10, 2) := by decide +kernel
theorem dX12_init_109 : decode cX12_init 109 = .ok (.iastore, 1) := by decide +kernel
theorem dX12_init_110 : decode cX12_init 110 = .ok (.putfield 15, 3) := by decide +kernel
theorem dX12_init_113 : decode cX12_init 113 = .ok (.aload_n 0, 1) := by decide +kernel
theorem dX12_init_114 : decode cX12_init 114 = .ok (.bipush 6, 2) := by decide +kernel
theorem dX12_init_116 : decode cX12_init 116 = .ok (.newarray .int, 2) := by decide +kernel
theorem dX12_init_118 : decode cX12_init 118 = .ok (.putfield 18, 3) := by decide +kernel
theorem dX12_init_121 : decode cX12_init 121 = .ok (.aload_n 0, 1) := by decide +kernel
theorem dX12_init_122 : decode cX12_init 122 = .ok (.bipush 6, 2) := by decide +kernel
theorem dX12_init_124 : decode cX12_init 124 = .ok (.newarray .int, 2) := by decide +kernel
theorem dX12_init_126 : decode cX12_init 126 = .ok (.putfield 21, 3) := by decide +kernel
theorem dX12_init_129 : decode cX12_init 129 = .ok (.aload_n 0, 1) := by decide +kernel
theorem dX12_init_130 : decode cX12_init 130 = .ok (.iconst 5, 1) := by decide +kernel
theorem dX12_init_131 : decode cX12_init 131 = .ok (.putfield 24, 3) := by decide +kernel
theorem dX12_init_134 : decode cX12_init 134 = .ok (.aload_n 0, 1) := by decide +kernel
theorem dX12_init_135 : decode cX12_init 135 = .ok (.iconst 1, 1) := by decide +kernel
theorem dX12_init_136 : decode cX12_init 136 = .ok (.putfield 28, 3) := by decide +kernel
theorem dX12_init_139 : decode cX12_init 139 = .ok (.aload_n 0, 1) := by decide +kernel
theorem dX12_init_140 : decode cX12_init 140 = .ok (.bipush 100, 2) := by decide +kernel
theorem dX12_init_142 : decode cX12_init 142 = .ok (.putfield 31, 3) := by decide +kernel
theorem dX12_init_145 : decode cX12_init 145 = .ok (.aload_n 0, 1) := by decide +kernel
theorem dX12_init_146 : decode cX12_init 146 = .ok (.iconst 4, 1) := by decide +kernel
theorem dX12_init_147 : decode cX12_init 147 = .ok (.putfield 34, 3) := by decide +kernel
theorem dX12_init_150 : decode cX12_init 150 = .ok (.aload_n 0, 1) := by decide +kernel
theorem dX12_init_151 : decode cX12_init 151 = .ok (.bipush 40, 2) := by decide +kernel
theorem dX12_init_153 : decode cX12_init 153 = .ok (.newarray .int, 2) := by decide +kernel
theorem dX12_init_155 : decode cX12_init 155 = .ok (.putfield 37, 3) := by decide +kernel
theorem dX12_init_158 : decode cX12_init 158 = .ok (.aload_n 0, 1) := by decide +kernel
theorem dX12_init_159 : decode cX12_init 159 = .ok (.bipush 40, 2) := by decide +kernel
theorem dX12_init_161 : decode cX12_init 161 = .ok (.newarray .int, 2) := by decide +kernel
theorem dX12_init_163 : decode cX12_init 163 = .ok (.putfield 40, 3) := by decide +kernel
theorem dX12_init_166 : decode cX12_init 166 = .ok (.aload_n 0, 1) := by decide +kernel
theorem dX12_init_167 : decode cX12_init 167 = .ok (.bipush 40, 2) := by decide +kernel
theorem dX12_init_169 : decode cX12_init 169 = .ok (.newarray .int, 2) := by decide +kernel
theorem dX12_init_171 : decode cX12_init 171 = .ok (.putfield 43, 3) := by decide +kernel
theorem dX12_init_174 : decode cX12_init 174 = .ok (.aload_n 0, 1) := by decide +kernel
theorem dX12_init_175 : decode cX12_init 175 = .ok (.bipush 40, 2) := by decide +kernel
theorem dX12_init_177 : decode cX12_init 177 = .ok (.newarray .int, 2) := by decide +kernel
theorem dX12_init_179 : decode cX12_init 179 = .ok (.putfield 46, 3) := by decide +kernel
theorem dX12_init_182 : decode cX12_init 182 = .ok (.aload_n 0, 1) := by decide +kernel
theorem dX12_init_183 : decode cX12_init 183 = .ok (.bipush 120, 2) := by decide +kernel
theorem dX12_init_185 : decode cX12_init 185 = .ok (.newarray .byte, 2) := by decide +kernel
theorem dX12_init_187 : decode cX12_init 187 = .ok (.putfield 49, 3) := by decide +kernel
theorem dX12_init_190 : decode cX12_init 190 = .ok (.aload_n 0, 1) := by decide +kernel
theorem dX12_init_191 : decode cX12_init 191 = .ok (.sipush 260, 3) := by decide +kernel
theorem dX12_init_194 : decode cX12_init 194 = .ok (.newarray .byte, 2) := by decide +kernel
theorem dX12_init_196 : decode cX12_init 196 = .ok (.putfield 53, 3) := by decide +kernel
theorem dX12_init_199 : decode cX12_init 199 = .ok (.aload_n 0, 1) := by decide +kernel
theorem dX12_init_200 : decode cX12_init 200 = .ok (.sipush 260, 3) := by decide +kernel
theorem dX12_init_203 : decode cX12_init 203 = .ok (.newarray .int, 2) := by decide +kernel
theorem dX12_init_205 : decode cX12_init 205 = .ok (.putfield 56, 3) := by decide +kernel
theorem dX12_init_208 : decode cX12_init 208 = .ok (.aload_n 0, 1) := by decide +kernel
theorem dX12_init_209 : decode cX12_init 209 = .ok (.iconst 2, 1) := by decide +kernel
theorem dX12_init_210 : decode cX12_init 210 = .ok (.newarray .int, 2) := by decide +kernel
theorem dX12_init_212 : decode cX12_init 212 = .ok (.putfield 59, 3) := by decide +kernel
theorem dX12_init_215 : decode cX12_init 215 = .ok (.aload_n 0, 1) := by decide +kernel
theorem dX12_init_216 : decode cX12_init 216 = .ok (.bipush 122, 2) := by decide +kernel
theorem dX12_init_218 : decode cX12_init 218 = .ok (.newarray .short, 2) := by decide +kernel
theorem dX12_init_220 : decode cX12_init 220 = .ok (.putfield 62, 3) := by decide +kernel
theorem dX12_init_223 : decode cX12_init 223 = .ok (.aload_n 0, 1) := by decide +kernel
theorem dX12_init_224 : decode cX12_init 224 = .ok (.bipush 122, 2) := by decide +kernel
theorem dX12_init_226 : decode cX12_init 226 = .ok (.newarray .short, 2) := by decide +kernel
theorem dX12_init_228 : decode cX12_init 228 = .ok (.putfield 66, 3) := by decide +kernel
theorem dX12_init_231 : decode cX12_init 231 = .ok (.aload_n 0, 1) := by decide +kernel
theorem dX12_init_232 : decode cX12_init 232 = .ok (.bipush 6, 2) := by decide +kernel
theorem dX12_init_234 : decode cX12_init 234 = .ok (.newarray .int, 2) := by decide +kernel
theorem dX12_init_236 : decode cX12_init 236 = .ok (.putfield 69, 3) := by decide +kernel
theorem dX12_init_239 : decode cX12_init 239 = .ok (.aload_n 0, 1) := by decide +kernel
theorem dX12_init_240 : decode cX12_init 240 = .ok (.sipush 130, 3) := by decide +kernel
theorem dX12_init_243 : decode cX12_init 243 = .ok (.newarray .int, 2) := by decide +kernel
theorem dX12_init_245 : decode cX12_init 245 = .ok (.putfield 72, 3) := by decide +kernel
theorem dX12_init_248 : decode cX12_init 248 = .ok (.aload_n 0, 1) := by decide +kernel
theorem dX12_init_249 : decode cX12_init 249 = .ok (.bipush 32, 2) := by decide +kernel
theorem dX12_init_251 : decode cX12_init 251 = .ok (.newarray .long, 2) := by decide +kernel
theorem dX12_init_253 : decode cX12_init 253 = .ok (.putfield 75, 3) := by decide +kernel
theorem dX12_init_256 : decode cX12_init 256 = .ok (.aload_n 0, 1) := by decide +kernel
theorem dX12_init_257 : decode cX12_init 257 = .ok (.bipush 6, 2) := by decide +kernel
theorem dX12_init_259 : decode cX12_init 259 = .ok (.newarray .long, 2) := by decide +kernel
theorem dX12_init_261 : decode cX12_init 261 = .ok (.putfield 79, 3) := by decide +kernel
theorem dX12_init_264 : decode cX12_init 264 = .ok (.aload_n 0, 1) := by decide +kernel
theorem dX12_init_265 : decode cX12_init 265 = .ok (.bipush 123, 2) := by decide +kernel
theorem dX12_init_267 : decode cX12_init 267 = .ok (.newarray .int, 2) := by decide +kernel
theorem dX12_init_269 : decode cX12_init 269 = .ok (.putfield 82, 3) := by decide +kernel
theorem dX12_init_272 : decode cX12_init 272 = .ok (.aload_n 0, 1) := by decide +kernel
theorem dX12_init_273 : decode cX12_init 273 = .ok (.iconst 4, 1) := by decide +kernel
theorem dX12_init_274 : decode cX12_init 274 = .ok (.newarray .int, 2) := by decide +kernel
theorem dX12_init_276 : decode cX12_init 276 = .ok (.putfield 85, 3) := by decide +kernel
theorem dX12_init_279 : decode cX12_init 279 = .ok (.aload_n 0, 1) := by decide +kernel
theorem dX12_init_280 : decode cX12_init 280 = .ok (.iconst 4, 1) := by decide +kernel
theorem dX12_init_281 : decode cX12_init 281 = .ok (.newarray .int, 2) := by decide +kernel
theorem dX12_init_283 : decode cX12_init 283 = .ok (.putfield 88, 3) := by decide +kernel
theorem dX12_init_286 : decode cX12_init 286 = .ok (.aload_n 0, 1) := by decide +kernel
theorem dX12_init_287 : decode cX12_init 287 = .ok (.iconst 4, 1) := by decide +kernel
theorem dX12_init_288 : decode cX12_init 288 = .ok (.newarray .int, 2) := by decide +kernel
theorem dX12_init_290 : decode cX12_init 290 = .ok (.putfield 91, 3) := by decide +kernel
theorem dX12_init_293 : decode cX12_init 293 = .ok (.aload_n 0, 1) := by decide +kernel
theorem dX12_init_294 : decode cX12_init 294 = .ok (.iconst 4, 1) := by decide +kernel
theorem dX12_init_295 : decode cX12_init 295 = .ok (.newarray .int, 2) := by decide +kernel
theorem dX12_init_297 : decode cX12_init 297 = .ok (.putfield 94, 3) := by decide +kernel
theorem dX12_init_300 : decode cX12_init 300 = .ok (.aload_n 0, 1) := by decide +kernel
theorem dX12_init_301 : decode cX12_init 301 = .ok (.bipush 8, 2) := by decide +kernel
theorem dX12_init_303 : decode cX12_init 303 = .ok (.newarray .int, 2) := by decide +kernel
theorem dX12_init_305 : decode cX12_init 305 = .ok (.dup, 1) := by decide +kernel
theorem dX12_init_306 : decode cX12_init 306 = .ok (.iconst 0, 1) := by decide +kernel
theorem dX12_init_307 : decode cX12_init 307 = .ok (.iconst 0, 1) := by decide +kernel
theorem dX12_init_308 : decode cX12_init 308 = .ok (.iastore, 1) := by decide +kernel
theorem dX12_init_309 : decode cX12_init 309 = .ok (.dup, 1) := by decide +kernel
theorem dX12_init_310 : decode cX12_init 310 = .ok (.iconst 1, 1) := by decide +kernel
theorem dX12_init_311 : decode cX12_init 311 = .ok (.iconst 0, 1) := by decide +kernel
theorem dX12_init_312 : decode cX12_init 312 = .ok (.iastore, 1) := by decide +kernel
theorem dX12_init_313 : decode cX12_init 313 = .ok (.dup, 1) := by decide +kernel
theorem dX12_init_314 : decode cX12_init 314 = .ok (.iconst 2, 1) := by decide +kernel
theorem dX12_init_315 : decode cX12_init 315 = .ok (.iconst 0, 1) := by decide +kernel
theorem dX12_init_316 : decode cX12_init 316 = .ok (.iastore, 1) := by decide +kernel
theorem dX12_init_317 : decode cX12_init 317 = .ok (.dup, 1) := by decide +kernel
theorem dX12_init_318 : decode cX12_init 318 = .ok (.iconst 3, 1) := by decide +kernel
theorem dX12_init_319 : decode cX12_init 319 = .ok (.iconst 0, 1) := by decide +kernel
theorem dX12_init_320 : decode cX12_init 320 = .ok (.iastore, 1) := by decide +kernel
theorem dX12_init_321 : decode cX12_init 321 = .ok (.dup, 1) := by decide +kernel
theorem dX12_init_322 : decode cX12_init 322 = .ok (.iconst 4, 1) := by decide +kernel
theorem dX12_init_323 : decode cX12_init 323 = .ok (.iconst 0, 1) := by decide +kernel
theorem dX12_init_324 : decode cX12_init 324 = .ok (.iastore, 1) := by decide +kernel
theorem dX12_init_325 : decode cX12_init 325 = .ok (.dup, 1) := by decide +kernel
theorem dX12_init_326 : decode cX12_init 326 = .ok (.iconst 5, 1) := by decide +kernel
theorem dX12_init_327 : decode cX12_init 327 = .ok (.iconst (-1), 1) := by decide +kernel
theorem dX12_init_328 : decode cX12_init 328 = .ok (.iastore, 1) := by decide +kernel
theorem dX12_init_329 : decode cX12_init 329 = .ok (.dup, 1) := by decide +kernel
theorem dX12_init_330 : decode cX12_init 330 = .ok (.bipush 6, 2) := by decide +kernel
theorem dX12_init_332 : decode cX12_init 332 = .ok (.iconst 0, 1) := by decide +kernel
theorem dX12_init_333 : decode cX12_init 333 = .ok (.iastore, 1) := by decide +kernel
theorem dX12_init_334 : decode cX12_init 334 = .ok (.dup, 1) := by decide +kernel
theorem dX12_init_335 : decode cX12_init 335 = .ok (.bipush 7, 2) := by decide +kernel
theorem dX12_init_337 : decode cX12_init 337 = .ok (.iconst 0, 1) := by decide +kernel
theorem dX12_init_338 : decode cX12_init 338 = .ok (.iastore, 1) := by decide +kernel
theorem dX12_init_339 : decode cX12_init 339 = .ok (.putfield 97, 3) := by decide +kernel
theorem dX12_init_342 : decode cX12_init 342 = .ok (.aload_n 0, 1) := by decide +kernel
theorem dX12_init_343 : decode cX12_init 343 = .ok (.bipush 8, 2) := by decide +kernel
theorem dX12_init_345 : decode cX12_init 345 = .ok (.newarray .int, 2) := by decide +kernel
theorem dX12_init_347 : decode cX12_init 347 = .ok (.putfield 100, 3) := by decide +kernel
theorem dX12_init_350 : decode cX12_init 350 = .ok (.aload_n 0, 1) := by decide +kernel
theorem dX12_init_351 : decode cX12_init 351 = .ok (.bipush 50, 2) := by decide +kernel
theorem dX12_init_353 : decode cX12_init 353 = .ok (.newarray .int, 2) := by decide +kernel
theorem dX12_init_355 : decode cX12_init 355 = .ok (.putfield 103, 3) := by decide +kernel
theorem dX12_init_358 : decode cX12_init 358 = .ok (.aload_n 0, 1) := by decide +kernel
theorem dX12_init_359 : decode cX12_init 359 = .ok (.bipush 24, 2) := by decide +kernel
theorem dX12_init_361 : decode cX12_init 361 = .ok (.newarray .int, 2) := by decide +kernel
theorem dX12_init_363 : decode cX12_init 363 = .ok (.putfield 106, 3) := by decide +kernel
theorem dX12_init_366 : decode cX12_init 366 = .ok (.aload_n 0, 1) := by decide +kernel
theorem dX12_init_367 : decode cX12_init 367 = .ok (.bipush 6, 2) := by decide +kernel
theorem dX12_init_369 : decode cX12_init 369 = .ok (.newarray .int, 2) := by decide +kernel
theorem dX12_init_371 : decode cX12_init 371 = .ok (.dup, 1) := by decide +kernel
theorem dX12_init_372 : decode cX12_init 372 = .ok (.iconst 0, 1) := by decide +kernel
theorem dX12_init_373 : decode cX12_init 373 = .ok (.iconst (-1), 1) := by decide +kernel
theorem dX12_init_374 : decode cX12_init 374 = .ok (.iastore, 1) := by decide +kernel
theorem dX12_init_375 : decode cX12_init 375 = .ok (.dup, 1) := by decide +kernel
theorem dX12_init_376 : decode cX12_init 376 = .ok (.iconst 1, 1) := by decide +kernel
theorem dX12_init_377 : decode cX12_init 377 = .ok (.iconst (-1), 1) := by decide +kernel
theorem dX12_init_378 : decode cX12_init 378 = .ok (.iastore, 1) := by decide +kernel
theorem dX12_init_379 : decode cX12_init 379 = .ok (.dup, 1) := by decide +kernel
theorem dX12_init_380 : decode cX12_init 380 = .ok (.iconst 2, 1) := by decide +kernel
theorem dX12_init_381 : decode cX12_init 381 = .ok (.iconst (-1), 1) := by decide +kernel
theorem dX12_init_382 : decode cX12_init 382 = .ok (.iastore, 1) := by decide +kernel
theorem dX12_init_383 : decode cX12_init 383 = .ok (.dup, 1) := by decide +kernel
theorem dX12_init_384 : decode cX12_init 384 = .ok (.iconst 3, 1) := by decide +kernel
theorem dX12_init_385 : decode cX12_init 385 = .ok (.iconst (-1), 1) := by decide +kernel
theorem dX12_init_386 : decode cX12_init 386 = .ok (.iastore, 1) := by decide +kernel
theorem dX12_init_387 : decode cX12_init 387 = .ok (.dup, 1) := by decide +kernel
theorem dX12_init_388 : decode cX12_init 388 = .ok (.iconst 4, 1) := by decide +kernel
theorem dX12_init_389 : decode cX12_init 389 = .ok (.iconst (-1), 1) := by decide +kernel
theorem dX12_init_390 : decode cX12_init 390 = .ok (.iastore, 1) := by decide +kernel
theorem dX12_init_391 : decode cX12_init 391 = .ok (.dup, 1) := by decide +kernel
theorem dX12_init_392 : decode cX12_init 392 = .ok (.iconst 5, 1) := by decide +kernel
theorem dX12_init_393 : decode cX12_init 393 = .ok (.iconst (-1), 1) := by decide +kernel
theorem dX12_init_394 : decode cX12_init 394 = .ok (.iastore, 1) := by decide +kernel
theorem dX12_init_395 : decode cX12_init 395 = .ok (.putfield 109, 3) := by decide +kernel
theorem dX12_init_398 : decode cX12_init 398 = .ok (.aload_n 0, 1) := by decide +kernel
theorem dX12_init_399 : decode cX12_init 399 = .ok (.bipush 6, 2) := by decide +kernel
theorem dX12_init_401 : decode cX12_init 401 = .ok (.newarray .int, 2) := by decide +kernel
theorem dX12_init_403 : decode cX12_init 403 = .ok (.putfield 112, 3) := by decide +kernel
theorem dX12_init_406 : decode cX12_init 406 = .ok (.aload_n 0, 1) := by decide +kernel
theorem dX12_init_407 : decode cX12_init 407 = .ok (.sipush 360, 3) := by decide +kernel
theorem dX12_init_410 : decode cX12_init 410 = .ok (.newarray .long, 2) := by decide +kernel
theorem dX12_init_412 : decode cX12_init 412 = .ok (.putfield 115, 3) := by decide +kernel
theorem dX12_init_415 : decode cX12_init 415 = .ok (.aload_n 0, 1) := by decide +kernel
theorem dX12_init_416 : decode cX12_init 416 = .ok (.bipush 60, 2) := by decide +kernel
theorem dX12_init_418 : decode cX12_init 418 = .ok (.newarray .long, 2) := by decide +kernel
theorem dX12_init_420 : decode cX12_init 420 = .ok (.putfield 118, 3) := by decide +kernel
theorem dX12_init_423 : decode cX12_init 423 = .ok (.return_, 1) := by decide +kernel
theorem dX12_in_0 : decode cX12_in 0 = .ok (.iload_n 0, 1) := by decide +kernel
theorem dX12_in_1 : decode cX12_in 1 = .ok (.iload_n 1, 1) := by decide +kernel
theorem dX12_in_2 : decode cX12_in 2 = .ok (.if_icmp .lt 12, 3) := by decide +kernel
theorem dX12_in_5 : decode cX12_in 5 = .ok (.iload_n 0, 1) := by decide +kernel
theorem dX12_in_6 : decode cX12_in 6 = .ok (.iload_n 2, 1) := by decide +kernel
theorem dX12_in_7 : decode cX12_in 7 = .ok (.if_icmp .gt 7, 3) := by decide +kernel
theorem dX12_in_10 : decode cX12_in 10 = .ok (.iconst 1, 1) := by decide +kernel
theorem dX12_in_11 : decode cX12_in 11 = .ok (.goto 4, 3) := by decide +kernel
theorem dX12_in_14 : decode cX12_in 14 = .ok (.iconst 0, 1) := by decide +kernel
theorem dX12_in_15 : decode cX12_in 15 = .ok (.ireturn, 1) := by decide +kernel
theorem dX12_isBag_0 : decode cX12_isBag 0 = .ok (.iload_n 0, 1) := by decide +kernel
theorem dX12_isBag_1 : decode cX12_isBag 1 = .ok (.iconst 0, 1) := by decide +kernel
theorem dX12_isBag_2 : decode cX12_isBag 2 = .ok (.iconst 3, 1) := by decide +kernel
theorem dX12_isBag_3 : decode cX12_isBag 3 = .ok (.invokestatic 124, 3) := by decide +kernel
theorem dX12_isBag_6 : decode cX12_isBag 6 = .ok (.ireturn, 1) := by decide +kernel
theorem dX12_isLooker_0 : decode cX12_isLooker 0 = .ok (.iload_n 1, 1) := by decide +kernel
theorem dX12_isLooker_1 : decode cX12_isLooker 1 = .ok (.iconst 0, 1) := by decide +kernel
theorem dX12_isLooker_2 : decode cX12_isLooker 2 = .ok (.aload_n 0, 1) := by decide +kernel
theorem dX12_isLooker_3 : decode cX12_isLooker 3 = .ok (.getfield 128, 3) := by decide +kernel
theorem dX12_isLooker_6 : decode cX12_isLooker 6 = .ok (.iconst 1, 1) := by decide +kernel
theorem dX12_isLooker_7 : decode cX12_isLooker 7 = .ok (.isub, 1) := by decide +kernel
theorem dX12_isLooker_8 : decode cX12_isLooker 8 = .ok (.invokestatic 124, 3) := by decide +kernel
theorem dX12_isLooker_11 : decode cX12_isLooker 11 = .ok (.ireturn, 1) := by decide +kernel
theorem dX12_addLooker_0 : decode cX12_addLooker 0 = .ok (.aload_n 0, 1) := by decide +kernel
theorem dX12_addLooker_1 : decode cX12_addLooker 1 = .ok (.getfield 18, 3) := by decide +kernel
theorem dX12_addLooker_4 : decode cX12_addLooker 4 = .ok (.aload_n 0, 1) := by decide +kernel
theorem dX12_addLooker_5 : decode cX12_addLooker 5 = .ok (.getfield 128, 3) := by decide +kernel
theorem dX12_addLooker_8 : decode cX12_addLooker 8 = .ok (.iload_n 1, 1) := by decide +kernel
theorem dX12_addLooker_9 : decode cX12_addLooker 9 = .ok (.iastore, 1) := by decide +kernel
theorem dX12_addLooker_10 : decode cX12_addLooker 10 = .ok (.aload_n 0, 1) := by decide +kernel
theorem dX12_addLooker_11 : decode cX12_addLooker 11 = .ok (.getfield 21, 3) := by decide +kernel
theorem dX12_addLooker_14 : decode cX12_addLooker 14 = .ok (.aload_n 0, 1) := by decide +kernel
theorem dX12_addLooker_15 : decode cX12_addLooker 15 = .ok (.getfield 128, 3) := by decide +kernel
theorem dX12_addLooker_18 : decode cX12_addLooker 18 = .ok (.iload_n 2, 1) := by decide +kernel
theorem dX12_addLooker_19 : decode cX12_addLooker 19 = .ok (.iastore, 1) := by decide +kernel
theorem dX12_addLooker_20 : decode cX12_addLooker 20 = .ok (.aload_n 0, 1) := by decide +kernel
theorem dX12_addLooker_21 : decode cX12_addLooker 21 = .ok (.dup, 1) := by decide +kernel
theorem dX12_addLooker_22 : decode cX12_addLooker 22 = .ok (.getfield 128, 3) := by decide +kernel
theorem dX12_addLooker_25 : decode cX12_addLooker 25 = .ok (.iconst 1, 1) := by decide +kernel
theorem dX12_addLooker_26 : decode cX12_addLooker 26 = .ok (.iadd, 1) := by decide +kernel
theorem dX12_addLooker_27 : decode cX12_addLooker 27 = .ok (.putfield 128, 3) := by decide +kernel
theorem dX12_addLooker_30 : decode cX12_addLooker 30 = .ok (.aload_n 0, 1) := by decide +kernel
theorem dX12_addLooker_31 : decode cX12_addLooker 31 = .ok (.getfield 128, 3) := by decide +kernel
theorem dX12_addLooker_34 : decode cX12_addLooker 34 = .ok (.iconst 1, 1) := by decide +kernel
theorem dX12_addLooker_35 : decode cX12_addLooker 35 = .ok (.isub, 1) := by decide +kernel
theorem dX12_addLooker_36 : decode cX12_addLooker 36 = .ok (.ireturn, 1) := by decide +kernel
theorem dX12_looker_0 : decode cX12_looker 0 = .ok (.iload_n 1, 1) := by decide +kernel
theorem dX12_looker_1 : decode cX12_looker 1 = .ok (.ifCond .lt 12, 3) := by decide +kernel
theorem dX12_looker_4 : decode cX12_looker 4 = .ok (.iload_n 1, 1) := by decide +kernel
theorem dX12_looker_5 : decode cX12_looker 5 = .ok (.bipush 100, 2) := by decide +kernel
theorem dX12_looker_7 : decode cX12_looker 7 = .ok (.idiv, 1) := by decide +kernel
theorem dX12_looker_8 : decode cX12_looker 8 = .ok (.bipush 12, 2) := by decide +kernel
theorem dX12_looker_10 : decode cX12_looker 10 = .ok (.if_icmp .le 5, 3) := by decide +kernel
theorem dX12_looker_13 : decode cX12_looker 13 = .ok (.iconst (-1), 1) := by decide +kernel
theorem dX12_looker_14 : decode cX12_looker 14 = .ok (.ireturn, 1) := by decide +kernel
theorem dX12_looker_15 : decode cX12_looker 15 = .ok (.aload_n 0, 1) := by decide +kernel
theorem dX12_looker_16 : decode cX12_looker 16 = .ok (.getfield 128, 3) := by decide +kernel
theorem dX12_looker_19 : decode cX12_looker 19 = .ok (.bipush 6, 2) := by decide +kernel
theorem dX12_looker_21 : decode cX12_looker 21 = .ok (.if_icmp .ne 8, 3) := by decide +kernel
theorem dX12_looker_24 : decode cX12_looker 24 = .ok (.bipush (-3), 2) := by decide +kernel
theorem dX12_looker_26 : decode cX12_looker 26 = .ok (.goto 15, 3) := by decide +kernel
theorem dX12_looker_29 : decode cX12_looker 29 = .ok (.aload_n 0, 1) := by decide +kernel
theorem dX12_looker_30 : decode cX12_looker 30 = .ok (.iload_n 1, 1) := by decide +kernel
theorem dX12_looker_31 : decode cX12_looker 31 = .ok (.bipush 100, 2) := by decide +kernel
theorem dX12_looker_33 : decode cX12_looker 33 = .ok (.idiv, 1) := by decide +kernel
theorem dX12_looker_34 : decode cX12_looker 34 = .ok (.iload_n 1, 1) := by decide +kernel
theorem dX12_looker_35 : decode cX12_looker 35 = .ok (.bipush 100, 2) := by decide +kernel
theorem dX12_looker_37 : decode cX12_looker 37 = .ok (.irem, 1) := by decide +kernel
theorem dX12_looker_38 : decode cX12_looker 38 = .ok (.invokevirtual 131, 3) := by decide +kernel
theorem dX12_looker_41 : decode cX12_looker 41 = .ok (.ireturn, 1) := by decide +kernel
theorem dX12_lookers_0 : decode cX12_lookers 0 = .ok (.iload_n 1, 1) := by decide +kernel
theorem dX12_lookers_1 : decode cX12_lookers 1 = .ok (.invokestatic 135, 3) := by decide +kernel
theorem dX12_lookers_4 : decode cX12_lookers 4 = .ok (.ifCond .eq 13, 3) := by decide +kernel
theorem dX12_lookers_7 : decode cX12_lookers 7 = .ok (.iload_n 3, 1) := by decide +kernel
theorem dX12_lookers_8 : decode cX12_lookers 8 = .ok (.iconst 1, 1) := by decide +kernel
theorem dX12_lookers_9 : decode cX12_lookers 9 = .ok (.bipush 6, 2) := by decide +kernel
theorem dX12_lookers_11 : decode cX12_lookers 11 = .ok (.invokestatic 124, 3) := by decide +kernel
theorem dX12_lookers_14 : decode cX12_lookers 14 = .ok (.ifCond .ne 5, 3) := by decide +kernel
theorem dX12_lookers_17 : decode cX12_lookers 17 = .ok (.iconst (-1), 1) := by decide +kernel
theorem dX12_lookers_18 : decode cX12_lookers 18 = .ok (.ireturn, 1) := by decide +kernel
theorem dX12_lookers_19 : decode cX12_lookers 19 = .ok (.aload_n 0, 1) := by decide +kernel
theorem dX12_lookers_20 : decode cX12_lookers 20 = .ok (.getfield 109, 3) := by decide +kernel
theorem dX12_lookers_23 : decode cX12_lookers 23 = .ok (.iload_n 1, 1) := by decide +kernel
theorem dX12_lookers_24 : decode cX12_lookers 24 = .ok (.iaload, 1) := by decide +kernel
theorem dX12_lookers_25 : decode cX12_lookers 25 = .ok (.iconst (-1), 1) := by decide +kernel
theorem dX12_lookers_26 : decode cX12_lookers 26 = .ok (.if_icmp .eq 17, 3) := by decide +kernel
theorem dX12_lookers_29 : decode cX12_lookers 29 = .ok (.aload_n 0, 1) := by decide +kernel
theorem dX12_lookers_30 : decode cX12_lookers 30 = .ok (.getfield 109, 3) := by decide +kernel
theorem dX12_lookers_33 : decode cX12_lookers 33 = .ok (.iload_n 1, 1) := by decide +kernel
theorem dX12_lookers_34 : decode cX12_lookers 34 = .ok (.iaload, 1) := by decide +kernel
theorem dX12_lookers_35 : decode cX12_lookers 35 = .ok (.bipush (-2), 2) := by decide +kernel
theorem dX12_lookers_37 : decode cX12_lookers 37 = .ok (.if_icmp .eq 6, 3) := by decide +kernel
theorem dX12_lookers_40 : decode cX12_lookers 40 = .ok (.bipush (-12), 2) := by decide +kernel
theorem dX12_lookers_42 : decode cX12_lookers 42 = .ok (.ireturn, 1) := by decide +kernel
theorem dX12_lookers_43 : decode cX12_lookers 43 = .ok (.aload_n 0, 1) := by decide +kernel
theorem dX12_lookers_44 : decode cX12_lookers 44 = .ok (.getfield 109, 3) := by decide +kernel
theorem dX12_lookers_47 : decode cX12_lookers 47 = .ok (.iload_n 1, 1) := by decide +kernel
theorem dX12_lookers_48 : decode cX12_lookers 48 = .ok (.iaload, 1) := by decide +kernel
theorem dX12_lookers_49 : decode cX12_lookers 49 = .ok (.iconst (-1), 1) := by decide +kernel
theorem dX12_lookers_50 : decode cX12_lookers 50 = .ok (.if_icmp .ne 5, 3) := by decide +kernel
theorem dX12_lookers_53 : decode cX12_lookers 53 = .ok (.iconst 0, 1) := by decide +kernel
theorem dX12_lookers_54 : decode cX12_lookers 54 = .ok (.ireturn, 1) := by decide +kernel
theorem dX12_lookers_55 : decode cX12_lookers 55 = .ok (.iconst 0, 1) := by decide +kernel
theorem dX12_lookers_56 : decode cX12_lookers 56 = .ok (.istore 4, 2) := by decide +kernel
theorem dX12_lookers_58 : decode cX12_lookers 58 = .ok (.iload 4, 2) := by decide +kernel
theorem dX12_lookers_60 : decode cX12_lookers 60 = .ok (.iload_n 3, 1) := by decide +kernel
theorem dX12_lookers_61 : decode cX12_lookers 61 = .ok (.if_icmp .ge 125, 3) := by decide +kernel
theorem dX12_lookers_64 : decode cX12_lookers 64 = .ok (.iload_n 2, 1) := by decide +kernel
theorem dX12_lookers_65 : decode cX12_lookers 65 = .ok (.i2l, 1) := by decide +kernel
theorem dX12_lookers_66 : decode cX12_lookers 66 = .ok (.iconst 2, 1) := by decide +kernel
theorem dX12_lookers_67 : decode cX12_lookers 67 = .ok (.iload 4, 2) := by decide +kernel
theorem dX12_lookers_69 : decode cX12_lookers 69 = .ok (.imul, 1) := by decide +kernel
theorem dX12_lookers_70 : decode cX12_lookers 70 = .ok (.i2l, 1) := by decide +kernel
theorem dX12_lookers_71 : decode cX12_lookers 71 = .ok (.ladd, 1) := by decide +kernel
theorem dX12_lookers_72 : decode cX12_lookers 72 = .ok (.lstore 5, 2) := by decide +kernel
theorem dX12_lookers_74 : decode cX12_lookers 74 = .ok (.lload 5, 2) := by decide +kernel
theorem dX12_lookers_76 : decode cX12_lookers 76 = .ok (.lconst 0, 1) := by decide +kernel
theorem dX12_lookers_77 : decode cX12_lookers 77 = .ok (.lcmp, 1) := by decide +kernel
theorem dX12_lookers_78 : decode cX12_lookers 78 = .ok (.ifCond .lt 27, 3) := by decide +kernel
theorem dX12_lookers_81 : decode cX12_lookers 81 = .ok (.lload 5, 2) := by decide +kernel
theorem dX12_lookers_83 : decode cX12_lookers 83 = .ok (.lconst 1, 1) := by decide +kernel
theorem dX12_lookers_84 : decode cX12_lookers 84 = .ok (.ladd, 1) := by decide +kernel
theorem dX12_lookers_85 : decode cX12_lookers 85 = .ok (.aload_n 0, 1) := by decide +kernel
theorem dX12_lookers_86 : decode cX12_lookers 86 = .ok (.getfield 112, 3) := by decide +kernel
theorem dX12_lookers_89 : decode cX12_lookers 89 = .ok (.iload_n 1, 1) := by decide +kernel
theorem dX12_lookers_90 : decode cX12_lookers 90 = .ok (.iaload, 1) := by decide +kernel
theorem dX12_lookers_91 : decode cX12_lookers 91 = .ok (.i2l, 1) := by decide +kernel
theorem dX12_lookers_92 : decode cX12_lookers 92 = .ok (.lcmp, 1) := by decide +kernel
theorem dX12_lookers_93 : decode cX12_lookers 93 = .ok (.ifCond .ge 12, 3) := by decide +kernel
theorem dX12_lookers_96 : decode cX12_lookers 96 = .ok (.aload_n 0, 1) := by decide +kernel
theorem dX12_lookers_97 : decode cX12_lookers 97 = .ok (.getfield 128, 3) := by decide +kernel
theorem dX12_lookers_100 : decode cX12_lookers 100 = .ok (.bipush 6, 2) := by decide +kernel
theorem dX12_lookers_102 : decode cX12_lookers 102 = .ok (.if_icmp .ne 6, 3) := by decide +kernel
theorem dX12_lookers_105 : decode cX12_lookers 105 = .ok (.iload 4, 2) := by decide +kernel
theorem dX12_lookers_107 : decode cX12_lookers 107 = .ok (.ireturn, 1) := by decide +kernel
theorem dX12_lookers_108 : decode cX12_lookers 108 = .ok (.bipush 60, 2) := by decide +kernel
theorem dX12_lookers_110 : decode cX12_lookers 110 = .ok (.iload_n 1, 1) := by decide +kernel
theorem dX12_lookers_111 : decode cX12_lookers 111 = .ok (.imul, 1) := by decide +kernel
theorem dX12_lookers_112 : decode cX12_lookers 112 = .ok (.lload 5, 2) := by decide +kernel
theorem dX12_lookers_114 : decode cX12_lookers 114 = .ok (.l2i, 1) := by decide +kernel
theorem dX12_lookers_115 : decode cX12_lookers 115 = .ok (.iadd, 1) := by decide +kernel
theorem dX12_lookers_116 : decode cX12_lookers 116 = .ok (.istore 7, 2) := by decide +kernel
theorem dX12_lookers_118 : decode cX12_lookers 118 = .ok (.aload_n 0, 1) := by decide +kernel
theorem dX12_lookers_119 : decode cX12_lookers 119 = .ok (.getfield 115, 3) := by decide +kernel
theorem dX12_lookers_122 : decode cX12_lookers 122 = .ok (.iload 7, 2) := by decide +kernel
theorem dX12_lookers_124 : decode cX12_lookers 124 = .ok (.laload, 1) := by decide +kernel
theorem dX12_lookers_125 : decode cX12_lookers 125 = .ok (.l2i, 1) := by decide +kernel
theorem dX12_lookers_126 : decode cX12_lookers 126 = .ok (.iconst 0, 1) := by decide +kernel
theorem dX12_lookers_127 : decode cX12_lookers 127 = .ok (.bipush 12, 2) := by decide +kernel
theorem dX12_lookers_129 : decode cX12_lookers 129 = .ok (.invokestatic 124, 3) := by decide +kernel
theorem dX12_lookers_132 : decode cX12_lookers 132 = .ok (.ifCond .eq 22, 3) := by decide +kernel
theorem dX12_lookers_135 : decode cX12_lookers 135 = .ok (.aload_n 0, 1) := by decide +kernel
theorem dX12_lookers_136 : decode cX12_lookers 136 = .ok (.getfield 115, 3) := by decide +kernel
theorem dX12_lookers_139 : decode cX12_lookers 139 = .ok (.iload 7, 2) := by decide +kernel
theorem dX12_lookers_141 : decode cX12_lookers 141 = .ok (.iconst 1, 1) := by decide +kernel
theorem dX12_lookers_142 : decode cX12_lookers 142 = .ok (.iadd, 1) := by decide +kernel
theorem dX12_lookers_143 : decode cX12_lookers 143 = .ok (.laload, 1) := by decide +kernel
theorem dX12_lookers_144 : decode cX12_lookers 144 = .ok (.l2i, 1) := by decide +kernel
theorem dX12_lookers_145 : decode cX12_lookers 145 = .ok (.iconst 0, 1) := by decide +kernel
theorem dX12_lookers_146 : decode cX12_lookers 146 = .ok (.bipush 99, 2) := by decide +kernel
theorem dX12_lookers_148 : decode cX12_lookers 148 = .ok (.invokestatic 124, 3) := by decide +kernel
theorem dX12_lookers_151 : decode cX12_lookers 151 = .ok (.ifCond .ne 6, 3) := by decide +kernel
theorem dX12_lookers_154 : decode cX12_lookers 154 = .ok (.iload 4, 2) := by decide +kernel
theorem dX12_lookers_156 : decode cX12_lookers 156 = .ok (.ireturn, 1) := by decide +kernel
theorem dX12_lookers_157 : decode cX12_lookers 157 = .ok (.aload_n 0, 1) := by decide +kernel
theorem dX12_lookers_158 : decode cX12_lookers 158 = .ok (.aload_n 0, 1) := by decide +kernel
theorem dX12_lookers_159 : decode cX12_lookers 159 = .ok (.getfield 115, 3) := by decide +kernel
theorem dX12_lookers_162 : decode cX12_lookers 162 = .ok (.iload 7, 2) := by decide +kernel
theorem dX12_lookers_164 : decode cX12_lookers 164 = .ok (.laload, 1) := by decide +kernel
theorem dX12_lookers_165 : decode cX12_lookers 165 = .ok (.l2i, 1) := by decide +kernel
theorem dX12_lookers_166 : decode cX12_lookers 166 = .ok (.aload_n 0, 1) := by decide +kernel
theorem dX12_lookers_167 : decode cX12_lookers 167 = .ok (.getfield 115, 3) := by decide +kernel
theorem dX12_lookers_170 : decode cX12_lookers 170 = .ok (.iload 7, 2) := by decide +kernel
theorem dX12_lookers_172 : decode cX12_lookers 172 = .ok (.iconst 1, 1) := by decide +kernel
theorem dX12_lookers_173 : decode cX12_lookers 173 = .ok (.iadd, 1) := by decide +kernel
theorem dX12_lookers_174 : decode cX12_lookers 174 = .ok (.laload, 1) := by decide +kernel
theorem dX12_lookers_175 : decode cX12_lookers 175 = .ok (.l2i, 1) := by decide +kernel
theorem dX12_lookers_176 : decode cX12_lookers 176 = .ok (.invokevirtual 131, 3) := by decide +kernel
theorem dX12_lookers_179 : decode cX12_lookers 179 = .ok (.pop, 1) := by decide +kernel
theorem dX12_lookers_180 : decode cX12_lookers 180 = .ok (.iinc 4 1, 3) := by decide +kernel
theorem dX12_lookers_183 : decode cX12_lookers 183 = .ok (.goto (-125), 3) := by decide +kernel
theorem dX12_lookers_186 : decode cX12_lookers 186 = .ok (.iload_n 3, 1) := by decide +kernel
theorem dX12_lookers_187 : decode cX12_lookers 187 = .ok (.ireturn, 1) := by decide +kernel
theorem dX12_valueAt_0 : decode cX12_valueAt 0 = .ok (.iload_n 1, 1) := by decide +kernel
theorem dX12_valueAt_1 : decode cX12_valueAt 1 = .ok (.iconst 4, 1) := by decide +kernel
theorem dX12_valueAt_2 : decode cX12_valueAt 2 = .ok (.if_icmp .ge 14, 3) := by decide +kernel
theorem dX12_valueAt_5 : decode cX12_valueAt 5 = .ok (.aload_n 0, 1) := by decide +kernel
theorem dX12_valueAt_6 : decode cX12_valueAt 6 = .ok (.getfield 9, 3) := by decide +kernel
theorem dX12_valueAt_9 : decode cX12_valueAt 9 = .ok (.iconst 4, 1) := by decide +kernel
theorem dX12_valueAt_10 : decode cX12_valueAt 10 = .ok (.iload_n 2, 1) := by decide +kernel
theorem dX12_valueAt_11 : decode cX12_valueAt 11 = .ok (.imul, 1) := by decide +kernel
theorem dX12_valueAt_12 : decode cX12_valueAt 12 = .ok (.iload_n 1, 1) := by decide +kernel
theorem dX12_valueAt_13 : decode cX12_valueAt 13 = .ok (.iadd, 1) := by decide +kernel
theorem dX12_valueAt_14 : decode cX12_valueAt 14 = .ok (.iaload, 1) := by decide +kernel
theorem dX12_valueAt_15 : decode cX12_valueAt 15 = .ok (.ireturn, 1) := by decide +kernel
theorem dX12_valueAt_16 : decode cX12_valueAt 16 = .ok (.iload_n 1, 1) := by decide +kernel
theorem dX12_valueAt_17 : decode cX12_valueAt 17 = .ok (.tableswitch 84 4 10 #[43, 50, 57, 64, 69, 74, 79], 43) := by decide +kernel
theorem dX12_valueAt_60 : decode cX12_valueAt 60 = .ok (.aload_n 0, 1) := by decide +kernel
theorem dX12_valueAt_61 : decode cX12_valueAt 61 = .ok (.getfield 15, 3) := by decide +kernel
theorem dX12_valueAt_64 : decode cX12_valueAt 64 = .ok (.iload_n 2, 1) := by decide +kernel
theorem dX12_valueAt_65 : decode cX12_valueAt 65 = .ok (.iaload, 1) := by decide +kernel
theorem dX12_valueAt_66 : decode cX12_valueAt 66 = .ok (.ireturn, 1) := by decide +kernel
theorem dX12_valueAt_67 : decode cX12_valueAt 67 = .ok (.aload_n 0, 1) := by decide +kernel
theorem dX12_valueAt_68 : decode cX12_valueAt 68 = .ok (.getfield 18, 3) := by decide +kernel
theorem dX12_valueAt_71 : decode cX12_valueAt 71 = .ok (.iload_n 2, 1) := by decide +kernel
theorem dX12_valueAt_72 : decode cX12_valueAt 72 = .ok (.iaload, 1) := by decide +kernel
theorem dX12_valueAt_73 : decode cX12_valueAt 73 = .ok (.ireturn, 1) := by decide +kernel
theorem dX12_valueAt_74 : decode cX12_valueAt 74 = .ok (.aload_n 0, 1) := by decide +kernel
theorem dX12_valueAt_75 : decode cX12_valueAt 75 = .ok (.getfield 21, 3) := by decide +kernel
theorem dX12_valueAt_78 : decode cX12_valueAt 78 = .ok (.iload_n 2, 1) := by decide +kernel
theorem dX12_valueAt_79 : decode cX12_valueAt 79 = .ok (.iaload, 1) := by decide +kernel
theorem dX12_valueAt_80 : decode cX12_valueAt 80 = .ok (.ireturn, 1) := by decide +kernel
theorem dX12_valueAt_81 : decode cX12_valueAt 81 = .ok (.aload_n 0, 1) := by decide +kernel
theorem dX12_valueAt_82 : decode cX12_valueAt 82 = .ok (.getfield 139, 3) := by decide +kernel
theorem dX12_valueAt_85 : decode cX12_valueAt 85 = .ok (.ireturn, 1) := by decide +kernel
theorem dX12_valueAt_86 : decode cX12_valueAt 86 = .ok (.aload_n 0, 1) := by decide +kernel
theorem dX12_valueAt_87 : decode cX12_valueAt 87 = .ok (.getfield 24, 3) := by decide +kernel
theorem dX12_valueAt_90 : decode cX12_valueAt 90 = .ok (.ireturn, 1) := by decide +kernel
theorem dX12_valueAt_91 : decode cX12_valueAt 91 = .ok (.aload_n 0, 1) := by decide +kernel
theorem dX12_valueAt_92 : decode cX12_valueAt 92 = .ok (.getfield 28, 3) := by decide +kernel
theorem dX12_valueAt_95 : decode cX12_valueAt 95 = .ok (.ireturn, 1) := by decide +kernel
theorem dX12_valueAt_96 : decode cX12_valueAt 96 = .ok (.aload_n 0, 1) := by decide +kernel
theorem dX12_valueAt_97 : decode cX12_valueAt 97 = .ok (.getfield 31, 3) := by decide +kernel
theorem dX12_valueAt_100 : decode cX12_valueAt 100 = .ok (.ireturn, 1) := by decide +kernel
theorem dX12_valueAt_101 : decode cX12_valueAt 101 = .ok (.aload_n 0, 1) := by decide +kernel
theorem dX12_valueAt_102 : decode cX12_valueAt 102 = .ok (.getfield 34, 3) := by decide +kernel
theorem dX12_valueAt_105 : decode cX12_valueAt 105 = .ok (.ireturn, 1) := by decide +kernel
theorem dX12_lays_0 : decode cX12_lays 0 = .ok (.iload_n 1, 1) := by decide +kernel
theorem dX12_lays_1 : decode cX12_lays 1 = .ok (.tableswitch 117 4 11 #[47, 57, 67, 77, 85, 93, 101, 109], 47) := by decide +kernel
theorem dX12_lays_48 : decode cX12_lays 48 = .ok (.aload_n 0, 1) := by decide +kernel
theorem dX12_lays_49 : decode cX12_lays 49 = .ok (.getfield 15, 3) := by decide +kernel
theorem dX12_lays_52 : decode cX12_lays 52 = .ok (.iload_n 2, 1) := by decide +kernel
theorem dX12_lays_53 : decode cX12_lays 53 = .ok (.iload_n 3, 1) := by decide +kernel
theorem dX12_lays_54 : decode cX12_lays 54 = .ok (.iastore, 1) := by decide +kernel
theorem dX12_lays_55 : decode cX12_lays 55 = .ok (.goto 74, 3) := by decide +kernel
theorem dX12_lays_58 : decode cX12_lays 58 = .ok (.aload_n 0, 1) := by decide +kernel
theorem dX12_lays_59 : decode cX12_lays 59 = .ok (.getfield 18, 3) := by decide +kernel
theorem dX12_lays_62 : decode cX12_lays 62 = .ok (.iload_n 2, 1) := by decide +kernel
theorem dX12_lays_63 : decode cX12_lays 63 = .ok (.iload_n 3, 1) := by decide +kernel
theorem dX12_lays_64 : decode cX12_lays 64 = .ok (.iastore, 1) := by decide +kernel
theorem dX12_lays_65 : decode cX12_lays 65 = .ok (.goto 64, 3) := by decide +kernel
theorem dX12_lays_68 : decode cX12_lays 68 = .ok (.aload_n 0, 1) := by decide +kernel
theorem dX12_lays_69 : decode cX12_lays 69 = .ok (.getfield 21, 3) := by decide +kernel
theorem dX12_lays_72 : decode cX12_lays 72 = .ok (.iload_n 2, 1) := by decide +kernel
theorem dX12_lays_73 : decode cX12_lays 73 = .ok (.iload_n 3, 1) := by decide +kernel
theorem dX12_lays_74 : decode cX12_lays 74 = .ok (.iastore, 1) := by decide +kernel
theorem dX12_lays_75 : decode cX12_lays 75 = .ok (.goto 54, 3) := by decide +kernel
theorem dX12_lays_78 : decode cX12_lays 78 = .ok (.aload_n 0, 1) := by decide +kernel
theorem dX12_lays_79 : decode cX12_lays 79 = .ok (.iload_n 3, 1) := by decide +kernel
theorem dX12_lays_80 : decode cX12_lays 80 = .ok (.putfield 139, 3) := by decide +kernel
theorem dX12_lays_83 : decode cX12_lays 83 = .ok (.goto 46, 3) := by decide +kernel
theorem dX12_lays_86 : decode cX12_lays 86 = .ok (.aload_n 0, 1) := by decide +kernel
theorem dX12_lays_87 : decode cX12_lays 87 = .ok (.iload_n 3, 1) := by decide +kernel
theorem dX12_lays_88 : decode cX12_lays 88 = .ok (.putfield 24, 3) := by decide +kernel
theorem dX12_lays_91 : decode cX12_lays 91 = .ok (.goto 38, 3) := by decide +kernel
theorem dX12_lays_94 : decode cX12_lays 94 = .ok (.aload_n 0, 1) := by decide +kernel
theorem dX12_lays_95 : decode cX12_lays 95 = .ok (.iload_n 3, 1) := by decide +kernel
theorem dX12_lays_96 : decode cX12_lays 96 = .ok (.putfield 28, 3) := by decide +kernel
theorem dX12_lays_99 : decode cX12_lays 99 = .ok (.goto 30, 3) := by decide +kernel
theorem dX12_lays_102 : decode cX12_lays 102 = .ok (.aload_n 0, 1) := by decide +kernel
theorem dX12_lays_103 : decode cX12_lays 103 = .ok (.iload_n 3, 1) := by decide +kernel
theorem dX12_lays_104 : decode cX12_lays 104 = .ok (.putfield 31, 3) := by decide +kernel
theorem dX12_lays_107 : decode cX12_lays 107 = .ok (.goto 22, 3) := by decide +kernel
theorem dX12_lays_110 : decode cX12_lays 110 = .ok (.aload_n 0, 1) := by decide +kernel
theorem dX12_lays_111 : decode cX12_lays 111 = .ok (.iload_n 3, 1) := by decide +kernel
theorem dX12_lays_112 : decode cX12_lays 112 = .ok (.putfield 34, 3) := by decide +kernel
theorem dX12_lays_115 : decode cX12_lays 115 = .ok (.goto 14, 3) := by decide +kernel
theorem dX12_lays_118 : decode cX12_lays 118 = .ok (.aload_n 0, 1) := by decide +kernel
theorem dX12_lays_119 : decode cX12_lays 119 = .ok (.getfield 9, 3) := by decide +kernel
theorem dX12_lays_122 : decode cX12_lays 122 = .ok (.iconst 4, 1) := by decide +kernel
theorem dX12_lays_123 : decode cX12_lays 123 = .ok (.iload_n 2, 1) := by decide +kernel
theorem dX12_lays_124 : decode cX12_lays 124 = .ok (.imul, 1) := by decide +kernel
theorem dX12_lays_125 : decode cX12_lays 125 = .ok (.iload_n 1, 1) := by decide +kernel
theorem dX12_lays_126 : decode cX12_lays 126 = .ok (.iadd, 1) := by decide +kernel
theorem dX12_lays_127 : decode cX12_lays 127 = .ok (.iload_n 3, 1) := by decide +kernel
theorem dX12_lays_128 : decode cX12_lays 128 = .ok (.iastore, 1) := by decide +kernel
theorem dX12_lays_129 : decode cX12_lays 129 = .ok (.return_, 1) := by decide +kernel
theorem dX12_changes_0 : decode cX12_changes 0 = .ok (.aload_n 0, 1) := by decide +kernel
theorem dX12_changes_1 : decode cX12_changes 1 = .ok (.iload_n 1, 1) := by decide +kernel
theorem dX12_changes_2 : decode cX12_changes 2 = .ok (.iload_n 2, 1) := by decide +kernel
theorem dX12_changes_3 : decode cX12_changes 3 = .ok (.invokevirtual 142, 3) := by decide +kernel
theorem dX12_changes_6 : decode cX12_changes 6 = .ok (.istore 4, 2) := by decide +kernel
theorem dX12_changes_8 : decode cX12_changes 8 = .ok (.iload 4, 2) := by decide +kernel
theorem dX12_changes_10 : decode cX12_changes 10 = .ok (.iload_n 3, 1) := by decide +kernel
theorem dX12_changes_11 : decode cX12_changes 11 = .ok (.if_icmp .ne 6, 3) := by decide +kernel
theorem dX12_changes_14 : decode cX12_changes 14 = .ok (.iload 4, 2) := by decide +kernel
theorem dX12_changes_16 : decode cX12_changes 16 = .ok (.ireturn, 1) := by decide +kernel
theorem dX12_changes_17 : decode cX12_changes 17 = .ok (.aload_n 0, 1) := by decide +kernel
theorem dX12_changes_18 : decode cX12_changes 18 = .ok (.iconst 0, 1) := by decide +kernel
theorem dX12_changes_19 : decode cX12_changes 19 = .ok (.putfield 145, 3) := by decide +kernel
theorem dX12_changes_22 : decode cX12_changes 22 = .ok (.aload_n 0, 1) := by decide +kernel
theorem dX12_changes_23 : decode cX12_changes 23 = .ok (.getfield 148, 3) := by decide +kernel
theorem dX12_changes_26 : decode cX12_changes 26 = .ok (.bipush 40, 2) := by decide +kernel
theorem dX12_changes_28 : decode cX12_changes 28 = .ok (.if_icmp .ne 93, 3) := by decide +kernel
theorem dX12_changes_31 : decode cX12_changes 31 = .ok (.iconst 1, 1) := by decide +kernel
theorem dX12_changes_32 : decode cX12_changes 32 = .ok (.istore 5, 2) := by decide +kernel
theorem dX12_changes_34 : decode cX12_changes 34 = .ok (.iload 5, 2) := by decide +kernel
theorem dX12_changes_36 : decode cX12_changes 36 = .ok (.bipush 40, 2) := by decide +kernel
theorem dX12_changes_38 : decode cX12_changes 38 = .ok (.if_icmp .ge 73, 3) := by decide +kernel
theorem dX12_changes_41 : decode cX12_changes 41 = .ok (.aload_n 0, 1) := by decide +kernel
theorem dX12_changes_42 : decode cX12_changes 42 = .ok (.getfield 37, 3) := by decide +kernel
theorem dX12_changes_45 : decode cX12_changes 45 = .ok (.iload 5, 2) := by decide +kernel
theorem dX12_changes_47 : decode cX12_changes 47 = .ok (.iconst 1, 1) := by decide +kernel
theorem dX12_changes_48 : decode cX12_changes 48 = .ok (.isub, 1) := by decide +kernel
theorem dX12_changes_49 : decode cX12_changes 49 = .ok (.aload_n 0, 1) := by decide +kernel
theorem dX12_changes_50 : decode cX12_changes 50 = .ok (.getfield 37, 3) := by decide +kernel
theorem dX12_changes_53 : decode cX12_changes 53 = .ok (.iload 5, 2) := by decide +kernel
theorem dX12_changes_55 : decode cX12_changes 55 = .ok (.iaload, 1) := by decide +kernel
theorem dX12_changes_56 : decode cX12_changes 56 = .ok (.iastore, 1) := by decide +kernel
theorem dX12_changes_57 : decode cX12_changes 57 = .ok (.aload_n 0, 1) := by decide +kernel
theorem dX12_changes_58 : decode cX12_changes 58 = .ok (.getfield 40, 3) := by decide +kernel
theorem dX12_changes_61 : decode cX12_changes 61 = .ok (.iload 5, 2) := by decide +kernel
theorem dX12_changes_63 : decode cX12_changes 63 = .ok (.iconst 1, 1) := by decide +kernel
theorem dX12_changes_64 : decode cX12_changes 64 = .ok (.isub, 1) := by decide +kernel
theorem dX12_changes_65 : decode cX12_changes 65 = .ok (.aload_n 0, 1) := by decide +kernel
theorem dX12_changes_66 : decode cX12_changes 66 = .ok (.getfield 40, 3) := by decide +kernel
theorem dX12_changes_69 : decode cX12_changes 69 = .ok (.iload 5, 2) := by decide +kernel
theorem dX12_changes_71 : decode cX12_changes 71 = .ok (.iaload, 1) := by decide +kernel
theorem dX12_changes_72 : decode cX12_changes 72 = .ok (.iastore, 1) := by decide +kernel
theorem dX12_changes_73 : decode cX12_changes 73 = .ok (.aload_n 0, 1) := by decide +kernel
theorem dX12_changes_74 : decode cX12_changes 74 = .ok (.getfield 43, 3) := by decide +kernel
theorem dX12_changes_77 : decode cX12_changes 77 = .ok (.iload 5, 2) := by decide +kernel
theorem dX12_changes_79 : decode cX12_changes 79 = .ok (.iconst 1, 1) := by decide +kernel
theorem dX12_changes_80 : decode cX12_changes 80 = .ok (.isub, 1) := by decide +kernel
theorem dX12_changes_81 : decode cX12_changes 81 = .ok (.aload_n 0, 1) := by decide +kernel
theorem dX12_changes_82 : decode cX12_changes 82 = .ok (.getfield 43, 3) := by decide +kernel
theorem dX12_changes_85 : decode cX12_changes 85 = .ok (.iload 5, 2) := by decide +kernel
theorem dX12_changes_87 : decode cX12_changes 87 = .ok (.iaload, 1) := by decide +kernel
theorem dX12_changes_88 : decode cX12_changes 88 = .ok (.iastore, 1) := by decide +kernel
theorem dX12_changes_89 : decode cX12_changes 89 = .ok (.aload_n 0, 1) := by decide +kernel
theorem dX12_changes_90 : decode cX12_changes 90 = .ok (.getfield 46, 3) := by decide +kernel
theorem dX12_changes_93 : decode cX12_changes 93 = .ok (.iload 5, 2) := by decide +kernel
theorem dX12_changes_95 : decode cX12_changes 95 = .ok (.iconst 1, 1) := by decide +kernel
theorem dX12_changes_96 : decode cX12_changes 96 = .ok (.isub, 1) := by decide +kernel
theorem dX12_changes_97 : decode cX12_changes 97 = .ok (.aload_n 0, 1) := by decide +kernel
theorem dX12_changes_98 : decode cX12_changes 98 = .ok (.getfield 46, 3) := by decide +kernel
theorem dX12_changes_101 : decode cX12_changes 101 = .ok (.iload 5, 2) := by decide +kernel
theorem dX12_changes_103 : decode cX12_changes 103 = .ok (.iaload, 1) := by decide +kernel
theorem dX12_changes_104 : decode cX12_changes 104 = .ok (.iastore, 1) := by decide +kernel
theorem dX12_changes_105 : decode cX12_changes 105 = .ok (.iinc 5 1, 3) := by decide +kernel
theorem dX12_changes_108 : decode cX12_changes 108 = .ok (.goto (-74), 3) := by decide +kernel
theorem dX12_changes_111 : decode cX12_changes 111 = .ok (.aload_n 0, 1) := by decide +kernel
theorem dX12_changes_112 : decode cX12_changes 112 = .ok (.dup, 1) := by decide +kernel
theorem dX12_changes_113 : decode cX12_changes 113 = .ok (.getfield 148, 3) := by decide +kernel
theorem dX12_changes_116 : decode cX12_changes 116 = .ok (.iconst 1, 1) := by decide +kernel
theorem dX12_changes_117 : decode cX12_changes 117 = .ok (.isub, 1) := by decide +kernel
theorem dX12_changes_118 : decode cX12_changes 118 = .ok (.putfield 148, 3) := by decide +kernel
theorem dX12_changes_121 : decode cX12_changes 121 = .ok (.aload_n 0, 1) := by decide +kernel
theorem dX12_changes_122 : decode cX12_changes 122 = .ok (.getfield 37, 3) := by decide +kernel
theorem dX12_changes_125 : decode cX12_changes 125 = .ok (.aload_n 0, 1) := by decide +kernel
theorem dX12_changes_126 : decode cX12_changes 126 = .ok (.getfield 148, 3) := by decide +kernel
theorem dX12_changes_129 : decode cX12_changes 129 = .ok (.iload_n 1, 1) := by decide +kernel
theorem dX12_changes_130 : decode cX12_changes 130 = .ok (.iastore, 1) := by decide +kernel
theorem dX12_changes_131 : decode cX12_changes 131 = .ok (.aload_n 0, 1) := by decide +kernel
theorem dX12_changes_132 : decode cX12_changes 132 = .ok (.getfield 40, 3) := by decide +kernel
theorem dX12_changes_135 : decode cX12_changes 135 = .ok (.aload_n 0, 1) := by decide +kernel
theorem dX12_changes_136 : decode cX12_changes 136 = .ok (.getfield 148, 3) := by decide +kernel
theorem dX12_changes_139 : decode cX12_changes 139 = .ok (.iload_n 2, 1) := by decide +kernel
theorem dX12_changes_140 : decode cX12_changes 140 = .ok (.iastore, 1) := by decide +kernel
theorem dX12_changes_141 : decode cX12_changes 141 = .ok (.aload_n 0, 1) := by decide +kernel
theorem dX12_changes_142 : decode cX12_changes 142 = .ok (.getfield 43, 3) := by decide +kernel
theorem dX12_changes_145 : decode cX12_changes 145 = .ok (.aload_n 0, 1) := by decide +kernel
theorem dX12_changes_146 : decode cX12_changes 146 = .ok (.getfield 148, 3) := by decide +kernel
theorem dX12_changes_149 : decode cX12_changes 149 = .ok (.iload 4, 2) := by decide +kernel
theorem dX12_changes_151 : decode cX12_changes 151 = .ok (.iastore, 1) := by decide +kernel
theorem dX12_changes_152 : decode cX12_changes 152 = .ok (.aload_n 0, 1) := by decide +kernel
theorem dX12_changes_153 : decode cX12_changes 153 = .ok (.getfield 46, 3) := by decide +kernel
theorem dX12_changes_156 : decode cX12_changes 156 = .ok (.aload_n 0, 1) := by decide +kernel
theorem dX12_changes_157 : decode cX12_changes 157 = .ok (.getfield 148, 3) := by decide +kernel
theorem dX12_changes_160 : decode cX12_changes 160 = .ok (.iload_n 3, 1) := by decide +kernel
theorem dX12_changes_161 : decode cX12_changes 161 = .ok (.iastore, 1) := by decide +kernel
theorem dX12_changes_162 : decode cX12_changes 162 = .ok (.aload_n 0, 1) := by decide +kernel
theorem dX12_changes_163 : decode cX12_changes 163 = .ok (.dup, 1) := by decide +kernel
theorem dX12_changes_164 : decode cX12_changes 164 = .ok (.getfield 148, 3) := by decide +kernel
theorem dX12_changes_167 : decode cX12_changes 167 = .ok (.iconst 1, 1) := by decide +kernel
theorem dX12_changes_168 : decode cX12_changes 168 = .ok (.iadd, 1) := by decide +kernel
theorem dX12_changes_169 : decode cX12_changes 169 = .ok (.putfield 148, 3) := by decide +kernel
theorem dX12_changes_172 : decode cX12_changes 172 = .ok (.aload_n 0, 1) := by decide +kernel
theorem dX12_changes_173 : decode cX12_changes 173 = .ok (.iload_n 1, 1) := by decide +kernel
theorem dX12_changes_174 : decode cX12_changes 174 = .ok (.iload_n 2, 1) := by decide +kernel
theorem dX12_changes_175 : decode cX12_changes 175 = .ok (.iload_n 3, 1) := by decide +kernel
theorem dX12_changes_176 : decode cX12_changes 176 = .ok (.invokevirtual 151, 3) := by decide +kernel
theorem dX12_changes_179 : decode cX12_changes 179 = .ok (.iload 4, 2) := by decide +kernel
theorem dX12_changes_181 : decode cX12_changes 181 = .ok (.ireturn, 1) := by decide +kernel
theorem dX12_undo_0 : decode cX12_undo 0 = .ok (.aload_n 0, 1) := by decide +kernel
theorem dX12_undo_1 : decode cX12_undo 1 = .ok (.getfield 148, 3) := by decide +kernel
theorem dX12_undo_4 : decode cX12_undo 4 = .ok (.ifCond .ne 6, 3) := by decide +kernel
theorem dX12_undo_7 : decode cX12_undo 7 = .ok (.bipush (-5), 2) := by decide +kernel
theorem dX12_undo_9 : decode cX12_undo 9 = .ok (.ireturn, 1) := by decide +kernel
theorem dX12_undo_10 : decode cX12_undo 10 = .ok (.aload_n 0, 1) := by decide +kernel
theorem dX12_undo_11 : decode cX12_undo 11 = .ok (.dup, 1) := by decide +kernel
theorem dX12_undo_12 : decode cX12_undo 12 = .ok (.getfield 148, 3) := by decide +kernel
theorem dX12_undo_15 : decode cX12_undo 15 = .ok (.iconst 1, 1) := by decide +kernel
theorem dX12_undo_16 : decode cX12_undo 16 = .ok (.isub, 1) := by decide +kernel
theorem dX12_undo_17 : decode cX12_undo 17 = .ok (.putfield 148, 3) := by decide +kernel
theorem dX12_undo_20 : decode cX12_undo 20 = .ok (.aload_n 0, 1) := by decide +kernel
theorem dX12_undo_21 : decode cX12_undo 21 = .ok (.dup, 1) := by decide +kernel
theorem dX12_undo_22 : decode cX12_undo 22 = .ok (.getfield 145, 3) := by decide +kernel
theorem dX12_undo_25 : decode cX12_undo 25 = .ok (.iconst 1, 1) := by decide +kernel
theorem dX12_undo_26 : decode cX12_undo 26 = .ok (.iadd, 1) := by decide +kernel
theorem dX12_undo_27 : decode cX12_undo 27 = .ok (.putfield 145, 3) := by decide +kernel
theorem dX12_undo_30 : decode cX12_undo 30 = .ok (.aload_n 0, 1) := by decide +kernel
theorem dX12_undo_31 : decode cX12_undo 31 = .ok (.aload_n 0, 1) := by decide +kernel
theorem dX12_undo_32 : decode cX12_undo 32 = .ok (.getfield 37, 3) := by decide +kernel
theorem dX12_undo_35 : decode cX12_undo 35 = .ok (.aload_n 0, 1) := by decide +kernel
theorem dX12_undo_36 : decode cX12_undo 36 = .ok (.getfield 148, 3) := by decide +kernel
theorem dX12_undo_39 : decode cX12_undo 39 = .ok (.iaload, 1) := by decide +kernel
theorem dX12_undo_40 : decode cX12_undo 40 = .ok (.aload_n 0, 1) := by decide +kernel
theorem dX12_undo_41 : decode cX12_undo 41 = .ok (.getfield 40, 3) := by decide +kernel
theorem dX12_undo_44 : decode cX12_undo 44 = .ok (.aload_n 0, 1) := by decide +kernel
theorem dX12_undo_45 : decode cX12_undo 45 = .ok (.getfield 148, 3) := by decide +kernel
theorem dX12_undo_48 : decode cX12_undo 48 = .ok (.iaload, 1) := by decide +kernel
theorem dX12_undo_49 : decode cX12_undo 49 = .ok (.aload_n 0, 1) := by decide +kernel
theorem dX12_undo_50 : decode cX12_undo 50 = .ok (.getfield 43, 3) := by decide +kernel
theorem dX12_undo_53 : decode cX12_undo 53 = .ok (.aload_n 0, 1) := by decide +kernel
theorem dX12_undo_54 : decode cX12_undo 54 = .ok (.getfield 148, 3) := by decide +kernel
theorem dX12_undo_57 : decode cX12_undo 57 = .ok (.iaload, 1) := by decide +kernel
theorem dX12_undo_58 : decode cX12_undo 58 = .ok (.invokevirtual 151, 3) := by decide +kernel
theorem dX12_undo_61 : decode cX12_undo 61 = .ok (.aload_n 0, 1) := by decide +kernel
theorem dX12_undo_62 : decode cX12_undo 62 = .ok (.getfield 148, 3) := by decide +kernel
theorem dX12_undo_65 : decode cX12_undo 65 = .ok (.ireturn, 1) := by decide +kernel
theorem dX12_redo_0 : decode cX12_redo 0 = .ok (.aload_n 0, 1) := by decide +kernel
theorem dX12_redo_1 : decode cX12_redo 1 = .ok (.getfield 145, 3) := by decide +kernel
theorem dX12_redo_4 : decode cX12_redo 4 = .ok (.ifCond .ne 6, 3) := by decide +kernel
theorem dX12_redo_7 : decode cX12_redo 7 = .ok (.bipush (-5), 2) := by decide +kernel
theorem dX12_redo_9 : decode cX12_redo 9 = .ok (.ireturn, 1) := by decide +kernel
theorem dX12_redo_10 : decode cX12_redo 10 = .ok (.aload_n 0, 1) := by decide +kernel
theorem dX12_redo_11 : decode cX12_redo 11 = .ok (.aload_n 0, 1) := by decide +kernel
theorem dX12_redo_12 : decode cX12_redo 12 = .ok (.getfield 37, 3) := by decide +kernel
theorem dX12_redo_15 : decode cX12_redo 15 = .ok (.aload_n 0, 1) := by decide +kernel
theorem dX12_redo_16 : decode cX12_redo 16 = .ok (.getfield 148, 3) := by decide +kernel
theorem dX12_redo_19 : decode cX12_redo 19 = .ok (.iaload, 1) := by decide +kernel
theorem dX12_redo_20 : decode cX12_redo 20 = .ok (.aload_n 0, 1) := by decide +kernel
theorem dX12_redo_21 : decode cX12_redo 21 = .ok (.getfield 40, 3) := by decide +kernel
theorem dX12_redo_24 : decode cX12_redo 24 = .ok (.aload_n 0, 1) := by decide +kernel
theorem dX12_redo_25 : decode cX12_redo 25 = .ok (.getfield 148, 3) := by decide +kernel
theorem dX12_redo_28 : decode cX12_redo 28 = .ok (.iaload, 1) := by decide +kernel
theorem dX12_redo_29 : decode cX12_redo 29 = .ok (.aload_n 0, 1) := by decide +kernel
theorem dX12_redo_30 : decode cX12_redo 30 = .ok (.getfield 46, 3) := by decide +kernel
theorem dX12_redo_33 : decode cX12_redo 33 = .ok (.aload_n 0, 1) := by decide +kernel
theorem dX12_redo_34 : decode cX12_redo 34 = .ok (.getfield 148, 3) := by decide +kernel
theorem dX12_redo_37 : decode cX12_redo 37 = .ok (.iaload, 1) := by decide +kernel
theorem dX12_redo_38 : decode cX12_redo 38 = .ok (.invokevirtual 151, 3) := by decide +kernel
theorem dX12_redo_41 : decode cX12_redo 41 = .ok (.aload_n 0, 1) := by decide +kernel
theorem dX12_redo_42 : decode cX12_redo 42 = .ok (.dup, 1) := by decide +kernel
theorem dX12_redo_43 : decode cX12_redo 43 = .ok (.getfield 148, 3) := by decide +kernel
theorem dX12_redo_46 : decode cX12_redo 46 = .ok (.iconst 1, 1) := by decide +kernel
theorem dX12_redo_47 : decode cX12_redo 47 = .ok (.iadd, 1) := by decide +kernel
theorem dX12_redo_48 : decode cX12_redo 48 = .ok (.putfield 148, 3) := by decide +kernel
theorem dX12_redo_51 : decode cX12_redo 51 = .ok (.aload_n 0, 1) := by decide +kernel
theorem dX12_redo_52 : decode cX12_redo 52 = .ok (.dup, 1) := by decide +kernel
theorem dX12_redo_53 : decode cX12_redo 53 = .ok (.getfield 145, 3) := by decide +kernel
theorem dX12_redo_56 : decode cX12_redo 56 = .ok (.iconst 1, 1) := by decide +kernel
theorem dX12_redo_57 : decode cX12_redo 57 = .ok (.isub, 1) := by decide +kernel
theorem dX12_redo_58 : decode cX12_redo 58 = .ok (.putfield 145, 3) := by decide +kernel
theorem dX12_redo_61 : decode cX12_redo 61 = .ok (.aload_n 0, 1) := by decide +kernel
theorem dX12_redo_62 : decode cX12_redo 62 = .ok (.getfield 145, 3) := by decide +kernel
theorem dX12_redo_65 : decode cX12_redo 65 = .ok (.ireturn, 1) := by decide +kernel
theorem dX12_isOne_0 : decode cX12_isOne 0 = .ok (.iload_n 2, 1) := by decide +kernel
theorem dX12_isOne_1 : decode cX12_isOne 1 = .ok (.iconst 0, 1) := by decide +kernel
theorem dX12_isOne_2 : decode cX12_isOne 2 = .ok (.iconst 4, 1) := by decide +kernel
theorem dX12_isOne_3 : decode cX12_isOne 3 = .ok (.invokestatic 124, 3) := by decide +kernel
theorem dX12_isOne_6 : decode cX12_isOne 6 = .ok (.ifCond .eq 8, 3) := by decide +kernel
theorem dX12_isOne_9 : decode cX12_isOne 9 = .ok (.iload_n 1, 1) := by decide +kernel
theorem dX12_isOne_10 : decode cX12_isOne 10 = .ok (.invokestatic 155, 3) := by decide +kernel
theorem dX12_isOne_13 : decode cX12_isOne 13 = .ok (.ireturn, 1) := by decide +kernel
theorem dX12_isOne_14 : decode cX12_isOne 14 = .ok (.iload_n 2, 1) := by decide +kernel
theorem dX12_isOne_15 : decode cX12_isOne 15 = .ok (.iconst 5, 1) := by decide +kernel
theorem dX12_isOne_16 : decode cX12_isOne 16 = .ok (.bipush 6, 2) := by decide +kernel
theorem dX12_isOne_18 : decode cX12_isOne 18 = .ok (.invokestatic 124, 3) := by decide +kernel
theorem dX12_isOne_21 : decode cX12_isOne 21 = .ok (.ifCond .eq 11, 3) := by decide +kernel
theorem dX12_isOne_24 : decode cX12_isOne 24 = .ok (.aload_n 0, 1) := by decide +kernel
theorem dX12_isOne_25 : decode cX12_isOne 25 = .ok (.iload_n 1, 1) := by decide +kernel
theorem dX12_isOne_26 : decode cX12_isOne 26 = .ok (.invokevirtual 158, 3) := by decide +kernel
theorem dX12_isOne_29 : decode cX12_isOne 29 = .ok (.goto 23, 3) := by decide +kernel
theorem dX12_isOne_32 : decode cX12_isOne 32 = .ok (.iload_n 2, 1) := by decide +kernel
theorem dX12_isOne_33 : decode cX12_isOne 33 = .ok (.bipush 7, 2) := by decide +kernel
theorem dX12_isOne_35 : decode cX12_isOne 35 = .ok (.bipush 11, 2) := by decide +kernel
theorem dX12_isOne_37 : decode cX12_isOne 37 = .ok (.invokestatic 124, 3) := by decide +kernel
theorem dX12_isOne_40 : decode cX12_isOne 40 = .ok (.ifCond .eq 11, 3) := by decide +kernel
theorem dX12_isOne_43 : decode cX12_isOne 43 = .ok (.iload_n 1, 1) := by decide +kernel
theorem dX12_isOne_44 : decode cX12_isOne 44 = .ok (.ifCond .ne 7, 3) := by decide +kernel
theorem dX12_isOne_47 : decode cX12_isOne 47 = .ok (.iconst 1, 1) := by decide +kernel
theorem dX12_isOne_48 : decode cX12_isOne 48 = .ok (.goto 4, 3) := by decide +kernel
theorem dX12_isOne_51 : decode cX12_isOne 51 = .ok (.iconst 0, 1) := by decide +kernel
theorem dX12_isOne_52 : decode cX12_isOne 52 = .ok (.ireturn, 1) := by decide +kernel
theorem dX12_mayBe_0 : decode cX12_mayBe 0 = .ok (.iload_n 0, 1) := by decide +kernel
theorem dX12_mayBe_1 : decode cX12_mayBe 1 = .ok (.tableswitch 96 4 11 #[47, 55, 63, 96, 96, 71, 79, 88], 47) := by decide +kernel
theorem dX12_mayBe_48 : decode cX12_mayBe 48 = .ok (.iload_n 1, 1) := by decide +kernel
theorem dX12_mayBe_49 : decode cX12_mayBe 49 = .ok (.iconst 0, 1) := by decide +kernel
theorem dX12_mayBe_50 : decode cX12_mayBe 50 = .ok (.bipush 99, 2) := by decide +kernel
theorem dX12_mayBe_52 : decode cX12_mayBe 52 = .ok (.invokestatic 124, 3) := by decide +kernel
theorem dX12_mayBe_55 : decode cX12_mayBe 55 = .ok (.ireturn, 1) := by decide +kernel
theorem dX12_mayBe_56 : decode cX12_mayBe 56 = .ok (.iload_n 1, 1) := by decide +kernel
theorem dX12_mayBe_57 : decode cX12_mayBe 57 = .ok (.iconst 0, 1) := by decide +kernel
theorem dX12_mayBe_58 : decode cX12_mayBe 58 = .ok (.bipush 12, 2) := by decide +kernel
theorem dX12_mayBe_60 : decode cX12_mayBe 60 = .ok (.invokestatic 124, 3) := by decide +kernel
theorem dX12_mayBe_63 : decode cX12_mayBe 63 = .ok (.ireturn, 1) := by decide +kernel
theorem dX12_mayBe_64 : decode cX12_mayBe 64 = .ok (.iload_n 1, 1) := by decide +kernel
theorem dX12_mayBe_65 : decode cX12_mayBe 65 = .ok (.iconst 0, 1) := by decide +kernel
theorem dX12_mayBe_66 : decode cX12_mayBe 66 = .ok (.bipush 99, 2) := by decide +kernel
theorem dX12_mayBe_68 : decode cX12_mayBe 68 = .ok (.invokestatic 124, 3) := by decide +kernel
theorem dX12_mayBe_71 : decode cX12_mayBe 71 = .ok (.ireturn, 1) := by decide +kernel
theorem dX12_mayBe_72 : decode cX12_mayBe 72 = .ok (.iload_n 1, 1) := by decide +kernel
theorem dX12_mayBe_73 : decode cX12_mayBe 73 = .ok (.iconst 1, 1) := by decide +kernel
theorem dX12_mayBe_74 : decode cX12_mayBe 74 = .ok (.bipush 9, 2) := by decide +kernel
theorem dX12_mayBe_76 : decode cX12_mayBe 76 = .ok (.invokestatic 124, 3) := by decide +kernel
theorem dX12_mayBe_79 : decode cX12_mayBe 79 = .ok (.ireturn, 1) := by decide +kernel
theorem dX12_mayBe_80 : decode cX12_mayBe 80 = .ok (.iload_n 1, 1) := by decide +kernel
theorem dX12_mayBe_81 : decode cX12_mayBe 81 = .ok (.iconst 0, 1) := by decide +kernel
theorem dX12_mayBe_82 : decode cX12_mayBe 82 = .ok (.sipush 999, 3) := by decide +kernel
theorem dX12_mayBe_85 : decode cX12_mayBe 85 = .ok (.invokestatic 124, 3) := by decide +kernel
theorem dX12_mayBe_88 : decode cX12_mayBe 88 = .ok (.ireturn, 1) := by decide +kernel
theorem dX12_mayBe_89 : decode cX12_mayBe 89 = .ok (.iload_n 1, 1) := by decide +kernel
theorem dX12_mayBe_90 : decode cX12_mayBe 90 = .ok (.iconst 0, 1) := by decide +kernel
theorem dX12_mayBe_91 : decode cX12_mayBe 91 = .ok (.bipush 12, 2) := by decide +kernel
theorem dX12_mayBe_93 : decode cX12_mayBe 93 = .ok (.invokestatic 124, 3) := by decide +kernel
theorem dX12_mayBe_96 : decode cX12_mayBe 96 = .ok (.ireturn, 1) := by decide +kernel
theorem dX12_mayBe_97 : decode cX12_mayBe 97 = .ok (.iload_n 1, 1) := by decide +kernel
theorem dX12_mayBe_98 : decode cX12_mayBe 98 = .ok (.iconst 0, 1) := by decide +kernel
theorem dX12_mayBe_99 : decode cX12_mayBe 99 = .ok (.bipush 9, 2) := by decide +kernel
theorem dX12_mayBe_101 : decode cX12_mayBe 101 = .ok (.invokestatic 124, 3) := by decide +kernel
theorem dX12_mayBe_104 : decode cX12_mayBe 104 = .ok (.ireturn, 1) := by decide +kernel
theorem dX12_mend_0 : decode cX12_mend 0 = .ok (.aload_n 0, 1) := by decide +kernel
theorem dX12_mend_1 : decode cX12_mend 1 = .ok (.iload_n 1, 1) := by decide +kernel
theorem dX12_mend_2 : decode cX12_mend 2 = .ok (.iload_n 2, 1) := by decide +kernel
theorem dX12_mend_3 : decode cX12_mend 3 = .ok (.invokevirtual 161, 3) := by decide +kernel
theorem dX12_mend_6 : decode cX12_mend 6 = .ok (.ifCond .eq 21, 3) := by decide +kernel
theorem dX12_mend_9 : decode cX12_mend 9 = .ok (.iload_n 2, 1) := by decide +kernel
theorem dX12_mend_10 : decode cX12_mend 10 = .ok (.iload_n 3, 1) := by decide +kernel
theorem dX12_mend_11 : decode cX12_mend 11 = .ok (.invokestatic 165, 3) := by decide +kernel
theorem dX12_mend_14 : decode cX12_mend 14 = .ok (.ifCond .eq 13, 3) := by decide +kernel
theorem dX12_mend_17 : decode cX12_mend 17 = .ok (.aload_n 0, 1) := by decide +kernel
theorem dX12_mend_18 : decode cX12_mend 18 = .ok (.iload_n 2, 1) := by decide +kernel
theorem dX12_mend_19 : decode cX12_mend 19 = .ok (.iload_n 1, 1) := by decide +kernel
theorem dX12_mend_20 : decode cX12_mend 20 = .ok (.iload_n 3, 1) := by decide +kernel
theorem dX12_mend_21 : decode cX12_mend 21 = .ok (.invokevirtual 168, 3) := by decide +kernel
theorem dX12_mend_24 : decode cX12_mend 24 = .ok (.goto 4, 3) := by decide +kernel
theorem dX12_mend_27 : decode cX12_mend 27 = .ok (.iconst (-1), 1) := by decide +kernel
theorem dX12_mend_28 : decode cX12_mend 28 = .ok (.ireturn, 1) := by decide +kernel
theorem dX12_of_0 : decode cX12_of 0 = .ok (.aload_n 0, 1) := by decide +kernel
theorem dX12_of_1 : decode cX12_of 1 = .ok (.iload_n 1, 1) := by decide +kernel
theorem dX12_of_2 : decode cX12_of 2 = .ok (.iload_n 2, 1) := by decide +kernel
theorem dX12_of_3 : decode cX12_of 3 = .ok (.invokevirtual 161, 3) := by decide +kernel
theorem dX12_of_6 : decode cX12_of 6 = .ok (.ifCond .eq 12, 3) := by decide +kernel
theorem dX12_of_9 : decode cX12_of 9 = .ok (.aload_n 0, 1) := by decide +kernel
theorem dX12_of_10 : decode cX12_of 10 = .ok (.iload_n 2, 1) := by decide +kernel
theorem dX12_of_11 : decode cX12_of 11 = .ok (.iload_n 1, 1) := by decide +kernel
theorem dX12_of_12 : decode cX12_of 12 = .ok (.invokevirtual 142, 3) := by decide +kernel
theorem dX12_of_15 : decode cX12_of 15 = .ok (.goto 4, 3) := by decide +kernel
theorem dX12_of_18 : decode cX12_of 18 = .ok (.iconst (-1), 1) := by decide +kernel
theorem dX12_of_19 : decode cX12_of 19 = .ok (.ireturn, 1) := by decide +kernel
theorem dX12_feed_0 : decode cX12_feed 0 = .ok (.iload_n 1, 1) := by decide +kernel
theorem dX12_feed_1 : decode cX12_feed 1 = .ok (.iconst 0, 1) := by decide +kernel
theorem dX12_feed_2 : decode cX12_feed 2 = .ok (.sipush 255, 3) := by decide +kernel
theorem dX12_feed_5 : decode cX12_feed 5 = .ok (.invokestatic 124, 3) := by decide +kernel
theorem dX12_feed_8 : decode cX12_feed 8 = .ok (.ifCond .ne 5, 3) := by decide +kernel
theorem dX12_feed_11 : decode cX12_feed 11 = .ok (.iconst (-1), 1) := by decide +kernel
theorem dX12_feed_12 : decode cX12_feed 12 = .ok (.ireturn, 1) := by decide +kernel
theorem dX12_feed_13 : decode cX12_feed 13 = .ok (.aload_n 0, 1) := by decide +kernel
theorem dX12_feed_14 : decode cX12_feed 14 = .ok (.getfield 172, 3) := by decide +kernel
theorem dX12_feed_17 : decode cX12_feed 17 = .ok (.bipush 120, 2) := by decide +kernel
theorem dX12_feed_19 : decode cX12_feed 19 = .ok (.if_icmp .ne 6, 3) := by decide +kernel
theorem dX12_feed_22 : decode cX12_feed 22 = .ok (.bipush (-3), 2) := by decide +kernel
theorem dX12_feed_24 : decode cX12_feed 24 = .ok (.ireturn, 1) := by decide +kernel
theorem dX12_feed_25 : decode cX12_feed 25 = .ok (.aload_n 0, 1) := by decide +kernel
theorem dX12_feed_26 : decode cX12_feed 26 = .ok (.getfield 49, 3) := by decide +kernel
theorem dX12_feed_29 : decode cX12_feed 29 = .ok (.aload_n 0, 1) := by decide +kernel
theorem dX12_feed_30 : decode cX12_feed 30 = .ok (.getfield 172, 3) := by decide +kernel
theorem dX12_feed_33 : decode cX12_feed 33 = .ok (.iload_n 1, 1) := by decide +kernel
theorem dX12_feed_34 : decode cX12_feed 34 = .ok (.i2b, 1) := by decide +kernel
theorem dX12_feed_35 : decode cX12_feed 35 = .ok (.bastore, 1) := by decide +kernel
theorem dX12_feed_36 : decode cX12_feed 36 = .ok (.aload_n 0, 1) := by decide +kernel
theorem dX12_feed_37 : decode cX12_feed 37 = .ok (.dup, 1) := by decide +kernel
theorem dX12_feed_38 : decode cX12_feed 38 = .ok (.getfield 172, 3) := by decide +kernel
theorem dX12_feed_41 : decode cX12_feed 41 = .ok (.iconst 1, 1) := by decide +kernel
theorem dX12_feed_42 : decode cX12_feed 42 = .ok (.iadd, 1) := by decide +kernel
theorem dX12_feed_43 : decode cX12_feed 43 = .ok (.putfield 172, 3) := by decide +kernel
theorem dX12_feed_46 : decode cX12_feed 46 = .ok (.aload_n 0, 1) := by decide +kernel
theorem dX12_feed_47 : decode cX12_feed 47 = .ok (.getfield 172, 3) := by decide +kernel
theorem dX12_feed_50 : decode cX12_feed 50 = .ok (.ireturn, 1) := by decide +kernel
theorem dX12_looksOn_0 : decode cX12_looksOn 0 = .ok (.aload_n 0, 1) := by decide +kernel
theorem dX12_looksOn_1 : decode cX12_looksOn 1 = .ok (.getfield 175, 3) := by decide +kernel
theorem dX12_looksOn_4 : decode cX12_looksOn 4 = .ok (.aload_n 0, 1) := by decide +kernel
theorem dX12_looksOn_5 : decode cX12_looksOn 5 = .ok (.getfield 172, 3) := by decide +kernel
theorem dX12_looksOn_8 : decode cX12_looksOn 8 = .ok (.if_icmp .ge 15, 3) := by decide +kernel
theorem dX12_looksOn_11 : decode cX12_looksOn 11 = .ok (.aload_n 0, 1) := by decide +kernel
theorem dX12_looksOn_12 : decode cX12_looksOn 12 = .ok (.getfield 49, 3) := by decide +kernel
theorem dX12_looksOn_15 : decode cX12_looksOn 15 = .ok (.aload_n 0, 1) := by decide +kernel
theorem dX12_looksOn_16 : decode cX12_looksOn 16 = .ok (.getfield 175, 3) := by decide +kernel
theorem dX12_looksOn_19 : decode cX12_looksOn 19 = .ok (.baload, 1) := by decide +kernel
theorem dX12_looksOn_20 : decode cX12_looksOn 20 = .ok (.goto 4, 3) := by decide +kernel
theorem dX12_looksOn_23 : decode cX12_looksOn 23 = .ok (.iconst (-1), 1) := by decide +kernel
theorem dX12_looksOn_24 : decode cX12_looksOn 24 = .ok (.ireturn, 1) := by decide +kernel
theorem dX12_faulty_0 : decode cX12_faulty 0 = .ok (.aload_n 0, 1) := by decide +kernel
theorem dX12_faulty_1 : decode cX12_faulty 1 = .ok (.getfield 178, 3) := by decide +kernel
theorem dX12_faulty_4 : decode cX12_faulty 4 = .ok (.ifCond .ge 11, 3) := by decide +kernel
theorem dX12_faulty_7 : decode cX12_faulty 7 = .ok (.aload_n 0, 1) := by decide +kernel
theorem dX12_faulty_8 : decode cX12_faulty 8 = .ok (.aload_n 0, 1) := by decide +kernel
theorem dX12_faulty_9 : decode cX12_faulty 9 = .ok (.getfield 175, 3) := by decide +kernel
theorem dX12_faulty_12 : decode cX12_faulty 12 = .ok (.putfield 178, 3) := by decide +kernel
theorem dX12_faulty_15 : decode cX12_faulty 15 = .ok (.return_, 1) := by decide +kernel
theorem dX12_addStep_0 : decode cX12_addStep 0 = .ok (.aload_n 0, 1) := by decide +kernel
theorem dX12_addStep_1 : decode cX12_addStep 1 = .ok (.getfield 53, 3) := by decide +kernel
theorem dX12_addStep_4 : decode cX12_addStep 4 = .ok (.sipush 130, 3) := by decide +kernel
theorem dX12_addStep_7 : decode cX12_addStep 7 = .ok (.aload_n 0, 1) := by decide +kernel
theorem dX12_addStep_8 : decode cX12_addStep 8 = .ok (.getfield 181, 3) := by decide +kernel
theorem dX12_addStep_11 : decode cX12_addStep 11 = .ok (.iadd, 1) := by decide +kernel
theorem dX12_addStep_12 : decode cX12_addStep 12 = .ok (.iload_n 1, 1) := by decide +kernel
theorem dX12_addStep_13 : decode cX12_addStep 13 = .ok (.i2b, 1) := by decide +kernel
theorem dX12_addStep_14 : decode cX12_addStep 14 = .ok (.bastore, 1) := by decide +kernel
theorem dX12_addStep_15 : decode cX12_addStep 15 = .ok (.aload_n 0, 1) := by decide +kernel
theorem dX12_addStep_16 : decode cX12_addStep 16 = .ok (.getfield 56, 3) := by decide +kernel
theorem dX12_addStep_19 : decode cX12_addStep 19 = .ok (.sipush 130, 3) := by decide +kernel
theorem dX12_addStep_22 : decode cX12_addStep 22 = .ok (.aload_n 0, 1) := by decide +kernel
theorem dX12_addStep_23 : decode cX12_addStep 23 = .ok (.getfield 181, 3) := by decide +kernel
theorem dX12_addStep_26 : decode cX12_addStep 26 = .ok (.iadd, 1) := by decide +kernel
theorem dX12_addStep_27 : decode cX12_addStep 27 = .ok (.iload_n 2, 1) := by decide +kernel
theorem dX12_addStep_28 : decode cX12_addStep 28 = .ok (.iastore, 1) := by decide +kernel
theorem dX12_addStep_29 : decode cX12_addStep 29 = .ok (.aload_n 0, 1) := by decide +kernel
theorem dX12_addStep_30 : decode cX12_addStep 30 = .ok (.dup, 1) := by decide +kernel
theorem dX12_addStep_31 : decode cX12_addStep 31 = .ok (.getfield 181, 3) := by decide +kernel
theorem dX12_addStep_34 : decode cX12_addStep 34 = .ok (.iconst 1, 1) := by decide +kernel
theorem dX12_addStep_35 : decode cX12_addStep 35 = .ok (.iadd, 1) := by decide +kernel
theorem dX12_addStep_36 : decode cX12_addStep 36 = .ok (.putfield 181, 3) := by decide +kernel
theorem dX12_addStep_39 : decode cX12_addStep 39 = .ok (.return_, 1) := by decide +kernel
theorem dX12_nameOf_0 : decode cX12_nameOf 0 = .ok (.iload_n 0, 1) := by decide +kernel
theorem dX12_nameOf_1 : decode cX12_nameOf 1 = .ok (.tableswitch 79 104 116 #[73, 79, 79, 77, 71, 79, 75, 79, 79, 79, 79, 67, 69], 67) := by decide +kernel
theorem dX12_nameOf_68 : decode cX12_nameOf 68 = .ok (.iconst 0, 1) := by decide +kernel
theorem dX12_nameOf_69 : decode cX12_nameOf 69 = .ok (.ireturn, 1) := by decide +kernel
theorem dX12_nameOf_70 : decode cX12_nameOf 70 = .ok (.iconst 1, 1) := by decide +kernel
theorem dX12_nameOf_71 : decode cX12_nameOf 71 = .ok (.ireturn, 1) := by decide +kernel
theorem dX12_nameOf_72 : decode cX12_nameOf 72 = .ok (.iconst 2, 1) := by decide +kernel
theorem dX12_nameOf_73 : decode cX12_nameOf 73 = .ok (.ireturn, 1) := by decide +kernel
theorem dX12_nameOf_74 : decode cX12_nameOf 74 = .ok (.iconst 3, 1) := by decide +kernel
theorem dX12_nameOf_75 : decode cX12_nameOf 75 = .ok (.ireturn, 1) := by decide +kernel
theorem dX12_nameOf_76 : decode cX12_nameOf 76 = .ok (.iconst 4, 1) := by decide +kernel
theorem dX12_nameOf_77 : decode cX12_nameOf 77 = .ok (.ireturn, 1) := by decide +kernel
theorem dX12_nameOf_78 : decode cX12_nameOf 78 = .ok (.iconst 5, 1) := by decide +kernel
theorem dX12_nameOf_79 : decode cX12_nameOf 79 = .ok (.ireturn, 1) := by decide +kernel
theorem dX12_nameOf_80 : decode cX12_nameOf 80 = .ok (.iconst (-1), 1) := by decide +kernel
theorem dX12_nameOf_81 : decode cX12_nameOf 81 = .ok (.ireturn, 1) := by decide +kernel
theorem dX12_opens_0 : decode cX12_opens 0 = .ok (.aload_n 0, 1) := by decide +kernel
theorem dX12_opens_1 : decode cX12_opens 1 = .ok (.getfield 184, 3) := by decide +kernel
theorem dX12_opens_4 : decode cX12_opens 4 = .ok (.bipush 6, 2) := by decide +kernel
theorem dX12_opens_6 : decode cX12_opens 6 = .ok (.if_icmp .ne 9, 3) := by decide +kernel
theorem dX12_opens_9 : decode cX12_opens 9 = .ok (.aload_n 0, 1) := by decide +kernel
theorem dX12_opens_10 : decode cX12_opens 10 = .ok (.invokevirtual 187, 3) := by decide +kernel
theorem dX12_opens_13 : decode cX12_opens 13 = .ok (.iconst 0, 1) := by decide +kernel
theorem dX12_opens_14 : decode cX12_opens 14 = .ok (.ireturn, 1) := by decide +kernel
theorem dX12_opens_15 : decode cX12_opens 15 = .ok (.aload_n 0, 1) := by decide +kernel
theorem dX12_opens_16 : decode cX12_opens 16 = .ok (.dup, 1) := by decide +kernel
theorem dX12_opens_17 : decode cX12_opens 17 = .ok (.getfield 184, 3) := by decide +kernel
theorem dX12_opens_20 : decode cX12_opens 20 = .ok (.iconst 1, 1) := by decide +kernel
theorem dX12_opens_21 : decode cX12_opens 21 = .ok (.iadd, 1) := by decide +kernel
theorem dX12_opens_22 : decode cX12_opens 22 = .ok (.putfield 184, 3) := by decide +kernel
theorem dX12_opens_25 : decode cX12_opens 25 = .ok (.aload_n 0, 1) := by decide +kernel
theorem dX12_opens_26 : decode cX12_opens 26 = .ok (.dup, 1) := by decide +kernel
theorem dX12_opens_27 : decode cX12_opens 27 = .ok (.getfield 175, 3) := by decide +kernel
theorem dX12_opens_30 : decode cX12_opens 30 = .ok (.iconst 1, 1) := by decide +kernel
theorem dX12_opens_31 : decode cX12_opens 31 = .ok (.iadd, 1) := by decide +kernel
theorem dX12_opens_32 : decode cX12_opens 32 = .ok (.putfield 175, 3) := by decide +kernel
theorem dX12_opens_35 : decode cX12_opens 35 = .ok (.iconst 1, 1) := by decide +kernel
theorem dX12_opens_36 : decode cX12_opens 36 = .ok (.ireturn, 1) := by decide +kernel
theorem dX12_figure_0 : decode cX12_figure 0 = .ok (.iconst 0, 1) := by decide +kernel
theorem dX12_figure_1 : decode cX12_figure 1 = .ok (.istore_n 1, 1) := by decide +kernel
theorem dX12_figure_2 : decode cX12_figure 2 = .ok (.iconst 0, 1) := by decide +kernel
theorem dX12_figure_3 : decode cX12_figure 3 = .ok (.istore_n 2, 1) := by decide +kernel
theorem dX12_figure_4 : decode cX12_figure 4 = .ok (.iload_n 2, 1) := by decide +kernel
theorem dX12_figure_5 : decode cX12_figure 5 = .ok (.iconst 4, 1) := by decide +kernel
theorem dX12_figure_6 : decode cX12_figure 6 = .ok (.if_icmp .ge 46, 3) := by decide +kernel
theorem dX12_figure_9 : decode cX12_figure 9 = .ok (.aload_n 0, 1) := by decide +kernel
theorem dX12_figure_10 : decode cX12_figure 10 = .ok (.invokevirtual 190, 3) := by decide +kernel
theorem dX12_figure_13 : decode cX12_figure 13 = .ok (.bipush 48, 2) := by decide +kernel
theorem dX12_figure_15 : decode cX12_figure 15 = .ok (.bipush 57, 2) := by decide +kernel
theorem dX12_figure_17 : decode cX12_figure 17 = .ok (.invokestatic 124, 3) := by decide +kernel
theorem dX12_figure_20 : decode cX12_figure 20 = .ok (.ifCond .eq 32, 3) := by decide +kernel
theorem dX12_figure_23 : decode cX12_figure 23 = .ok (.bipush 10, 2) := by decide +kernel
theorem dX12_figure_25 : decode cX12_figure 25 = .ok (.iload_n 1, 1) := by decide +kernel
theorem dX12_figure_26 : decode cX12_figure 26 = .ok (.imul, 1) := by decide +kernel
theorem dX12_figure_27 : decode cX12_figure 27 = .ok (.aload_n 0, 1) := by decide +kernel
theorem dX12_figure_28 : decode cX12_figure 28 = .ok (.invokevirtual 190, 3) := by decide +kernel
theorem dX12_figure_31 : decode cX12_figure 31 = .ok (.iadd, 1) := by decide +kernel
theorem dX12_figure_32 : decode cX12_figure 32 = .ok (.bipush 48, 2) := by decide +kernel
theorem dX12_figure_34 : decode cX12_figure 34 = .ok (.isub, 1) := by decide +kernel
theorem dX12_figure_35 : decode cX12_figure 35 = .ok (.istore_n 1, 1) := by decide +kernel
theorem dX12_figure_36 : decode cX12_figure 36 = .ok (.iinc 2 1, 3) := by decide +kernel
theorem dX12_figure_39 : decode cX12_figure 39 = .ok (.aload_n 0, 1) := by decide +kernel
theorem dX12_figure_40 : decode cX12_figure 40 = .ok (.dup, 1) := by decide +kernel
theorem dX12_figure_41 : decode cX12_figure 41 = .ok (.getfield 175, 3) := by decide +kernel
theorem dX12_figure_44 : decode cX12_figure 44 = .ok (.iconst 1, 1) := by decide +kernel
theorem dX12_figure_45 : decode cX12_figure 45 = .ok (.iadd, 1) := by decide +kernel
theorem dX12_figure_46 : decode cX12_figure 46 = .ok (.putfield 175, 3) := by decide +kernel
theorem dX12_figure_49 : decode cX12_figure 49 = .ok (.goto (-45), 3) := by decide +kernel
theorem dX12_figure_52 : decode cX12_figure 52 = .ok (.iload_n 2, 1) := by decide +kernel
theorem dX12_figure_53 : decode cX12_figure 53 = .ok (.ifCond .eq 17, 3) := by decide +kernel
theorem dX12_figure_56 : decode cX12_figure 56 = .ok (.aload_n 0, 1) := by decide +kernel
theorem dX12_figure_57 : decode cX12_figure 57 = .ok (.invokevirtual 190, 3) := by decide +kernel
theorem dX12_figure_60 : decode cX12_figure 60 = .ok (.bipush 48, 2) := by decide +kernel
theorem dX12_figure_62 : decode cX12_figure 62 = .ok (.bipush 57, 2) := by decide +kernel
theorem dX12_figure_64 : decode cX12_figure 64 = .ok (.invokestatic 124, 3) := by decide +kernel
theorem dX12_figure_67 : decode cX12_figure 67 = .ok (.ifCond .eq 7, 3) := by decide +kernel
theorem dX12_figure_70 : decode cX12_figure 70 = .ok (.aload_n 0, 1) := by decide +kernel
theorem dX12_figure_71 : decode cX12_figure 71 = .ok (.invokevirtual 187, 3) := by decide +kernel
theorem dX12_figure_74 : decode cX12_figure 74 = .ok (.aload_n 0, 1) := by decide +kernel
theorem dX12_figure_75 : decode cX12_figure 75 = .ok (.iconst 1, 1) := by decide +kernel
theorem dX12_figure_76 : decode cX12_figure 76 = .ok (.iload_n 1, 1) := by decide +kernel
theorem dX12_figure_77 : decode cX12_figure 77 = .ok (.invokevirtual 194, 3) := by decide +kernel
theorem dX12_figure_80 : decode cX12_figure 80 = .ok (.return_, 1) := by decide +kernel
theorem dX12_operand_0 : decode cX12_operand 0 = .ok (.aload_n 0, 1) := by decide +kernel
theorem dX12_operand_1 : decode cX12_operand 1 = .ok (.invokevirtual 190, 3) := by decide +kernel
theorem dX12_operand_4 : decode cX12_operand 4 = .ok (.istore_n 1, 1) := by decide +kernel
theorem dX12_operand_5 : decode cX12_operand 5 = .ok (.iload_n 1, 1) := by decide +kernel
theorem dX12_operand_6 : decode cX12_operand 6 = .ok (.invokestatic 198, 3) := by decide +kernel
theorem dX12_operand_9 : decode cX12_operand 9 = .ok (.ifCond .lt 25, 3) := by decide +kernel
theorem dX12_operand_12 : decode cX12_operand 12 = .ok (.aload_n 0, 1) := by decide +kernel
theorem dX12_operand_13 : decode cX12_operand 13 = .ok (.iconst 2, 1) := by decide +kernel
theorem dX12_operand_14 : decode cX12_operand 14 = .ok (.iload_n 1, 1) := by decide +kernel
theorem dX12_operand_15 : decode cX12_operand 15 = .ok (.invokestatic 198, 3) := by decide +kernel
theorem dX12_operand_18 : decode cX12_operand 18 = .ok (.invokevirtual 194, 3) := by decide +kernel
theorem dX12_operand_21 : decode cX12_operand 21 = .ok (.aload_n 0, 1) := by decide +kernel
theorem dX12_operand_22 : decode cX12_operand 22 = .ok (.dup, 1) := by decide +kernel
theorem dX12_operand_23 : decode cX12_operand 23 = .ok (.getfield 175, 3) := by decide +kernel
theorem dX12_operand_26 : decode cX12_operand 26 = .ok (.iconst 1, 1) := by decide +kernel
theorem dX12_operand_27 : decode cX12_operand 27 = .ok (.iadd, 1) := by decide +kernel
theorem dX12_operand_28 : decode cX12_operand 28 = .ok (.putfield 175, 3) := by decide +kernel
theorem dX12_operand_31 : decode cX12_operand 31 = .ok (.goto 123, 3) := by decide +kernel
theorem dX12_operand_34 : decode cX12_operand 34 = .ok (.iload_n 1, 1) := by decide +kernel
theorem dX12_operand_35 : decode cX12_operand 35 = .ok (.bipush 33, 2) := by decide +kernel
theorem dX12_operand_37 : decode cX12_operand 37 = .ok (.if_icmp .eq 9, 3) := by decide +kernel
theorem dX12_operand_40 : decode cX12_operand 40 = .ok (.iload_n 1, 1) := by decide +kernel
theorem dX12_operand_41 : decode cX12_operand 41 = .ok (.bipush 45, 2) := by decide +kernel
theorem dX12_operand_43 : decode cX12_operand 43 = .ok (.if_icmp .ne 44, 3) := by decide +kernel
theorem dX12_operand_46 : decode cX12_operand 46 = .ok (.aload_n 0, 1) := by decide +kernel
theorem dX12_operand_47 : decode cX12_operand 47 = .ok (.invokevirtual 202, 3) := by decide +kernel
theorem dX12_operand_50 : decode cX12_operand 50 = .ok (.ifCond .ne 4, 3) := by decide +kernel
theorem dX12_operand_53 : decode cX12_operand 53 = .ok (.return_, 1) := by decide +kernel
theorem dX12_operand_54 : decode cX12_operand 54 = .ok (.aload_n 0, 1) := by decide +kernel
theorem dX12_operand_55 : decode cX12_operand 55 = .ok (.invokevirtual 206, 3) := by decide +kernel
theorem dX12_operand_58 : decode cX12_operand 58 = .ok (.aload_n 0, 1) := by decide +kernel
theorem dX12_operand_59 : decode cX12_operand 59 = .ok (.dup, 1) := by decide +kernel
theorem dX12_operand_60 : decode cX12_operand 60 = .ok (.getfield 184, 3) := by decide +kernel
theorem dX12_operand_63 : decode cX12_operand 63 = .ok (.iconst 1, 1) := by decide +kernel
theorem dX12_operand_64 : decode cX12_operand 64 = .ok (.isub, 1) := by decide +kernel
theorem dX12_operand_65 : decode cX12_operand 65 = .ok (.putfield 184, 3) := by decide +kernel
theorem dX12_operand_68 : decode cX12_operand 68 = .ok (.aload_n 0, 1) := by decide +kernel
theorem dX12_operand_69 : decode cX12_operand 69 = .ok (.iload_n 1, 1) := by decide +kernel
theorem dX12_operand_70 : decode cX12_operand 70 = .ok (.bipush 33, 2) := by decide +kernel
theorem dX12_operand_72 : decode cX12_operand 72 = .ok (.if_icmp .ne 7, 3) := by decide +kernel
theorem dX12_operand_75 : decode cX12_operand 75 = .ok (.iconst 3, 1) := by decide +kernel
theorem dX12_operand_76 : decode cX12_operand 76 = .ok (.goto 4, 3) := by decide +kernel
theorem dX12_operand_79 : decode cX12_operand 79 = .ok (.iconst 4, 1) := by decide +kernel
theorem dX12_operand_80 : decode cX12_operand 80 = .ok (.iconst 0, 1) := by decide +kernel
theorem dX12_operand_81 : decode cX12_operand 81 = .ok (.invokevirtual 194, 3) := by decide +kernel
theorem dX12_operand_84 : decode cX12_operand 84 = .ok (.goto 70, 3) := by decide +kernel
theorem dX12_operand_87 : decode cX12_operand 87 = .ok (.iload_n 1, 1) := by decide +kernel
theorem dX12_operand_88 : decode cX12_operand 88 = .ok (.bipush 40, 2) := by decide +kernel
theorem dX12_operand_90 : decode cX12_operand 90 = .ok (.if_icmp .ne 60, 3) := by decide +kernel
theorem dX12_operand_93 : decode cX12_operand 93 = .ok (.aload_n 0, 1) := by decide +kernel
theorem dX12_operand_94 : decode cX12_operand 94 = .ok (.invokevirtual 202, 3) := by decide +kernel
theorem dX12_operand_97 : decode cX12_operand 97 = .ok (.ifCond .ne 4, 3) := by decide +kernel
theorem dX12_operand_100 : decode cX12_operand 100 = .ok (.return_, 1) := by decide +kernel
theorem dX12_operand_101 : decode cX12_operand 101 = .ok (.aload_n 0, 1) := by decide +kernel
theorem dX12_operand_102 : decode cX12_operand 102 = .ok (.invokevirtual 209, 3) := by decide +kernel
theorem dX12_operand_105 : decode cX12_operand 105 = .ok (.aload_n 0, 1) := by decide +kernel
theorem dX12_operand_106 : decode cX12_operand 106 = .ok (.getfield 178, 3) := by decide +kernel
theorem dX12_operand_109 : decode cX12_operand 109 = .ok (.ifCond .lt 4, 3) := by decide +kernel
theorem dX12_operand_112 : decode cX12_operand 112 = .ok (.return_, 1) := by decide +kernel
theorem dX12_operand_113 : decode cX12_operand 113 = .ok (.aload_n 0, 1) := by decide +kernel
theorem dX12_operand_114 : decode cX12_operand 114 = .ok (.invokevirtual 190, 3) := by decide +kernel
theorem dX12_operand_117 : decode cX12_operand 117 = .ok (.bipush 41, 2) := by decide +kernel
theorem dX12_operand_119 : decode cX12_operand 119 = .ok (.if_icmp .eq 8, 3) := by decide +kernel
theorem dX12_operand_122 : decode cX12_operand 122 = .ok (.aload_n 0, 1) := by decide +kernel
theorem dX12_operand_123 : decode cX12_operand 123 = .ok (.invokevirtual 187, 3) := by decide +kernel
theorem dX12_operand_126 : decode cX12_operand 126 = .ok (.return_, 1) := by decide +kernel
theorem dX12_operand_127 : decode cX12_operand 127 = .ok (.aload_n 0, 1) := by decide +kernel
theorem dX12_operand_128 : decode cX12_operand 128 = .ok (.dup, 1) := by decide +kernel
theorem dX12_operand_129 : decode cX12_operand 129 = .ok (.getfield 175, 3) := by decide +kernel
theorem dX12_operand_132 : decode cX12_operand 132 = .ok (.iconst 1, 1) := by decide +kernel
theorem dX12_operand_133 : decode cX12_operand 133 = .ok (.iadd, 1) := by decide +kernel
theorem dX12_operand_134 : decode cX12_operand 134 = .ok (.putfield 175, 3) := by decide +kernel
theorem dX12_operand_137 : decode cX12_operand 137 = .ok (.aload_n 0, 1) := by decide +kernel
theorem dX12_operand_138 : decode cX12_operand 138 = .ok (.dup, 1) := by decide +kernel
theorem dX12_operand_139 : decode cX12_operand 139 = .ok (.getfield 184, 3) := by decide +kernel
theorem dX12_operand_142 : decode cX12_operand 142 = .ok (.iconst 1, 1) := by decide +kernel
theorem dX12_operand_143 : decode cX12_operand 143 = .ok (.isub, 1) := by decide +kernel
theorem dX12_operand_144 : decode cX12_operand 144 = .ok (.putfield 184, 3) := by decide +kernel
theorem dX12_operand_147 : decode cX12_operand 147 = .ok (.goto 7, 3) := by decide +kernel
theorem dX12_operand_150 : decode cX12_operand 150 = .ok (.aload_n 0, 1) := by decide +kernel
theorem dX12_operand_151 : decode cX12_operand 151 = .ok (.invokevirtual 212, 3) := by decide +kernel
theorem dX12_operand_154 : decode cX12_operand 154 = .ok (.return_, 1) := by decide +kernel
theorem dX12_product_0 : decode cX12_product 0 = .ok (.aload_n 0, 1) := by decide +kernel
theorem dX12_product_1 : decode cX12_product 1 = .ok (.invokevirtual 206, 3) := by decide +kernel
theorem dX12_product_4 : decode cX12_product 4 = .ok (.aload_n 0, 1) := by decide +kernel
theorem dX12_product_5 : decode cX12_product 5 = .ok (.getfield 178, 3) := by decide +kernel
theorem dX12_product_8 : decode cX12_product 8 = .ok (.ifCond .ge 58, 3) := by decide +kernel
theorem dX12_product_11 : decode cX12_product 11 = .ok (.aload_n 0, 1) := by decide +kernel
theorem dX12_product_12 : decode cX12_product 12 = .ok (.invokevirtual 190, 3) := by decide +kernel
theorem dX12_product_15 : decode cX12_product 15 = .ok (.bipush 42, 2) := by decide +kernel
theorem dX12_product_17 : decode cX12_product 17 = .ok (.if_icmp .eq 21, 3) := by decide +kernel
theorem dX12_product_20 : decode cX12_product 20 = .ok (.aload_n 0, 1) := by decide +kernel
theorem dX12_product_21 : decode cX12_product 21 = .ok (.invokevirtual 190, 3) := by decide +kernel
theorem dX12_product_24 : decode cX12_product 24 = .ok (.bipush 47, 2) := by decide +kernel
theorem dX12_product_26 : decode cX12_product 26 = .ok (.if_icmp .eq 12, 3) := by decide +kernel
theorem dX12_product_29 : decode cX12_product 29 = .ok (.aload_n 0, 1) := by decide +kernel
theorem dX12_product_30 : decode cX12_product 30 = .ok (.invokevirtual 190, 3) := by decide +kernel
theorem dX12_product_33 : decode cX12_product 33 = .ok (.bipush 37, 2) := by decide +kernel
theorem dX12_product_35 : decode cX12_product 35 = .ok (.if_icmp .ne 31, 3) := by decide +kernel
theorem dX12_product_38 : decode cX12_product 38 = .ok (.aload_n 0, 1) := by decide +kernel
theorem dX12_product_39 : decode cX12_product 39 = .ok (.invokevirtual 190, 3) := by decide +kernel
theorem dX12_product_42 : decode cX12_product 42 = .ok (.istore_n 1, 1) := by decide +kernel
theorem dX12_product_43 : decode cX12_product 43 = .ok (.aload_n 0, 1) := by decide +kernel
theorem dX12_product_44 : decode cX12_product 44 = .ok (.dup, 1) := by decide +kernel
theorem dX12_product_45 : decode cX12_product 45 = .ok (.getfield 175, 3) := by decide +kernel
theorem dX12_product_48 : decode cX12_product 48 = .ok (.iconst 1, 1) := by decide +kernel
theorem dX12_product_49 : decode cX12_product 49 = .ok (.iadd, 1) := by decide +kernel
theorem dX12_product_50 : decode cX12_product 50 = .ok (.putfield 175, 3) := by decide +kernel
theorem dX12_product_53 : decode cX12_product 53 = .ok (.aload_n 0, 1) := by decide +kernel
theorem dX12_product_54 : decode cX12_product 54 = .ok (.invokevirtual 206, 3) := by decide +kernel
theorem dX12_product_57 : decode cX12_product 57 = .ok (.aload_n 0, 1) := by decide +kernel
theorem dX12_product_58 : decode cX12_product 58 = .ok (.iload_n 1, 1) := by decide +kernel
theorem dX12_product_59 : decode cX12_product 59 = .ok (.iconst 0, 1) := by decide +kernel
theorem dX12_product_60 : decode cX12_product 60 = .ok (.invokevirtual 194, 3) := by decide +kernel
theorem dX12_product_63 : decode cX12_product 63 = .ok (.goto (-59), 3) := by decide +kernel
theorem dX12_product_66 : decode cX12_product 66 = .ok (.return_, 1) := by decide +kernel
theorem dX12_sum_0 : decode cX12_sum 0 = .ok (.aload_n 0, 1) := by decide +kernel
theorem dX12_sum_1 : decode cX12_sum 1 = .ok (.invokevirtual 215, 3) := by decide +kernel
theorem dX12_sum_4 : decode cX12_sum 4 = .ok (.aload_n 0, 1) := by decide +kernel
theorem dX12_sum_5 : decode cX12_sum 5 = .ok (.getfield 178, 3) := by decide +kernel
theorem dX12_sum_8 : decode cX12_sum 8 = .ok (.ifCond .ge 49, 3) := by decide +kernel
theorem dX12_sum_11 : decode cX12_sum 11 = .ok (.aload_n 0, 1) := by decide +kernel
theorem dX12_sum_12 : decode cX12_sum 12 = .ok (.invokevirtual 190, 3) := by decide +kernel
theorem dX12_sum_15 : decode cX12_sum 15 = .ok (.bipush 43, 2) := by decide +kernel
theorem dX12_sum_17 : decode cX12_sum 17 = .ok (.if_icmp .eq 12, 3) := by decide +kernel
theorem dX12_sum_20 : decode cX12_sum 20 = .ok (.aload_n 0, 1) := by decide +kernel
theorem dX12_sum_21 : decode cX12_sum 21 = .ok (.invokevirtual 190, 3) := by decide +kernel
theorem dX12_sum_24 : decode cX12_sum 24 = .ok (.bipush 45, 2) := by decide +kernel
theorem dX12_sum_26 : decode cX12_sum 26 = .ok (.if_icmp .ne 31, 3) := by decide +kernel
theorem dX12_sum_29 : decode cX12_sum 29 = .ok (.aload_n 0, 1) := by decide +kernel
theorem dX12_sum_30 : decode cX12_sum 30 = .ok (.invokevirtual 190, 3) := by decide +kernel
theorem dX12_sum_33 : decode cX12_sum 33 = .ok (.istore_n 1, 1) := by decide +kernel
theorem dX12_sum_34 : decode cX12_sum 34 = .ok (.aload_n 0, 1) := by decide +kernel
theorem dX12_sum_35 : decode cX12_sum 35 = .ok (.dup, 1) := by decide +kernel
theorem dX12_sum_36 : decode cX12_sum 36 = .ok (.getfield 175, 3) := by decide +kernel
theorem dX12_sum_39 : decode cX12_sum 39 = .ok (.iconst 1, 1) := by decide +kernel
theorem dX12_sum_40 : decode cX12_sum 40 = .ok (.iadd, 1) := by decide +kernel
theorem dX12_sum_41 : decode cX12_sum 41 = .ok (.putfield 175, 3) := by decide +kernel
theorem dX12_sum_44 : decode cX12_sum 44 = .ok (.aload_n 0, 1) := by decide +kernel
theorem dX12_sum_45 : decode cX12_sum 45 = .ok (.invokevirtual 215, 3) := by decide +kernel
theorem dX12_sum_48 : decode cX12_sum 48 = .ok (.aload_n 0, 1) := by decide +kernel
theorem dX12_sum_49 : decode cX12_sum 49 = .ok (.iload_n 1, 1) := by decide +kernel
theorem dX12_sum_50 : decode cX12_sum 50 = .ok (.iconst 0, 1) := by decide +kernel
theorem dX12_sum_51 : decode cX12_sum 51 = .ok (.invokevirtual 194, 3) := by decide +kernel
theorem dX12_sum_54 : decode cX12_sum 54 = .ok (.goto (-50), 3) := by decide +kernel
theorem dX12_sum_57 : decode cX12_sum 57 = .ok (.return_, 1) := by decide +kernel
theorem dX12_compared_0 : decode cX12_compared 0 = .ok (.aload_n 0, 1) := by decide +kernel
theorem dX12_compared_1 : decode cX12_compared 1 = .ok (.invokevirtual 218, 3) := by decide +kernel
theorem dX12_compared_4 : decode cX12_compared 4 = .ok (.aload_n 0, 1) := by decide +kernel
theorem dX12_compared_5 : decode cX12_compared 5 = .ok (.invokevirtual 190, 3) := by decide +kernel
theorem dX12_compared_8 : decode cX12_compared 8 = .ok (.istore_n 1, 1) := by decide +kernel
theorem dX12_compared_9 : decode cX12_compared 9 = .ok (.aload_n 0, 1) := by decide +kernel
theorem dX12_compared_10 : decode cX12_compared 10 = .ok (.getfield 178, 3) := by decide +kernel
theorem dX12_compared_13 : decode cX12_compared 13 = .ok (.ifCond .ge 21, 3) := by decide +kernel
theorem dX12_compared_16 : decode cX12_compared 16 = .ok (.iload_n 1, 1) := by decide +kernel
theorem dX12_compared_17 : decode cX12_compared 17 = .ok (.bipush 60, 2) := by decide +kernel
theorem dX12_compared_19 : decode cX12_compared 19 = .ok (.if_icmp .eq 16, 3) := by decide +kernel
theorem dX12_compared_22 : decode cX12_compared 22 = .ok (.iload_n 1, 1) := by decide +kernel
theorem dX12_compared_23 : decode cX12_compared 23 = .ok (.bipush 61, 2) := by decide +kernel
theorem dX12_compared_25 : decode cX12_compared 25 = .ok (.if_icmp .eq 10, 3) := by decide +kernel
theorem dX12_compared_28 : decode cX12_compared 28 = .ok (.iload_n 1, 1) := by decide +kernel
theorem dX12_compared_29 : decode cX12_compared 29 = .ok (.bipush 62, 2) := by decide +kernel
theorem dX12_compared_31 : decode cX12_compared 31 = .ok (.if_icmp .eq 4, 3) := by decide +kernel
theorem dX12_compared_34 : decode cX12_compared 34 = .ok (.return_, 1) := by decide +kernel
theorem dX12_compared_35 : decode cX12_compared 35 = .ok (.aload_n 0, 1) := by decide +kernel
theorem dX12_compared_36 : decode cX12_compared 36 = .ok (.dup, 1) := by decide +kernel
theorem dX12_compared_37 : decode cX12_compared 37 = .ok (.getfield 175, 3) := by decide +kernel
theorem dX12_compared_40 : decode cX12_compared 40 = .ok (.iconst 1, 1) := by decide +kernel
theorem dX12_compared_41 : decode cX12_compared 41 = .ok (.iadd, 1) := by decide +kernel
theorem dX12_compared_42 : decode cX12_compared 42 = .ok (.putfield 175, 3) := by decide +kernel
theorem dX12_compared_45 : decode cX12_compared 45 = .ok (.aload_n 0, 1) := by decide +kernel
theorem dX12_compared_46 : decode cX12_compared 46 = .ok (.invokevirtual 218, 3) := by decide +kernel
theorem dX12_compared_49 : decode cX12_compared 49 = .ok (.aload_n 0, 1) := by decide +kernel
theorem dX12_compared_50 : decode cX12_compared 50 = .ok (.iload_n 1, 1) := by decide +kernel
theorem dX12_compared_51 : decode cX12_compared 51 = .ok (.iconst 0, 1) := by decide +kernel
theorem dX12_compared_52 : decode cX12_compared 52 = .ok (.invokevirtual 194, 3) := by decide +kernel
theorem dX12_compared_55 : decode cX12_compared 55 = .ok (.return_, 1) := by decide +kernel
theorem dX12_both_0 : decode cX12_both 0 = .ok (.aload_n 0, 1) := by decide +kernel
theorem dX12_both_1 : decode cX12_both 1 = .ok (.invokevirtual 221, 3) := by decide +kernel
theorem dX12_both_4 : decode cX12_both 4 = .ok (.aload_n 0, 1) := by decide +kernel
theorem dX12_both_5 : decode cX12_both 5 = .ok (.getfield 178, 3) := by decide +kernel
theorem dX12_both_8 : decode cX12_both 8 = .ok (.ifCond .ge 36, 3) := by decide +kernel
theorem dX12_both_11 : decode cX12_both 11 = .ok (.aload_n 0, 1) := by decide +kernel
theorem dX12_both_12 : decode cX12_both 12 = .ok (.invokevirtual 190, 3) := by decide +kernel
theorem dX12_both_15 : decode cX12_both 15 = .ok (.bipush 38, 2) := by decide +kernel
theorem dX12_both_17 : decode cX12_both 17 = .ok (.if_icmp .ne 27, 3) := by decide +kernel
theorem dX12_both_20 : decode cX12_both 20 = .ok (.aload_n 0, 1) := by decide +kernel
theorem dX12_both_21 : decode cX12_both 21 = .ok (.dup, 1) := by decide +kernel
theorem dX12_both_22 : decode cX12_both 22 = .ok (.getfield 175, 3) := by decide +kernel
theorem dX12_both_25 : decode cX12_both 25 = .ok (.iconst 1, 1) := by decide +kernel
theorem dX12_both_26 : decode cX12_both 26 = .ok (.iadd, 1) := by decide +kernel
theorem dX12_both_27 : decode cX12_both 27 = .ok (.putfield 175, 3) := by decide +kernel
theorem dX12_both_30 : decode cX12_both 30 = .ok (.aload_n 0, 1) := by decide +kernel
theorem dX12_both_31 : decode cX12_both 31 = .ok (.invokevirtual 221, 3) := by decide +kernel
theorem dX12_both_34 : decode cX12_both 34 = .ok (.aload_n 0, 1) := by decide +kernel
theorem dX12_both_35 : decode cX12_both 35 = .ok (.bipush 38, 2) := by decide +kernel
theorem dX12_both_37 : decode cX12_both 37 = .ok (.iconst 0, 1) := by decide +kernel
theorem dX12_both_38 : decode cX12_both 38 = .ok (.invokevirtual 194, 3) := by decide +kernel
theorem dX12_both_41 : decode cX12_both 41 = .ok (.goto (-37), 3) := by decide +kernel
theorem dX12_both_44 : decode cX12_both 44 = .ok (.return_, 1) := by decide +kernel
theorem dX12_either_0 : decode cX12_either 0 = .ok (.aload_n 0, 1) := by decide +kernel
theorem dX12_either_1 : decode cX12_either 1 = .ok (.invokevirtual 224, 3) := by decide +kernel
theorem dX12_either_4 : decode cX12_either 4 = .ok (.aload_n 0, 1) := by decide +kernel
theorem dX12_either_5 : decode cX12_either 5 = .ok (.getfield 178, 3) := by decide +kernel
theorem dX12_either_8 : decode cX12_either 8 = .ok (.ifCond .ge 36, 3) := by decide +kernel
theorem dX12_either_11 : decode cX12_either 11 = .ok (.aload_n 0, 1) := by decide +kernel
theorem dX12_either_12 : decode cX12_either 12 = .ok (.invokevirtual 190, 3) := by decide +kernel
theorem dX12_either_15 : decode cX12_either 15 = .ok (.bipush 124, 2) := by decide +kernel
theorem dX12_either_17 : decode cX12_either 17 = .ok (.if_icmp .ne 27, 3) := by decide +kernel
theorem dX12_either_20 : decode cX12_either 20 = .ok (.aload_n 0, 1) := by decide +kernel
theorem dX12_either_21 : decode cX12_either 21 = .ok (.dup, 1) := by decide +kernel
theorem dX12_either_22 : decode cX12_either 22 = .ok (.getfield 175, 3) := by decide +kernel
theorem dX12_either_25 : decode cX12_either 25 = .ok (.iconst 1, 1) := by decide +kernel
theorem dX12_either_26 : decode cX12_either 26 = .ok (.iadd, 1) := by decide +kernel
theorem dX12_either_27 : decode cX12_either 27 = .ok (.putfield 175, 3) := by decide +kernel
theorem dX12_either_30 : decode cX12_either 30 = .ok (.aload_n 0, 1) := by decide +kernel
theorem dX12_either_31 : decode cX12_either 31 = .ok (.invokevirtual 224, 3) := by decide +kernel
theorem dX12_either_34 : decode cX12_either 34 = .ok (.aload_n 0, 1) := by decide +kernel
theorem dX12_either_35 : decode cX12_either 35 = .ok (.bipush 124, 2) := by decide +kernel
theorem dX12_either_37 : decode cX12_either 37 = .ok (.iconst 0, 1) := by decide +kernel
theorem dX12_either_38 : decode cX12_either 38 = .ok (.invokevirtual 194, 3) := by decide +kernel
theorem dX12_either_41 : decode cX12_either 41 = .ok (.goto (-37), 3) := by decide +kernel
theorem dX12_either_44 : decode cX12_either 44 = .ok (.return_, 1) := by decide +kernel
theorem dX12_line_0 : decode cX12_line 0 = .ok (.bipush 61, 2) := by decide +kernel
theorem dX12_line_2 : decode cX12_line 2 = .ok (.aload_n 0, 1) := by decide +kernel
theorem dX12_line_3 : decode cX12_line 3 = .ok (.getfield 59, 3) := by decide +kernel
theorem dX12_line_6 : decode cX12_line 6 = .ok (.iconst 1, 1) := by decide +kernel
theorem dX12_line_7 : decode cX12_line 7 = .ok (.iaload, 1) := by decide +kernel
theorem dX12_line_8 : decode cX12_line 8 = .ok (.iadd, 1) := by decide +kernel
theorem dX12_line_9 : decode cX12_line 9 = .ok (.istore_n 1, 1) := by decide +kernel
theorem dX12_line_10 : decode cX12_line 10 = .ok (.aload_n 0, 1) := by decide +kernel
theorem dX12_line_11 : decode cX12_line 11 = .ok (.getfield 62, 3) := by decide +kernel
theorem dX12_line_14 : decode cX12_line 14 = .ok (.iload_n 1, 1) := by decide +kernel
theorem dX12_line_15 : decode cX12_line 15 = .ok (.aload_n 0, 1) := by decide +kernel
theorem dX12_line_16 : decode cX12_line 16 = .ok (.getfield 181, 3) := by decide +kernel
theorem dX12_line_19 : decode cX12_line 19 = .ok (.i2s, 1) := by decide +kernel
theorem dX12_line_20 : decode cX12_line 20 = .ok (.sastore, 1) := by decide +kernel
theorem dX12_line_21 : decode cX12_line 21 = .ok (.aload_n 0, 1) := by decide +kernel
theorem dX12_line_22 : decode cX12_line 22 = .ok (.invokevirtual 209, 3) := by decide +kernel
theorem dX12_line_25 : decode cX12_line 25 = .ok (.aload_n 0, 1) := by decide +kernel
theorem dX12_line_26 : decode cX12_line 26 = .ok (.getfield 178, 3) := by decide +kernel
theorem dX12_line_29 : decode cX12_line 29 = .ok (.ifCond .ge 37, 3) := by decide +kernel
theorem dX12_line_32 : decode cX12_line 32 = .ok (.aload_n 0, 1) := by decide +kernel
theorem dX12_line_33 : decode cX12_line 33 = .ok (.invokevirtual 190, 3) := by decide +kernel
theorem dX12_line_36 : decode cX12_line 36 = .ok (.bipush 63, 2) := by decide +kernel
theorem dX12_line_38 : decode cX12_line 38 = .ok (.if_icmp .ne 28, 3) := by decide +kernel
theorem dX12_line_41 : decode cX12_line 41 = .ok (.aload_n 0, 1) := by decide +kernel
theorem dX12_line_42 : decode cX12_line 42 = .ok (.dup, 1) := by decide +kernel
theorem dX12_line_43 : decode cX12_line 43 = .ok (.getfield 175, 3) := by decide +kernel
theorem dX12_line_46 : decode cX12_line 46 = .ok (.iconst 1, 1) := by decide +kernel
theorem dX12_line_47 : decode cX12_line 47 = .ok (.iadd, 1) := by decide +kernel
theorem dX12_line_48 : decode cX12_line 48 = .ok (.putfield 175, 3) := by decide +kernel
theorem dX12_line_51 : decode cX12_line 51 = .ok (.aload_n 0, 1) := by decide +kernel
theorem dX12_line_52 : decode cX12_line 52 = .ok (.getfield 62, 3) := by decide +kernel
theorem dX12_line_55 : decode cX12_line 55 = .ok (.iload_n 1, 1) := by decide +kernel
theorem dX12_line_56 : decode cX12_line 56 = .ok (.aload_n 0, 1) := by decide +kernel
theorem dX12_line_57 : decode cX12_line 57 = .ok (.getfield 181, 3) := by decide +kernel
theorem dX12_line_60 : decode cX12_line 60 = .ok (.i2s, 1) := by decide +kernel
theorem dX12_line_61 : decode cX12_line 61 = .ok (.sastore, 1) := by decide +kernel
theorem dX12_line_62 : decode cX12_line 62 = .ok (.aload_n 0, 1) := by decide +kernel
theorem dX12_line_63 : decode cX12_line 63 = .ok (.invokevirtual 209, 3) := by decide +kernel
theorem dX12_line_66 : decode cX12_line 66 = .ok (.aload_n 0, 1) := by decide +kernel
theorem dX12_line_67 : decode cX12_line 67 = .ok (.getfield 66, 3) := by decide +kernel
theorem dX12_line_70 : decode cX12_line 70 = .ok (.iload_n 1, 1) := by decide +kernel
theorem dX12_line_71 : decode cX12_line 71 = .ok (.aload_n 0, 1) := by decide +kernel
theorem dX12_line_72 : decode cX12_line 72 = .ok (.getfield 181, 3) := by decide +kernel
theorem dX12_line_75 : decode cX12_line 75 = .ok (.i2s, 1) := by decide +kernel
theorem dX12_line_76 : decode cX12_line 76 = .ok (.sastore, 1) := by decide +kernel
theorem dX12_line_77 : decode cX12_line 77 = .ok (.aload_n 0, 1) := by decide +kernel
theorem dX12_line_78 : decode cX12_line 78 = .ok (.getfield 59, 3) := by decide +kernel
theorem dX12_line_81 : decode cX12_line 81 = .ok (.iconst 1, 1) := by decide +kernel
theorem dX12_line_82 : decode cX12_line 82 = .ok (.dup2, 1) := by decide +kernel
theorem dX12_line_83 : decode cX12_line 83 = .ok (.iaload, 1) := by decide +kernel
theorem dX12_line_84 : decode cX12_line 84 = .ok (.iconst 1, 1) := by decide +kernel
theorem dX12_line_85 : decode cX12_line 85 = .ok (.iadd, 1) := by decide +kernel
theorem dX12_line_86 : decode cX12_line 86 = .ok (.iastore, 1) := by decide +kernel
theorem dX12_line_87 : decode cX12_line 87 = .ok (.return_, 1) := by decide +kernel
theorem dX12_readText_0 : decode cX12_readText 0 = .ok (.aload_n 0, 1) := by decide +kernel
theorem dX12_readText_1 : decode cX12_readText 1 = .ok (.iconst 0, 1) := by decide +kernel
theorem dX12_readText_2 : decode cX12_readText 2 = .ok (.putfield 175, 3) := by decide +kernel
theorem dX12_readText_5 : decode cX12_readText 5 = .ok (.aload_n 0, 1) := by decide +kernel
theorem dX12_readText_6 : decode cX12_readText 6 = .ok (.iconst (-1), 1) := by decide +kernel
theorem dX12_readText_7 : decode cX12_readText 7 = .ok (.putfield 178, 3) := by decide +kernel
theorem dX12_readText_10 : decode cX12_readText 10 = .ok (.aload_n 0, 1) := by decide +kernel
theorem dX12_readText_11 : decode cX12_readText 11 = .ok (.iconst 0, 1) := by decide +kernel
theorem dX12_readText_12 : decode cX12_readText 12 = .ok (.putfield 184, 3) := by decide +kernel
theorem dX12_readText_15 : decode cX12_readText 15 = .ok (.aload_n 0, 1) := by decide +kernel
theorem dX12_readText_16 : decode cX12_readText 16 = .ok (.iconst 0, 1) := by decide +kernel
theorem dX12_readText_17 : decode cX12_readText 17 = .ok (.putfield 181, 3) := by decide +kernel
theorem dX12_readText_20 : decode cX12_readText 20 = .ok (.aload_n 0, 1) := by decide +kernel
theorem dX12_readText_21 : decode cX12_readText 21 = .ok (.getfield 59, 3) := by decide +kernel
theorem dX12_readText_24 : decode cX12_readText 24 = .ok (.iconst 1, 1) := by decide +kernel
theorem dX12_readText_25 : decode cX12_readText 25 = .ok (.iconst 0, 1) := by decide +kernel
theorem dX12_readText_26 : decode cX12_readText 26 = .ok (.iastore, 1) := by decide +kernel
theorem dX12_readText_27 : decode cX12_readText 27 = .ok (.aload_n 0, 1) := by decide +kernel
theorem dX12_readText_28 : decode cX12_readText 28 = .ok (.invokevirtual 227, 3) := by decide +kernel
theorem dX12_readText_31 : decode cX12_readText 31 = .ok (.aload_n 0, 1) := by decide +kernel
theorem dX12_readText_32 : decode cX12_readText 32 = .ok (.getfield 178, 3) := by decide +kernel
theorem dX12_readText_35 : decode cX12_readText 35 = .ok (.ifCond .ge 29, 3) := by decide +kernel
theorem dX12_readText_38 : decode cX12_readText 38 = .ok (.aload_n 0, 1) := by decide +kernel
theorem dX12_readText_39 : decode cX12_readText 39 = .ok (.invokevirtual 190, 3) := by decide +kernel
theorem dX12_readText_42 : decode cX12_readText 42 = .ok (.bipush 59, 2) := by decide +kernel
theorem dX12_readText_44 : decode cX12_readText 44 = .ok (.if_icmp .ne 20, 3) := by decide +kernel
theorem dX12_readText_47 : decode cX12_readText 47 = .ok (.aload_n 0, 1) := by decide +kernel
theorem dX12_readText_48 : decode cX12_readText 48 = .ok (.dup, 1) := by decide +kernel
theorem dX12_readText_49 : decode cX12_readText 49 = .ok (.getfield 175, 3) := by decide +kernel
theorem dX12_readText_52 : decode cX12_readText 52 = .ok (.iconst 1, 1) := by decide +kernel
theorem dX12_readText_53 : decode cX12_readText 53 = .ok (.iadd, 1) := by decide +kernel
theorem dX12_readText_54 : decode cX12_readText 54 = .ok (.putfield 175, 3) := by decide +kernel
theorem dX12_readText_57 : decode cX12_readText 57 = .ok (.aload_n 0, 1) := by decide +kernel
theorem dX12_readText_58 : decode cX12_readText 58 = .ok (.invokevirtual 227, 3) := by decide +kernel
theorem dX12_readText_61 : decode cX12_readText 61 = .ok (.goto (-30), 3) := by decide +kernel
theorem dX12_readText_64 : decode cX12_readText 64 = .ok (.aload_n 0, 1) := by decide +kernel
theorem dX12_readText_65 : decode cX12_readText 65 = .ok (.getfield 178, 3) := by decide +kernel
theorem dX12_readText_68 : decode cX12_readText 68 = .ok (.ifCond .ge 18, 3) := by decide +kernel
theorem dX12_readText_71 : decode cX12_readText 71 = .ok (.aload_n 0, 1) := by decide +kernel
theorem dX12_readText_72 : decode cX12_readText 72 = .ok (.getfield 175, 3) := by decide +kernel
theorem dX12_readText_75 : decode cX12_readText 75 = .ok (.aload_n 0, 1) := by decide +kernel
theorem dX12_readText_76 : decode cX12_readText 76 = .ok (.getfield 172, 3) := by decide +kernel
theorem dX12_readText_79 : decode cX12_readText 79 = .ok (.if_icmp .ge 7, 3) := by decide +kernel
theorem dX12_readText_82 : decode cX12_readText 82 = .ok (.aload_n 0, 1) := by decide +kernel
theorem dX12_readText_83 : decode cX12_readText 83 = .ok (.invokevirtual 187, 3) := by decide +kernel
theorem dX12_readText_86 : decode cX12_readText 86 = .ok (.aload_n 0, 1) := by decide +kernel
theorem dX12_readText_87 : decode cX12_readText 87 = .ok (.iconst 0, 1) := by decide +kernel
theorem dX12_readText_88 : decode cX12_readText 88 = .ok (.putfield 172, 3) := by decide +kernel
theorem dX12_readText_91 : decode cX12_readText 91 = .ok (.aload_n 0, 1) := by decide +kernel
theorem dX12_readText_92 : decode cX12_readText 92 = .ok (.getfield 178, 3) := by decide +kernel
theorem dX12_readText_95 : decode cX12_readText 95 = .ok (.ifCond .lt 8, 3) := by decide +kernel
theorem dX12_readText_98 : decode cX12_readText 98 = .ok (.aload_n 0, 1) := by decide +kernel
theorem dX12_readText_99 : decode cX12_readText 99 = .ok (.getfield 178, 3) := by decide +kernel
theorem dX12_readText_102 : decode cX12_readText 102 = .ok (.ireturn, 1) := by decide +kernel
theorem dX12_readText_103 : decode cX12_readText 103 = .ok (.iconst 0, 1) := by decide +kernel
theorem dX12_readText_104 : decode cX12_readText 104 = .ok (.istore_n 2, 1) := by decide +kernel
theorem dX12_readText_105 : decode cX12_readText 105 = .ok (.iload_n 2, 1) := by decide +kernel
theorem dX12_readText_106 : decode cX12_readText 106 = .ok (.aload_n 0, 1) := by decide +kernel
theorem dX12_readText_107 : decode cX12_readText 107 = .ok (.getfield 181, 3) := by decide +kernel
theorem dX12_readText_110 : decode cX12_readText 110 = .ok (.if_icmp .ge 53, 3) := by decide +kernel
theorem dX12_readText_113 : decode cX12_readText 113 = .ok (.aload_n 0, 1) := by decide +kernel
theorem dX12_readText_114 : decode cX12_readText 114 = .ok (.getfield 53, 3) := by decide +kernel
theorem dX12_readText_117 : decode cX12_readText 117 = .ok (.sipush 130, 3) := by decide +kernel
theorem dX12_readText_120 : decode cX12_readText 120 = .ok (.iload_n 1, 1) := by decide +kernel
theorem dX12_readText_121 : decode cX12_readText 121 = .ok (.imul, 1) := by decide +kernel
theorem dX12_readText_122 : decode cX12_readText 122 = .ok (.iload_n 2, 1) := by decide +kernel
theorem dX12_readText_123 : decode cX12_readText 123 = .ok (.iadd, 1) := by decide +kernel
theorem dX12_readText_124 : decode cX12_readText 124 = .ok (.aload_n 0, 1) := by decide +kernel
theorem dX12_readText_125 : decode cX12_readText 125 = .ok (.getfield 53, 3) := by decide +kernel
theorem dX12_readText_128 : decode cX12_readText 128 = .ok (.sipush 130, 3) := by decide +kernel
theorem dX12_readText_131 : decode cX12_readText 131 = .ok (.iload_n 2, 1) := by decide +kernel
theorem dX12_readText_132 : decode cX12_readText 132 = .ok (.iadd, 1) := by decide +kernel
theorem dX12_readText_133 : decode cX12_readText 133 = .ok (.baload, 1) := by decide +kernel
theorem dX12_readText_134 : decode cX12_readText 134 = .ok (.bastore, 1) := by decide +kernel
theorem dX12_readText_135 : decode cX12_readText 135 = .ok (.aload_n 0, 1) := by decide +kernel
theorem dX12_readText_136 : decode cX12_readText 136 = .ok (.getfield 56, 3) := by decide +kernel
theorem dX12_readText_139 : decode cX12_readText 139 = .ok (.sipush 130, 3) := by decide +kernel
theorem dX12_readText_142 : decode cX12_readText 142 = .ok (.iload_n 1, 1) := by decide +kernel
theorem dX12_readText_143 : decode cX12_readText 143 = .ok (.imul, 1) := by decide +kernel
theorem dX12_readText_144 : decode cX12_readText 144 = .ok (.iload_n 2, 1) := by decide +kernel
theorem dX12_readText_145 : decode cX12_readText 145 = .ok (.iadd, 1) := by decide +kernel
theorem dX12_readText_146 : decode cX12_readText 146 = .ok (.aload_n 0, 1) := by decide +kernel
theorem dX12_readText_147 : decode cX12_readText 147 = .ok (.getfield 56, 3) := by decide +kernel
theorem dX12_readText_150 : decode cX12_readText 150 = .ok (.sipush 130, 3) := by decide +kernel
theorem dX12_readText_153 : decode cX12_readText 153 = .ok (.iload_n 2, 1) := by decide +kernel
theorem dX12_readText_154 : decode cX12_readText 154 = .ok (.iadd, 1) := by decide +kernel
theorem dX12_readText_155 : decode cX12_readText 155 = .ok (.iaload, 1) := by decide +kernel
theorem dX12_readText_156 : decode cX12_readText 156 = .ok (.iastore, 1) := by decide +kernel
theorem dX12_readText_157 : decode cX12_readText 157 = .ok (.iinc 2 1, 3) := by decide +kernel
theorem dX12_readText_160 : decode cX12_readText 160 = .ok (.goto (-55), 3) := by decide +kernel
theorem dX12_readText_163 : decode cX12_readText 163 = .ok (.aload_n 0, 1) := by decide +kernel
theorem dX12_readText_164 : decode cX12_readText 164 = .ok (.getfield 59, 3) := by decide +kernel
theorem dX12_readText_167 : decode cX12_readText 167 = .ok (.iload_n 1, 1) := by decide +kernel
theorem dX12_readText_168 : decode cX12_readText 168 = .ok (.aload_n 0, 1) := by decide +kernel
theorem dX12_readText_169 : decode cX12_readText 169 = .ok (.getfield 59, 3) := by decide +kernel
theorem dX12_readText_172 : decode cX12_readText 172 = .ok (.iconst 1, 1) := by decide +kernel
theorem dX12_readText_173 : decode cX12_readText 173 = .ok (.iaload, 1) := by decide +kernel
theorem dX12_readText_174 : decode cX12_readText 174 = .ok (.iastore, 1) := by decide +kernel
theorem dX12_readText_175 : decode cX12_readText 175 = .ok (.iconst 0, 1) := by decide +kernel
theorem dX12_readText_176 : decode cX12_readText 176 = .ok (.istore_n 2, 1) := by decide +kernel
theorem dX12_readText_177 : decode cX12_readText 177 = .ok (.iload_n 2, 1) := by decide +kernel
theorem dX12_readText_178 : decode cX12_readText 178 = .ok (.aload_n 0, 1) := by decide +kernel
theorem dX12_readText_179 : decode cX12_readText 179 = .ok (.getfield 59, 3) := by decide +kernel
theorem dX12_readText_182 : decode cX12_readText 182 = .ok (.iload_n 1, 1) := by decide +kernel
theorem dX12_readText_183 : decode cX12_readText 183 = .ok (.iaload, 1) := by decide +kernel
theorem dX12_readText_184 : decode cX12_readText 184 = .ok (.if_icmp .ge 49, 3) := by decide +kernel
theorem dX12_readText_187 : decode cX12_readText 187 = .ok (.aload_n 0, 1) := by decide +kernel
theorem dX12_readText_188 : decode cX12_readText 188 = .ok (.getfield 62, 3) := by decide +kernel
theorem dX12_readText_191 : decode cX12_readText 191 = .ok (.bipush 61, 2) := by decide +kernel
theorem dX12_readText_193 : decode cX12_readText 193 = .ok (.iload_n 1, 1) := by decide +kernel
theorem dX12_readText_194 : decode cX12_readText 194 = .ok (.imul, 1) := by decide +kernel
theorem dX12_readText_195 : decode cX12_readText 195 = .ok (.iload_n 2, 1) := by decide +kernel
theorem dX12_readText_196 : decode cX12_readText 196 = .ok (.iadd, 1) := by decide +kernel
theorem dX12_readText_197 : decode cX12_readText 197 = .ok (.aload_n 0, 1) := by decide +kernel
theorem dX12_readText_198 : decode cX12_readText 198 = .ok (.getfield 62, 3) := by decide +kernel
theorem dX12_readText_201 : decode cX12_readText 201 = .ok (.bipush 61, 2) := by decide +kernel
theorem dX12_readText_203 : decode cX12_readText 203 = .ok (.iload_n 2, 1) := by decide +kernel
theorem dX12_readText_204 : decode cX12_readText 204 = .ok (.iadd, 1) := by decide +kernel
theorem dX12_readText_205 : decode cX12_readText 205 = .ok (.saload, 1) := by decide +kernel
theorem dX12_readText_206 : decode cX12_readText 206 = .ok (.sastore, 1) := by decide +kernel
theorem dX12_readText_207 : decode cX12_readText 207 = .ok (.aload_n 0, 1) := by decide +kernel
theorem dX12_readText_208 : decode cX12_readText 208 = .ok (.getfield 66, 3) := by decide +kernel
theorem dX12_readText_211 : decode cX12_readText 211 = .ok (.bipush 61, 2) := by decide +kernel
theorem dX12_readText_213 : decode cX12_readText 213 = .ok (.iload_n 1, 1) := by decide +kernel
theorem dX12_readText_214 : decode cX12_readText 214 = .ok (.imul, 1) := by decide +kernel
theorem dX12_readText_215 : decode cX12_readText 215 = .ok (.iload_n 2, 1) := by decide +kernel
theorem dX12_readText_216 : decode cX12_readText 216 = .ok (.iadd, 1) := by decide +kernel
theorem dX12_readText_217 : decode cX12_readText 217 = .ok (.aload_n 0, 1) := by decide +kernel
theorem dX12_readText_218 : decode cX12_readText 218 = .ok (.getfield 66, 3) := by decide +kernel
theorem dX12_readText_221 : decode cX12_readText 221 = .ok (.bipush 61, 2) := by decide +kernel
theorem dX12_readText_223 : decode cX12_readText 223 = .ok (.iload_n 2, 1) := by decide +kernel
theorem dX12_readText_224 : decode cX12_readText 224 = .ok (.iadd, 1) := by decide +kernel
theorem dX12_readText_225 : decode cX12_readText 225 = .ok (.saload, 1) := by decide +kernel
theorem dX12_readText_226 : decode cX12_readText 226 = .ok (.sastore, 1) := by decide +kernel
theorem dX12_readText_227 : decode cX12_readText 227 = .ok (.iinc 2 1, 3) := by decide +kernel
theorem dX12_readText_230 : decode cX12_readText 230 = .ok (.goto (-53), 3) := by decide +kernel
theorem dX12_readText_233 : decode cX12_readText 233 = .ok (.iconst (-1), 1) := by decide +kernel
theorem dX12_readText_234 : decode cX12_readText 234 = .ok (.ireturn, 1) := by decide +kernel
theorem dX12_twoOf_0 : decode cX12_twoOf 0 = .ok (.iload_n 0, 1) := by decide +kernel
theorem dX12_twoOf_1 : decode cX12_twoOf 1 = .ok (.tableswitch 217 37 62 #[153, 203, 217, 217, 217, 127, 119, 217, 123, 217, 131, 217, 217, 217, 217, 217, 217, 217, 217, 217, 217, 217, 217, 170, 181, 192], 119) := by decide +kernel
theorem dX12_twoOf_120 : decode cX12_twoOf 120 = .ok (.iload_n 1, 1) := by decide +kernel
theorem dX12_twoOf_121 : decode cX12_twoOf 121 = .ok (.iload_n 2, 1) := by decide +kernel
theorem dX12_twoOf_122 : decode cX12_twoOf 122 = .ok (.iadd, 1) := by decide +kernel
theorem dX12_twoOf_123 : decode cX12_twoOf 123 = .ok (.ireturn, 1) := by decide +kernel
theorem dX12_twoOf_124 : decode cX12_twoOf 124 = .ok (.iload_n 1, 1) := by decide +kernel
theorem dX12_twoOf_125 : decode cX12_twoOf 125 = .ok (.iload_n 2, 1) := by decide +kernel
theorem dX12_twoOf_126 : decode cX12_twoOf 126 = .ok (.isub, 1) := by decide +kernel
theorem dX12_twoOf_127 : decode cX12_twoOf 127 = .ok (.ireturn, 1) := by decide +kernel
theorem dX12_twoOf_128 : decode cX12_twoOf 128 = .ok (.iload_n 1, 1) := by decide +kernel
theorem dX12_twoOf_129 : decode cX12_twoOf 129 = .ok (.iload_n 2, 1) := by decide +kernel
theorem dX12_twoOf_130 : decode cX12_twoOf 130 = .ok (.imul, 1) := by decide +kernel
theorem dX12_twoOf_131 : decode cX12_twoOf 131 = .ok (.ireturn, 1) := by decide +kernel
theorem dX12_twoOf_132 : decode cX12_twoOf 132 = .ok (.iload_n 2, 1) := by decide +kernel
theorem dX12_twoOf_133 : decode cX12_twoOf 133 = .ok (.ifCond .ne 7, 3) := by decide +kernel
theorem dX12_twoOf_136 : decode cX12_twoOf 136 = .ok (.iconst 0, 1) := by decide +kernel
theorem dX12_twoOf_137 : decode cX12_twoOf 137 = .ok (.goto 16, 3) := by decide +kernel
theorem dX12_twoOf_140 : decode cX12_twoOf 140 = .ok (.iload_n 2, 1) := by decide +kernel
theorem dX12_twoOf_141 : decode cX12_twoOf 141 = .ok (.iconst (-1), 1) := by decide +kernel
theorem dX12_twoOf_142 : decode cX12_twoOf 142 = .ok (.if_icmp .ne 8, 3) := by decide +kernel
theorem dX12_twoOf_145 : decode cX12_twoOf 145 = .ok (.iload_n 1, 1) := by decide +kernel
theorem dX12_twoOf_146 : decode cX12_twoOf 146 = .ok (.ineg, 1) := by decide +kernel
theorem dX12_twoOf_147 : decode cX12_twoOf 147 = .ok (.goto 6, 3) := by decide +kernel
theorem dX12_twoOf_150 : decode cX12_twoOf 150 = .ok (.iload_n 1, 1) := by decide +kernel
theorem dX12_twoOf_151 : decode cX12_twoOf 151 = .ok (.iload_n 2, 1) := by decide +kernel
theorem dX12_twoOf_152 : decode cX12_twoOf 152 = .ok (.idiv, 1) := by decide +kernel
theorem dX12_twoOf_153 : decode cX12_twoOf 153 = .ok (.ireturn, 1) := by decide +kernel
theorem dX12_twoOf_154 : decode cX12_twoOf 154 = .ok (.iload_n 2, 1) := by decide +kernel
theorem dX12_twoOf_155 : decode cX12_twoOf 155 = .ok (.ifCond .eq 8, 3) := by decide +kernel
theorem dX12_twoOf_158 : decode cX12_twoOf 158 = .ok (.iload_n 2, 1) := by decide +kernel
theorem dX12_twoOf_159 : decode cX12_twoOf 159 = .ok (.iconst (-1), 1) := by decide +kernel
theorem dX12_twoOf_160 : decode cX12_twoOf 160 = .ok (.if_icmp .ne 7, 3) := by decide +kernel
theorem dX12_twoOf_163 : decode cX12_twoOf 163 = .ok (.iconst 0, 1) := by decide +kernel
theorem dX12_twoOf_164 : decode cX12_twoOf 164 = .ok (.goto 6, 3) := by decide +kernel
theorem dX12_twoOf_167 : decode cX12_twoOf 167 = .ok (.iload_n 1, 1) := by decide +kernel
theorem dX12_twoOf_168 : decode cX12_twoOf 168 = .ok (.iload_n 2, 1) := by decide +kernel
theorem dX12_twoOf_169 : decode cX12_twoOf 169 = .ok (.irem, 1) := by decide +kernel
theorem dX12_twoOf_170 : decode cX12_twoOf 170 = .ok (.ireturn, 1) := by decide +kernel
theorem dX12_twoOf_171 : decode cX12_twoOf 171 = .ok (.iload_n 1, 1) := by decide +kernel
theorem dX12_twoOf_172 : decode cX12_twoOf 172 = .ok (.iload_n 2, 1) := by decide +kernel
theorem dX12_twoOf_173 : decode cX12_twoOf 173 = .ok (.if_icmp .ge 7, 3) := by decide +kernel
theorem dX12_twoOf_176 : decode cX12_twoOf 176 = .ok (.iconst 1, 1) := by decide +kernel
theorem dX12_twoOf_177 : decode cX12_twoOf 177 = .ok (.goto 4, 3) := by decide +kernel
theorem dX12_twoOf_180 : decode cX12_twoOf 180 = .ok (.iconst 0, 1) := by decide +kernel
theorem dX12_twoOf_181 : decode cX12_twoOf 181 = .ok (.ireturn, 1) := by decide +kernel
theorem dX12_twoOf_182 : decode cX12_twoOf 182 = .ok (.iload_n 1, 1) := by decide +kernel
theorem dX12_twoOf_183 : decode cX12_twoOf 183 = .ok (.iload_n 2, 1) := by decide +kernel
theorem dX12_twoOf_184 : decode cX12_twoOf 184 = .ok (.if_icmp .ne 7, 3) := by decide +kernel
theorem dX12_twoOf_187 : decode cX12_twoOf 187 = .ok (.iconst 1, 1) := by decide +kernel
theorem dX12_twoOf_188 : decode cX12_twoOf 188 = .ok (.goto 4, 3) := by decide +kernel
theorem dX12_twoOf_191 : decode cX12_twoOf 191 = .ok (.iconst 0, 1) := by decide +kernel
theorem dX12_twoOf_192 : decode cX12_twoOf 192 = .ok (.ireturn, 1) := by decide +kernel
theorem dX12_twoOf_193 : decode cX12_twoOf 193 = .ok (.iload_n 1, 1) := by decide +kernel
theorem dX12_twoOf_194 : decode cX12_twoOf 194 = .ok (.iload_n 2, 1) := by decide +kernel
theorem dX12_twoOf_195 : decode cX12_twoOf 195 = .ok (.if_icmp .le 7, 3) := by decide +kernel
theorem dX12_twoOf_198 : decode cX12_twoOf 198 = .ok (.iconst 1, 1) := by decide +kernel
theorem dX12_twoOf_199 : decode cX12_twoOf 199 = .ok (.goto 4, 3) := by decide +kernel
theorem dX12_twoOf_202 : decode cX12_twoOf 202 = .ok (.iconst 0, 1) := by decide +kernel
theorem dX12_twoOf_203 : decode cX12_twoOf 203 = .ok (.ireturn, 1) := by decide +kernel
theorem dX12_twoOf_204 : decode cX12_twoOf 204 = .ok (.iload_n 1, 1) := by decide +kernel
theorem dX12_twoOf_205 : decode cX12_twoOf 205 = .ok (.ifCond .eq 11, 3) := by decide +kernel
theorem dX12_twoOf_208 : decode cX12_twoOf 208 = .ok (.iload_n 2, 1) := by decide +kernel
theorem dX12_twoOf_209 : decode cX12_twoOf 209 = .ok (.ifCond .eq 7, 3) := by decide +kernel
theorem dX12_twoOf_212 : decode cX12_twoOf 212 = .ok (.iconst 1, 1) := by decide +kernel
theorem dX12_twoOf_213 : decode cX12_twoOf 213 = .ok (.goto 4, 3) := by decide +kernel
theorem dX12_twoOf_216 : decode cX12_twoOf 216 = .ok (.iconst 0, 1) := by decide +kernel
theorem dX12_twoOf_217 : decode cX12_twoOf 217 = .ok (.ireturn, 1) := by decide +kernel
theorem dX12_twoOf_218 : decode cX12_twoOf 218 = .ok (.iload_n 1, 1) := by decide +kernel
theorem dX12_twoOf_219 : decode cX12_twoOf 219 = .ok (.ifCond .ne 7, 3) := by decide +kernel
theorem dX12_twoOf_222 : decode cX12_twoOf 222 = .ok (.iload_n 2, 1) := by decide +kernel
theorem dX12_twoOf_223 : decode cX12_twoOf 223 = .ok (.ifCond .eq 7, 3) := by decide +kernel
theorem dX12_twoOf_226 : decode cX12_twoOf 226 = .ok (.iconst 1, 1) := by decide +kernel
theorem dX12_twoOf_227 : decode cX12_twoOf 227 = .ok (.goto 4, 3) := by decide +kernel
theorem dX12_twoOf_230 : decode cX12_twoOf 230 = .ok (.iconst 0, 1) := by decide +kernel
theorem dX12_twoOf_231 : decode cX12_twoOf 231 = .ok (.ireturn, 1) := by decide +kernel
theorem dX12_worked_0 : decode cX12_worked 0 = .ok (.iconst 0, 1) := by decide +kernel
theorem dX12_worked_1 : decode cX12_worked 1 = .ok (.istore 4, 2) := by decide +kernel
theorem dX12_worked_3 : decode cX12_worked 3 = .ok (.sipush 130, 3) := by decide +kernel
theorem dX12_worked_6 : decode cX12_worked 6 = .ok (.iload_n 1, 1) := by decide +kernel
theorem dX12_worked_7 : decode cX12_worked 7 = .ok (.imul, 1) := by decide +kernel
theorem dX12_worked_8 : decode cX12_worked 8 = .ok (.iload_n 2, 1) := by decide +kernel
theorem dX12_worked_9 : decode cX12_worked 9 = .ok (.iadd, 1) := by decide +kernel
theorem dX12_worked_10 : decode cX12_worked 10 = .ok (.istore 5, 2) := by decide +kernel
theorem dX12_worked_12 : decode cX12_worked 12 = .ok (.iload 5, 2) := by decide +kernel
theorem dX12_worked_14 : decode cX12_worked 14 = .ok (.sipush 130, 3) := by decide +kernel
theorem dX12_worked_17 : decode cX12_worked 17 = .ok (.iload_n 1, 1) := by decide +kernel
theorem dX12_worked_18 : decode cX12_worked 18 = .ok (.imul, 1) := by decide +kernel
theorem dX12_worked_19 : decode cX12_worked 19 = .ok (.iload_n 3, 1) := by decide +kernel
theorem dX12_worked_20 : decode cX12_worked 20 = .ok (.iadd, 1) := by decide +kernel
theorem dX12_worked_21 : decode cX12_worked 21 = .ok (.if_icmp .ge 167, 3) := by decide +kernel
theorem dX12_worked_24 : decode cX12_worked 24 = .ok (.aload_n 0, 1) := by decide +kernel
theorem dX12_worked_25 : decode cX12_worked 25 = .ok (.getfield 53, 3) := by decide +kernel
theorem dX12_worked_28 : decode cX12_worked 28 = .ok (.iload 5, 2) := by decide +kernel
theorem dX12_worked_30 : decode cX12_worked 30 = .ok (.baload, 1) := by decide +kernel
theorem dX12_worked_31 : decode cX12_worked 31 = .ok (.istore 6, 2) := by decide +kernel
theorem dX12_worked_33 : decode cX12_worked 33 = .ok (.iload 6, 2) := by decide +kernel
theorem dX12_worked_35 : decode cX12_worked 35 = .ok (.iconst 1, 1) := by decide +kernel
theorem dX12_worked_36 : decode cX12_worked 36 = .ok (.if_icmp .eq 9, 3) := by decide +kernel
theorem dX12_worked_39 : decode cX12_worked 39 = .ok (.iload 6, 2) := by decide +kernel
theorem dX12_worked_41 : decode cX12_worked 41 = .ok (.iconst 2, 1) := by decide +kernel
theorem dX12_worked_42 : decode cX12_worked 42 = .ok (.if_icmp .ne 44, 3) := by decide +kernel
theorem dX12_worked_45 : decode cX12_worked 45 = .ok (.aload_n 0, 1) := by decide +kernel
theorem dX12_worked_46 : decode cX12_worked 46 = .ok (.getfield 72, 3) := by decide +kernel
theorem dX12_worked_49 : decode cX12_worked 49 = .ok (.iload 4, 2) := by decide +kernel
theorem dX12_worked_51 : decode cX12_worked 51 = .ok (.iload 6, 2) := by decide +kernel
theorem dX12_worked_53 : decode cX12_worked 53 = .ok (.iconst 1, 1) := by decide +kernel
theorem dX12_worked_54 : decode cX12_worked 54 = .ok (.if_icmp .ne 13, 3) := by decide +kernel
theorem dX12_worked_57 : decode cX12_worked 57 = .ok (.aload_n 0, 1) := by decide +kernel
theorem dX12_worked_58 : decode cX12_worked 58 = .ok (.getfield 56, 3) := by decide +kernel
theorem dX12_worked_61 : decode cX12_worked 61 = .ok (.iload 5, 2) := by decide +kernel
theorem dX12_worked_63 : decode cX12_worked 63 = .ok (.iaload, 1) := by decide +kernel
theorem dX12_worked_64 : decode cX12_worked 64 = .ok (.goto 15, 3) := by decide +kernel
theorem dX12_worked_67 : decode cX12_worked 67 = .ok (.aload_n 0, 1) := by decide +kernel
theorem dX12_worked_68 : decode cX12_worked 68 = .ok (.getfield 69, 3) := by decide +kernel
theorem dX12_worked_71 : decode cX12_worked 71 = .ok (.aload_n 0, 1) := by decide +kernel
theorem dX12_worked_72 : decode cX12_worked 72 = .ok (.getfield 56, 3) := by decide +kernel
theorem dX12_worked_75 : decode cX12_worked 75 = .ok (.iload 5, 2) := by decide +kernel
theorem dX12_worked_77 : decode cX12_worked 77 = .ok (.iaload, 1) := by decide +kernel
theorem dX12_worked_78 : decode cX12_worked 78 = .ok (.iaload, 1) := by decide +kernel
theorem dX12_worked_79 : decode cX12_worked 79 = .ok (.iastore, 1) := by decide +kernel
theorem dX12_worked_80 : decode cX12_worked 80 = .ok (.iinc 4 1, 3) := by decide +kernel
theorem dX12_worked_83 : decode cX12_worked 83 = .ok (.goto 99, 3) := by decide +kernel
theorem dX12_worked_86 : decode cX12_worked 86 = .ok (.iload 6, 2) := by decide +kernel
theorem dX12_worked_88 : decode cX12_worked 88 = .ok (.iconst 3, 1) := by decide +kernel
theorem dX12_worked_89 : decode cX12_worked 89 = .ok (.if_icmp .ne 32, 3) := by decide +kernel
theorem dX12_worked_92 : decode cX12_worked 92 = .ok (.aload_n 0, 1) := by decide +kernel
theorem dX12_worked_93 : decode cX12_worked 93 = .ok (.getfield 72, 3) := by decide +kernel
theorem dX12_worked_96 : decode cX12_worked 96 = .ok (.iload 4, 2) := by decide +kernel
theorem dX12_worked_98 : decode cX12_worked 98 = .ok (.iconst 1, 1) := by decide +kernel
theorem dX12_worked_99 : decode cX12_worked 99 = .ok (.isub, 1) := by decide +kernel
theorem dX12_worked_100 : decode cX12_worked 100 = .ok (.aload_n 0, 1) := by decide +kernel
theorem dX12_worked_101 : decode cX12_worked 101 = .ok (.getfield 72, 3) := by decide +kernel
theorem dX12_worked_104 : decode cX12_worked 104 = .ok (.iload 4, 2) := by decide +kernel
theorem dX12_worked_106 : decode cX12_worked 106 = .ok (.iconst 1, 1) := by decide +kernel
theorem dX12_worked_107 : decode cX12_worked 107 = .ok (.isub, 1) := by decide +kernel
theorem dX12_worked_108 : decode cX12_worked 108 = .ok (.iaload, 1) := by decide +kernel
theorem dX12_worked_109 : decode cX12_worked 109 = .ok (.ifCond .ne 7, 3) := by decide +kernel
theorem dX12_worked_112 : decode cX12_worked 112 = .ok (.iconst 1, 1) := by decide +kernel
theorem dX12_worked_113 : decode cX12_worked 113 = .ok (.goto 4, 3) := by decide +kernel
theorem dX12_worked_116 : decode cX12_worked 116 = .ok (.iconst 0, 1) := by decide +kernel
theorem dX12_worked_117 : decode cX12_worked 117 = .ok (.iastore, 1) := by decide +kernel
theorem dX12_worked_118 : decode cX12_worked 118 = .ok (.goto 64, 3) := by decide +kernel
theorem dX12_worked_121 : decode cX12_worked 121 = .ok (.iload 6, 2) := by decide +kernel
theorem dX12_worked_123 : decode cX12_worked 123 = .ok (.iconst 4, 1) := by decide +kernel
theorem dX12_worked_124 : decode cX12_worked 124 = .ok (.if_icmp .ne 25, 3) := by decide +kernel
theorem dX12_worked_127 : decode cX12_worked 127 = .ok (.aload_n 0, 1) := by decide +kernel
theorem dX12_worked_128 : decode cX12_worked 128 = .ok (.getfield 72, 3) := by decide +kernel
theorem dX12_worked_131 : decode cX12_worked 131 = .ok (.iload 4, 2) := by decide +kernel
theorem dX12_worked_133 : decode cX12_worked 133 = .ok (.iconst 1, 1) := by decide +kernel
theorem dX12_worked_134 : decode cX12_worked 134 = .ok (.isub, 1) := by decide +kernel
theorem dX12_worked_135 : decode cX12_worked 135 = .ok (.aload_n 0, 1) := by decide +kernel
theorem dX12_worked_136 : decode cX12_worked 136 = .ok (.getfield 72, 3) := by decide +kernel
theorem dX12_worked_139 : decode cX12_worked 139 = .ok (.iload 4, 2) := by decide +kernel
theorem dX12_worked_141 : decode cX12_worked 141 = .ok (.iconst 1, 1) := by decide +kernel
theorem dX12_worked_142 : decode cX12_worked 142 = .ok (.isub, 1) := by decide +kernel
theorem dX12_worked_143 : decode cX12_worked 143 = .ok (.iaload, 1) := by decide +kernel
theorem dX12_worked_144 : decode cX12_worked 144 = .ok (.ineg, 1) := by decide +kernel
theorem dX12_worked_145 : decode cX12_worked 145 = .ok (.iastore, 1) := by decide +kernel
theorem dX12_worked_146 : decode cX12_worked 146 = .ok (.goto 36, 3) := by decide +kernel
theorem dX12_worked_149 : decode cX12_worked 149 = .ok (.iinc 4 (-1), 3) := by decide +kernel
theorem dX12_worked_152 : decode cX12_worked 152 = .ok (.aload_n 0, 1) := by decide +kernel
theorem dX12_worked_153 : decode cX12_worked 153 = .ok (.getfield 72, 3) := by decide +kernel
theorem dX12_worked_156 : decode cX12_worked 156 = .ok (.iload 4, 2) := by decide +kernel
theorem dX12_worked_158 : decode cX12_worked 158 = .ok (.iconst 1, 1) := by decide +kernel
theorem dX12_worked_159 : decode cX12_worked 159 = .ok (.isub, 1) := by decide +kernel
theorem dX12_worked_160 : decode cX12_worked 160 = .ok (.iload 6, 2) := by decide +kernel
theorem dX12_worked_162 : decode cX12_worked 162 = .ok (.aload_n 0, 1) := by decide +kernel
theorem dX12_worked_163 : decode cX12_worked 163 = .ok (.getfield 72, 3) := by decide +kernel
theorem dX12_worked_166 : decode cX12_worked 166 = .ok (.iload 4, 2) := by decide +kernel
theorem dX12_worked_168 : decode cX12_worked 168 = .ok (.iconst 1, 1) := by decide +kernel
theorem dX12_worked_169 : decode cX12_worked 169 = .ok (.isub, 1) := by decide +kernel
theorem dX12_worked_170 : decode cX12_worked 170 = .ok (.iaload, 1) := by decide +kernel
theorem dX12_worked_171 : decode cX12_worked 171 = .ok (.aload_n 0, 1) := by decide +kernel
theorem dX12_worked_172 : decode cX12_worked 172 = .ok (.getfield 72, 3) := by decide +kernel
theorem dX12_worked_175 : decode cX12_worked 175 = .ok (.iload 4, 2) := by decide +kernel
theorem dX12_worked_177 : decode cX12_worked 177 = .ok (.iaload, 1) := by decide +kernel
theorem dX12_worked_178 : decode cX12_worked 178 = .ok (.invokestatic 230, 3) := by decide +kernel
theorem dX12_worked_181 : decode cX12_worked 181 = .ok (.iastore, 1) := by decide +kernel
theorem dX12_worked_182 : decode cX12_worked 182 = .ok (.iinc 5 1, 3) := by decide +kernel
theorem dX12_worked_185 : decode cX12_worked 185 = .ok (.goto (-173), 3) := by decide +kernel
theorem dX12_worked_188 : decode cX12_worked 188 = .ok (.aload_n 0, 1) := by decide +kernel
theorem dX12_worked_189 : decode cX12_worked 189 = .ok (.getfield 72, 3) := by decide +kernel
theorem dX12_worked_192 : decode cX12_worked 192 = .ok (.iconst 0, 1) := by decide +kernel
theorem dX12_worked_193 : decode cX12_worked 193 = .ok (.iaload, 1) := by decide +kernel
theorem dX12_worked_194 : decode cX12_worked 194 = .ok (.ireturn, 1) := by decide +kernel
theorem dX12_gives_0 : decode cX12_gives 0 = .ok (.iconst 0, 1) := by decide +kernel
theorem dX12_gives_1 : decode cX12_gives 1 = .ok (.istore_n 2, 1) := by decide +kernel
theorem dX12_gives_2 : decode cX12_gives 2 = .ok (.bipush 61, 2) := by decide +kernel
theorem dX12_gives_4 : decode cX12_gives 4 = .ok (.iload_n 1, 1) := by decide +kernel
theorem dX12_gives_5 : decode cX12_gives 5 = .ok (.imul, 1) := by decide +kernel
theorem dX12_gives_6 : decode cX12_gives 6 = .ok (.istore_n 3, 1) := by decide +kernel
theorem dX12_gives_7 : decode cX12_gives 7 = .ok (.iload_n 3, 1) := by decide +kernel
theorem dX12_gives_8 : decode cX12_gives 8 = .ok (.bipush 61, 2) := by decide +kernel
theorem dX12_gives_10 : decode cX12_gives 10 = .ok (.iload_n 1, 1) := by decide +kernel
theorem dX12_gives_11 : decode cX12_gives 11 = .ok (.imul, 1) := by decide +kernel
theorem dX12_gives_12 : decode cX12_gives 12 = .ok (.aload_n 0, 1) := by decide +kernel
theorem dX12_gives_13 : decode cX12_gives 13 = .ok (.getfield 59, 3) := by decide +kernel
theorem dX12_gives_16 : decode cX12_gives 16 = .ok (.iload_n 1, 1) := by decide +kernel
theorem dX12_gives_17 : decode cX12_gives 17 = .ok (.iaload, 1) := by decide +kernel
theorem dX12_gives_18 : decode cX12_gives 18 = .ok (.iadd, 1) := by decide +kernel
theorem dX12_gives_19 : decode cX12_gives 19 = .ok (.if_icmp .ge 59, 3) := by decide +kernel
theorem dX12_gives_22 : decode cX12_gives 22 = .ok (.aload_n 0, 1) := by decide +kernel
theorem dX12_gives_23 : decode cX12_gives 23 = .ok (.getfield 62, 3) := by decide +kernel
theorem dX12_gives_26 : decode cX12_gives 26 = .ok (.iload_n 3, 1) := by decide +kernel
theorem dX12_gives_27 : decode cX12_gives 27 = .ok (.saload, 1) := by decide +kernel
theorem dX12_gives_28 : decode cX12_gives 28 = .ok (.iload_n 2, 1) := by decide +kernel
theorem dX12_gives_29 : decode cX12_gives 29 = .ok (.if_icmp .eq 18, 3) := by decide +kernel
theorem dX12_gives_32 : decode cX12_gives 32 = .ok (.aload_n 0, 1) := by decide +kernel
theorem dX12_gives_33 : decode cX12_gives 33 = .ok (.iload_n 1, 1) := by decide +kernel
theorem dX12_gives_34 : decode cX12_gives 34 = .ok (.iload_n 2, 1) := by decide +kernel
theorem dX12_gives_35 : decode cX12_gives 35 = .ok (.aload_n 0, 1) := by decide +kernel
theorem dX12_gives_36 : decode cX12_gives 36 = .ok (.getfield 62, 3) := by decide +kernel
theorem dX12_gives_39 : decode cX12_gives 39 = .ok (.iload_n 3, 1) := by decide +kernel
theorem dX12_gives_40 : decode cX12_gives 40 = .ok (.saload, 1) := by decide +kernel
theorem dX12_gives_41 : decode cX12_gives 41 = .ok (.invokevirtual 233, 3) := by decide +kernel
theorem dX12_gives_44 : decode cX12_gives 44 = .ok (.ifCond .eq 21, 3) := by decide +kernel
theorem dX12_gives_47 : decode cX12_gives 47 = .ok (.aload_n 0, 1) := by decide +kernel
theorem dX12_gives_48 : decode cX12_gives 48 = .ok (.iload_n 1, 1) := by decide +kernel
theorem dX12_gives_49 : decode cX12_gives 49 = .ok (.aload_n 0, 1) := by decide +kernel
theorem dX12_gives_50 : decode cX12_gives 50 = .ok (.getfield 62, 3) := by decide +kernel
theorem dX12_gives_53 : decode cX12_gives 53 = .ok (.iload_n 3, 1) := by decide +kernel
theorem dX12_gives_54 : decode cX12_gives 54 = .ok (.saload, 1) := by decide +kernel
theorem dX12_gives_55 : decode cX12_gives 55 = .ok (.aload_n 0, 1) := by decide +kernel
theorem dX12_gives_56 : decode cX12_gives 56 = .ok (.getfield 66, 3) := by decide +kernel
theorem dX12_gives_59 : decode cX12_gives 59 = .ok (.iload_n 3, 1) := by decide +kernel
theorem dX12_gives_60 : decode cX12_gives 60 = .ok (.saload, 1) := by decide +kernel
theorem dX12_gives_61 : decode cX12_gives 61 = .ok (.invokevirtual 233, 3) := by decide +kernel
theorem dX12_gives_64 : decode cX12_gives 64 = .ok (.ireturn, 1) := by decide +kernel
theorem dX12_gives_65 : decode cX12_gives 65 = .ok (.aload_n 0, 1) := by decide +kernel
theorem dX12_gives_66 : decode cX12_gives 66 = .ok (.getfield 66, 3) := by decide +kernel
theorem dX12_gives_69 : decode cX12_gives 69 = .ok (.iload_n 3, 1) := by decide +kernel
theorem dX12_gives_70 : decode cX12_gives 70 = .ok (.saload, 1) := by decide +kernel
theorem dX12_gives_71 : decode cX12_gives 71 = .ok (.istore_n 2, 1) := by decide +kernel
theorem dX12_gives_72 : decode cX12_gives 72 = .ok (.iinc 3 1, 3) := by decide +kernel
theorem dX12_gives_75 : decode cX12_gives 75 = .ok (.goto (-68), 3) := by decide +kernel
theorem dX12_gives_78 : decode cX12_gives 78 = .ok (.iconst 0, 1) := by decide +kernel
theorem dX12_gives_79 : decode cX12_gives 79 = .ok (.ireturn, 1) := by decide +kernel
theorem dX12_law_0 : decode cX12_law 0 = .ok (.aload_n 0, 1) := by decide +kernel
theorem dX12_law_1 : decode cX12_law 1 = .ok (.iconst 0, 1) := by decide +kernel
theorem dX12_law_2 : decode cX12_law 2 = .ok (.invokevirtual 236, 3) := by decide +kernel
theorem dX12_law_5 : decode cX12_law 5 = .ok (.istore_n 1, 1) := by decide +kernel
theorem dX12_law_6 : decode cX12_law 6 = .ok (.iload_n 1, 1) := by decide +kernel
theorem dX12_law_7 : decode cX12_law 7 = .ok (.ifCond .lt 8, 3) := by decide +kernel
theorem dX12_law_10 : decode cX12_law 10 = .ok (.bipush (-100), 2) := by decide +kernel
theorem dX12_law_12 : decode cX12_law 12 = .ok (.iload_n 1, 1) := by decide +kernel
theorem dX12_law_13 : decode cX12_law 13 = .ok (.isub, 1) := by decide +kernel
theorem dX12_law_14 : decode cX12_law 14 = .ok (.ireturn, 1) := by decide +kernel
theorem dX12_law_15 : decode cX12_law 15 = .ok (.aload_n 0, 1) := by decide +kernel
theorem dX12_law_16 : decode cX12_law 16 = .ok (.iconst 1, 1) := by decide +kernel
theorem dX12_law_17 : decode cX12_law 17 = .ok (.putfield 239, 3) := by decide +kernel
theorem dX12_law_20 : decode cX12_law 20 = .ok (.iconst 1, 1) := by decide +kernel
theorem dX12_law_21 : decode cX12_law 21 = .ok (.ireturn, 1) := by decide +kernel
theorem dX12_findsBy_0 : decode cX12_findsBy 0 = .ok (.aload_n 0, 1) := by decide +kernel
theorem dX12_findsBy_1 : decode cX12_findsBy 1 = .ok (.getfield 18, 3) := by decide +kernel
theorem dX12_findsBy_4 : decode cX12_findsBy 4 = .ok (.iload_n 1, 1) := by decide +kernel
theorem dX12_findsBy_5 : decode cX12_findsBy 5 = .ok (.iaload, 1) := by decide +kernel
theorem dX12_findsBy_6 : decode cX12_findsBy 6 = .ok (.aload_n 0, 1) := by decide +kernel
theorem dX12_findsBy_7 : decode cX12_findsBy 7 = .ok (.getfield 139, 3) := by decide +kernel
theorem dX12_findsBy_10 : decode cX12_findsBy 10 = .ok (.isub, 1) := by decide +kernel
theorem dX12_findsBy_11 : decode cX12_findsBy 11 = .ok (.iload_n 3, 1) := by decide +kernel
theorem dX12_findsBy_12 : decode cX12_findsBy 12 = .ok (.isub, 1) := by decide +kernel
theorem dX12_findsBy_13 : decode cX12_findsBy 13 = .ok (.iconst 1, 1) := by decide +kernel
theorem dX12_findsBy_14 : decode cX12_findsBy 14 = .ok (.iadd, 1) := by decide +kernel
theorem dX12_findsBy_15 : decode cX12_findsBy 15 = .ok (.istore 4, 2) := by decide +kernel
theorem dX12_findsBy_17 : decode cX12_findsBy 17 = .ok (.aload_n 0, 1) := by decide +kernel
theorem dX12_findsBy_18 : decode cX12_findsBy 18 = .ok (.getfield 239, 3) := by decide +kernel
theorem dX12_findsBy_21 : decode cX12_findsBy 21 = .ok (.ifCond .eq 63, 3) := by decide +kernel
theorem dX12_findsBy_24 : decode cX12_findsBy 24 = .ok (.aload_n 0, 1) := by decide +kernel
theorem dX12_findsBy_25 : decode cX12_findsBy 25 = .ok (.getfield 69, 3) := by decide +kernel
theorem dX12_findsBy_28 : decode cX12_findsBy 28 = .ok (.iconst 0, 1) := by decide +kernel
theorem dX12_findsBy_29 : decode cX12_findsBy 29 = .ok (.aload_n 0, 1) := by decide +kernel
theorem dX12_findsBy_30 : decode cX12_findsBy 30 = .ok (.getfield 18, 3) := by decide +kernel
theorem dX12_findsBy_33 : decode cX12_findsBy 33 = .ok (.iload_n 1, 1) := by decide +kernel
theorem dX12_findsBy_34 : decode cX12_findsBy 34 = .ok (.iaload, 1) := by decide +kernel
theorem dX12_findsBy_35 : decode cX12_findsBy 35 = .ok (.iastore, 1) := by decide +kernel
theorem dX12_findsBy_36 : decode cX12_findsBy 36 = .ok (.aload_n 0, 1) := by decide +kernel
theorem dX12_findsBy_37 : decode cX12_findsBy 37 = .ok (.getfield 69, 3) := by decide +kernel
theorem dX12_findsBy_40 : decode cX12_findsBy 40 = .ok (.iconst 1, 1) := by decide +kernel
theorem dX12_findsBy_41 : decode cX12_findsBy 41 = .ok (.aload_n 0, 1) := by decide +kernel
theorem dX12_findsBy_42 : decode cX12_findsBy 42 = .ok (.getfield 139, 3) := by decide +kernel
theorem dX12_findsBy_45 : decode cX12_findsBy 45 = .ok (.iastore, 1) := by decide +kernel
theorem dX12_findsBy_46 : decode cX12_findsBy 46 = .ok (.aload_n 0, 1) := by decide +kernel
theorem dX12_findsBy_47 : decode cX12_findsBy 47 = .ok (.getfield 69, 3) := by decide +kernel
theorem dX12_findsBy_50 : decode cX12_findsBy 50 = .ok (.iconst 2, 1) := by decide +kernel
theorem dX12_findsBy_51 : decode cX12_findsBy 51 = .ok (.aload_n 0, 1) := by decide +kernel
theorem dX12_findsBy_52 : decode cX12_findsBy 52 = .ok (.getfield 24, 3) := by decide +kernel
theorem dX12_findsBy_55 : decode cX12_findsBy 55 = .ok (.iastore, 1) := by decide +kernel
theorem dX12_findsBy_56 : decode cX12_findsBy 56 = .ok (.aload_n 0, 1) := by decide +kernel
theorem dX12_findsBy_57 : decode cX12_findsBy 57 = .ok (.getfield 69, 3) := by decide +kernel
theorem dX12_findsBy_60 : decode cX12_findsBy 60 = .ok (.iconst 3, 1) := by decide +kernel
theorem dX12_findsBy_61 : decode cX12_findsBy 61 = .ok (.iload_n 3, 1) := by decide +kernel
theorem dX12_findsBy_62 : decode cX12_findsBy 62 = .ok (.iastore, 1) := by decide +kernel
theorem dX12_findsBy_63 : decode cX12_findsBy 63 = .ok (.aload_n 0, 1) := by decide +kernel
theorem dX12_findsBy_64 : decode cX12_findsBy 64 = .ok (.getfield 69, 3) := by decide +kernel
theorem dX12_findsBy_67 : decode cX12_findsBy 67 = .ok (.iconst 4, 1) := by decide +kernel
theorem dX12_findsBy_68 : decode cX12_findsBy 68 = .ok (.iload_n 2, 1) := by decide +kernel
theorem dX12_findsBy_69 : decode cX12_findsBy 69 = .ok (.iastore, 1) := by decide +kernel
theorem dX12_findsBy_70 : decode cX12_findsBy 70 = .ok (.aload_n 0, 1) := by decide +kernel
theorem dX12_findsBy_71 : decode cX12_findsBy 71 = .ok (.getfield 69, 3) := by decide +kernel
theorem dX12_findsBy_74 : decode cX12_findsBy 74 = .ok (.iconst 5, 1) := by decide +kernel
theorem dX12_findsBy_75 : decode cX12_findsBy 75 = .ok (.iload_n 1, 1) := by decide +kernel
theorem dX12_findsBy_76 : decode cX12_findsBy 76 = .ok (.iastore, 1) := by decide +kernel
theorem dX12_findsBy_77 : decode cX12_findsBy 77 = .ok (.aload_n 0, 1) := by decide +kernel
theorem dX12_findsBy_78 : decode cX12_findsBy 78 = .ok (.iconst 0, 1) := by decide +kernel
theorem dX12_findsBy_79 : decode cX12_findsBy 79 = .ok (.invokevirtual 243, 3) := by decide +kernel
theorem dX12_findsBy_82 : decode cX12_findsBy 82 = .ok (.istore 4, 2) := by decide +kernel
theorem dX12_findsBy_84 : decode cX12_findsBy 84 = .ok (.iload 4, 2) := by decide +kernel
theorem dX12_findsBy_86 : decode cX12_findsBy 86 = .ok (.ifCond .ge 7, 3) := by decide +kernel
theorem dX12_findsBy_89 : decode cX12_findsBy 89 = .ok (.iconst 0, 1) := by decide +kernel
theorem dX12_findsBy_90 : decode cX12_findsBy 90 = .ok (.goto 17, 3) := by decide +kernel
theorem dX12_findsBy_93 : decode cX12_findsBy 93 = .ok (.iload 4, 2) := by decide +kernel
theorem dX12_findsBy_95 : decode cX12_findsBy 95 = .ok (.bipush 12, 2) := by decide +kernel
theorem dX12_findsBy_97 : decode cX12_findsBy 97 = .ok (.if_icmp .le 8, 3) := by decide +kernel
theorem dX12_findsBy_100 : decode cX12_findsBy 100 = .ok (.bipush 12, 2) := by decide +kernel
theorem dX12_findsBy_102 : decode cX12_findsBy 102 = .ok (.goto 5, 3) := by decide +kernel
theorem dX12_findsBy_105 : decode cX12_findsBy 105 = .ok (.iload 4, 2) := by decide +kernel
theorem dX12_findsBy_107 : decode cX12_findsBy 107 = .ok (.ireturn, 1) := by decide +kernel
theorem dX12_finds_0 : decode cX12_finds 0 = .ok (.aload_n 0, 1) := by decide +kernel
theorem dX12_finds_1 : decode cX12_finds 1 = .ok (.iload_n 1, 1) := by decide +kernel
theorem dX12_finds_2 : decode cX12_finds 2 = .ok (.invokevirtual 158, 3) := by decide +kernel
theorem dX12_finds_5 : decode cX12_finds 5 = .ok (.ifCond .eq 26, 3) := by decide +kernel
theorem dX12_finds_8 : decode cX12_finds 8 = .ok (.iload_n 2, 1) := by decide +kernel
theorem dX12_finds_9 : decode cX12_finds 9 = .ok (.iconst 0, 1) := by decide +kernel
theorem dX12_finds_10 : decode cX12_finds 10 = .ok (.bipush 9, 2) := by decide +kernel
theorem dX12_finds_12 : decode cX12_finds 12 = .ok (.invokestatic 124, 3) := by decide +kernel
theorem dX12_finds_15 : decode cX12_finds 15 = .ok (.ifCond .eq 16, 3) := by decide +kernel
theorem dX12_finds_18 : decode cX12_finds 18 = .ok (.aload_n 0, 1) := by decide +kernel
theorem dX12_finds_19 : decode cX12_finds 19 = .ok (.iload_n 1, 1) := by decide +kernel
theorem dX12_finds_20 : decode cX12_finds 20 = .ok (.iload_n 2, 1) := by decide +kernel
theorem dX12_finds_21 : decode cX12_finds 21 = .ok (.aload_n 0, 1) := by decide +kernel
theorem dX12_finds_22 : decode cX12_finds 22 = .ok (.getfield 28, 3) := by decide +kernel
theorem dX12_finds_25 : decode cX12_finds 25 = .ok (.invokevirtual 246, 3) := by decide +kernel
theorem dX12_finds_28 : decode cX12_finds 28 = .ok (.goto 4, 3) := by decide +kernel
theorem dX12_finds_31 : decode cX12_finds 31 = .ok (.iconst (-1), 1) := by decide +kernel
theorem dX12_finds_32 : decode cX12_finds 32 = .ok (.ireturn, 1) := by decide +kernel
theorem dX12_allWeights_0 : decode cX12_allWeights 0 = .ok (.aload_n 0, 1) := by decide +kernel
theorem dX12_allWeights_1 : decode cX12_allWeights 1 = .ok (.getfield 9, 3) := by decide +kernel
theorem dX12_allWeights_4 : decode cX12_allWeights 4 = .ok (.iconst 4, 1) := by decide +kernel
theorem dX12_allWeights_5 : decode cX12_allWeights 5 = .ok (.iload_n 1, 1) := by decide +kernel
theorem dX12_allWeights_6 : decode cX12_allWeights 6 = .ok (.imul, 1) := by decide +kernel
theorem dX12_allWeights_7 : decode cX12_allWeights 7 = .ok (.iaload, 1) := by decide +kernel
theorem dX12_allWeights_8 : decode cX12_allWeights 8 = .ok (.aload_n 0, 1) := by decide +kernel
theorem dX12_allWeights_9 : decode cX12_allWeights 9 = .ok (.getfield 9, 3) := by decide +kernel
theorem dX12_allWeights_12 : decode cX12_allWeights 12 = .ok (.iconst 4, 1) := by decide +kernel
theorem dX12_allWeights_13 : decode cX12_allWeights 13 = .ok (.iload_n 1, 1) := by decide +kernel
theorem dX12_allWeights_14 : decode cX12_allWeights 14 = .ok (.imul, 1) := by decide +kernel
theorem dX12_allWeights_15 : decode cX12_allWeights 15 = .ok (.iconst 1, 1) := by decide +kernel
theorem dX12_allWeights_16 : decode cX12_allWeights 16 = .ok (.iadd, 1) := by decide +kernel
theorem dX12_allWeights_17 : decode cX12_allWeights 17 = .ok (.iaload, 1) := by decide +kernel
theorem dX12_allWeights_18 : decode cX12_allWeights 18 = .ok (.iadd, 1) := by decide +kernel
theorem dX12_allWeights_19 : decode cX12_allWeights 19 = .ok (.aload_n 0, 1) := by decide +kernel
theorem dX12_allWeights_20 : decode cX12_allWeights 20 = .ok (.getfield 9, 3) := by decide +kernel
theorem dX12_allWeights_23 : decode cX12_allWeights 23 = .ok (.iconst 4, 1) := by decide +kernel
theorem dX12_allWeights_24 : decode cX12_allWeights 24 = .ok (.iload_n 1, 1) := by decide +kernel
theorem dX12_allWeights_25 : decode cX12_allWeights 25 = .ok (.imul, 1) := by decide +kernel
theorem dX12_allWeights_26 : decode cX12_allWeights 26 = .ok (.iconst 2, 1) := by decide +kernel
theorem dX12_allWeights_27 : decode cX12_allWeights 27 = .ok (.iadd, 1) := by decide +kernel
theorem dX12_allWeights_28 : decode cX12_allWeights 28 = .ok (.iaload, 1) := by decide +kernel
theorem dX12_allWeights_29 : decode cX12_allWeights 29 = .ok (.iadd, 1) := by decide +kernel
theorem dX12_allWeights_30 : decode cX12_allWeights 30 = .ok (.aload_n 0, 1) := by decide +kernel
theorem dX12_allWeights_31 : decode cX12_allWeights 31 = .ok (.getfield 9, 3) := by decide +kernel
theorem dX12_allWeights_34 : decode cX12_allWeights 34 = .ok (.iconst 4, 1) := by decide +kernel
theorem dX12_allWeights_35 : decode cX12_allWeights 35 = .ok (.iload_n 1, 1) := by decide +kernel
theorem dX12_allWeights_36 : decode cX12_allWeights 36 = .ok (.imul, 1) := by decide +kernel
theorem dX12_allWeights_37 : decode cX12_allWeights 37 = .ok (.iconst 3, 1) := by decide +kernel
theorem dX12_allWeights_38 : decode cX12_allWeights 38 = .ok (.iadd, 1) := by decide +kernel
theorem dX12_allWeights_39 : decode cX12_allWeights 39 = .ok (.iaload, 1) := by decide +kernel
theorem dX12_allWeights_40 : decode cX12_allWeights 40 = .ok (.iadd, 1) := by decide +kernel
theorem dX12_allWeights_41 : decode cX12_allWeights 41 = .ok (.ireturn, 1) := by decide +kernel
theorem dX12_weightAt_0 : decode cX12_weightAt 0 = .ok (.aload_n 0, 1) := by decide +kernel
theorem dX12_weightAt_1 : decode cX12_weightAt 1 = .ok (.iload_n 1, 1) := by decide +kernel
theorem dX12_weightAt_2 : decode cX12_weightAt 2 = .ok (.invokevirtual 249, 3) := by decide +kernel
theorem dX12_weightAt_5 : decode cX12_weightAt 5 = .ok (.ifCond .ne 15, 3) := by decide +kernel
theorem dX12_weightAt_8 : decode cX12_weightAt 8 = .ok (.iload_n 2, 1) := by decide +kernel
theorem dX12_weightAt_9 : decode cX12_weightAt 9 = .ok (.ifCond .ne 7, 3) := by decide +kernel
theorem dX12_weightAt_12 : decode cX12_weightAt 12 = .ok (.iconst 1, 1) := by decide +kernel
theorem dX12_weightAt_13 : decode cX12_weightAt 13 = .ok (.goto 17, 3) := by decide +kernel
theorem dX12_weightAt_16 : decode cX12_weightAt 16 = .ok (.iconst 0, 1) := by decide +kernel
theorem dX12_weightAt_17 : decode cX12_weightAt 17 = .ok (.goto 13, 3) := by decide +kernel
theorem dX12_weightAt_20 : decode cX12_weightAt 20 = .ok (.aload_n 0, 1) := by decide +kernel
theorem dX12_weightAt_21 : decode cX12_weightAt 21 = .ok (.getfield 9, 3) := by decide +kernel
theorem dX12_weightAt_24 : decode cX12_weightAt 24 = .ok (.iconst 4, 1) := by decide +kernel
theorem dX12_weightAt_25 : decode cX12_weightAt 25 = .ok (.iload_n 1, 1) := by decide +kernel
theorem dX12_weightAt_26 : decode cX12_weightAt 26 = .ok (.imul, 1) := by decide +kernel
theorem dX12_weightAt_27 : decode cX12_weightAt 27 = .ok (.iload_n 2, 1) := by decide +kernel
theorem dX12_weightAt_28 : decode cX12_weightAt 28 = .ok (.iadd, 1) := by decide +kernel
theorem dX12_weightAt_29 : decode cX12_weightAt 29 = .ok (.iaload, 1) := by decide +kernel
theorem dX12_weightAt_30 : decode cX12_weightAt 30 = .ok (.ireturn, 1) := by decide +kernel
theorem dX12_measureOf_0 : decode cX12_measureOf 0 = .ok (.aload_n 0, 1) := by decide +kernel
theorem dX12_measureOf_1 : decode cX12_measureOf 1 = .ok (.iload_n 1, 1) := by decide +kernel
theorem dX12_measureOf_2 : decode cX12_measureOf 2 = .ok (.invokevirtual 249, 3) := by decide +kernel
theorem dX12_measureOf_5 : decode cX12_measureOf 5 = .ok (.ifCond .ne 7, 3) := by decide +kernel
theorem dX12_measureOf_8 : decode cX12_measureOf 8 = .ok (.iconst 1, 1) := by decide +kernel
theorem dX12_measureOf_9 : decode cX12_measureOf 9 = .ok (.goto 8, 3) := by decide +kernel
theorem dX12_measureOf_12 : decode cX12_measureOf 12 = .ok (.aload_n 0, 1) := by decide +kernel
theorem dX12_measureOf_13 : decode cX12_measureOf 13 = .ok (.iload_n 1, 1) := by decide +kernel
theorem dX12_measureOf_14 : decode cX12_measureOf 14 = .ok (.invokevirtual 249, 3) := by decide +kernel
theorem dX12_measureOf_17 : decode cX12_measureOf 17 = .ok (.ireturn, 1) := by decide +kernel
theorem dX12_beginParts_0 : decode cX12_beginParts 0 = .ok (.iconst 0, 1) := by decide +kernel
theorem dX12_beginParts_1 : decode cX12_beginParts 1 = .ok (.istore_n 3, 1) := by decide +kernel
theorem dX12_beginParts_2 : decode cX12_beginParts 2 = .ok (.iload_n 3, 1) := by decide +kernel
theorem dX12_beginParts_3 : decode cX12_beginParts 3 = .ok (.iconst 3, 1) := by decide +kernel
theorem dX12_beginParts_4 : decode cX12_beginParts 4 = .ok (.if_icmp .gt 26, 3) := by decide +kernel
theorem dX12_beginParts_7 : decode cX12_beginParts 7 = .ok (.aload_n 0, 1) := by decide +kernel
theorem dX12_beginParts_8 : decode cX12_beginParts 8 = .ok (.getfield 75, 3) := by decide +kernel
theorem dX12_beginParts_11 : decode cX12_beginParts 11 = .ok (.iconst 4, 1) := by decide +kernel
theorem dX12_beginParts_12 : decode cX12_beginParts 12 = .ok (.iload_n 2, 1) := by decide +kernel
theorem dX12_beginParts_13 : decode cX12_beginParts 13 = .ok (.imul, 1) := by decide +kernel
theorem dX12_beginParts_14 : decode cX12_beginParts 14 = .ok (.iload_n 3, 1) := by decide +kernel
theorem dX12_beginParts_15 : decode cX12_beginParts 15 = .ok (.iadd, 1) := by decide +kernel
theorem dX12_beginParts_16 : decode cX12_beginParts 16 = .ok (.aload_n 0, 1) := by decide +kernel
theorem dX12_beginParts_17 : decode cX12_beginParts 17 = .ok (.iload_n 1, 1) := by decide +kernel
theorem dX12_beginParts_18 : decode cX12_beginParts 18 = .ok (.iload_n 3, 1) := by decide +kernel
theorem dX12_beginParts_19 : decode cX12_beginParts 19 = .ok (.invokevirtual 252, 3) := by decide +kernel
theorem dX12_beginParts_22 : decode cX12_beginParts 22 = .ok (.i2l, 1) := by decide +kernel
theorem dX12_beginParts_23 : decode cX12_beginParts 23 = .ok (.lastore, 1) := by decide +kernel
theorem dX12_beginParts_24 : decode cX12_beginParts 24 = .ok (.iinc 3 1, 3) := by decide +kernel
theorem dX12_beginParts_27 : decode cX12_beginParts 27 = .ok (.goto (-25), 3) := by decide +kernel
theorem dX12_beginParts_30 : decode cX12_beginParts 30 = .ok (.return_, 1) := by decide +kernel
theorem dX12_power_0 : decode cX12_power 0 = .ok (.lconst 1, 1) := by decide +kernel
theorem dX12_power_1 : decode cX12_power 1 = .ok (.lstore_n 3, 1) := by decide +kernel
theorem dX12_power_2 : decode cX12_power 2 = .ok (.iconst 0, 1) := by decide +kernel
theorem dX12_power_3 : decode cX12_power 3 = .ok (.istore 5, 2) := by decide +kernel
theorem dX12_power_5 : decode cX12_power 5 = .ok (.iload 5, 2) := by decide +kernel
theorem dX12_power_7 : decode cX12_power 7 = .ok (.iload_n 2, 1) := by decide +kernel
theorem dX12_power_8 : decode cX12_power 8 = .ok (.if_icmp .ge 13, 3) := by decide +kernel
theorem dX12_power_11 : decode cX12_power 11 = .ok (.lload_n 3, 1) := by decide +kernel
theorem dX12_power_12 : decode cX12_power 12 = .ok (.lload_n 0, 1) := by decide +kernel
theorem dX12_power_13 : decode cX12_power 13 = .ok (.lmul, 1) := by decide +kernel
theorem dX12_power_14 : decode cX12_power 14 = .ok (.lstore_n 3, 1) := by decide +kernel
theorem dX12_power_15 : decode cX12_power 15 = .ok (.iinc 5 1, 3) := by decide +kernel
theorem dX12_power_18 : decode cX12_power 18 = .ok (.goto (-13), 3) := by decide +kernel
theorem dX12_power_21 : decode cX12_power 21 = .ok (.lload_n 3, 1) := by decide +kernel
theorem dX12_power_22 : decode cX12_power 22 = .ok (.lreturn, 1) := by decide +kernel
theorem dX12_choose_0 : decode cX12_choose 0 = .ok (.iload_n 1, 1) := by decide +kernel
theorem dX12_choose_1 : decode cX12_choose 1 = .ok (.ifCond .eq 8, 3) := by decide +kernel
theorem dX12_choose_4 : decode cX12_choose 4 = .ok (.iload_n 1, 1) := by decide +kernel
theorem dX12_choose_5 : decode cX12_choose 5 = .ok (.iload_n 0, 1) := by decide +kernel
theorem dX12_choose_6 : decode cX12_choose 6 = .ok (.if_icmp .ne 7, 3) := by decide +kernel
theorem dX12_choose_9 : decode cX12_choose 9 = .ok (.iconst 1, 1) := by decide +kernel
theorem dX12_choose_10 : decode cX12_choose 10 = .ok (.goto 15, 3) := by decide +kernel
theorem dX12_choose_13 : decode cX12_choose 13 = .ok (.iconst 3, 1) := by decide +kernel
theorem dX12_choose_14 : decode cX12_choose 14 = .ok (.iload_n 0, 1) := by decide +kernel
theorem dX12_choose_15 : decode cX12_choose 15 = .ok (.iconst 2, 1) := by decide +kernel
theorem dX12_choose_16 : decode cX12_choose 16 = .ok (.if_icmp .ne 7, 3) := by decide +kernel
theorem dX12_choose_19 : decode cX12_choose 19 = .ok (.iconst 1, 1) := by decide +kernel
theorem dX12_choose_20 : decode cX12_choose 20 = .ok (.goto 4, 3) := by decide +kernel
theorem dX12_choose_23 : decode cX12_choose 23 = .ok (.iconst 0, 1) := by decide +kernel
theorem dX12_choose_24 : decode cX12_choose 24 = .ok (.isub, 1) := by decide +kernel
theorem dX12_choose_25 : decode cX12_choose 25 = .ok (.ireturn, 1) := by decide +kernel
theorem dX12_lookTo_0 : decode cX12_lookTo 0 = .ok (.iconst 0, 1) := by decide +kernel
theorem dX12_lookTo_1 : decode cX12_lookTo 1 = .ok (.istore 4, 2) := by decide +kernel
theorem dX12_lookTo_3 : decode cX12_lookTo 3 = .ok (.iload 4, 2) := by decide +kernel
theorem dX12_lookTo_5 : decode cX12_lookTo 5 = .ok (.iconst 3, 1) := by decide +kernel
theorem dX12_lookTo_6 : decode cX12_lookTo 6 = .ok (.if_icmp .gt 23, 3) := by decide +kernel
theorem dX12_lookTo_9 : decode cX12_lookTo 9 = .ok (.aload_n 0, 1) := by decide +kernel
theorem dX12_lookTo_10 : decode cX12_lookTo 10 = .ok (.getfield 75, 3) := by decide +kernel
theorem dX12_lookTo_13 : decode cX12_lookTo 13 = .ok (.iconst 4, 1) := by decide +kernel
theorem dX12_lookTo_14 : decode cX12_lookTo 14 = .ok (.iload_n 1, 1) := by decide +kernel
theorem dX12_lookTo_15 : decode cX12_lookTo 15 = .ok (.imul, 1) := by decide +kernel
theorem dX12_lookTo_16 : decode cX12_lookTo 16 = .ok (.iconst 4, 1) := by decide +kernel
theorem dX12_lookTo_17 : decode cX12_lookTo 17 = .ok (.iadd, 1) := by decide +kernel
theorem dX12_lookTo_18 : decode cX12_lookTo 18 = .ok (.iload 4, 2) := by decide +kernel
theorem dX12_lookTo_20 : decode cX12_lookTo 20 = .ok (.iadd, 1) := by decide +kernel
theorem dX12_lookTo_21 : decode cX12_lookTo 21 = .ok (.lconst 0, 1) := by decide +kernel
theorem dX12_lookTo_22 : decode cX12_lookTo 22 = .ok (.lastore, 1) := by decide +kernel
theorem dX12_lookTo_23 : decode cX12_lookTo 23 = .ok (.iinc 4 1, 3) := by decide +kernel
theorem dX12_lookTo_26 : decode cX12_lookTo 26 = .ok (.goto (-23), 3) := by decide +kernel
theorem dX12_lookTo_29 : decode cX12_lookTo 29 = .ok (.iload_n 3, 1) := by decide +kernel
theorem dX12_lookTo_30 : decode cX12_lookTo 30 = .ok (.istore 4, 2) := by decide +kernel
theorem dX12_lookTo_32 : decode cX12_lookTo 32 = .ok (.iload 4, 2) := by decide +kernel
theorem dX12_lookTo_34 : decode cX12_lookTo 34 = .ok (.iconst 3, 1) := by decide +kernel
theorem dX12_lookTo_35 : decode cX12_lookTo 35 = .ok (.if_icmp .gt 74, 3) := by decide +kernel
theorem dX12_lookTo_38 : decode cX12_lookTo 38 = .ok (.aload_n 0, 1) := by decide +kernel
theorem dX12_lookTo_39 : decode cX12_lookTo 39 = .ok (.getfield 75, 3) := by decide +kernel
theorem dX12_lookTo_42 : decode cX12_lookTo 42 = .ok (.iconst 4, 1) := by decide +kernel
theorem dX12_lookTo_43 : decode cX12_lookTo 43 = .ok (.iload_n 1, 1) := by decide +kernel
theorem dX12_lookTo_44 : decode cX12_lookTo 44 = .ok (.imul, 1) := by decide +kernel
theorem dX12_lookTo_45 : decode cX12_lookTo 45 = .ok (.iconst 4, 1) := by decide +kernel
theorem dX12_lookTo_46 : decode cX12_lookTo 46 = .ok (.iadd, 1) := by decide +kernel
theorem dX12_lookTo_47 : decode cX12_lookTo 47 = .ok (.iload 4, 2) := by decide +kernel
theorem dX12_lookTo_49 : decode cX12_lookTo 49 = .ok (.iadd, 1) := by decide +kernel
theorem dX12_lookTo_50 : decode cX12_lookTo 50 = .ok (.iload_n 3, 1) := by decide +kernel
theorem dX12_lookTo_51 : decode cX12_lookTo 51 = .ok (.isub, 1) := by decide +kernel
theorem dX12_lookTo_52 : decode cX12_lookTo 52 = .ok (.aload_n 0, 1) := by decide +kernel
theorem dX12_lookTo_53 : decode cX12_lookTo 53 = .ok (.getfield 75, 3) := by decide +kernel
theorem dX12_lookTo_56 : decode cX12_lookTo 56 = .ok (.iconst 4, 1) := by decide +kernel
theorem dX12_lookTo_57 : decode cX12_lookTo 57 = .ok (.iload_n 1, 1) := by decide +kernel
theorem dX12_lookTo_58 : decode cX12_lookTo 58 = .ok (.imul, 1) := by decide +kernel
theorem dX12_lookTo_59 : decode cX12_lookTo 59 = .ok (.iload 4, 2) := by decide +kernel
theorem dX12_lookTo_61 : decode cX12_lookTo 61 = .ok (.iadd, 1) := by decide +kernel
theorem dX12_lookTo_62 : decode cX12_lookTo 62 = .ok (.laload, 1) := by decide +kernel
theorem dX12_lookTo_63 : decode cX12_lookTo 63 = .ok (.iload 4, 2) := by decide +kernel
theorem dX12_lookTo_65 : decode cX12_lookTo 65 = .ok (.iload_n 3, 1) := by decide +kernel
theorem dX12_lookTo_66 : decode cX12_lookTo 66 = .ok (.invokestatic 255, 3) := by decide +kernel
theorem dX12_lookTo_69 : decode cX12_lookTo 69 = .ok (.i2l, 1) := by decide +kernel
theorem dX12_lookTo_70 : decode cX12_lookTo 70 = .ok (.lmul, 1) := by decide +kernel
theorem dX12_lookTo_71 : decode cX12_lookTo 71 = .ok (.iload_n 2, 1) := by decide +kernel
theorem dX12_lookTo_72 : decode cX12_lookTo 72 = .ok (.i2l, 1) := by decide +kernel
theorem dX12_lookTo_73 : decode cX12_lookTo 73 = .ok (.iload_n 3, 1) := by decide +kernel
theorem dX12_lookTo_74 : decode cX12_lookTo 74 = .ok (.invokestatic 258, 3) := by decide +kernel
theorem dX12_lookTo_77 : decode cX12_lookTo 77 = .ok (.lmul, 1) := by decide +kernel
theorem dX12_lookTo_78 : decode cX12_lookTo 78 = .ok (.bipush 12, 2) := by decide +kernel
theorem dX12_lookTo_80 : decode cX12_lookTo 80 = .ok (.iload_n 2, 1) := by decide +kernel
theorem dX12_lookTo_81 : decode cX12_lookTo 81 = .ok (.isub, 1) := by decide +kernel
theorem dX12_lookTo_82 : decode cX12_lookTo 82 = .ok (.i2l, 1) := by decide +kernel
theorem dX12_lookTo_83 : decode cX12_lookTo 83 = .ok (.iload 4, 2) := by decide +kernel
theorem dX12_lookTo_85 : decode cX12_lookTo 85 = .ok (.iload_n 3, 1) := by decide +kernel
theorem dX12_lookTo_86 : decode cX12_lookTo 86 = .ok (.isub, 1) := by decide +kernel
theorem dX12_lookTo_87 : decode cX12_lookTo 87 = .ok (.invokestatic 258, 3) := by decide +kernel
theorem dX12_lookTo_90 : decode cX12_lookTo 90 = .ok (.lmul, 1) := by decide +kernel
theorem dX12_lookTo_91 : decode cX12_lookTo 91 = .ok (.ldc2_w 262, 3) := by decide +kernel
theorem dX12_lookTo_94 : decode cX12_lookTo 94 = .ok (.iconst 3, 1) := by decide +kernel
theorem dX12_lookTo_95 : decode cX12_lookTo 95 = .ok (.iload 4, 2) := by decide +kernel
theorem dX12_lookTo_97 : decode cX12_lookTo 97 = .ok (.isub, 1) := by decide +kernel
theorem dX12_lookTo_98 : decode cX12_lookTo 98 = .ok (.invokestatic 258, 3) := by decide +kernel
theorem dX12_lookTo_101 : decode cX12_lookTo 101 = .ok (.lmul, 1) := by decide +kernel
theorem dX12_lookTo_102 : decode cX12_lookTo 102 = .ok (.lastore, 1) := by decide +kernel
theorem dX12_lookTo_103 : decode cX12_lookTo 103 = .ok (.iinc 4 1, 3) := by decide +kernel
theorem dX12_lookTo_106 : decode cX12_lookTo 106 = .ok (.goto (-74), 3) := by decide +kernel
theorem dX12_lookTo_109 : decode cX12_lookTo 109 = .ok (.return_, 1) := by decide +kernel
theorem dX12_allParts_0 : decode cX12_allParts 0 = .ok (.aload_n 0, 1) := by decide +kernel
theorem dX12_allParts_1 : decode cX12_allParts 1 = .ok (.getfield 75, 3) := by decide +kernel
theorem dX12_allParts_4 : decode cX12_allParts 4 = .ok (.iconst 4, 1) := by decide +kernel
theorem dX12_allParts_5 : decode cX12_allParts 5 = .ok (.iload_n 1, 1) := by decide +kernel
theorem dX12_allParts_6 : decode cX12_allParts 6 = .ok (.imul, 1) := by decide +kernel
theorem dX12_allParts_7 : decode cX12_allParts 7 = .ok (.laload, 1) := by decide +kernel
theorem dX12_allParts_8 : decode cX12_allParts 8 = .ok (.aload_n 0, 1) := by decide +kernel
theorem dX12_allParts_9 : decode cX12_allParts 9 = .ok (.getfield 75, 3) := by decide +kernel
theorem dX12_allParts_12 : decode cX12_allParts 12 = .ok (.iconst 4, 1) := by decide +kernel
theorem dX12_allParts_13 : decode cX12_allParts 13 = .ok (.iload_n 1, 1) := by decide +kernel
theorem dX12_allParts_14 : decode cX12_allParts 14 = .ok (.imul, 1) := by decide +kernel
theorem dX12_allParts_15 : decode cX12_allParts 15 = .ok (.iconst 1, 1) := by decide +kernel
theorem dX12_allParts_16 : decode cX12_allParts 16 = .ok (.iadd, 1) := by decide +kernel
theorem dX12_allParts_17 : decode cX12_allParts 17 = .ok (.laload, 1) := by decide +kernel
theorem dX12_allParts_18 : decode cX12_allParts 18 = .ok (.ladd, 1) := by decide +kernel
theorem dX12_allParts_19 : decode cX12_allParts 19 = .ok (.aload_n 0, 1) := by decide +kernel
theorem dX12_allParts_20 : decode cX12_allParts 20 = .ok (.getfield 75, 3) := by decide +kernel
theorem dX12_allParts_23 : decode cX12_allParts 23 = .ok (.iconst 4, 1) := by decide +kernel
theorem dX12_allParts_24 : decode cX12_allParts 24 = .ok (.iload_n 1, 1) := by decide +kernel
theorem dX12_allParts_25 : decode cX12_allParts 25 = .ok (.imul, 1) := by decide +kernel
theorem dX12_allParts_26 : decode cX12_allParts 26 = .ok (.iconst 2, 1) := by decide +kernel
theorem dX12_allParts_27 : decode cX12_allParts 27 = .ok (.iadd, 1) := by decide +kernel
theorem dX12_allParts_28 : decode cX12_allParts 28 = .ok (.laload, 1) := by decide +kernel
theorem dX12_allParts_29 : decode cX12_allParts 29 = .ok (.ladd, 1) := by decide +kernel
theorem dX12_allParts_30 : decode cX12_allParts 30 = .ok (.aload_n 0, 1) := by decide +kernel
theorem dX12_allParts_31 : decode cX12_allParts 31 = .ok (.getfield 75, 3) := by decide +kernel
theorem dX12_allParts_34 : decode cX12_allParts 34 = .ok (.iconst 4, 1) := by decide +kernel
theorem dX12_allParts_35 : decode cX12_allParts 35 = .ok (.iload_n 1, 1) := by decide +kernel
theorem dX12_allParts_36 : decode cX12_allParts 36 = .ok (.imul, 1) := by decide +kernel
theorem dX12_allParts_37 : decode cX12_allParts 37 = .ok (.iconst 3, 1) := by decide +kernel
theorem dX12_allParts_38 : decode cX12_allParts 38 = .ok (.iadd, 1) := by decide +kernel
theorem dX12_allParts_39 : decode cX12_allParts 39 = .ok (.laload, 1) := by decide +kernel
theorem dX12_allParts_40 : decode cX12_allParts 40 = .ok (.ladd, 1) := by decide +kernel
theorem dX12_allParts_41 : decode cX12_allParts 41 = .ok (.lreturn, 1) := by decide +kernel
theorem dX12_stonesIn_0 : decode cX12_stonesIn 0 = .ok (.aload_n 0, 1) := by decide +kernel
theorem dX12_stonesIn_1 : decode cX12_stonesIn 1 = .ok (.getfield 75, 3) := by decide +kernel
theorem dX12_stonesIn_4 : decode cX12_stonesIn 4 = .ok (.iconst 4, 1) := by decide +kernel
theorem dX12_stonesIn_5 : decode cX12_stonesIn 5 = .ok (.iload_n 1, 1) := by decide +kernel
theorem dX12_stonesIn_6 : decode cX12_stonesIn 6 = .ok (.imul, 1) := by decide +kernel
theorem dX12_stonesIn_7 : decode cX12_stonesIn 7 = .ok (.iconst 1, 1) := by decide +kernel
theorem dX12_stonesIn_8 : decode cX12_stonesIn 8 = .ok (.iadd, 1) := by decide +kernel
theorem dX12_stonesIn_9 : decode cX12_stonesIn 9 = .ok (.laload, 1) := by decide +kernel
theorem dX12_stonesIn_10 : decode cX12_stonesIn 10 = .ok (.ldc2_w 264, 3) := by decide +kernel
theorem dX12_stonesIn_13 : decode cX12_stonesIn 13 = .ok (.aload_n 0, 1) := by decide +kernel
theorem dX12_stonesIn_14 : decode cX12_stonesIn 14 = .ok (.getfield 75, 3) := by decide +kernel
theorem dX12_stonesIn_17 : decode cX12_stonesIn 17 = .ok (.iconst 4, 1) := by decide +kernel
theorem dX12_stonesIn_18 : decode cX12_stonesIn 18 = .ok (.iload_n 1, 1) := by decide +kernel
theorem dX12_stonesIn_19 : decode cX12_stonesIn 19 = .ok (.imul, 1) := by decide +kernel
theorem dX12_stonesIn_20 : decode cX12_stonesIn 20 = .ok (.iconst 2, 1) := by decide +kernel
theorem dX12_stonesIn_21 : decode cX12_stonesIn 21 = .ok (.iadd, 1) := by decide +kernel
theorem dX12_stonesIn_22 : decode cX12_stonesIn 22 = .ok (.laload, 1) := by decide +kernel
theorem dX12_stonesIn_23 : decode cX12_stonesIn 23 = .ok (.lmul, 1) := by decide +kernel
theorem dX12_stonesIn_24 : decode cX12_stonesIn 24 = .ok (.ladd, 1) := by decide +kernel
theorem dX12_stonesIn_25 : decode cX12_stonesIn 25 = .ok (.ldc2_w 266, 3) := by decide +kernel
theorem dX12_stonesIn_28 : decode cX12_stonesIn 28 = .ok (.aload_n 0, 1) := by decide +kernel
theorem dX12_stonesIn_29 : decode cX12_stonesIn 29 = .ok (.getfield 75, 3) := by decide +kernel
theorem dX12_stonesIn_32 : decode cX12_stonesIn 32 = .ok (.iconst 4, 1) := by decide +kernel
theorem dX12_stonesIn_33 : decode cX12_stonesIn 33 = .ok (.iload_n 1, 1) := by decide +kernel
theorem dX12_stonesIn_34 : decode cX12_stonesIn 34 = .ok (.imul, 1) := by decide +kernel
theorem dX12_stonesIn_35 : decode cX12_stonesIn 35 = .ok (.iconst 3, 1) := by decide +kernel
theorem dX12_stonesIn_36 : decode cX12_stonesIn 36 = .ok (.iadd, 1) := by decide +kernel
theorem dX12_stonesIn_37 : decode cX12_stonesIn 37 = .ok (.laload, 1) := by decide +kernel
theorem dX12_stonesIn_38 : decode cX12_stonesIn 38 = .ok (.lmul, 1) := by decide +kernel
theorem dX12_stonesIn_39 : decode cX12_stonesIn 39 = .ok (.ladd, 1) := by decide +kernel
theorem dX12_stonesIn_40 : decode cX12_stonesIn 40 = .ok (.lreturn, 1) := by decide +kernel
theorem dX12_rowFault_0 : decode cX12_rowFault 0 = .ok (.aload_n 0, 1) := by decide +kernel
theorem dX12_rowFault_1 : decode cX12_rowFault 1 = .ok (.getfield 109, 3) := by decide +kernel
theorem dX12_rowFault_4 : decode cX12_rowFault 4 = .ok (.iload_n 1, 1) := by decide +kernel
theorem dX12_rowFault_5 : decode cX12_rowFault 5 = .ok (.iaload, 1) := by decide +kernel
theorem dX12_rowFault_6 : decode cX12_rowFault 6 = .ok (.iconst (-1), 1) := by decide +kernel
theorem dX12_rowFault_7 : decode cX12_rowFault 7 = .ok (.if_icmp .ne 8, 3) := by decide +kernel
theorem dX12_rowFault_10 : decode cX12_rowFault 10 = .ok (.bipush (-11), 2) := by decide +kernel
theorem dX12_rowFault_12 : decode cX12_rowFault 12 = .ok (.goto 20, 3) := by decide +kernel
theorem dX12_rowFault_15 : decode cX12_rowFault 15 = .ok (.aload_n 0, 1) := by decide +kernel
theorem dX12_rowFault_16 : decode cX12_rowFault 16 = .ok (.getfield 109, 3) := by decide +kernel
theorem dX12_rowFault_19 : decode cX12_rowFault 19 = .ok (.iload_n 1, 1) := by decide +kernel
theorem dX12_rowFault_20 : decode cX12_rowFault 20 = .ok (.iaload, 1) := by decide +kernel
theorem dX12_rowFault_21 : decode cX12_rowFault 21 = .ok (.bipush (-2), 2) := by decide +kernel
theorem dX12_rowFault_23 : decode cX12_rowFault 23 = .ok (.if_icmp .ne 7, 3) := by decide +kernel
theorem dX12_rowFault_26 : decode cX12_rowFault 26 = .ok (.iconst 0, 1) := by decide +kernel
theorem dX12_rowFault_27 : decode cX12_rowFault 27 = .ok (.goto 5, 3) := by decide +kernel
theorem dX12_rowFault_30 : decode cX12_rowFault 30 = .ok (.bipush (-12), 2) := by decide +kernel
theorem dX12_rowFault_32 : decode cX12_rowFault 32 = .ok (.ireturn, 1) := by decide +kernel
theorem dX12_byteAt_0 : decode cX12_byteAt 0 = .ok (.aload_n 0, 1) := by decide +kernel
theorem dX12_byteAt_1 : decode cX12_byteAt 1 = .ok (.getfield 115, 3) := by decide +kernel
theorem dX12_byteAt_4 : decode cX12_byteAt 4 = .ok (.bipush 60, 2) := by decide +kernel
theorem dX12_byteAt_6 : decode cX12_byteAt 6 = .ok (.iload_n 1, 1) := by decide +kernel
theorem dX12_byteAt_7 : decode cX12_byteAt 7 = .ok (.imul, 1) := by decide +kernel
theorem dX12_byteAt_8 : decode cX12_byteAt 8 = .ok (.iload_n 2, 1) := by decide +kernel
theorem dX12_byteAt_9 : decode cX12_byteAt 9 = .ok (.iadd, 1) := by decide +kernel
theorem dX12_byteAt_10 : decode cX12_byteAt 10 = .ok (.laload, 1) := by decide +kernel
theorem dX12_byteAt_11 : decode cX12_byteAt 11 = .ok (.l2i, 1) := by decide +kernel
theorem dX12_byteAt_12 : decode cX12_byteAt 12 = .ok (.ireturn, 1) := by decide +kernel
theorem dX12_goLooks_0 : decode cX12_goLooks 0 = .ok (.aload_n 0, 1) := by decide +kernel
theorem dX12_goLooks_1 : decode cX12_goLooks 1 = .ok (.iload_n 2, 1) := by decide +kernel
theorem dX12_goLooks_2 : decode cX12_goLooks 2 = .ok (.iconst 0, 1) := by decide +kernel
theorem dX12_goLooks_3 : decode cX12_goLooks 3 = .ok (.invokevirtual 268, 3) := by decide +kernel
theorem dX12_goLooks_6 : decode cX12_goLooks 6 = .ok (.iconst 0, 1) := by decide +kernel
theorem dX12_goLooks_7 : decode cX12_goLooks 7 = .ok (.istore_n 3, 1) := by decide +kernel
theorem dX12_goLooks_8 : decode cX12_goLooks 8 = .ok (.iload_n 3, 1) := by decide +kernel
theorem dX12_goLooks_9 : decode cX12_goLooks 9 = .ok (.iconst 4, 1) := by decide +kernel
theorem dX12_goLooks_10 : decode cX12_goLooks 10 = .ok (.if_icmp .ge 88, 3) := by decide +kernel
theorem dX12_goLooks_13 : decode cX12_goLooks 13 = .ok (.iconst 2, 1) := by decide +kernel
theorem dX12_goLooks_14 : decode cX12_goLooks 14 = .ok (.iload_n 3, 1) := by decide +kernel
theorem dX12_goLooks_15 : decode cX12_goLooks 15 = .ok (.imul, 1) := by decide +kernel
theorem dX12_goLooks_16 : decode cX12_goLooks 16 = .ok (.iconst 1, 1) := by decide +kernel
theorem dX12_goLooks_17 : decode cX12_goLooks 17 = .ok (.iadd, 1) := by decide +kernel
theorem dX12_goLooks_18 : decode cX12_goLooks 18 = .ok (.aload_n 0, 1) := by decide +kernel
theorem dX12_goLooks_19 : decode cX12_goLooks 19 = .ok (.getfield 112, 3) := by decide +kernel
theorem dX12_goLooks_22 : decode cX12_goLooks 22 = .ok (.iload_n 1, 1) := by decide +kernel
theorem dX12_goLooks_23 : decode cX12_goLooks 23 = .ok (.iaload, 1) := by decide +kernel
theorem dX12_goLooks_24 : decode cX12_goLooks 24 = .ok (.if_icmp .ge 74, 3) := by decide +kernel
theorem dX12_goLooks_27 : decode cX12_goLooks 27 = .ok (.aload_n 0, 1) := by decide +kernel
theorem dX12_goLooks_28 : decode cX12_goLooks 28 = .ok (.aload_n 0, 1) := by decide +kernel
theorem dX12_goLooks_29 : decode cX12_goLooks 29 = .ok (.iload_n 1, 1) := by decide +kernel
theorem dX12_goLooks_30 : decode cX12_goLooks 30 = .ok (.iconst 2, 1) := by decide +kernel
theorem dX12_goLooks_31 : decode cX12_goLooks 31 = .ok (.iload_n 3, 1) := by decide +kernel
theorem dX12_goLooks_32 : decode cX12_goLooks 32 = .ok (.imul, 1) := by decide +kernel
theorem dX12_goLooks_33 : decode cX12_goLooks 33 = .ok (.invokevirtual 271, 3) := by decide +kernel
theorem dX12_goLooks_36 : decode cX12_goLooks 36 = .ok (.invokevirtual 158, 3) := by decide +kernel
theorem dX12_goLooks_39 : decode cX12_goLooks 39 = .ok (.ifCond .eq 59, 3) := by decide +kernel
theorem dX12_goLooks_42 : decode cX12_goLooks 42 = .ok (.aload_n 0, 1) := by decide +kernel
theorem dX12_goLooks_43 : decode cX12_goLooks 43 = .ok (.iload_n 1, 1) := by decide +kernel
theorem dX12_goLooks_44 : decode cX12_goLooks 44 = .ok (.iconst 2, 1) := by decide +kernel
theorem dX12_goLooks_45 : decode cX12_goLooks 45 = .ok (.iload_n 3, 1) := by decide +kernel
theorem dX12_goLooks_46 : decode cX12_goLooks 46 = .ok (.imul, 1) := by decide +kernel
theorem dX12_goLooks_47 : decode cX12_goLooks 47 = .ok (.iconst 1, 1) := by decide +kernel
theorem dX12_goLooks_48 : decode cX12_goLooks 48 = .ok (.iadd, 1) := by decide +kernel
theorem dX12_goLooks_49 : decode cX12_goLooks 49 = .ok (.invokevirtual 271, 3) := by decide +kernel
theorem dX12_goLooks_52 : decode cX12_goLooks 52 = .ok (.iconst 0, 1) := by decide +kernel
theorem dX12_goLooks_53 : decode cX12_goLooks 53 = .ok (.iconst 3, 1) := by decide +kernel
theorem dX12_goLooks_54 : decode cX12_goLooks 54 = .ok (.invokestatic 124, 3) := by decide +kernel
theorem dX12_goLooks_57 : decode cX12_goLooks 57 = .ok (.ifCond .eq 41, 3) := by decide +kernel
theorem dX12_goLooks_60 : decode cX12_goLooks 60 = .ok (.aload_n 0, 1) := by decide +kernel
theorem dX12_goLooks_61 : decode cX12_goLooks 61 = .ok (.iload_n 3, 1) := by decide +kernel
theorem dX12_goLooks_62 : decode cX12_goLooks 62 = .ok (.aload_n 0, 1) := by decide +kernel
theorem dX12_goLooks_63 : decode cX12_goLooks 63 = .ok (.aload_n 0, 1) := by decide +kernel
theorem dX12_goLooks_64 : decode cX12_goLooks 64 = .ok (.iload_n 1, 1) := by decide +kernel
theorem dX12_goLooks_65 : decode cX12_goLooks 65 = .ok (.iconst 2, 1) := by decide +kernel
theorem dX12_goLooks_66 : decode cX12_goLooks 66 = .ok (.iload_n 3, 1) := by decide +kernel
theorem dX12_goLooks_67 : decode cX12_goLooks 67 = .ok (.imul, 1) := by decide +kernel
theorem dX12_goLooks_68 : decode cX12_goLooks 68 = .ok (.invokevirtual 271, 3) := by decide +kernel
theorem dX12_goLooks_71 : decode cX12_goLooks 71 = .ok (.iload_n 3, 1) := by decide +kernel
theorem dX12_goLooks_72 : decode cX12_goLooks 72 = .ok (.aload_n 0, 1) := by decide +kernel
theorem dX12_goLooks_73 : decode cX12_goLooks 73 = .ok (.getfield 28, 3) := by decide +kernel
theorem dX12_goLooks_76 : decode cX12_goLooks 76 = .ok (.invokevirtual 246, 3) := by decide +kernel
theorem dX12_goLooks_79 : decode cX12_goLooks 79 = .ok (.aload_n 0, 1) := by decide +kernel
theorem dX12_goLooks_80 : decode cX12_goLooks 80 = .ok (.iload_n 1, 1) := by decide +kernel
theorem dX12_goLooks_81 : decode cX12_goLooks 81 = .ok (.iconst 2, 1) := by decide +kernel
theorem dX12_goLooks_82 : decode cX12_goLooks 82 = .ok (.iload_n 3, 1) := by decide +kernel
theorem dX12_goLooks_83 : decode cX12_goLooks 83 = .ok (.imul, 1) := by decide +kernel
theorem dX12_goLooks_84 : decode cX12_goLooks 84 = .ok (.iconst 1, 1) := by decide +kernel
theorem dX12_goLooks_85 : decode cX12_goLooks 85 = .ok (.iadd, 1) := by decide +kernel
theorem dX12_goLooks_86 : decode cX12_goLooks 86 = .ok (.invokevirtual 271, 3) := by decide +kernel
theorem dX12_goLooks_89 : decode cX12_goLooks 89 = .ok (.invokevirtual 274, 3) := by decide +kernel
theorem dX12_goLooks_92 : decode cX12_goLooks 92 = .ok (.iinc 3 1, 3) := by decide +kernel
theorem dX12_goLooks_95 : decode cX12_goLooks 95 = .ok (.goto (-87), 3) := by decide +kernel
theorem dX12_goLooks_98 : decode cX12_goLooks 98 = .ok (.iload_n 3, 1) := by decide +kernel
theorem dX12_goLooks_99 : decode cX12_goLooks 99 = .ok (.ireturn, 1) := by decide +kernel
theorem dX12_asPart_0 : decode cX12_asPart 0 = .ok (.lload_n 0, 1) := by decide +kernel
theorem dX12_asPart_1 : decode cX12_asPart 1 = .ok (.lconst 0, 1) := by decide +kernel
theorem dX12_asPart_2 : decode cX12_asPart 2 = .ok (.lcmp, 1) := by decide +kernel
theorem dX12_asPart_3 : decode cX12_asPart 3 = .ok (.ifCond .ge 8, 3) := by decide +kernel
theorem dX12_asPart_6 : decode cX12_asPart 6 = .ok (.lload_n 0, 1) := by decide +kernel
theorem dX12_asPart_7 : decode cX12_asPart 7 = .ok (.lneg, 1) := by decide +kernel
theorem dX12_asPart_8 : decode cX12_asPart 8 = .ok (.goto 4, 3) := by decide +kernel
theorem dX12_asPart_11 : decode cX12_asPart 11 = .ok (.lload_n 0, 1) := by decide +kernel
theorem dX12_asPart_12 : decode cX12_asPart 12 = .ok (.lstore 5, 2) := by decide +kernel
theorem dX12_asPart_14 : decode cX12_asPart 14 = .ok (.lload_n 2, 1) := by decide +kernel
theorem dX12_asPart_15 : decode cX12_asPart 15 = .ok (.lstore 7, 2) := by decide +kernel
theorem dX12_asPart_17 : decode cX12_asPart 17 = .ok (.lload 7, 2) := by decide +kernel
theorem dX12_asPart_19 : decode cX12_asPart 19 = .ok (.lconst 0, 1) := by decide +kernel
theorem dX12_asPart_20 : decode cX12_asPart 20 = .ok (.lcmp, 1) := by decide +kernel
theorem dX12_asPart_21 : decode cX12_asPart 21 = .ok (.ifCond .eq 21, 3) := by decide +kernel
theorem dX12_asPart_24 : decode cX12_asPart 24 = .ok (.lload 5, 2) := by decide +kernel
theorem dX12_asPart_26 : decode cX12_asPart 26 = .ok (.lload 7, 2) := by decide +kernel
theorem dX12_asPart_28 : decode cX12_asPart 28 = .ok (.lrem, 1) := by decide +kernel
theorem dX12_asPart_29 : decode cX12_asPart 29 = .ok (.lstore 9, 2) := by decide +kernel
theorem dX12_asPart_31 : decode cX12_asPart 31 = .ok (.lload 7, 2) := by decide +kernel
theorem dX12_asPart_33 : decode cX12_asPart 33 = .ok (.lstore 5, 2) := by decide +kernel
theorem dX12_asPart_35 : decode cX12_asPart 35 = .ok (.lload 9, 2) := by decide +kernel
theorem dX12_asPart_37 : decode cX12_asPart 37 = .ok (.lstore 7, 2) := by decide +kernel
theorem dX12_asPart_39 : decode cX12_asPart 39 = .ok (.goto (-22), 3) := by decide +kernel
theorem dX12_asPart_42 : decode cX12_asPart 42 = .ok (.iload 4, 2) := by decide +kernel
theorem dX12_asPart_44 : decode cX12_asPart 44 = .ok (.ifCond .ne 10, 3) := by decide +kernel
theorem dX12_asPart_47 : decode cX12_asPart 47 = .ok (.lload_n 0, 1) := by decide +kernel
theorem dX12_asPart_48 : decode cX12_asPart 48 = .ok (.lload 5, 2) := by decide +kernel
theorem dX12_asPart_50 : decode cX12_asPart 50 = .ok (.ldiv, 1) := by decide +kernel
theorem dX12_asPart_51 : decode cX12_asPart 51 = .ok (.goto 7, 3) := by decide +kernel
theorem dX12_asPart_54 : decode cX12_asPart 54 = .ok (.lload_n 2, 1) := by decide +kernel
theorem dX12_asPart_55 : decode cX12_asPart 55 = .ok (.lload 5, 2) := by decide +kernel
theorem dX12_asPart_57 : decode cX12_asPart 57 = .ok (.ldiv, 1) := by decide +kernel
theorem dX12_asPart_58 : decode cX12_asPart 58 = .ok (.lreturn, 1) := by decide +kernel
theorem dX12_isPart_0 : decode cX12_isPart 0 = .ok (.iload_n 0, 1) := by decide +kernel
theorem dX12_isPart_1 : decode cX12_isPart 1 = .ok (.iconst 0, 1) := by decide +kernel
theorem dX12_isPart_2 : decode cX12_isPart 2 = .ok (.iconst 1, 1) := by decide +kernel
theorem dX12_isPart_3 : decode cX12_isPart 3 = .ok (.invokestatic 124, 3) := by decide +kernel
theorem dX12_isPart_6 : decode cX12_isPart 6 = .ok (.ireturn, 1) := by decide +kernel
theorem dX12_left_0 : decode cX12_left 0 = .ok (.iload_n 1, 1) := by decide +kernel
theorem dX12_left_1 : decode cX12_left 1 = .ok (.invokestatic 135, 3) := by decide +kernel
theorem dX12_left_4 : decode cX12_left 4 = .ok (.ifCond .eq 35, 3) := by decide +kernel
theorem dX12_left_7 : decode cX12_left 7 = .ok (.iload_n 2, 1) := by decide +kernel
theorem dX12_left_8 : decode cX12_left 8 = .ok (.invokestatic 155, 3) := by decide +kernel
theorem dX12_left_11 : decode cX12_left 11 = .ok (.ifCond .eq 28, 3) := by decide +kernel
theorem dX12_left_14 : decode cX12_left 14 = .ok (.iload_n 3, 1) := by decide +kernel
theorem dX12_left_15 : decode cX12_left 15 = .ok (.iconst 0, 1) := by decide +kernel
theorem dX12_left_16 : decode cX12_left 16 = .ok (.iconst 3, 1) := by decide +kernel
theorem dX12_left_17 : decode cX12_left 17 = .ok (.invokestatic 124, 3) := by decide +kernel
theorem dX12_left_20 : decode cX12_left 20 = .ok (.ifCond .eq 19, 3) := by decide +kernel
theorem dX12_left_23 : decode cX12_left 23 = .ok (.iload 4, 2) := by decide +kernel
theorem dX12_left_25 : decode cX12_left 25 = .ok (.invokestatic 277, 3) := by decide +kernel
theorem dX12_left_28 : decode cX12_left 28 = .ok (.ifCond .eq 11, 3) := by decide +kernel
theorem dX12_left_31 : decode cX12_left 31 = .ok (.aload_n 0, 1) := by decide +kernel
theorem dX12_left_32 : decode cX12_left 32 = .ok (.iload_n 1, 1) := by decide +kernel
theorem dX12_left_33 : decode cX12_left 33 = .ok (.invokevirtual 280, 3) := by decide +kernel
theorem dX12_left_36 : decode cX12_left 36 = .ok (.ifCond .ge 7, 3) := by decide +kernel
theorem dX12_left_39 : decode cX12_left 39 = .ok (.ldc2_w 283, 3) := by decide +kernel
theorem dX12_left_42 : decode cX12_left 42 = .ok (.lreturn, 1) := by decide +kernel
theorem dX12_left_43 : decode cX12_left 43 = .ok (.aload_n 0, 1) := by decide +kernel
theorem dX12_left_44 : decode cX12_left 44 = .ok (.iload_n 1, 1) := by decide +kernel
theorem dX12_left_45 : decode cX12_left 45 = .ok (.iload_n 2, 1) := by decide +kernel
theorem dX12_left_46 : decode cX12_left 46 = .ok (.invokevirtual 285, 3) := by decide +kernel
theorem dX12_left_49 : decode cX12_left 49 = .ok (.istore 5, 2) := by decide +kernel
theorem dX12_left_51 : decode cX12_left 51 = .ok (.aload_n 0, 1) := by decide +kernel
theorem dX12_left_52 : decode cX12_left 52 = .ok (.iload 5, 2) := by decide +kernel
theorem dX12_left_54 : decode cX12_left 54 = .ok (.invokevirtual 288, 3) := by decide +kernel
theorem dX12_left_57 : decode cX12_left 57 = .ok (.lconst 0, 1) := by decide +kernel
theorem dX12_left_58 : decode cX12_left 58 = .ok (.lcmp, 1) := by decide +kernel
theorem dX12_left_59 : decode cX12_left 59 = .ok (.ifCond .ne 9, 3) := by decide +kernel
theorem dX12_left_62 : decode cX12_left 62 = .ok (.ldc2_w 292, 3) := by decide +kernel
theorem dX12_left_65 : decode cX12_left 65 = .ok (.goto 25, 3) := by decide +kernel
theorem dX12_left_68 : decode cX12_left 68 = .ok (.aload_n 0, 1) := by decide +kernel
theorem dX12_left_69 : decode cX12_left 69 = .ok (.getfield 75, 3) := by decide +kernel
theorem dX12_left_72 : decode cX12_left 72 = .ok (.iconst 4, 1) := by decide +kernel
theorem dX12_left_73 : decode cX12_left 73 = .ok (.iload 5, 2) := by decide +kernel
theorem dX12_left_75 : decode cX12_left 75 = .ok (.imul, 1) := by decide +kernel
theorem dX12_left_76 : decode cX12_left 76 = .ok (.iload_n 3, 1) := by decide +kernel
theorem dX12_left_77 : decode cX12_left 77 = .ok (.iadd, 1) := by decide +kernel
theorem dX12_left_78 : decode cX12_left 78 = .ok (.laload, 1) := by decide +kernel
theorem dX12_left_79 : decode cX12_left 79 = .ok (.aload_n 0, 1) := by decide +kernel
theorem dX12_left_80 : decode cX12_left 80 = .ok (.iload 5, 2) := by decide +kernel
theorem dX12_left_82 : decode cX12_left 82 = .ok (.invokevirtual 288, 3) := by decide +kernel
theorem dX12_left_85 : decode cX12_left 85 = .ok (.iload 4, 2) := by decide +kernel
theorem dX12_left_87 : decode cX12_left 87 = .ok (.invokestatic 294, 3) := by decide +kernel
theorem dX12_left_90 : decode cX12_left 90 = .ok (.lreturn, 1) := by decide +kernel
theorem dX12_mean_0 : decode cX12_mean 0 = .ok (.iload_n 1, 1) := by decide +kernel
theorem dX12_mean_1 : decode cX12_mean 1 = .ok (.invokestatic 135, 3) := by decide +kernel
theorem dX12_mean_4 : decode cX12_mean 4 = .ok (.ifCond .eq 35, 3) := by decide +kernel
theorem dX12_mean_7 : decode cX12_mean 7 = .ok (.iload_n 2, 1) := by decide +kernel
theorem dX12_mean_8 : decode cX12_mean 8 = .ok (.invokestatic 155, 3) := by decide +kernel
theorem dX12_mean_11 : decode cX12_mean 11 = .ok (.ifCond .eq 28, 3) := by decide +kernel
theorem dX12_mean_14 : decode cX12_mean 14 = .ok (.iload_n 3, 1) := by decide +kernel
theorem dX12_mean_15 : decode cX12_mean 15 = .ok (.iconst 0, 1) := by decide +kernel
theorem dX12_mean_16 : decode cX12_mean 16 = .ok (.iconst 2, 1) := by decide +kernel
theorem dX12_mean_17 : decode cX12_mean 17 = .ok (.invokestatic 124, 3) := by decide +kernel
theorem dX12_mean_20 : decode cX12_mean 20 = .ok (.ifCond .eq 19, 3) := by decide +kernel
theorem dX12_mean_23 : decode cX12_mean 23 = .ok (.iload 4, 2) := by decide +kernel
theorem dX12_mean_25 : decode cX12_mean 25 = .ok (.invokestatic 277, 3) := by decide +kernel
theorem dX12_mean_28 : decode cX12_mean 28 = .ok (.ifCond .eq 11, 3) := by decide +kernel
theorem dX12_mean_31 : decode cX12_mean 31 = .ok (.aload_n 0, 1) := by decide +kernel
theorem dX12_mean_32 : decode cX12_mean 32 = .ok (.iload_n 1, 1) := by decide +kernel
theorem dX12_mean_33 : decode cX12_mean 33 = .ok (.invokevirtual 280, 3) := by decide +kernel
theorem dX12_mean_36 : decode cX12_mean 36 = .ok (.ifCond .ge 7, 3) := by decide +kernel
theorem dX12_mean_39 : decode cX12_mean 39 = .ok (.ldc2_w 283, 3) := by decide +kernel
theorem dX12_mean_42 : decode cX12_mean 42 = .ok (.lreturn, 1) := by decide +kernel
theorem dX12_mean_43 : decode cX12_mean 43 = .ok (.aload_n 0, 1) := by decide +kernel
theorem dX12_mean_44 : decode cX12_mean 44 = .ok (.iload_n 1, 1) := by decide +kernel
theorem dX12_mean_45 : decode cX12_mean 45 = .ok (.iload_n 2, 1) := by decide +kernel
theorem dX12_mean_46 : decode cX12_mean 46 = .ok (.invokevirtual 285, 3) := by decide +kernel
theorem dX12_mean_49 : decode cX12_mean 49 = .ok (.istore 5, 2) := by decide +kernel
theorem dX12_mean_51 : decode cX12_mean 51 = .ok (.iload_n 3, 1) := by decide +kernel
theorem dX12_mean_52 : decode cX12_mean 52 = .ok (.iconst 2, 1) := by decide +kernel
theorem dX12_mean_53 : decode cX12_mean 53 = .ok (.if_icmp .ne 30, 3) := by decide +kernel
theorem dX12_mean_56 : decode cX12_mean 56 = .ok (.aload_n 0, 1) := by decide +kernel
theorem dX12_mean_57 : decode cX12_mean 57 = .ok (.iload 5, 2) := by decide +kernel
theorem dX12_mean_59 : decode cX12_mean 59 = .ok (.invokevirtual 288, 3) := by decide +kernel
theorem dX12_mean_62 : decode cX12_mean 62 = .ok (.aload_n 0, 1) := by decide +kernel
theorem dX12_mean_63 : decode cX12_mean 63 = .ok (.iload_n 2, 1) := by decide +kernel
theorem dX12_mean_64 : decode cX12_mean 64 = .ok (.invokevirtual 298, 3) := by decide +kernel
theorem dX12_mean_67 : decode cX12_mean 67 = .ok (.i2l, 1) := by decide +kernel
theorem dX12_mean_68 : decode cX12_mean 68 = .ok (.ldc2_w 301, 3) := by decide +kernel
theorem dX12_mean_71 : decode cX12_mean 71 = .ok (.iload 5, 2) := by decide +kernel
theorem dX12_mean_73 : decode cX12_mean 73 = .ok (.invokestatic 258, 3) := by decide +kernel
theorem dX12_mean_76 : decode cX12_mean 76 = .ok (.lmul, 1) := by decide +kernel
theorem dX12_mean_77 : decode cX12_mean 77 = .ok (.iload 4, 2) := by decide +kernel
theorem dX12_mean_79 : decode cX12_mean 79 = .ok (.invokestatic 294, 3) := by decide +kernel
theorem dX12_mean_82 : decode cX12_mean 82 = .ok (.lreturn, 1) := by decide +kernel
theorem dX12_mean_83 : decode cX12_mean 83 = .ok (.aload_n 0, 1) := by decide +kernel
theorem dX12_mean_84 : decode cX12_mean 84 = .ok (.iload 5, 2) := by decide +kernel
theorem dX12_mean_86 : decode cX12_mean 86 = .ok (.invokevirtual 288, 3) := by decide +kernel
theorem dX12_mean_89 : decode cX12_mean 89 = .ok (.lconst 0, 1) := by decide +kernel
theorem dX12_mean_90 : decode cX12_mean 90 = .ok (.lcmp, 1) := by decide +kernel
theorem dX12_mean_91 : decode cX12_mean 91 = .ok (.ifCond .ne 7, 3) := by decide +kernel
theorem dX12_mean_94 : decode cX12_mean 94 = .ok (.ldc2_w 292, 3) := by decide +kernel
theorem dX12_mean_97 : decode cX12_mean 97 = .ok (.lreturn, 1) := by decide +kernel
theorem dX12_mean_98 : decode cX12_mean 98 = .ok (.iload_n 3, 1) := by decide +kernel
theorem dX12_mean_99 : decode cX12_mean 99 = .ok (.ifCond .ne 12, 3) := by decide +kernel
theorem dX12_mean_102 : decode cX12_mean 102 = .ok (.aload_n 0, 1) := by decide +kernel
theorem dX12_mean_103 : decode cX12_mean 103 = .ok (.iload 5, 2) := by decide +kernel
theorem dX12_mean_105 : decode cX12_mean 105 = .ok (.invokevirtual 303, 3) := by decide +kernel
theorem dX12_mean_108 : decode cX12_mean 108 = .ok (.goto 12, 3) := by decide +kernel
theorem dX12_mean_111 : decode cX12_mean 111 = .ok (.aload_n 0, 1) := by decide +kernel
theorem dX12_mean_112 : decode cX12_mean 112 = .ok (.getfield 75, 3) := by decide +kernel
theorem dX12_mean_115 : decode cX12_mean 115 = .ok (.iconst 4, 1) := by decide +kernel
theorem dX12_mean_116 : decode cX12_mean 116 = .ok (.iload 5, 2) := by decide +kernel
theorem dX12_mean_118 : decode cX12_mean 118 = .ok (.imul, 1) := by decide +kernel
theorem dX12_mean_119 : decode cX12_mean 119 = .ok (.laload, 1) := by decide +kernel
theorem dX12_mean_120 : decode cX12_mean 120 = .ok (.aload_n 0, 1) := by decide +kernel
theorem dX12_mean_121 : decode cX12_mean 121 = .ok (.iload 5, 2) := by decide +kernel
theorem dX12_mean_123 : decode cX12_mean 123 = .ok (.invokevirtual 288, 3) := by decide +kernel
theorem dX12_mean_126 : decode cX12_mean 126 = .ok (.iload 4, 2) := by decide +kernel
theorem dX12_mean_128 : decode cX12_mean 128 = .ok (.invokestatic 294, 3) := by decide +kernel
theorem dX12_mean_131 : decode cX12_mean 131 = .ok (.lreturn, 1) := by decide +kernel
theorem dX12_findWorth_0 : decode cX12_findWorth 0 = .ok (.iload_n 2, 1) := by decide +kernel
theorem dX12_findWorth_1 : decode cX12_findWorth 1 = .ok (.bipush 6, 2) := by decide +kernel
theorem dX12_findWorth_3 : decode cX12_findWorth 3 = .ok (.if_icmp .ne 10, 3) := by decide +kernel
theorem dX12_findWorth_6 : decode cX12_findWorth 6 = .ok (.aload_n 0, 1) := by decide +kernel
theorem dX12_findWorth_7 : decode cX12_findWorth 7 = .ok (.getfield 34, 3) := by decide +kernel
theorem dX12_findWorth_10 : decode cX12_findWorth 10 = .ok (.goto 13, 3) := by decide +kernel
theorem dX12_findWorth_13 : decode cX12_findWorth 13 = .ok (.aload_n 0, 1) := by decide +kernel
theorem dX12_findWorth_14 : decode cX12_findWorth 14 = .ok (.iload_n 2, 1) := by decide +kernel
theorem dX12_findWorth_15 : decode cX12_findWorth 15 = .ok (.iload_n 1, 1) := by decide +kernel
theorem dX12_findWorth_16 : decode cX12_findWorth 16 = .ok (.aload_n 0, 1) := by decide +kernel
theorem dX12_findWorth_17 : decode cX12_findWorth 17 = .ok (.getfield 28, 3) := by decide +kernel
theorem dX12_findWorth_20 : decode cX12_findWorth 20 = .ok (.invokevirtual 246, 3) := by decide +kernel
theorem dX12_findWorth_23 : decode cX12_findWorth 23 = .ok (.istore_n 3, 1) := by decide +kernel
theorem dX12_findWorth_24 : decode cX12_findWorth 24 = .ok (.iload_n 2, 1) := by decide +kernel
theorem dX12_findWorth_25 : decode cX12_findWorth 25 = .ok (.bipush 6, 2) := by decide +kernel
theorem dX12_findWorth_27 : decode cX12_findWorth 27 = .ok (.if_icmp .ne 7, 3) := by decide +kernel
theorem dX12_findWorth_30 : decode cX12_findWorth 30 = .ok (.iconst 1, 1) := by decide +kernel
theorem dX12_findWorth_31 : decode cX12_findWorth 31 = .ok (.goto 9, 3) := by decide +kernel
theorem dX12_findWorth_34 : decode cX12_findWorth 34 = .ok (.aload_n 0, 1) := by decide +kernel
theorem dX12_findWorth_35 : decode cX12_findWorth 35 = .ok (.getfield 21, 3) := by decide +kernel
theorem dX12_findWorth_38 : decode cX12_findWorth 38 = .ok (.iload_n 2, 1) := by decide +kernel
theorem dX12_findWorth_39 : decode cX12_findWorth 39 = .ok (.iaload, 1) := by decide +kernel
theorem dX12_findWorth_40 : decode cX12_findWorth 40 = .ok (.istore 4, 2) := by decide +kernel
theorem dX12_findWorth_42 : decode cX12_findWorth 42 = .ok (.aload_n 0, 1) := by decide +kernel
theorem dX12_findWorth_43 : decode cX12_findWorth 43 = .ok (.iload_n 1, 1) := by decide +kernel
theorem dX12_findWorth_44 : decode cX12_findWorth 44 = .ok (.invokevirtual 303, 3) := by decide +kernel
theorem dX12_findWorth_47 : decode cX12_findWorth 47 = .ok (.lstore 5, 2) := by decide +kernel
theorem dX12_findWorth_49 : decode cX12_findWorth 49 = .ok (.aload_n 0, 1) := by decide +kernel
theorem dX12_findWorth_50 : decode cX12_findWorth 50 = .ok (.iload_n 1, 1) := by decide +kernel
theorem dX12_findWorth_51 : decode cX12_findWorth 51 = .ok (.invokevirtual 288, 3) := by decide +kernel
theorem dX12_findWorth_54 : decode cX12_findWorth 54 = .ok (.lstore 7, 2) := by decide +kernel
theorem dX12_findWorth_56 : decode cX12_findWorth 56 = .ok (.lload 5, 2) := by decide +kernel
theorem dX12_findWorth_58 : decode cX12_findWorth 58 = .ok (.lload 7, 2) := by decide +kernel
theorem dX12_findWorth_60 : decode cX12_findWorth 60 = .ok (.invokestatic 306, 3) := by decide +kernel
theorem dX12_findWorth_63 : decode cX12_findWorth 63 = .ok (.lstore 9, 2) := by decide +kernel
theorem dX12_findWorth_65 : decode cX12_findWorth 65 = .ok (.aload_n 0, 1) := by decide +kernel
theorem dX12_findWorth_66 : decode cX12_findWorth 66 = .ok (.aload_n 0, 1) := by decide +kernel
theorem dX12_findWorth_67 : decode cX12_findWorth 67 = .ok (.getfield 31, 3) := by decide +kernel
theorem dX12_findWorth_70 : decode cX12_findWorth 70 = .ok (.i2l, 1) := by decide +kernel
theorem dX12_findWorth_71 : decode cX12_findWorth 71 = .ok (.lload 5, 2) := by decide +kernel
theorem dX12_findWorth_73 : decode cX12_findWorth 73 = .ok (.lload 9, 2) := by decide +kernel
theorem dX12_findWorth_75 : decode cX12_findWorth 75 = .ok (.ldiv, 1) := by decide +kernel
theorem dX12_findWorth_76 : decode cX12_findWorth 76 = .ok (.lmul, 1) := by decide +kernel
theorem dX12_findWorth_77 : decode cX12_findWorth 77 = .ok (.iload_n 3, 1) := by decide +kernel
theorem dX12_findWorth_78 : decode cX12_findWorth 78 = .ok (.i2l, 1) := by decide +kernel
theorem dX12_findWorth_79 : decode cX12_findWorth 79 = .ok (.lmul, 1) := by decide +kernel
theorem dX12_findWorth_80 : decode cX12_findWorth 80 = .ok (.iload 4, 2) := by decide +kernel
theorem dX12_findWorth_82 : decode cX12_findWorth 82 = .ok (.i2l, 1) := by decide +kernel
theorem dX12_findWorth_83 : decode cX12_findWorth 83 = .ok (.lload 7, 2) := by decide +kernel
theorem dX12_findWorth_85 : decode cX12_findWorth 85 = .ok (.lload 9, 2) := by decide +kernel
theorem dX12_findWorth_87 : decode cX12_findWorth 87 = .ok (.ldiv, 1) := by decide +kernel
theorem dX12_findWorth_88 : decode cX12_findWorth 88 = .ok (.lmul, 1) := by decide +kernel
theorem dX12_findWorth_89 : decode cX12_findWorth 89 = .ok (.ldc2_w 262, 3) := by decide +kernel
theorem dX12_findWorth_92 : decode cX12_findWorth 92 = .ok (.lmul, 1) := by decide +kernel
theorem dX12_findWorth_93 : decode cX12_findWorth 93 = .ok (.lsub, 1) := by decide +kernel
theorem dX12_findWorth_94 : decode cX12_findWorth 94 = .ok (.putfield 310, 3) := by decide +kernel
theorem dX12_findWorth_97 : decode cX12_findWorth 97 = .ok (.aload_n 0, 1) := by decide +kernel
theorem dX12_findWorth_98 : decode cX12_findWorth 98 = .ok (.lload 7, 2) := by decide +kernel
theorem dX12_findWorth_100 : decode cX12_findWorth 100 = .ok (.lload 9, 2) := by decide +kernel
theorem dX12_findWorth_102 : decode cX12_findWorth 102 = .ok (.ldiv, 1) := by decide +kernel
theorem dX12_findWorth_103 : decode cX12_findWorth 103 = .ok (.ldc2_w 262, 3) := by decide +kernel
theorem dX12_findWorth_106 : decode cX12_findWorth 106 = .ok (.lmul, 1) := by decide +kernel
theorem dX12_findWorth_107 : decode cX12_findWorth 107 = .ok (.putfield 314, 3) := by decide +kernel
theorem dX12_findWorth_110 : decode cX12_findWorth 110 = .ok (.return_, 1) := by decide +kernel
theorem dX12_asBy_0 : decode cX12_asBy 0 = .ok (.lload_n 0, 1) := by decide +kernel
theorem dX12_asBy_1 : decode cX12_asBy 1 = .ok (.lstore 4, 2) := by decide +kernel
theorem dX12_asBy_3 : decode cX12_asBy 3 = .ok (.lload_n 2, 1) := by decide +kernel
theorem dX12_asBy_4 : decode cX12_asBy 4 = .ok (.lstore 6, 2) := by decide +kernel
theorem dX12_asBy_6 : decode cX12_asBy 6 = .ok (.lload 6, 2) := by decide +kernel
theorem dX12_asBy_8 : decode cX12_asBy 8 = .ok (.lconst 0, 1) := by decide +kernel
theorem dX12_asBy_9 : decode cX12_asBy 9 = .ok (.lcmp, 1) := by decide +kernel
theorem dX12_asBy_10 : decode cX12_asBy 10 = .ok (.ifCond .eq 21, 3) := by decide +kernel
theorem dX12_asBy_13 : decode cX12_asBy 13 = .ok (.lload 4, 2) := by decide +kernel
theorem dX12_asBy_15 : decode cX12_asBy 15 = .ok (.lload 6, 2) := by decide +kernel
theorem dX12_asBy_17 : decode cX12_asBy 17 = .ok (.lrem, 1) := by decide +kernel
theorem dX12_asBy_18 : decode cX12_asBy 18 = .ok (.lstore 8, 2) := by decide +kernel
theorem dX12_asBy_20 : decode cX12_asBy 20 = .ok (.lload 6, 2) := by decide +kernel
theorem dX12_asBy_22 : decode cX12_asBy 22 = .ok (.lstore 4, 2) := by decide +kernel
theorem dX12_asBy_24 : decode cX12_asBy 24 = .ok (.lload 8, 2) := by decide +kernel
theorem dX12_asBy_26 : decode cX12_asBy 26 = .ok (.lstore 6, 2) := by decide +kernel
theorem dX12_asBy_28 : decode cX12_asBy 28 = .ok (.goto (-22), 3) := by decide +kernel
theorem dX12_asBy_31 : decode cX12_asBy 31 = .ok (.lload 4, 2) := by decide +kernel
theorem dX12_asBy_33 : decode cX12_asBy 33 = .ok (.lreturn, 1) := by decide +kernel
theorem dX12_worth_0 : decode cX12_worth 0 = .ok (.iload_n 1, 1) := by decide +kernel
theorem dX12_worth_1 : decode cX12_worth 1 = .ok (.invokestatic 135, 3) := by decide +kernel
theorem dX12_worth_4 : decode cX12_worth 4 = .ok (.ifCond .eq 52, 3) := by decide +kernel
theorem dX12_worth_7 : decode cX12_worth 7 = .ok (.iload_n 2, 1) := by decide +kernel
theorem dX12_worth_8 : decode cX12_worth 8 = .ok (.ifCond .lt 48, 3) := by decide +kernel
theorem dX12_worth_11 : decode cX12_worth 11 = .ok (.iload_n 2, 1) := by decide +kernel
theorem dX12_worth_12 : decode cX12_worth 12 = .ok (.bipush 10, 2) := by decide +kernel
theorem dX12_worth_14 : decode cX12_worth 14 = .ok (.idiv, 1) := by decide +kernel
theorem dX12_worth_15 : decode cX12_worth 15 = .ok (.invokestatic 155, 3) := by decide +kernel
theorem dX12_worth_18 : decode cX12_worth 18 = .ok (.ifCond .eq 38, 3) := by decide +kernel
theorem dX12_worth_21 : decode cX12_worth 21 = .ok (.iload_n 2, 1) := by decide +kernel
theorem dX12_worth_22 : decode cX12_worth 22 = .ok (.bipush 10, 2) := by decide +kernel
theorem dX12_worth_24 : decode cX12_worth 24 = .ok (.irem, 1) := by decide +kernel
theorem dX12_worth_25 : decode cX12_worth 25 = .ok (.bipush 6, 2) := by decide +kernel
theorem dX12_worth_27 : decode cX12_worth 27 = .ok (.if_icmp .eq 14, 3) := by decide +kernel
theorem dX12_worth_30 : decode cX12_worth 30 = .ok (.aload_n 0, 1) := by decide +kernel
theorem dX12_worth_31 : decode cX12_worth 31 = .ok (.iload_n 2, 1) := by decide +kernel
theorem dX12_worth_32 : decode cX12_worth 32 = .ok (.bipush 10, 2) := by decide +kernel
theorem dX12_worth_34 : decode cX12_worth 34 = .ok (.irem, 1) := by decide +kernel
theorem dX12_worth_35 : decode cX12_worth 35 = .ok (.invokevirtual 158, 3) := by decide +kernel
theorem dX12_worth_38 : decode cX12_worth 38 = .ok (.ifCond .eq 18, 3) := by decide +kernel
theorem dX12_worth_41 : decode cX12_worth 41 = .ok (.iload_n 3, 1) := by decide +kernel
theorem dX12_worth_42 : decode cX12_worth 42 = .ok (.invokestatic 277, 3) := by decide +kernel
theorem dX12_worth_45 : decode cX12_worth 45 = .ok (.ifCond .eq 11, 3) := by decide +kernel
theorem dX12_worth_48 : decode cX12_worth 48 = .ok (.aload_n 0, 1) := by decide +kernel
theorem dX12_worth_49 : decode cX12_worth 49 = .ok (.iload_n 1, 1) := by decide +kernel
theorem dX12_worth_50 : decode cX12_worth 50 = .ok (.invokevirtual 280, 3) := by decide +kernel
theorem dX12_worth_53 : decode cX12_worth 53 = .ok (.ifCond .ge 7, 3) := by decide +kernel
theorem dX12_worth_56 : decode cX12_worth 56 = .ok (.ldc2_w 283, 3) := by decide +kernel
theorem dX12_worth_59 : decode cX12_worth 59 = .ok (.lreturn, 1) := by decide +kernel
theorem dX12_worth_60 : decode cX12_worth 60 = .ok (.aload_n 0, 1) := by decide +kernel
theorem dX12_worth_61 : decode cX12_worth 61 = .ok (.iload_n 1, 1) := by decide +kernel
theorem dX12_worth_62 : decode cX12_worth 62 = .ok (.iload_n 2, 1) := by decide +kernel
theorem dX12_worth_63 : decode cX12_worth 63 = .ok (.bipush 10, 2) := by decide +kernel
theorem dX12_worth_65 : decode cX12_worth 65 = .ok (.idiv, 1) := by decide +kernel
theorem dX12_worth_66 : decode cX12_worth 66 = .ok (.invokevirtual 285, 3) := by decide +kernel
theorem dX12_worth_69 : decode cX12_worth 69 = .ok (.istore 4, 2) := by decide +kernel
theorem dX12_worth_71 : decode cX12_worth 71 = .ok (.aload_n 0, 1) := by decide +kernel
theorem dX12_worth_72 : decode cX12_worth 72 = .ok (.iload 4, 2) := by decide +kernel
theorem dX12_worth_74 : decode cX12_worth 74 = .ok (.invokevirtual 288, 3) := by decide +kernel
theorem dX12_worth_77 : decode cX12_worth 77 = .ok (.lconst 0, 1) := by decide +kernel
theorem dX12_worth_78 : decode cX12_worth 78 = .ok (.lcmp, 1) := by decide +kernel
theorem dX12_worth_79 : decode cX12_worth 79 = .ok (.ifCond .ne 7, 3) := by decide +kernel
theorem dX12_worth_82 : decode cX12_worth 82 = .ok (.ldc2_w 292, 3) := by decide +kernel
theorem dX12_worth_85 : decode cX12_worth 85 = .ok (.lreturn, 1) := by decide +kernel
theorem dX12_worth_86 : decode cX12_worth 86 = .ok (.aload_n 0, 1) := by decide +kernel
theorem dX12_worth_87 : decode cX12_worth 87 = .ok (.iload 4, 2) := by decide +kernel
theorem dX12_worth_89 : decode cX12_worth 89 = .ok (.iload_n 2, 1) := by decide +kernel
theorem dX12_worth_90 : decode cX12_worth 90 = .ok (.bipush 10, 2) := by decide +kernel
theorem dX12_worth_92 : decode cX12_worth 92 = .ok (.irem, 1) := by decide +kernel
theorem dX12_worth_93 : decode cX12_worth 93 = .ok (.invokevirtual 317, 3) := by decide +kernel
theorem dX12_worth_96 : decode cX12_worth 96 = .ok (.aload_n 0, 1) := by decide +kernel
theorem dX12_worth_97 : decode cX12_worth 97 = .ok (.getfield 310, 3) := by decide +kernel
theorem dX12_worth_100 : decode cX12_worth 100 = .ok (.aload_n 0, 1) := by decide +kernel
theorem dX12_worth_101 : decode cX12_worth 101 = .ok (.getfield 314, 3) := by decide +kernel
theorem dX12_worth_104 : decode cX12_worth 104 = .ok (.iload_n 3, 1) := by decide +kernel
theorem dX12_worth_105 : decode cX12_worth 105 = .ok (.invokestatic 294, 3) := by decide +kernel
theorem dX12_worth_108 : decode cX12_worth 108 = .ok (.lreturn, 1) := by decide +kernel
theorem dX12_next_0 : decode cX12_next 0 = .ok (.iload_n 1, 1) := by decide +kernel
theorem dX12_next_1 : decode cX12_next 1 = .ok (.invokestatic 135, 3) := by decide +kernel
theorem dX12_next_4 : decode cX12_next 4 = .ok (.ifCond .eq 10, 3) := by decide +kernel
theorem dX12_next_7 : decode cX12_next 7 = .ok (.iload_n 2, 1) := by decide +kernel
theorem dX12_next_8 : decode cX12_next 8 = .ok (.invokestatic 155, 3) := by decide +kernel
theorem dX12_next_11 : decode cX12_next 11 = .ok (.ifCond .ne 5, 3) := by decide +kernel
theorem dX12_next_14 : decode cX12_next 14 = .ok (.iconst (-1), 1) := by decide +kernel
theorem dX12_next_15 : decode cX12_next 15 = .ok (.ireturn, 1) := by decide +kernel
theorem dX12_next_16 : decode cX12_next 16 = .ok (.aload_n 0, 1) := by decide +kernel
theorem dX12_next_17 : decode cX12_next 17 = .ok (.iload_n 1, 1) := by decide +kernel
theorem dX12_next_18 : decode cX12_next 18 = .ok (.invokevirtual 280, 3) := by decide +kernel
theorem dX12_next_21 : decode cX12_next 21 = .ok (.ifCond .ge 9, 3) := by decide +kernel
theorem dX12_next_24 : decode cX12_next 24 = .ok (.aload_n 0, 1) := by decide +kernel
theorem dX12_next_25 : decode cX12_next 25 = .ok (.iload_n 1, 1) := by decide +kernel
theorem dX12_next_26 : decode cX12_next 26 = .ok (.invokevirtual 280, 3) := by decide +kernel
theorem dX12_next_29 : decode cX12_next 29 = .ok (.ireturn, 1) := by decide +kernel
theorem dX12_next_30 : decode cX12_next 30 = .ok (.aload_n 0, 1) := by decide +kernel
theorem dX12_next_31 : decode cX12_next 31 = .ok (.iload_n 1, 1) := by decide +kernel
theorem dX12_next_32 : decode cX12_next 32 = .ok (.iload_n 2, 1) := by decide +kernel
theorem dX12_next_33 : decode cX12_next 33 = .ok (.invokevirtual 285, 3) := by decide +kernel
theorem dX12_next_36 : decode cX12_next 36 = .ok (.istore_n 3, 1) := by decide +kernel
theorem dX12_next_37 : decode cX12_next 37 = .ok (.aload_n 0, 1) := by decide +kernel
theorem dX12_next_38 : decode cX12_next 38 = .ok (.iload_n 3, 1) := by decide +kernel
theorem dX12_next_39 : decode cX12_next 39 = .ok (.invokevirtual 288, 3) := by decide +kernel
theorem dX12_next_42 : decode cX12_next 42 = .ok (.lconst 0, 1) := by decide +kernel
theorem dX12_next_43 : decode cX12_next 43 = .ok (.lcmp, 1) := by decide +kernel
theorem dX12_next_44 : decode cX12_next 44 = .ok (.ifCond .ne 6, 3) := by decide +kernel
theorem dX12_next_47 : decode cX12_next 47 = .ok (.bipush (-2), 2) := by decide +kernel
theorem dX12_next_49 : decode cX12_next 49 = .ok (.ireturn, 1) := by decide +kernel
theorem dX12_next_50 : decode cX12_next 50 = .ok (.bipush (-2), 2) := by decide +kernel
theorem dX12_next_52 : decode cX12_next 52 = .ok (.istore 4, 2) := by decide +kernel
theorem dX12_next_54 : decode cX12_next 54 = .ok (.lconst 0, 1) := by decide +kernel
theorem dX12_next_55 : decode cX12_next 55 = .ok (.lstore 5, 2) := by decide +kernel
theorem dX12_next_57 : decode cX12_next 57 = .ok (.iconst 0, 1) := by decide +kernel
theorem dX12_next_58 : decode cX12_next 58 = .ok (.istore 7, 2) := by decide +kernel
theorem dX12_next_60 : decode cX12_next 60 = .ok (.iload 7, 2) := by decide +kernel
theorem dX12_next_62 : decode cX12_next 62 = .ok (.bipush 6, 2) := by decide +kernel
theorem dX12_next_64 : decode cX12_next 64 = .ok (.if_icmp .gt 58, 3) := by decide +kernel
theorem dX12_next_67 : decode cX12_next 67 = .ok (.iload 7, 2) := by decide +kernel
theorem dX12_next_69 : decode cX12_next 69 = .ok (.bipush 6, 2) := by decide +kernel
theorem dX12_next_71 : decode cX12_next 71 = .ok (.if_icmp .eq 15, 3) := by decide +kernel
theorem dX12_next_74 : decode cX12_next 74 = .ok (.aload_n 0, 1) := by decide +kernel
theorem dX12_next_75 : decode cX12_next 75 = .ok (.iload 7, 2) := by decide +kernel
theorem dX12_next_77 : decode cX12_next 77 = .ok (.invokevirtual 158, 3) := by decide +kernel
theorem dX12_next_80 : decode cX12_next 80 = .ok (.ifCond .ne 6, 3) := by decide +kernel
theorem dX12_next_83 : decode cX12_next 83 = .ok (.goto 33, 3) := by decide +kernel
theorem dX12_next_86 : decode cX12_next 86 = .ok (.aload_n 0, 1) := by decide +kernel
theorem dX12_next_87 : decode cX12_next 87 = .ok (.iload_n 3, 1) := by decide +kernel
theorem dX12_next_88 : decode cX12_next 88 = .ok (.iload 7, 2) := by decide +kernel
theorem dX12_next_90 : decode cX12_next 90 = .ok (.invokevirtual 317, 3) := by decide +kernel
theorem dX12_next_93 : decode cX12_next 93 = .ok (.aload_n 0, 1) := by decide +kernel
theorem dX12_next_94 : decode cX12_next 94 = .ok (.getfield 310, 3) := by decide +kernel
theorem dX12_next_97 : decode cX12_next 97 = .ok (.lload 5, 2) := by decide +kernel
theorem dX12_next_99 : decode cX12_next 99 = .ok (.lcmp, 1) := by decide +kernel
theorem dX12_next_100 : decode cX12_next 100 = .ok (.ifCond .gt 6, 3) := by decide +kernel
theorem dX12_next_103 : decode cX12_next 103 = .ok (.goto 13, 3) := by decide +kernel
theorem dX12_next_106 : decode cX12_next 106 = .ok (.aload_n 0, 1) := by decide +kernel
theorem dX12_next_107 : decode cX12_next 107 = .ok (.getfield 310, 3) := by decide +kernel
theorem dX12_next_110 : decode cX12_next 110 = .ok (.lstore 5, 2) := by decide +kernel
theorem dX12_next_112 : decode cX12_next 112 = .ok (.iload 7, 2) := by decide +kernel
theorem dX12_next_114 : decode cX12_next 114 = .ok (.istore 4, 2) := by decide +kernel
theorem dX12_next_116 : decode cX12_next 116 = .ok (.iinc 7 1, 3) := by decide +kernel
theorem dX12_next_119 : decode cX12_next 119 = .ok (.goto (-59), 3) := by decide +kernel
theorem dX12_next_122 : decode cX12_next 122 = .ok (.iload 4, 2) := by decide +kernel
theorem dX12_next_124 : decode cX12_next 124 = .ok (.ireturn, 1) := by decide +kernel
theorem dX12_planFrom_0 : decode cX12_planFrom 0 = .ok (.aload_n 0, 1) := by decide +kernel
theorem dX12_planFrom_1 : decode cX12_planFrom 1 = .ok (.getfield 31, 3) := by decide +kernel
theorem dX12_planFrom_4 : decode cX12_planFrom 4 = .ok (.i2l, 1) := by decide +kernel
theorem dX12_planFrom_5 : decode cX12_planFrom 5 = .ok (.aload_n 0, 1) := by decide +kernel
theorem dX12_planFrom_6 : decode cX12_planFrom 6 = .ok (.iload_n 1, 1) := by decide +kernel
theorem dX12_planFrom_7 : decode cX12_planFrom 7 = .ok (.invokevirtual 303, 3) := by decide +kernel
theorem dX12_planFrom_10 : decode cX12_planFrom 10 = .ok (.lmul, 1) := by decide +kernel
theorem dX12_planFrom_11 : decode cX12_planFrom 11 = .ok (.ldc2_w 301, 3) := by decide +kernel
theorem dX12_planFrom_14 : decode cX12_planFrom 14 = .ok (.iload_n 2, 1) := by decide +kernel
theorem dX12_planFrom_15 : decode cX12_planFrom 15 = .ok (.invokestatic 258, 3) := by decide +kernel
theorem dX12_planFrom_18 : decode cX12_planFrom 18 = .ok (.lmul, 1) := by decide +kernel
theorem dX12_planFrom_19 : decode cX12_planFrom 19 = .ok (.lstore_n 3, 1) := by decide +kernel
theorem dX12_planFrom_20 : decode cX12_planFrom 20 = .ok (.bipush (-2), 2) := by decide +kernel
theorem dX12_planFrom_22 : decode cX12_planFrom 22 = .ok (.istore 5, 2) := by decide +kernel
theorem dX12_planFrom_24 : decode cX12_planFrom 24 = .ok (.iconst 0, 1) := by decide +kernel
theorem dX12_planFrom_25 : decode cX12_planFrom 25 = .ok (.istore 6, 2) := by decide +kernel
theorem dX12_planFrom_27 : decode cX12_planFrom 27 = .ok (.iload 6, 2) := by decide +kernel
theorem dX12_planFrom_29 : decode cX12_planFrom 29 = .ok (.aload_n 0, 1) := by decide +kernel
theorem dX12_planFrom_30 : decode cX12_planFrom 30 = .ok (.getfield 128, 3) := by decide +kernel
theorem dX12_planFrom_33 : decode cX12_planFrom 33 = .ok (.if_icmp .ge 114, 3) := by decide +kernel
theorem dX12_planFrom_36 : decode cX12_planFrom 36 = .ok (.iload_n 2, 1) := by decide +kernel
theorem dX12_planFrom_37 : decode cX12_planFrom 37 = .ok (.ifCond .le 110, 3) := by decide +kernel
theorem dX12_planFrom_40 : decode cX12_planFrom 40 = .ok (.aload_n 0, 1) := by decide +kernel
theorem dX12_planFrom_41 : decode cX12_planFrom 41 = .ok (.getfield 21, 3) := by decide +kernel
theorem dX12_planFrom_44 : decode cX12_planFrom 44 = .ok (.iload 6, 2) := by decide +kernel
theorem dX12_planFrom_46 : decode cX12_planFrom 46 = .ok (.iaload, 1) := by decide +kernel
theorem dX12_planFrom_47 : decode cX12_planFrom 47 = .ok (.i2l, 1) := by decide +kernel
theorem dX12_planFrom_48 : decode cX12_planFrom 48 = .ok (.aload_n 0, 1) := by decide +kernel
theorem dX12_planFrom_49 : decode cX12_planFrom 49 = .ok (.iload_n 1, 1) := by decide +kernel
theorem dX12_planFrom_50 : decode cX12_planFrom 50 = .ok (.invokevirtual 288, 3) := by decide +kernel
theorem dX12_planFrom_53 : decode cX12_planFrom 53 = .ok (.lmul, 1) := by decide +kernel
theorem dX12_planFrom_54 : decode cX12_planFrom 54 = .ok (.ldc2_w 301, 3) := by decide +kernel
theorem dX12_planFrom_57 : decode cX12_planFrom 57 = .ok (.iload_n 2, 1) := by decide +kernel
theorem dX12_planFrom_58 : decode cX12_planFrom 58 = .ok (.invokestatic 258, 3) := by decide +kernel
theorem dX12_planFrom_61 : decode cX12_planFrom 61 = .ok (.lmul, 1) := by decide +kernel
theorem dX12_planFrom_62 : decode cX12_planFrom 62 = .ok (.lstore 7, 2) := by decide +kernel
theorem dX12_planFrom_64 : decode cX12_planFrom 64 = .ok (.iconst 0, 1) := by decide +kernel
theorem dX12_planFrom_65 : decode cX12_planFrom 65 = .ok (.istore 9, 2) := by decide +kernel
theorem dX12_planFrom_67 : decode cX12_planFrom 67 = .ok (.iload 9, 2) := by decide +kernel
theorem dX12_planFrom_69 : decode cX12_planFrom 69 = .ok (.iconst 3, 1) := by decide +kernel
theorem dX12_planFrom_70 : decode cX12_planFrom 70 = .ok (.if_icmp .gt 54, 3) := by decide +kernel
theorem dX12_planFrom_73 : decode cX12_planFrom 73 = .ok (.aload_n 0, 1) := by decide +kernel
theorem dX12_planFrom_74 : decode cX12_planFrom 74 = .ok (.iload_n 1, 1) := by decide +kernel
theorem dX12_planFrom_75 : decode cX12_planFrom 75 = .ok (.aload_n 0, 1) := by decide +kernel
theorem dX12_planFrom_76 : decode cX12_planFrom 76 = .ok (.iload 6, 2) := by decide +kernel
theorem dX12_planFrom_78 : decode cX12_planFrom 78 = .ok (.iload_n 1, 1) := by decide +kernel
theorem dX12_planFrom_79 : decode cX12_planFrom 79 = .ok (.aload_n 0, 1) := by decide +kernel
theorem dX12_planFrom_80 : decode cX12_planFrom 80 = .ok (.getfield 28, 3) := by decide +kernel
theorem dX12_planFrom_83 : decode cX12_planFrom 83 = .ok (.invokevirtual 246, 3) := by decide +kernel
theorem dX12_planFrom_86 : decode cX12_planFrom 86 = .ok (.iload 9, 2) := by decide +kernel
theorem dX12_planFrom_88 : decode cX12_planFrom 88 = .ok (.invokevirtual 274, 3) := by decide +kernel
theorem dX12_planFrom_91 : decode cX12_planFrom 91 = .ok (.aload_n 0, 1) := by decide +kernel
theorem dX12_planFrom_92 : decode cX12_planFrom 92 = .ok (.iload_n 1, 1) := by decide +kernel
theorem dX12_planFrom_93 : decode cX12_planFrom 93 = .ok (.iconst 1, 1) := by decide +kernel
theorem dX12_planFrom_94 : decode cX12_planFrom 94 = .ok (.iadd, 1) := by decide +kernel
theorem dX12_planFrom_95 : decode cX12_planFrom 95 = .ok (.invokevirtual 288, 3) := by decide +kernel
theorem dX12_planFrom_98 : decode cX12_planFrom 98 = .ok (.lconst 0, 1) := by decide +kernel
theorem dX12_planFrom_99 : decode cX12_planFrom 99 = .ok (.lcmp, 1) := by decide +kernel
theorem dX12_planFrom_100 : decode cX12_planFrom 100 = .ok (.ifCond .le 18, 3) := by decide +kernel
theorem dX12_planFrom_103 : decode cX12_planFrom 103 = .ok (.lload 7, 2) := by decide +kernel
theorem dX12_planFrom_105 : decode cX12_planFrom 105 = .ok (.aload_n 0, 1) := by decide +kernel
theorem dX12_planFrom_106 : decode cX12_planFrom 106 = .ok (.iload_n 1, 1) := by decide +kernel
theorem dX12_planFrom_107 : decode cX12_planFrom 107 = .ok (.iconst 1, 1) := by decide +kernel
theorem dX12_planFrom_108 : decode cX12_planFrom 108 = .ok (.iadd, 1) := by decide +kernel
theorem dX12_planFrom_109 : decode cX12_planFrom 109 = .ok (.iload_n 2, 1) := by decide +kernel
theorem dX12_planFrom_110 : decode cX12_planFrom 110 = .ok (.iconst 1, 1) := by decide +kernel
theorem dX12_planFrom_111 : decode cX12_planFrom 111 = .ok (.isub, 1) := by decide +kernel
theorem dX12_planFrom_112 : decode cX12_planFrom 112 = .ok (.invokevirtual 320, 3) := by decide +kernel
theorem dX12_planFrom_115 : decode cX12_planFrom 115 = .ok (.ladd, 1) := by decide +kernel
theorem dX12_planFrom_116 : decode cX12_planFrom 116 = .ok (.lstore 7, 2) := by decide +kernel
theorem dX12_planFrom_118 : decode cX12_planFrom 118 = .ok (.iinc 9 1, 3) := by decide +kernel
theorem dX12_planFrom_121 : decode cX12_planFrom 121 = .ok (.goto (-54), 3) := by decide +kernel
theorem dX12_planFrom_124 : decode cX12_planFrom 124 = .ok (.lload 7, 2) := by decide +kernel
theorem dX12_planFrom_126 : decode cX12_planFrom 126 = .ok (.lload_n 3, 1) := by decide +kernel
theorem dX12_planFrom_127 : decode cX12_planFrom 127 = .ok (.lcmp, 1) := by decide +kernel
theorem dX12_planFrom_128 : decode cX12_planFrom 128 = .ok (.ifCond .lt 6, 3) := by decide +kernel
theorem dX12_planFrom_131 : decode cX12_planFrom 131 = .ok (.goto 10, 3) := by decide +kernel
theorem dX12_planFrom_134 : decode cX12_planFrom 134 = .ok (.lload 7, 2) := by decide +kernel
theorem dX12_planFrom_136 : decode cX12_planFrom 136 = .ok (.lstore_n 3, 1) := by decide +kernel
theorem dX12_planFrom_137 : decode cX12_planFrom 137 = .ok (.iload 6, 2) := by decide +kernel
theorem dX12_planFrom_139 : decode cX12_planFrom 139 = .ok (.istore 5, 2) := by decide +kernel
theorem dX12_planFrom_141 : decode cX12_planFrom 141 = .ok (.iinc 6 1, 3) := by decide +kernel
theorem dX12_planFrom_144 : decode cX12_planFrom 144 = .ok (.goto (-117), 3) := by decide +kernel
theorem dX12_planFrom_147 : decode cX12_planFrom 147 = .ok (.aload_n 0, 1) := by decide +kernel
theorem dX12_planFrom_148 : decode cX12_planFrom 148 = .ok (.iload 5, 2) := by decide +kernel
theorem dX12_planFrom_150 : decode cX12_planFrom 150 = .ok (.putfield 324, 3) := by decide +kernel
theorem dX12_planFrom_153 : decode cX12_planFrom 153 = .ok (.lload_n 3, 1) := by decide +kernel
theorem dX12_planFrom_154 : decode cX12_planFrom 154 = .ok (.lreturn, 1) := by decide +kernel
theorem dX12_planOf_0 : decode cX12_planOf 0 = .ok (.aload_n 0, 1) := by decide +kernel
theorem dX12_planOf_1 : decode cX12_planOf 1 = .ok (.iload_n 1, 1) := by decide +kernel
theorem dX12_planOf_2 : decode cX12_planOf 2 = .ok (.iconst 0, 1) := by decide +kernel
theorem dX12_planOf_3 : decode cX12_planOf 3 = .ok (.invokevirtual 268, 3) := by decide +kernel
theorem dX12_planOf_6 : decode cX12_planOf 6 = .ok (.aload_n 0, 1) := by decide +kernel
theorem dX12_planOf_7 : decode cX12_planOf 7 = .ok (.iconst 0, 1) := by decide +kernel
theorem dX12_planOf_8 : decode cX12_planOf 8 = .ok (.iload_n 2, 1) := by decide +kernel
theorem dX12_planOf_9 : decode cX12_planOf 9 = .ok (.invokevirtual 320, 3) := by decide +kernel
theorem dX12_planOf_12 : decode cX12_planOf 12 = .ok (.lreturn, 1) := by decide +kernel
theorem dX12_plan_0 : decode cX12_plan 0 = .ok (.iload_n 1, 1) := by decide +kernel
theorem dX12_plan_1 : decode cX12_plan 1 = .ok (.invokestatic 155, 3) := by decide +kernel
theorem dX12_plan_4 : decode cX12_plan 4 = .ok (.ifCond .eq 21, 3) := by decide +kernel
theorem dX12_plan_7 : decode cX12_plan 7 = .ok (.iload_n 2, 1) := by decide +kernel
theorem dX12_plan_8 : decode cX12_plan 8 = .ok (.iconst 0, 1) := by decide +kernel
theorem dX12_plan_9 : decode cX12_plan 9 = .ok (.iconst 3, 1) := by decide +kernel
theorem dX12_plan_10 : decode cX12_plan 10 = .ok (.invokestatic 124, 3) := by decide +kernel
theorem dX12_plan_13 : decode cX12_plan 13 = .ok (.ifCond .eq 12, 3) := by decide +kernel
theorem dX12_plan_16 : decode cX12_plan 16 = .ok (.iload_n 3, 1) := by decide +kernel
theorem dX12_plan_17 : decode cX12_plan 17 = .ok (.iconst 0, 1) := by decide +kernel
theorem dX12_plan_18 : decode cX12_plan 18 = .ok (.iconst 2, 1) := by decide +kernel
theorem dX12_plan_19 : decode cX12_plan 19 = .ok (.invokestatic 124, 3) := by decide +kernel
theorem dX12_plan_22 : decode cX12_plan 22 = .ok (.ifCond .ne 7, 3) := by decide +kernel
theorem dX12_plan_25 : decode cX12_plan 25 = .ok (.ldc2_w 283, 3) := by decide +kernel
theorem dX12_plan_28 : decode cX12_plan 28 = .ok (.lreturn, 1) := by decide +kernel
theorem dX12_plan_29 : decode cX12_plan 29 = .ok (.aload_n 0, 1) := by decide +kernel
theorem dX12_plan_30 : decode cX12_plan 30 = .ok (.iload_n 1, 1) := by decide +kernel
theorem dX12_plan_31 : decode cX12_plan 31 = .ok (.iload_n 2, 1) := by decide +kernel
theorem dX12_plan_32 : decode cX12_plan 32 = .ok (.invokevirtual 327, 3) := by decide +kernel
theorem dX12_plan_35 : decode cX12_plan 35 = .ok (.lstore 4, 2) := by decide +kernel
theorem dX12_plan_37 : decode cX12_plan 37 = .ok (.iload_n 3, 1) := by decide +kernel
theorem dX12_plan_38 : decode cX12_plan 38 = .ok (.iconst 2, 1) := by decide +kernel
theorem dX12_plan_39 : decode cX12_plan 39 = .ok (.if_icmp .ne 11, 3) := by decide +kernel
theorem dX12_plan_42 : decode cX12_plan 42 = .ok (.aload_n 0, 1) := by decide +kernel
theorem dX12_plan_43 : decode cX12_plan 43 = .ok (.getfield 324, 3) := by decide +kernel
theorem dX12_plan_46 : decode cX12_plan 46 = .ok (.i2l, 1) := by decide +kernel
theorem dX12_plan_47 : decode cX12_plan 47 = .ok (.goto 23, 3) := by decide +kernel
theorem dX12_plan_50 : decode cX12_plan 50 = .ok (.lload 4, 2) := by decide +kernel
theorem dX12_plan_52 : decode cX12_plan 52 = .ok (.aload_n 0, 1) := by decide +kernel
theorem dX12_plan_53 : decode cX12_plan 53 = .ok (.iload_n 1, 1) := by decide +kernel
theorem dX12_plan_54 : decode cX12_plan 54 = .ok (.invokevirtual 298, 3) := by decide +kernel
theorem dX12_plan_57 : decode cX12_plan 57 = .ok (.i2l, 1) := by decide +kernel
theorem dX12_plan_58 : decode cX12_plan 58 = .ok (.ldc2_w 301, 3) := by decide +kernel
theorem dX12_plan_61 : decode cX12_plan 61 = .ok (.iload_n 2, 1) := by decide +kernel
theorem dX12_plan_62 : decode cX12_plan 62 = .ok (.invokestatic 258, 3) := by decide +kernel
theorem dX12_plan_65 : decode cX12_plan 65 = .ok (.lmul, 1) := by decide +kernel
theorem dX12_plan_66 : decode cX12_plan 66 = .ok (.iload_n 3, 1) := by decide +kernel
theorem dX12_plan_67 : decode cX12_plan 67 = .ok (.invokestatic 294, 3) := by decide +kernel
theorem dX12_plan_70 : decode cX12_plan 70 = .ok (.lreturn, 1) := by decide +kernel
theorem dX12_buy_0 : decode cX12_buy 0 = .ok (.iload_n 1, 1) := by decide +kernel
theorem dX12_buy_1 : decode cX12_buy 1 = .ok (.iconst 0, 1) := by decide +kernel
theorem dX12_buy_2 : decode cX12_buy 2 = .ok (.iconst 2, 1) := by decide +kernel
theorem dX12_buy_3 : decode cX12_buy 3 = .ok (.invokestatic 124, 3) := by decide +kernel
theorem dX12_buy_6 : decode cX12_buy 6 = .ok (.ifCond .ne 7, 3) := by decide +kernel
theorem dX12_buy_9 : decode cX12_buy 9 = .ok (.ldc2_w 283, 3) := by decide +kernel
theorem dX12_buy_12 : decode cX12_buy 12 = .ok (.lreturn, 1) := by decide +kernel
theorem dX12_buy_13 : decode cX12_buy 13 = .ok (.iconst (-1), 1) := by decide +kernel
theorem dX12_buy_14 : decode cX12_buy 14 = .ok (.istore_n 2, 1) := by decide +kernel
theorem dX12_buy_15 : decode cX12_buy 15 = .ok (.lconst 0, 1) := by decide +kernel
theorem dX12_buy_16 : decode cX12_buy 16 = .ok (.lstore_n 3, 1) := by decide +kernel
theorem dX12_buy_17 : decode cX12_buy 17 = .ok (.lconst 1, 1) := by decide +kernel
theorem dX12_buy_18 : decode cX12_buy 18 = .ok (.lstore 5, 2) := by decide +kernel
theorem dX12_buy_20 : decode cX12_buy 20 = .ok (.iconst 0, 1) := by decide +kernel
theorem dX12_buy_21 : decode cX12_buy 21 = .ok (.istore 7, 2) := by decide +kernel
theorem dX12_buy_23 : decode cX12_buy 23 = .ok (.iload 7, 2) := by decide +kernel
theorem dX12_buy_25 : decode cX12_buy 25 = .ok (.iconst 4, 1) := by decide +kernel
theorem dX12_buy_26 : decode cX12_buy 26 = .ok (.if_icmp .ge 98, 3) := by decide +kernel
theorem dX12_buy_29 : decode cX12_buy 29 = .ok (.aload_n 0, 1) := by decide +kernel
theorem dX12_buy_30 : decode cX12_buy 30 = .ok (.iload 7, 2) := by decide +kernel
theorem dX12_buy_32 : decode cX12_buy 32 = .ok (.invokevirtual 298, 3) := by decide +kernel
theorem dX12_buy_35 : decode cX12_buy 35 = .ok (.i2l, 1) := by decide +kernel
theorem dX12_buy_36 : decode cX12_buy 36 = .ok (.ldc2_w 301, 3) := by decide +kernel
theorem dX12_buy_39 : decode cX12_buy 39 = .ok (.iconst 2, 1) := by decide +kernel
theorem dX12_buy_40 : decode cX12_buy 40 = .ok (.invokestatic 258, 3) := by decide +kernel
theorem dX12_buy_43 : decode cX12_buy 43 = .ok (.lmul, 1) := by decide +kernel
theorem dX12_buy_44 : decode cX12_buy 44 = .ok (.lstore 8, 2) := by decide +kernel
theorem dX12_buy_46 : decode cX12_buy 46 = .ok (.aload_n 0, 1) := by decide +kernel
theorem dX12_buy_47 : decode cX12_buy 47 = .ok (.iload 7, 2) := by decide +kernel
theorem dX12_buy_49 : decode cX12_buy 49 = .ok (.iconst 2, 1) := by decide +kernel
theorem dX12_buy_50 : decode cX12_buy 50 = .ok (.invokevirtual 327, 3) := by decide +kernel
theorem dX12_buy_53 : decode cX12_buy 53 = .ok (.aload_n 0, 1) := by decide +kernel
theorem dX12_buy_54 : decode cX12_buy 54 = .ok (.getfield 15, 3) := by decide +kernel
theorem dX12_buy_57 : decode cX12_buy 57 = .ok (.iload 7, 2) := by decide +kernel
theorem dX12_buy_59 : decode cX12_buy 59 = .ok (.iaload, 1) := by decide +kernel
theorem dX12_buy_60 : decode cX12_buy 60 = .ok (.i2l, 1) := by decide +kernel
theorem dX12_buy_61 : decode cX12_buy 61 = .ok (.lload 8, 2) := by decide +kernel
theorem dX12_buy_63 : decode cX12_buy 63 = .ok (.lmul, 1) := by decide +kernel
theorem dX12_buy_64 : decode cX12_buy 64 = .ok (.ladd, 1) := by decide +kernel
theorem dX12_buy_65 : decode cX12_buy 65 = .ok (.lstore 10, 2) := by decide +kernel
theorem dX12_buy_67 : decode cX12_buy 67 = .ok (.lload 10, 2) := by decide +kernel
theorem dX12_buy_69 : decode cX12_buy 69 = .ok (.lload 8, 2) := by decide +kernel
theorem dX12_buy_71 : decode cX12_buy 71 = .ok (.invokestatic 306, 3) := by decide +kernel
theorem dX12_buy_74 : decode cX12_buy 74 = .ok (.lstore 12, 2) := by decide +kernel
theorem dX12_buy_76 : decode cX12_buy 76 = .ok (.iload_n 2, 1) := by decide +kernel
theorem dX12_buy_77 : decode cX12_buy 77 = .ok (.ifCond .lt 25, 3) := by decide +kernel
theorem dX12_buy_80 : decode cX12_buy 80 = .ok (.lload 10, 2) := by decide +kernel
theorem dX12_buy_82 : decode cX12_buy 82 = .ok (.lload 12, 2) := by decide +kernel
theorem dX12_buy_84 : decode cX12_buy 84 = .ok (.ldiv, 1) := by decide +kernel
theorem dX12_buy_85 : decode cX12_buy 85 = .ok (.lload 5, 2) := by decide +kernel
theorem dX12_buy_87 : decode cX12_buy 87 = .ok (.lmul, 1) := by decide +kernel
theorem dX12_buy_88 : decode cX12_buy 88 = .ok (.lload_n 3, 1) := by decide +kernel
theorem dX12_buy_89 : decode cX12_buy 89 = .ok (.lload 8, 2) := by decide +kernel
theorem dX12_buy_91 : decode cX12_buy 91 = .ok (.lload 12, 2) := by decide +kernel
theorem dX12_buy_93 : decode cX12_buy 93 = .ok (.ldiv, 1) := by decide +kernel
theorem dX12_buy_94 : decode cX12_buy 94 = .ok (.lmul, 1) := by decide +kernel
theorem dX12_buy_95 : decode cX12_buy 95 = .ok (.lcmp, 1) := by decide +kernel
theorem dX12_buy_96 : decode cX12_buy 96 = .ok (.ifCond .lt 6, 3) := by decide +kernel
theorem dX12_buy_99 : decode cX12_buy 99 = .ok (.goto 19, 3) := by decide +kernel
theorem dX12_buy_102 : decode cX12_buy 102 = .ok (.iload 7, 2) := by decide +kernel
theorem dX12_buy_104 : decode cX12_buy 104 = .ok (.istore_n 2, 1) := by decide +kernel
theorem dX12_buy_105 : decode cX12_buy 105 = .ok (.lload 10, 2) := by decide +kernel
theorem dX12_buy_107 : decode cX12_buy 107 = .ok (.lload 12, 2) := by decide +kernel
theorem dX12_buy_109 : decode cX12_buy 109 = .ok (.ldiv, 1) := by decide +kernel
theorem dX12_buy_110 : decode cX12_buy 110 = .ok (.lstore_n 3, 1) := by decide +kernel
theorem dX12_buy_111 : decode cX12_buy 111 = .ok (.lload 8, 2) := by decide +kernel
theorem dX12_buy_113 : decode cX12_buy 113 = .ok (.lload 12, 2) := by decide +kernel
theorem dX12_buy_115 : decode cX12_buy 115 = .ok (.ldiv, 1) := by decide +kernel
theorem dX12_buy_116 : decode cX12_buy 116 = .ok (.lstore 5, 2) := by decide +kernel
theorem dX12_buy_118 : decode cX12_buy 118 = .ok (.iinc 7 1, 3) := by decide +kernel
theorem dX12_buy_121 : decode cX12_buy 121 = .ok (.goto (-98), 3) := by decide +kernel
theorem dX12_buy_124 : decode cX12_buy 124 = .ok (.iload_n 1, 1) := by decide +kernel
theorem dX12_buy_125 : decode cX12_buy 125 = .ok (.iconst 2, 1) := by decide +kernel
theorem dX12_buy_126 : decode cX12_buy 126 = .ok (.if_icmp .ne 8, 3) := by decide +kernel
theorem dX12_buy_129 : decode cX12_buy 129 = .ok (.iload_n 2, 1) := by decide +kernel
theorem dX12_buy_130 : decode cX12_buy 130 = .ok (.i2l, 1) := by decide +kernel
theorem dX12_buy_131 : decode cX12_buy 131 = .ok (.goto 10, 3) := by decide +kernel
theorem dX12_buy_134 : decode cX12_buy 134 = .ok (.lload_n 3, 1) := by decide +kernel
theorem dX12_buy_135 : decode cX12_buy 135 = .ok (.lload 5, 2) := by decide +kernel
theorem dX12_buy_137 : decode cX12_buy 137 = .ok (.iload_n 1, 1) := by decide +kernel
theorem dX12_buy_138 : decode cX12_buy 138 = .ok (.invokestatic 294, 3) := by decide +kernel
theorem dX12_buy_141 : decode cX12_buy 141 = .ok (.lreturn, 1) := by decide +kernel
theorem dX12_areLists_0 : decode cX12_areLists 0 = .ok (.iload_n 0, 1) := by decide +kernel
theorem dX12_areLists_1 : decode cX12_areLists 1 = .ok (.ifCond .lt 55, 3) := by decide +kernel
theorem dX12_areLists_4 : decode cX12_areLists 4 = .ok (.iload_n 0, 1) := by decide +kernel
theorem dX12_areLists_5 : decode cX12_areLists 5 = .ok (.sipush 10000, 3) := by decide +kernel
theorem dX12_areLists_8 : decode cX12_areLists 8 = .ok (.idiv, 1) := by decide +kernel
theorem dX12_areLists_9 : decode cX12_areLists 9 = .ok (.bipush 20, 2) := by decide +kernel
theorem dX12_areLists_11 : decode cX12_areLists 11 = .ok (.if_icmp .gt 45, 3) := by decide +kernel
theorem dX12_areLists_14 : decode cX12_areLists 14 = .ok (.iload_n 0, 1) := by decide +kernel
theorem dX12_areLists_15 : decode cX12_areLists 15 = .ok (.bipush 100, 2) := by decide +kernel
theorem dX12_areLists_17 : decode cX12_areLists 17 = .ok (.idiv, 1) := by decide +kernel
theorem dX12_areLists_18 : decode cX12_areLists 18 = .ok (.bipush 100, 2) := by decide +kernel
theorem dX12_areLists_20 : decode cX12_areLists 20 = .ok (.irem, 1) := by decide +kernel
theorem dX12_areLists_21 : decode cX12_areLists 21 = .ok (.bipush 20, 2) := by decide +kernel
theorem dX12_areLists_23 : decode cX12_areLists 23 = .ok (.if_icmp .gt 33, 3) := by decide +kernel
theorem dX12_areLists_26 : decode cX12_areLists 26 = .ok (.iload_n 0, 1) := by decide +kernel
theorem dX12_areLists_27 : decode cX12_areLists 27 = .ok (.bipush 100, 2) := by decide +kernel
theorem dX12_areLists_29 : decode cX12_areLists 29 = .ok (.irem, 1) := by decide +kernel
theorem dX12_areLists_30 : decode cX12_areLists 30 = .ok (.iload_n 0, 1) := by decide +kernel
theorem dX12_areLists_31 : decode cX12_areLists 31 = .ok (.sipush 10000, 3) := by decide +kernel
theorem dX12_areLists_34 : decode cX12_areLists 34 = .ok (.idiv, 1) := by decide +kernel
theorem dX12_areLists_35 : decode cX12_areLists 35 = .ok (.if_icmp .gt 21, 3) := by decide +kernel
theorem dX12_areLists_38 : decode cX12_areLists 38 = .ok (.iload_n 0, 1) := by decide +kernel
theorem dX12_areLists_39 : decode cX12_areLists 39 = .ok (.bipush 100, 2) := by decide +kernel
theorem dX12_areLists_41 : decode cX12_areLists 41 = .ok (.irem, 1) := by decide +kernel
theorem dX12_areLists_42 : decode cX12_areLists 42 = .ok (.iload_n 0, 1) := by decide +kernel
theorem dX12_areLists_43 : decode cX12_areLists 43 = .ok (.bipush 100, 2) := by decide +kernel
theorem dX12_areLists_45 : decode cX12_areLists 45 = .ok (.idiv, 1) := by decide +kernel
theorem dX12_areLists_46 : decode cX12_areLists 46 = .ok (.bipush 100, 2) := by decide +kernel
theorem dX12_areLists_48 : decode cX12_areLists 48 = .ok (.irem, 1) := by decide +kernel
theorem dX12_areLists_49 : decode cX12_areLists 49 = .ok (.if_icmp .gt 7, 3) := by decide +kernel
theorem dX12_areLists_52 : decode cX12_areLists 52 = .ok (.iconst 1, 1) := by decide +kernel
theorem dX12_areLists_53 : decode cX12_areLists 53 = .ok (.goto 4, 3) := by decide +kernel
theorem dX12_areLists_56 : decode cX12_areLists 56 = .ok (.iconst 0, 1) := by decide +kernel
theorem dX12_areLists_57 : decode cX12_areLists 57 = .ok (.ireturn, 1) := by decide +kernel
theorem dX12_lists_0 : decode cX12_lists 0 = .ok (.iload_n 1, 1) := by decide +kernel
theorem dX12_lists_1 : decode cX12_lists 1 = .ok (.invokestatic 330, 3) := by decide +kernel
theorem dX12_lists_4 : decode cX12_lists 4 = .ok (.ifCond .eq 19, 3) := by decide +kernel
theorem dX12_lists_7 : decode cX12_lists 7 = .ok (.iload_n 2, 1) := by decide +kernel
theorem dX12_lists_8 : decode cX12_lists 8 = .ok (.iconst 0, 1) := by decide +kernel
theorem dX12_lists_9 : decode cX12_lists 9 = .ok (.iconst 1, 1) := by decide +kernel
theorem dX12_lists_10 : decode cX12_lists 10 = .ok (.invokestatic 124, 3) := by decide +kernel
theorem dX12_lists_13 : decode cX12_lists 13 = .ok (.ifCond .eq 10, 3) := by decide +kernel
theorem dX12_lists_16 : decode cX12_lists 16 = .ok (.iload_n 3, 1) := by decide +kernel
theorem dX12_lists_17 : decode cX12_lists 17 = .ok (.invokestatic 277, 3) := by decide +kernel
theorem dX12_lists_20 : decode cX12_lists 20 = .ok (.ifCond .ne 7, 3) := by decide +kernel
theorem dX12_lists_23 : decode cX12_lists 23 = .ok (.ldc2_w 283, 3) := by decide +kernel
theorem dX12_lists_26 : decode cX12_lists 26 = .ok (.lreturn, 1) := by decide +kernel
theorem dX12_lists_27 : decode cX12_lists 27 = .ok (.iload_n 1, 1) := by decide +kernel
theorem dX12_lists_28 : decode cX12_lists 28 = .ok (.sipush 10000, 3) := by decide +kernel
theorem dX12_lists_31 : decode cX12_lists 31 = .ok (.idiv, 1) := by decide +kernel
theorem dX12_lists_32 : decode cX12_lists 32 = .ok (.istore 4, 2) := by decide +kernel
theorem dX12_lists_34 : decode cX12_lists 34 = .ok (.iload_n 1, 1) := by decide +kernel
theorem dX12_lists_35 : decode cX12_lists 35 = .ok (.bipush 100, 2) := by decide +kernel
theorem dX12_lists_37 : decode cX12_lists 37 = .ok (.idiv, 1) := by decide +kernel
theorem dX12_lists_38 : decode cX12_lists 38 = .ok (.bipush 100, 2) := by decide +kernel
theorem dX12_lists_40 : decode cX12_lists 40 = .ok (.irem, 1) := by decide +kernel
theorem dX12_lists_41 : decode cX12_lists 41 = .ok (.istore 5, 2) := by decide +kernel
theorem dX12_lists_43 : decode cX12_lists 43 = .ok (.iload_n 1, 1) := by decide +kernel
theorem dX12_lists_44 : decode cX12_lists 44 = .ok (.bipush 100, 2) := by decide +kernel
theorem dX12_lists_46 : decode cX12_lists 46 = .ok (.irem, 1) := by decide +kernel
theorem dX12_lists_47 : decode cX12_lists 47 = .ok (.istore 6, 2) := by decide +kernel
theorem dX12_lists_49 : decode cX12_lists 49 = .ok (.iload 6, 2) := by decide +kernel
theorem dX12_lists_51 : decode cX12_lists 51 = .ok (.ifCond .ne 7, 3) := by decide +kernel
theorem dX12_lists_54 : decode cX12_lists 54 = .ok (.ldc2_w 292, 3) := by decide +kernel
theorem dX12_lists_57 : decode cX12_lists 57 = .ok (.lreturn, 1) := by decide +kernel
theorem dX12_lists_58 : decode cX12_lists 58 = .ok (.iload_n 2, 1) := by decide +kernel
theorem dX12_lists_59 : decode cX12_lists 59 = .ok (.ifCond .ne 12, 3) := by decide +kernel
theorem dX12_lists_62 : decode cX12_lists 62 = .ok (.iload 4, 2) := by decide +kernel
theorem dX12_lists_64 : decode cX12_lists 64 = .ok (.iload 5, 2) := by decide +kernel
theorem dX12_lists_66 : decode cX12_lists 66 = .ok (.imul, 1) := by decide +kernel
theorem dX12_lists_67 : decode cX12_lists 67 = .ok (.i2l, 1) := by decide +kernel
theorem dX12_lists_68 : decode cX12_lists 68 = .ok (.goto 21, 3) := by decide +kernel
theorem dX12_lists_71 : decode cX12_lists 71 = .ok (.iload 4, 2) := by decide +kernel
theorem dX12_lists_73 : decode cX12_lists 73 = .ok (.iload 5, 2) := by decide +kernel
theorem dX12_lists_75 : decode cX12_lists 75 = .ok (.imul, 1) := by decide +kernel
theorem dX12_lists_76 : decode cX12_lists 76 = .ok (.iload 4, 2) := by decide +kernel
theorem dX12_lists_78 : decode cX12_lists 78 = .ok (.iload 5, 2) := by decide +kernel
theorem dX12_lists_80 : decode cX12_lists 80 = .ok (.iadd, 1) := by decide +kernel
theorem dX12_lists_81 : decode cX12_lists 81 = .ok (.iload 6, 2) := by decide +kernel
theorem dX12_lists_83 : decode cX12_lists 83 = .ok (.isub, 1) := by decide +kernel
theorem dX12_lists_84 : decode cX12_lists 84 = .ok (.iload 6, 2) := by decide +kernel
theorem dX12_lists_86 : decode cX12_lists 86 = .ok (.imul, 1) := by decide +kernel
theorem dX12_lists_87 : decode cX12_lists 87 = .ok (.isub, 1) := by decide +kernel
theorem dX12_lists_88 : decode cX12_lists 88 = .ok (.i2l, 1) := by decide +kernel
theorem dX12_lists_89 : decode cX12_lists 89 = .ok (.iload 6, 2) := by decide +kernel
theorem dX12_lists_91 : decode cX12_lists 91 = .ok (.i2l, 1) := by decide +kernel
theorem dX12_lists_92 : decode cX12_lists 92 = .ok (.iload_n 3, 1) := by decide +kernel
theorem dX12_lists_93 : decode cX12_lists 93 = .ok (.invokestatic 294, 3) := by decide +kernel
theorem dX12_lists_96 : decode cX12_lists 96 = .ok (.lreturn, 1) := by decide +kernel
theorem dX12_likeliest_0 : decode cX12_likeliest 0 = .ok (.iload_n 1, 1) := by decide +kernel
theorem dX12_likeliest_1 : decode cX12_likeliest 1 = .ok (.invokestatic 330, 3) := by decide +kernel
theorem dX12_likeliest_4 : decode cX12_likeliest 4 = .ok (.ifCond .ne 5, 3) := by decide +kernel
theorem dX12_likeliest_7 : decode cX12_likeliest 7 = .ok (.iconst (-1), 1) := by decide +kernel
theorem dX12_likeliest_8 : decode cX12_likeliest 8 = .ok (.ireturn, 1) := by decide +kernel
theorem dX12_likeliest_9 : decode cX12_likeliest 9 = .ok (.iload_n 1, 1) := by decide +kernel
theorem dX12_likeliest_10 : decode cX12_likeliest 10 = .ok (.sipush 10000, 3) := by decide +kernel
theorem dX12_likeliest_13 : decode cX12_likeliest 13 = .ok (.idiv, 1) := by decide +kernel
theorem dX12_likeliest_14 : decode cX12_likeliest 14 = .ok (.istore_n 2, 1) := by decide +kernel
theorem dX12_likeliest_15 : decode cX12_likeliest 15 = .ok (.iload_n 1, 1) := by decide +kernel
theorem dX12_likeliest_16 : decode cX12_likeliest 16 = .ok (.bipush 100, 2) := by decide +kernel
theorem dX12_likeliest_18 : decode cX12_likeliest 18 = .ok (.idiv, 1) := by decide +kernel
theorem dX12_likeliest_19 : decode cX12_likeliest 19 = .ok (.bipush 100, 2) := by decide +kernel
theorem dX12_likeliest_21 : decode cX12_likeliest 21 = .ok (.irem, 1) := by decide +kernel
theorem dX12_likeliest_22 : decode cX12_likeliest 22 = .ok (.istore_n 3, 1) := by decide +kernel
theorem dX12_likeliest_23 : decode cX12_likeliest 23 = .ok (.iload_n 1, 1) := by decide +kernel
theorem dX12_likeliest_24 : decode cX12_likeliest 24 = .ok (.bipush 100, 2) := by decide +kernel
theorem dX12_likeliest_26 : decode cX12_likeliest 26 = .ok (.irem, 1) := by decide +kernel
theorem dX12_likeliest_27 : decode cX12_likeliest 27 = .ok (.istore 4, 2) := by decide +kernel
theorem dX12_likeliest_29 : decode cX12_likeliest 29 = .ok (.iload_n 2, 1) := by decide +kernel
theorem dX12_likeliest_30 : decode cX12_likeliest 30 = .ok (.iload_n 3, 1) := by decide +kernel
theorem dX12_likeliest_31 : decode cX12_likeliest 31 = .ok (.iadd, 1) := by decide +kernel
theorem dX12_likeliest_32 : decode cX12_likeliest 32 = .ok (.iload 4, 2) := by decide +kernel
theorem dX12_likeliest_34 : decode cX12_likeliest 34 = .ok (.isub, 1) := by decide +kernel
theorem dX12_likeliest_35 : decode cX12_likeliest 35 = .ok (.istore 5, 2) := by decide +kernel
theorem dX12_likeliest_37 : decode cX12_likeliest 37 = .ok (.iload 5, 2) := by decide +kernel
theorem dX12_likeliest_39 : decode cX12_likeliest 39 = .ok (.bipush 60, 2) := by decide +kernel
theorem dX12_likeliest_41 : decode cX12_likeliest 41 = .ok (.if_icmp .ge 22, 3) := by decide +kernel
theorem dX12_likeliest_44 : decode cX12_likeliest 44 = .ok (.iload_n 2, 1) := by decide +kernel
theorem dX12_likeliest_45 : decode cX12_likeliest 45 = .ok (.iload_n 3, 1) := by decide +kernel
theorem dX12_likeliest_46 : decode cX12_likeliest 46 = .ok (.imul, 1) := by decide +kernel
theorem dX12_likeliest_47 : decode cX12_likeliest 47 = .ok (.iload 4, 2) := by decide +kernel
theorem dX12_likeliest_49 : decode cX12_likeliest 49 = .ok (.iload 5, 2) := by decide +kernel
theorem dX12_likeliest_51 : decode cX12_likeliest 51 = .ok (.iconst 1, 1) := by decide +kernel
theorem dX12_likeliest_52 : decode cX12_likeliest 52 = .ok (.iadd, 1) := by decide +kernel
theorem dX12_likeliest_53 : decode cX12_likeliest 53 = .ok (.imul, 1) := by decide +kernel
theorem dX12_likeliest_54 : decode cX12_likeliest 54 = .ok (.if_icmp .le 9, 3) := by decide +kernel
theorem dX12_likeliest_57 : decode cX12_likeliest 57 = .ok (.iinc 5 1, 3) := by decide +kernel
theorem dX12_likeliest_60 : decode cX12_likeliest 60 = .ok (.goto (-23), 3) := by decide +kernel
theorem dX12_likeliest_63 : decode cX12_likeliest 63 = .ok (.iload 5, 2) := by decide +kernel
theorem dX12_likeliest_65 : decode cX12_likeliest 65 = .ok (.ireturn, 1) := by decide +kernel
theorem dX12_layProduct_0 : decode cX12_layProduct 0 = .ok (.aload_n 0, 1) := by decide +kernel
theorem dX12_layProduct_1 : decode cX12_layProduct 1 = .ok (.getfield 79, 3) := by decide +kernel
theorem dX12_layProduct_4 : decode cX12_layProduct 4 = .ok (.iload_n 1, 1) := by decide +kernel
theorem dX12_layProduct_5 : decode cX12_layProduct 5 = .ok (.lconst 1, 1) := by decide +kernel
theorem dX12_layProduct_6 : decode cX12_layProduct 6 = .ok (.lastore, 1) := by decide +kernel
theorem dX12_layProduct_7 : decode cX12_layProduct 7 = .ok (.aload_n 0, 1) := by decide +kernel
theorem dX12_layProduct_8 : decode cX12_layProduct 8 = .ok (.getfield 79, 3) := by decide +kernel
theorem dX12_layProduct_11 : decode cX12_layProduct 11 = .ok (.iload_n 1, 1) := by decide +kernel
theorem dX12_layProduct_12 : decode cX12_layProduct 12 = .ok (.iconst 1, 1) := by decide +kernel
theorem dX12_layProduct_13 : decode cX12_layProduct 13 = .ok (.iadd, 1) := by decide +kernel
theorem dX12_layProduct_14 : decode cX12_layProduct 14 = .ok (.lconst 0, 1) := by decide +kernel
theorem dX12_layProduct_15 : decode cX12_layProduct 15 = .ok (.lastore, 1) := by decide +kernel
theorem dX12_layProduct_16 : decode cX12_layProduct 16 = .ok (.aload_n 0, 1) := by decide +kernel
theorem dX12_layProduct_17 : decode cX12_layProduct 17 = .ok (.getfield 79, 3) := by decide +kernel
theorem dX12_layProduct_20 : decode cX12_layProduct 20 = .ok (.iload_n 1, 1) := by decide +kernel
theorem dX12_layProduct_21 : decode cX12_layProduct 21 = .ok (.iconst 2, 1) := by decide +kernel
theorem dX12_layProduct_22 : decode cX12_layProduct 22 = .ok (.iadd, 1) := by decide +kernel
theorem dX12_layProduct_23 : decode cX12_layProduct 23 = .ok (.lconst 0, 1) := by decide +kernel
theorem dX12_layProduct_24 : decode cX12_layProduct 24 = .ok (.lastore, 1) := by decide +kernel
theorem dX12_layProduct_25 : decode cX12_layProduct 25 = .ok (.iconst 0, 1) := by decide +kernel
theorem dX12_layProduct_26 : decode cX12_layProduct 26 = .ok (.istore 5, 2) := by decide +kernel
theorem dX12_layProduct_28 : decode cX12_layProduct 28 = .ok (.iload 5, 2) := by decide +kernel
theorem dX12_layProduct_30 : decode cX12_layProduct 30 = .ok (.iload 4, 2) := by decide +kernel
theorem dX12_layProduct_32 : decode cX12_layProduct 32 = .ok (.if_icmp .ge 84, 3) := by decide +kernel
theorem dX12_layProduct_35 : decode cX12_layProduct 35 = .ok (.iload 5, 2) := by decide +kernel
theorem dX12_layProduct_37 : decode cX12_layProduct 37 = .ok (.iload_n 3, 1) := by decide +kernel
theorem dX12_layProduct_38 : decode cX12_layProduct 38 = .ok (.if_icmp .ge 7, 3) := by decide +kernel
theorem dX12_layProduct_41 : decode cX12_layProduct 41 = .ok (.iload_n 2, 1) := by decide +kernel
theorem dX12_layProduct_42 : decode cX12_layProduct 42 = .ok (.goto 7, 3) := by decide +kernel
theorem dX12_layProduct_45 : decode cX12_layProduct 45 = .ok (.bipush 12, 2) := by decide +kernel
theorem dX12_layProduct_47 : decode cX12_layProduct 47 = .ok (.iload_n 2, 1) := by decide +kernel
theorem dX12_layProduct_48 : decode cX12_layProduct 48 = .ok (.isub, 1) := by decide +kernel
theorem dX12_layProduct_49 : decode cX12_layProduct 49 = .ok (.istore 6, 2) := by decide +kernel
theorem dX12_layProduct_51 : decode cX12_layProduct 51 = .ok (.lconst 0, 1) := by decide +kernel
theorem dX12_layProduct_52 : decode cX12_layProduct 52 = .ok (.lstore 7, 2) := by decide +kernel
theorem dX12_layProduct_54 : decode cX12_layProduct 54 = .ok (.iconst 0, 1) := by decide +kernel
theorem dX12_layProduct_55 : decode cX12_layProduct 55 = .ok (.istore 9, 2) := by decide +kernel
theorem dX12_layProduct_57 : decode cX12_layProduct 57 = .ok (.iload 9, 2) := by decide +kernel
theorem dX12_layProduct_59 : decode cX12_layProduct 59 = .ok (.iconst 3, 1) := by decide +kernel
theorem dX12_layProduct_60 : decode cX12_layProduct 60 = .ok (.if_icmp .ge 50, 3) := by decide +kernel
theorem dX12_layProduct_63 : decode cX12_layProduct 63 = .ok (.aload_n 0, 1) := by decide +kernel
theorem dX12_layProduct_64 : decode cX12_layProduct 64 = .ok (.getfield 79, 3) := by decide +kernel
theorem dX12_layProduct_67 : decode cX12_layProduct 67 = .ok (.iload_n 1, 1) := by decide +kernel
theorem dX12_layProduct_68 : decode cX12_layProduct 68 = .ok (.iload 9, 2) := by decide +kernel
theorem dX12_layProduct_70 : decode cX12_layProduct 70 = .ok (.iadd, 1) := by decide +kernel
theorem dX12_layProduct_71 : decode cX12_layProduct 71 = .ok (.laload, 1) := by decide +kernel
theorem dX12_layProduct_72 : decode cX12_layProduct 72 = .ok (.iload 6, 2) := by decide +kernel
theorem dX12_layProduct_74 : decode cX12_layProduct 74 = .ok (.i2l, 1) := by decide +kernel
theorem dX12_layProduct_75 : decode cX12_layProduct 75 = .ok (.lmul, 1) := by decide +kernel
theorem dX12_layProduct_76 : decode cX12_layProduct 76 = .ok (.lload 7, 2) := by decide +kernel
theorem dX12_layProduct_78 : decode cX12_layProduct 78 = .ok (.ladd, 1) := by decide +kernel
theorem dX12_layProduct_79 : decode cX12_layProduct 79 = .ok (.lstore 10, 2) := by decide +kernel
theorem dX12_layProduct_81 : decode cX12_layProduct 81 = .ok (.aload_n 0, 1) := by decide +kernel
theorem dX12_layProduct_82 : decode cX12_layProduct 82 = .ok (.getfield 79, 3) := by decide +kernel
theorem dX12_layProduct_85 : decode cX12_layProduct 85 = .ok (.iload_n 1, 1) := by decide +kernel
theorem dX12_layProduct_86 : decode cX12_layProduct 86 = .ok (.iload 9, 2) := by decide +kernel
theorem dX12_layProduct_88 : decode cX12_layProduct 88 = .ok (.iadd, 1) := by decide +kernel
theorem dX12_layProduct_89 : decode cX12_layProduct 89 = .ok (.lload 10, 2) := by decide +kernel
theorem dX12_layProduct_91 : decode cX12_layProduct 91 = .ok (.ldc2_w 333, 3) := by decide +kernel
theorem dX12_layProduct_94 : decode cX12_layProduct 94 = .ok (.lrem, 1) := by decide +kernel
theorem dX12_layProduct_95 : decode cX12_layProduct 95 = .ok (.lastore, 1) := by decide +kernel
theorem dX12_layProduct_96 : decode cX12_layProduct 96 = .ok (.lload 10, 2) := by decide +kernel
theorem dX12_layProduct_98 : decode cX12_layProduct 98 = .ok (.ldc2_w 333, 3) := by decide +kernel
theorem dX12_layProduct_101 : decode cX12_layProduct 101 = .ok (.ldiv, 1) := by decide +kernel
theorem dX12_layProduct_102 : decode cX12_layProduct 102 = .ok (.lstore 7, 2) := by decide +kernel
theorem dX12_layProduct_104 : decode cX12_layProduct 104 = .ok (.iinc 9 1, 3) := by decide +kernel
theorem dX12_layProduct_107 : decode cX12_layProduct 107 = .ok (.goto (-50), 3) := by decide +kernel
theorem dX12_layProduct_110 : decode cX12_layProduct 110 = .ok (.iinc 5 1, 3) := by decide +kernel
theorem dX12_layProduct_113 : decode cX12_layProduct 113 = .ok (.goto (-85), 3) := by decide +kernel
theorem dX12_layProduct_116 : decode cX12_layProduct 116 = .ok (.return_, 1) := by decide +kernel
theorem dX12_isMore_0 : decode cX12_isMore 0 = .ok (.iconst 2, 1) := by decide +kernel
theorem dX12_isMore_1 : decode cX12_isMore 1 = .ok (.istore_n 1, 1) := by decide +kernel
theorem dX12_isMore_2 : decode cX12_isMore 2 = .ok (.iload_n 1, 1) := by decide +kernel
theorem dX12_isMore_3 : decode cX12_isMore 3 = .ok (.ifCond .lt 51, 3) := by decide +kernel
theorem dX12_isMore_6 : decode cX12_isMore 6 = .ok (.aload_n 0, 1) := by decide +kernel
theorem dX12_isMore_7 : decode cX12_isMore 7 = .ok (.getfield 79, 3) := by decide +kernel
theorem dX12_isMore_10 : decode cX12_isMore 10 = .ok (.iload_n 1, 1) := by decide +kernel
theorem dX12_isMore_11 : decode cX12_isMore 11 = .ok (.laload, 1) := by decide +kernel
theorem dX12_isMore_12 : decode cX12_isMore 12 = .ok (.aload_n 0, 1) := by decide +kernel
theorem dX12_isMore_13 : decode cX12_isMore 13 = .ok (.getfield 79, 3) := by decide +kernel
theorem dX12_isMore_16 : decode cX12_isMore 16 = .ok (.iconst 3, 1) := by decide +kernel
theorem dX12_isMore_17 : decode cX12_isMore 17 = .ok (.iload_n 1, 1) := by decide +kernel
theorem dX12_isMore_18 : decode cX12_isMore 18 = .ok (.iadd, 1) := by decide +kernel
theorem dX12_isMore_19 : decode cX12_isMore 19 = .ok (.laload, 1) := by decide +kernel
theorem dX12_isMore_20 : decode cX12_isMore 20 = .ok (.lcmp, 1) := by decide +kernel
theorem dX12_isMore_21 : decode cX12_isMore 21 = .ok (.ifCond .eq 27, 3) := by decide +kernel
theorem dX12_isMore_24 : decode cX12_isMore 24 = .ok (.aload_n 0, 1) := by decide +kernel
theorem dX12_isMore_25 : decode cX12_isMore 25 = .ok (.getfield 79, 3) := by decide +kernel
theorem dX12_isMore_28 : decode cX12_isMore 28 = .ok (.iload_n 1, 1) := by decide +kernel
theorem dX12_isMore_29 : decode cX12_isMore 29 = .ok (.laload, 1) := by decide +kernel
theorem dX12_isMore_30 : decode cX12_isMore 30 = .ok (.aload_n 0, 1) := by decide +kernel
theorem dX12_isMore_31 : decode cX12_isMore 31 = .ok (.getfield 79, 3) := by decide +kernel
theorem dX12_isMore_34 : decode cX12_isMore 34 = .ok (.iconst 3, 1) := by decide +kernel
theorem dX12_isMore_35 : decode cX12_isMore 35 = .ok (.iload_n 1, 1) := by decide +kernel
theorem dX12_isMore_36 : decode cX12_isMore 36 = .ok (.iadd, 1) := by decide +kernel
theorem dX12_isMore_37 : decode cX12_isMore 37 = .ok (.laload, 1) := by decide +kernel
theorem dX12_isMore_38 : decode cX12_isMore 38 = .ok (.lcmp, 1) := by decide +kernel
theorem dX12_isMore_39 : decode cX12_isMore 39 = .ok (.ifCond .le 7, 3) := by decide +kernel
theorem dX12_isMore_42 : decode cX12_isMore 42 = .ok (.iconst 1, 1) := by decide +kernel
theorem dX12_isMore_43 : decode cX12_isMore 43 = .ok (.goto 4, 3) := by decide +kernel
theorem dX12_isMore_46 : decode cX12_isMore 46 = .ok (.iconst 0, 1) := by decide +kernel
theorem dX12_isMore_47 : decode cX12_isMore 47 = .ok (.ireturn, 1) := by decide +kernel
theorem dX12_isMore_48 : decode cX12_isMore 48 = .ok (.iinc 1 (-1), 3) := by decide +kernel
theorem dX12_isMore_51 : decode cX12_isMore 51 = .ok (.goto (-49), 3) := by decide +kernel
theorem dX12_isMore_54 : decode cX12_isMore 54 = .ok (.iconst 0, 1) := by decide +kernel
theorem dX12_isMore_55 : decode cX12_isMore 55 = .ok (.ireturn, 1) := by decide +kernel
theorem dX12_isPutIn_0 : decode cX12_isPutIn 0 = .ok (.iload_n 0, 1) := by decide +kernel
theorem dX12_isPutIn_1 : decode cX12_isPutIn 1 = .ok (.ifCond .lt 31, 3) := by decide +kernel
theorem dX12_isPutIn_4 : decode cX12_isPutIn 4 = .ok (.iload_n 0, 1) := by decide +kernel
theorem dX12_isPutIn_5 : decode cX12_isPutIn 5 = .ok (.bipush 100, 2) := by decide +kernel
theorem dX12_isPutIn_7 : decode cX12_isPutIn 7 = .ok (.idiv, 1) := by decide +kernel
theorem dX12_isPutIn_8 : decode cX12_isPutIn 8 = .ok (.iconst 1, 1) := by decide +kernel
theorem dX12_isPutIn_9 : decode cX12_isPutIn 9 = .ok (.bipush 20, 2) := by decide +kernel
theorem dX12_isPutIn_11 : decode cX12_isPutIn 11 = .ok (.invokestatic 124, 3) := by decide +kernel
theorem dX12_isPutIn_14 : decode cX12_isPutIn 14 = .ok (.ifCond .eq 18, 3) := by decide +kernel
theorem dX12_isPutIn_17 : decode cX12_isPutIn 17 = .ok (.iload_n 0, 1) := by decide +kernel
theorem dX12_isPutIn_18 : decode cX12_isPutIn 18 = .ok (.bipush 100, 2) := by decide +kernel
theorem dX12_isPutIn_20 : decode cX12_isPutIn 20 = .ok (.irem, 1) := by decide +kernel
theorem dX12_isPutIn_21 : decode cX12_isPutIn 21 = .ok (.iload_n 0, 1) := by decide +kernel
theorem dX12_isPutIn_22 : decode cX12_isPutIn 22 = .ok (.bipush 100, 2) := by decide +kernel
theorem dX12_isPutIn_24 : decode cX12_isPutIn 24 = .ok (.idiv, 1) := by decide +kernel
theorem dX12_isPutIn_25 : decode cX12_isPutIn 25 = .ok (.if_icmp .gt 7, 3) := by decide +kernel
theorem dX12_isPutIn_28 : decode cX12_isPutIn 28 = .ok (.iconst 1, 1) := by decide +kernel
theorem dX12_isPutIn_29 : decode cX12_isPutIn 29 = .ok (.goto 4, 3) := by decide +kernel
theorem dX12_isPutIn_32 : decode cX12_isPutIn 32 = .ok (.iconst 0, 1) := by decide +kernel
theorem dX12_isPutIn_33 : decode cX12_isPutIn 33 = .ok (.ireturn, 1) := by decide +kernel
theorem dX12_likeliestSees_0 : decode cX12_likeliestSees 0 = .ok (.iconst 0, 1) := by decide +kernel
theorem dX12_likeliestSees_1 : decode cX12_likeliestSees 1 = .ok (.istore_n 2, 1) := by decide +kernel
theorem dX12_likeliestSees_2 : decode cX12_likeliestSees 2 = .ok (.aload_n 0, 1) := by decide +kernel
theorem dX12_likeliestSees_3 : decode cX12_likeliestSees 3 = .ok (.iconst 3, 1) := by decide +kernel
theorem dX12_likeliestSees_4 : decode cX12_likeliestSees 4 = .ok (.iconst 0, 1) := by decide +kernel
theorem dX12_likeliestSees_5 : decode cX12_likeliestSees 5 = .ok (.iload_n 1, 1) := by decide +kernel
theorem dX12_likeliestSees_6 : decode cX12_likeliestSees 6 = .ok (.bipush 100, 2) := by decide +kernel
theorem dX12_likeliestSees_8 : decode cX12_likeliestSees 8 = .ok (.irem, 1) := by decide +kernel
theorem dX12_likeliestSees_9 : decode cX12_likeliestSees 9 = .ok (.iload_n 1, 1) := by decide +kernel
theorem dX12_likeliestSees_10 : decode cX12_likeliestSees 10 = .ok (.bipush 100, 2) := by decide +kernel
theorem dX12_likeliestSees_12 : decode cX12_likeliestSees 12 = .ok (.idiv, 1) := by decide +kernel
theorem dX12_likeliestSees_13 : decode cX12_likeliestSees 13 = .ok (.invokevirtual 335, 3) := by decide +kernel
theorem dX12_likeliestSees_16 : decode cX12_likeliestSees 16 = .ok (.iconst 1, 1) := by decide +kernel
theorem dX12_likeliestSees_17 : decode cX12_likeliestSees 17 = .ok (.istore_n 3, 1) := by decide +kernel
theorem dX12_likeliestSees_18 : decode cX12_likeliestSees 18 = .ok (.iload_n 3, 1) := by decide +kernel
theorem dX12_likeliestSees_19 : decode cX12_likeliestSees 19 = .ok (.bipush 12, 2) := by decide +kernel
theorem dX12_likeliestSees_21 : decode cX12_likeliestSees 21 = .ok (.if_icmp .gt 66, 3) := by decide +kernel
theorem dX12_likeliestSees_24 : decode cX12_likeliestSees 24 = .ok (.aload_n 0, 1) := by decide +kernel
theorem dX12_likeliestSees_25 : decode cX12_likeliestSees 25 = .ok (.iconst 0, 1) := by decide +kernel
theorem dX12_likeliestSees_26 : decode cX12_likeliestSees 26 = .ok (.iload_n 3, 1) := by decide +kernel
theorem dX12_likeliestSees_27 : decode cX12_likeliestSees 27 = .ok (.iload_n 1, 1) := by decide +kernel
theorem dX12_likeliestSees_28 : decode cX12_likeliestSees 28 = .ok (.bipush 100, 2) := by decide +kernel
theorem dX12_likeliestSees_30 : decode cX12_likeliestSees 30 = .ok (.irem, 1) := by decide +kernel
theorem dX12_likeliestSees_31 : decode cX12_likeliestSees 31 = .ok (.iload_n 1, 1) := by decide +kernel
theorem dX12_likeliestSees_32 : decode cX12_likeliestSees 32 = .ok (.bipush 100, 2) := by decide +kernel
theorem dX12_likeliestSees_34 : decode cX12_likeliestSees 34 = .ok (.idiv, 1) := by decide +kernel
theorem dX12_likeliestSees_35 : decode cX12_likeliestSees 35 = .ok (.invokevirtual 335, 3) := by decide +kernel
theorem dX12_likeliestSees_38 : decode cX12_likeliestSees 38 = .ok (.aload_n 0, 1) := by decide +kernel
theorem dX12_likeliestSees_39 : decode cX12_likeliestSees 39 = .ok (.invokevirtual 339, 3) := by decide +kernel
theorem dX12_likeliestSees_42 : decode cX12_likeliestSees 42 = .ok (.ifCond .ne 6, 3) := by decide +kernel
theorem dX12_likeliestSees_45 : decode cX12_likeliestSees 45 = .ok (.goto 36, 3) := by decide +kernel
theorem dX12_likeliestSees_48 : decode cX12_likeliestSees 48 = .ok (.iload_n 3, 1) := by decide +kernel
theorem dX12_likeliestSees_49 : decode cX12_likeliestSees 49 = .ok (.istore_n 2, 1) := by decide +kernel
theorem dX12_likeliestSees_50 : decode cX12_likeliestSees 50 = .ok (.iconst 0, 1) := by decide +kernel
theorem dX12_likeliestSees_51 : decode cX12_likeliestSees 51 = .ok (.istore 4, 2) := by decide +kernel
theorem dX12_likeliestSees_53 : decode cX12_likeliestSees 53 = .ok (.iload 4, 2) := by decide +kernel
theorem dX12_likeliestSees_55 : decode cX12_likeliestSees 55 = .ok (.iconst 3, 1) := by decide +kernel
theorem dX12_likeliestSees_56 : decode cX12_likeliestSees 56 = .ok (.if_icmp .ge 25, 3) := by decide +kernel
theorem dX12_likeliestSees_59 : decode cX12_likeliestSees 59 = .ok (.aload_n 0, 1) := by decide +kernel
theorem dX12_likeliestSees_60 : decode cX12_likeliestSees 60 = .ok (.getfield 79, 3) := by decide +kernel
theorem dX12_likeliestSees_63 : decode cX12_likeliestSees 63 = .ok (.iconst 3, 1) := by decide +kernel
theorem dX12_likeliestSees_64 : decode cX12_likeliestSees 64 = .ok (.iload 4, 2) := by decide +kernel
theorem dX12_likeliestSees_66 : decode cX12_likeliestSees 66 = .ok (.iadd, 1) := by decide +kernel
theorem dX12_likeliestSees_67 : decode cX12_likeliestSees 67 = .ok (.aload_n 0, 1) := by decide +kernel
theorem dX12_likeliestSees_68 : decode cX12_likeliestSees 68 = .ok (.getfield 79, 3) := by decide +kernel
theorem dX12_likeliestSees_71 : decode cX12_likeliestSees 71 = .ok (.iload 4, 2) := by decide +kernel
theorem dX12_likeliestSees_73 : decode cX12_likeliestSees 73 = .ok (.laload, 1) := by decide +kernel
theorem dX12_likeliestSees_74 : decode cX12_likeliestSees 74 = .ok (.lastore, 1) := by decide +kernel
theorem dX12_likeliestSees_75 : decode cX12_likeliestSees 75 = .ok (.iinc 4 1, 3) := by decide +kernel
theorem dX12_likeliestSees_78 : decode cX12_likeliestSees 78 = .ok (.goto (-25), 3) := by decide +kernel
theorem dX12_likeliestSees_81 : decode cX12_likeliestSees 81 = .ok (.iinc 3 1, 3) := by decide +kernel
theorem dX12_likeliestSees_84 : decode cX12_likeliestSees 84 = .ok (.goto (-66), 3) := by decide +kernel
theorem dX12_likeliestSees_87 : decode cX12_likeliestSees 87 = .ok (.iload_n 2, 1) := by decide +kernel
theorem dX12_likeliestSees_88 : decode cX12_likeliestSees 88 = .ok (.ireturn, 1) := by decide +kernel
theorem dX12_seesFor_0 : decode cX12_seesFor 0 = .ok (.iload_n 1, 1) := by decide +kernel
theorem dX12_seesFor_1 : decode cX12_seesFor 1 = .ok (.invokestatic 342, 3) := by decide +kernel
theorem dX12_seesFor_4 : decode cX12_seesFor 4 = .ok (.ifCond .eq 11, 3) := by decide +kernel
theorem dX12_seesFor_7 : decode cX12_seesFor 7 = .ok (.aload_n 0, 1) := by decide +kernel
theorem dX12_seesFor_8 : decode cX12_seesFor 8 = .ok (.iload_n 1, 1) := by decide +kernel
theorem dX12_seesFor_9 : decode cX12_seesFor 9 = .ok (.invokevirtual 345, 3) := by decide +kernel
theorem dX12_seesFor_12 : decode cX12_seesFor 12 = .ok (.goto 4, 3) := by decide +kernel
theorem dX12_seesFor_15 : decode cX12_seesFor 15 = .ok (.iconst (-1), 1) := by decide +kernel
theorem dX12_seesFor_16 : decode cX12_seesFor 16 = .ok (.ireturn, 1) := by decide +kernel
theorem dX12_besides_0 : decode cX12_besides 0 = .ok (.iload_n 1, 1) := by decide +kernel
theorem dX12_besides_1 : decode cX12_besides 1 = .ok (.invokestatic 342, 3) := by decide +kernel
theorem dX12_besides_4 : decode cX12_besides 4 = .ok (.ifCond .eq 20, 3) := by decide +kernel
theorem dX12_besides_7 : decode cX12_besides 7 = .ok (.iload_n 2, 1) := by decide +kernel
theorem dX12_besides_8 : decode cX12_besides 8 = .ok (.iconst 0, 1) := by decide +kernel
theorem dX12_besides_9 : decode cX12_besides 9 = .ok (.bipush 99, 2) := by decide +kernel
theorem dX12_besides_11 : decode cX12_besides 11 = .ok (.invokestatic 124, 3) := by decide +kernel
theorem dX12_besides_14 : decode cX12_besides 14 = .ok (.ifCond .eq 10, 3) := by decide +kernel
theorem dX12_besides_17 : decode cX12_besides 17 = .ok (.iload_n 3, 1) := by decide +kernel
theorem dX12_besides_18 : decode cX12_besides 18 = .ok (.invokestatic 277, 3) := by decide +kernel
theorem dX12_besides_21 : decode cX12_besides 21 = .ok (.ifCond .ne 7, 3) := by decide +kernel
theorem dX12_besides_24 : decode cX12_besides 24 = .ok (.ldc2_w 283, 3) := by decide +kernel
theorem dX12_besides_27 : decode cX12_besides 27 = .ok (.lreturn, 1) := by decide +kernel
theorem dX12_besides_28 : decode cX12_besides 28 = .ok (.aload_n 0, 1) := by decide +kernel
theorem dX12_besides_29 : decode cX12_besides 29 = .ok (.iload_n 1, 1) := by decide +kernel
theorem dX12_besides_30 : decode cX12_besides 30 = .ok (.invokevirtual 345, 3) := by decide +kernel
theorem dX12_besides_33 : decode cX12_besides 33 = .ok (.istore 4, 2) := by decide +kernel
theorem dX12_besides_35 : decode cX12_besides 35 = .ok (.iload 4, 2) := by decide +kernel
theorem dX12_besides_37 : decode cX12_besides 37 = .ok (.ifCond .ne 9, 3) := by decide +kernel
theorem dX12_besides_40 : decode cX12_besides 40 = .ok (.ldc2_w 292, 3) := by decide +kernel
theorem dX12_besides_43 : decode cX12_besides 43 = .ok (.goto 15, 3) := by decide +kernel
theorem dX12_besides_46 : decode cX12_besides 46 = .ok (.iload_n 2, 1) := by decide +kernel
theorem dX12_besides_47 : decode cX12_besides 47 = .ok (.bipush 12, 2) := by decide +kernel
theorem dX12_besides_49 : decode cX12_besides 49 = .ok (.imul, 1) := by decide +kernel
theorem dX12_besides_50 : decode cX12_besides 50 = .ok (.i2l, 1) := by decide +kernel
theorem dX12_besides_51 : decode cX12_besides 51 = .ok (.iload 4, 2) := by decide +kernel
theorem dX12_besides_53 : decode cX12_besides 53 = .ok (.i2l, 1) := by decide +kernel
theorem dX12_besides_54 : decode cX12_besides 54 = .ok (.iload_n 3, 1) := by decide +kernel
theorem dX12_besides_55 : decode cX12_besides 55 = .ok (.invokestatic 294, 3) := by decide +kernel
theorem dX12_besides_58 : decode cX12_besides 58 = .ok (.lreturn, 1) := by decide +kernel
theorem dX12_noneOf_0 : decode cX12_noneOf 0 = .ok (.lconst 1, 1) := by decide +kernel
theorem dX12_noneOf_1 : decode cX12_noneOf 1 = .ok (.lstore 4, 2) := by decide +kernel
theorem dX12_noneOf_3 : decode cX12_noneOf 3 = .ok (.iconst 0, 1) := by decide +kernel
theorem dX12_noneOf_4 : decode cX12_noneOf 4 = .ok (.istore 6, 2) := by decide +kernel
theorem dX12_noneOf_6 : decode cX12_noneOf 6 = .ok (.iload 6, 2) := by decide +kernel
theorem dX12_noneOf_8 : decode cX12_noneOf 8 = .ok (.iconst 3, 1) := by decide +kernel
theorem dX12_noneOf_9 : decode cX12_noneOf 9 = .ok (.if_icmp .ge 59, 3) := by decide +kernel
theorem dX12_noneOf_12 : decode cX12_noneOf 12 = .ok (.lload 4, 2) := by decide +kernel
theorem dX12_noneOf_14 : decode cX12_noneOf 14 = .ok (.iload 6, 2) := by decide +kernel
theorem dX12_noneOf_16 : decode cX12_noneOf 16 = .ok (.iload_n 3, 1) := by decide +kernel
theorem dX12_noneOf_17 : decode cX12_noneOf 17 = .ok (.if_icmp .ge 26, 3) := by decide +kernel
theorem dX12_noneOf_20 : decode cX12_noneOf 20 = .ok (.iload_n 1, 1) := by decide +kernel
theorem dX12_noneOf_21 : decode cX12_noneOf 21 = .ok (.iload_n 2, 1) := by decide +kernel
theorem dX12_noneOf_22 : decode cX12_noneOf 22 = .ok (.isub, 1) := by decide +kernel
theorem dX12_noneOf_23 : decode cX12_noneOf 23 = .ok (.iload 6, 2) := by decide +kernel
theorem dX12_noneOf_25 : decode cX12_noneOf 25 = .ok (.isub, 1) := by decide +kernel
theorem dX12_noneOf_26 : decode cX12_noneOf 26 = .ok (.ifCond .le 12, 3) := by decide +kernel
theorem dX12_noneOf_29 : decode cX12_noneOf 29 = .ok (.iload_n 1, 1) := by decide +kernel
theorem dX12_noneOf_30 : decode cX12_noneOf 30 = .ok (.iload_n 2, 1) := by decide +kernel
theorem dX12_noneOf_31 : decode cX12_noneOf 31 = .ok (.isub, 1) := by decide +kernel
theorem dX12_noneOf_32 : decode cX12_noneOf 32 = .ok (.iload 6, 2) := by decide +kernel
theorem dX12_noneOf_34 : decode cX12_noneOf 34 = .ok (.isub, 1) := by decide +kernel
theorem dX12_noneOf_35 : decode cX12_noneOf 35 = .ok (.goto 4, 3) := by decide +kernel
theorem dX12_noneOf_38 : decode cX12_noneOf 38 = .ok (.iconst 0, 1) := by decide +kernel
theorem dX12_noneOf_39 : decode cX12_noneOf 39 = .ok (.i2l, 1) := by decide +kernel
theorem dX12_noneOf_40 : decode cX12_noneOf 40 = .ok (.goto 19, 3) := by decide +kernel
theorem dX12_noneOf_43 : decode cX12_noneOf 43 = .ok (.iload_n 1, 1) := by decide +kernel
theorem dX12_noneOf_44 : decode cX12_noneOf 44 = .ok (.iload 6, 2) := by decide +kernel
theorem dX12_noneOf_46 : decode cX12_noneOf 46 = .ok (.isub, 1) := by decide +kernel
theorem dX12_noneOf_47 : decode cX12_noneOf 47 = .ok (.ifCond .le 11, 3) := by decide +kernel
theorem dX12_noneOf_50 : decode cX12_noneOf 50 = .ok (.iload_n 1, 1) := by decide +kernel
theorem dX12_noneOf_51 : decode cX12_noneOf 51 = .ok (.iload 6, 2) := by decide +kernel
theorem dX12_noneOf_53 : decode cX12_noneOf 53 = .ok (.isub, 1) := by decide +kernel
theorem dX12_noneOf_54 : decode cX12_noneOf 54 = .ok (.i2l, 1) := by decide +kernel
theorem dX12_noneOf_55 : decode cX12_noneOf 55 = .ok (.goto 4, 3) := by decide +kernel
theorem dX12_noneOf_58 : decode cX12_noneOf 58 = .ok (.lconst 1, 1) := by decide +kernel
theorem dX12_noneOf_59 : decode cX12_noneOf 59 = .ok (.lmul, 1) := by decide +kernel
theorem dX12_noneOf_60 : decode cX12_noneOf 60 = .ok (.lstore 4, 2) := by decide +kernel
theorem dX12_noneOf_62 : decode cX12_noneOf 62 = .ok (.iinc 6 1, 3) := by decide +kernel
theorem dX12_noneOf_65 : decode cX12_noneOf 65 = .ok (.goto (-59), 3) := by decide +kernel
theorem dX12_noneOf_68 : decode cX12_noneOf 68 = .ok (.lload 4, 2) := by decide +kernel
theorem dX12_noneOf_70 : decode cX12_noneOf 70 = .ok (.lreturn, 1) := by decide +kernel
theorem dX12_allOf_0 : decode cX12_allOf 0 = .ok (.lconst 1, 1) := by decide +kernel
theorem dX12_allOf_1 : decode cX12_allOf 1 = .ok (.lstore_n 1, 1) := by decide +kernel
theorem dX12_allOf_2 : decode cX12_allOf 2 = .ok (.iconst 0, 1) := by decide +kernel
theorem dX12_allOf_3 : decode cX12_allOf 3 = .ok (.istore_n 3, 1) := by decide +kernel
theorem dX12_allOf_4 : decode cX12_allOf 4 = .ok (.iload_n 3, 1) := by decide +kernel
theorem dX12_allOf_5 : decode cX12_allOf 5 = .ok (.iconst 3, 1) := by decide +kernel
theorem dX12_allOf_6 : decode cX12_allOf 6 = .ok (.if_icmp .ge 26, 3) := by decide +kernel
theorem dX12_allOf_9 : decode cX12_allOf 9 = .ok (.lload_n 1, 1) := by decide +kernel
theorem dX12_allOf_10 : decode cX12_allOf 10 = .ok (.iload_n 0, 1) := by decide +kernel
theorem dX12_allOf_11 : decode cX12_allOf 11 = .ok (.iload_n 3, 1) := by decide +kernel
theorem dX12_allOf_12 : decode cX12_allOf 12 = .ok (.isub, 1) := by decide +kernel
theorem dX12_allOf_13 : decode cX12_allOf 13 = .ok (.ifCond .le 10, 3) := by decide +kernel
theorem dX12_allOf_16 : decode cX12_allOf 16 = .ok (.iload_n 0, 1) := by decide +kernel
theorem dX12_allOf_17 : decode cX12_allOf 17 = .ok (.iload_n 3, 1) := by decide +kernel
theorem dX12_allOf_18 : decode cX12_allOf 18 = .ok (.isub, 1) := by decide +kernel
theorem dX12_allOf_19 : decode cX12_allOf 19 = .ok (.i2l, 1) := by decide +kernel
theorem dX12_allOf_20 : decode cX12_allOf 20 = .ok (.goto 4, 3) := by decide +kernel
theorem dX12_allOf_23 : decode cX12_allOf 23 = .ok (.lconst 1, 1) := by decide +kernel
theorem dX12_allOf_24 : decode cX12_allOf 24 = .ok (.lmul, 1) := by decide +kernel
theorem dX12_allOf_25 : decode cX12_allOf 25 = .ok (.lstore_n 1, 1) := by decide +kernel
theorem dX12_allOf_26 : decode cX12_allOf 26 = .ok (.iinc 3 1, 3) := by decide +kernel
theorem dX12_allOf_29 : decode cX12_allOf 29 = .ok (.goto (-25), 3) := by decide +kernel
theorem dX12_allOf_32 : decode cX12_allOf 32 = .ok (.lload_n 1, 1) := by decide +kernel
theorem dX12_allOf_33 : decode cX12_allOf 33 = .ok (.lreturn, 1) := by decide +kernel
theorem dX12_handful_0 : decode cX12_handful 0 = .ok (.iload_n 1, 1) := by decide +kernel
theorem dX12_handful_1 : decode cX12_handful 1 = .ok (.invokestatic 155, 3) := by decide +kernel
theorem dX12_handful_4 : decode cX12_handful 4 = .ok (.ifCond .eq 48, 3) := by decide +kernel
theorem dX12_handful_7 : decode cX12_handful 7 = .ok (.iload_n 2, 1) := by decide +kernel
theorem dX12_handful_8 : decode cX12_handful 8 = .ok (.ifCond .lt 44, 3) := by decide +kernel
theorem dX12_handful_11 : decode cX12_handful 11 = .ok (.iload_n 2, 1) := by decide +kernel
theorem dX12_handful_12 : decode cX12_handful 12 = .ok (.bipush 100, 2) := by decide +kernel
theorem dX12_handful_14 : decode cX12_handful 14 = .ok (.idiv, 1) := by decide +kernel
theorem dX12_handful_15 : decode cX12_handful 15 = .ok (.iconst 1, 1) := by decide +kernel
theorem dX12_handful_16 : decode cX12_handful 16 = .ok (.bipush 60, 2) := by decide +kernel
theorem dX12_handful_18 : decode cX12_handful 18 = .ok (.invokestatic 124, 3) := by decide +kernel
theorem dX12_handful_21 : decode cX12_handful 21 = .ok (.ifCond .eq 31, 3) := by decide +kernel
theorem dX12_handful_24 : decode cX12_handful 24 = .ok (.iload_n 2, 1) := by decide +kernel
theorem dX12_handful_25 : decode cX12_handful 25 = .ok (.bipush 100, 2) := by decide +kernel
theorem dX12_handful_27 : decode cX12_handful 27 = .ok (.irem, 1) := by decide +kernel
theorem dX12_handful_28 : decode cX12_handful 28 = .ok (.iload_n 2, 1) := by decide +kernel
theorem dX12_handful_29 : decode cX12_handful 29 = .ok (.bipush 100, 2) := by decide +kernel
theorem dX12_handful_31 : decode cX12_handful 31 = .ok (.idiv, 1) := by decide +kernel
theorem dX12_handful_32 : decode cX12_handful 32 = .ok (.if_icmp .gt 20, 3) := by decide +kernel
theorem dX12_handful_35 : decode cX12_handful 35 = .ok (.iload_n 3, 1) := by decide +kernel
theorem dX12_handful_36 : decode cX12_handful 36 = .ok (.iconst 0, 1) := by decide +kernel
theorem dX12_handful_37 : decode cX12_handful 37 = .ok (.iconst 1, 1) := by decide +kernel
theorem dX12_handful_38 : decode cX12_handful 38 = .ok (.invokestatic 124, 3) := by decide +kernel
theorem dX12_handful_41 : decode cX12_handful 41 = .ok (.ifCond .eq 11, 3) := by decide +kernel
theorem dX12_handful_44 : decode cX12_handful 44 = .ok (.iload 4, 2) := by decide +kernel
theorem dX12_handful_46 : decode cX12_handful 46 = .ok (.invokestatic 277, 3) := by decide +kernel
theorem dX12_handful_49 : decode cX12_handful 49 = .ok (.ifCond .ne 7, 3) := by decide +kernel
theorem dX12_handful_52 : decode cX12_handful 52 = .ok (.ldc2_w 283, 3) := by decide +kernel
theorem dX12_handful_55 : decode cX12_handful 55 = .ok (.lreturn, 1) := by decide +kernel
theorem dX12_handful_56 : decode cX12_handful 56 = .ok (.iload_n 2, 1) := by decide +kernel
theorem dX12_handful_57 : decode cX12_handful 57 = .ok (.bipush 100, 2) := by decide +kernel
theorem dX12_handful_59 : decode cX12_handful 59 = .ok (.idiv, 1) := by decide +kernel
theorem dX12_handful_60 : decode cX12_handful 60 = .ok (.istore 5, 2) := by decide +kernel
theorem dX12_handful_62 : decode cX12_handful 62 = .ok (.iload_n 2, 1) := by decide +kernel
theorem dX12_handful_63 : decode cX12_handful 63 = .ok (.bipush 100, 2) := by decide +kernel
theorem dX12_handful_65 : decode cX12_handful 65 = .ok (.irem, 1) := by decide +kernel
theorem dX12_handful_66 : decode cX12_handful 66 = .ok (.istore 6, 2) := by decide +kernel
theorem dX12_handful_68 : decode cX12_handful 68 = .ok (.iconst 0, 1) := by decide +kernel
theorem dX12_handful_69 : decode cX12_handful 69 = .ok (.istore 7, 2) := by decide +kernel
theorem dX12_handful_71 : decode cX12_handful 71 = .ok (.lconst 0, 1) := by decide +kernel
theorem dX12_handful_72 : decode cX12_handful 72 = .ok (.lstore 8, 2) := by decide +kernel
theorem dX12_handful_74 : decode cX12_handful 74 = .ok (.iconst 0, 1) := by decide +kernel
theorem dX12_handful_75 : decode cX12_handful 75 = .ok (.istore 10, 2) := by decide +kernel
theorem dX12_handful_77 : decode cX12_handful 77 = .ok (.iload 10, 2) := by decide +kernel
theorem dX12_handful_79 : decode cX12_handful 79 = .ok (.iconst 3, 1) := by decide +kernel
theorem dX12_handful_80 : decode cX12_handful 80 = .ok (.if_icmp .gt 32, 3) := by decide +kernel
theorem dX12_handful_83 : decode cX12_handful 83 = .ok (.iload 10, 2) := by decide +kernel
theorem dX12_handful_85 : decode cX12_handful 85 = .ok (.iload 5, 2) := by decide +kernel
theorem dX12_handful_87 : decode cX12_handful 87 = .ok (.if_icmp .gt 25, 3) := by decide +kernel
theorem dX12_handful_90 : decode cX12_handful 90 = .ok (.iload 7, 2) := by decide +kernel
theorem dX12_handful_92 : decode cX12_handful 92 = .ok (.aload_n 0, 1) := by decide +kernel
theorem dX12_handful_93 : decode cX12_handful 93 = .ok (.getfield 9, 3) := by decide +kernel
theorem dX12_handful_96 : decode cX12_handful 96 = .ok (.iconst 4, 1) := by decide +kernel
theorem dX12_handful_97 : decode cX12_handful 97 = .ok (.iload_n 1, 1) := by decide +kernel
theorem dX12_handful_98 : decode cX12_handful 98 = .ok (.imul, 1) := by decide +kernel
theorem dX12_handful_99 : decode cX12_handful 99 = .ok (.iload 10, 2) := by decide +kernel
theorem dX12_handful_101 : decode cX12_handful 101 = .ok (.iadd, 1) := by decide +kernel
theorem dX12_handful_102 : decode cX12_handful 102 = .ok (.iaload, 1) := by decide +kernel
theorem dX12_handful_103 : decode cX12_handful 103 = .ok (.iadd, 1) := by decide +kernel
theorem dX12_handful_104 : decode cX12_handful 104 = .ok (.istore 7, 2) := by decide +kernel
theorem dX12_handful_106 : decode cX12_handful 106 = .ok (.iinc 10 1, 3) := by decide +kernel
theorem dX12_handful_109 : decode cX12_handful 109 = .ok (.goto (-32), 3) := by decide +kernel
theorem dX12_handful_112 : decode cX12_handful 112 = .ok (.iconst 0, 1) := by decide +kernel
theorem dX12_handful_113 : decode cX12_handful 113 = .ok (.istore 10, 2) := by decide +kernel
theorem dX12_handful_115 : decode cX12_handful 115 = .ok (.iload 10, 2) := by decide +kernel
theorem dX12_handful_117 : decode cX12_handful 117 = .ok (.iconst 3, 1) := by decide +kernel
theorem dX12_handful_118 : decode cX12_handful 118 = .ok (.if_icmp .gt 62, 3) := by decide +kernel
theorem dX12_handful_121 : decode cX12_handful 121 = .ok (.iload 10, 2) := by decide +kernel
theorem dX12_handful_123 : decode cX12_handful 123 = .ok (.iload 5, 2) := by decide +kernel
theorem dX12_handful_125 : decode cX12_handful 125 = .ok (.if_icmp .gt 55, 3) := by decide +kernel
theorem dX12_handful_128 : decode cX12_handful 128 = .ok (.lload 8, 2) := by decide +kernel
theorem dX12_handful_130 : decode cX12_handful 130 = .ok (.iload 7, 2) := by decide +kernel
theorem dX12_handful_132 : decode cX12_handful 132 = .ok (.ifCond .ne 16, 3) := by decide +kernel
theorem dX12_handful_135 : decode cX12_handful 135 = .ok (.iload 10, 2) := by decide +kernel
theorem dX12_handful_137 : decode cX12_handful 137 = .ok (.ifCond .ne 7, 3) := by decide +kernel
theorem dX12_handful_140 : decode cX12_handful 140 = .ok (.iconst 1, 1) := by decide +kernel
theorem dX12_handful_141 : decode cX12_handful 141 = .ok (.goto 18, 3) := by decide +kernel
theorem dX12_handful_144 : decode cX12_handful 144 = .ok (.iconst 0, 1) := by decide +kernel
theorem dX12_handful_145 : decode cX12_handful 145 = .ok (.goto 14, 3) := by decide +kernel
theorem dX12_handful_148 : decode cX12_handful 148 = .ok (.aload_n 0, 1) := by decide +kernel
theorem dX12_handful_149 : decode cX12_handful 149 = .ok (.getfield 9, 3) := by decide +kernel
theorem dX12_handful_152 : decode cX12_handful 152 = .ok (.iconst 4, 1) := by decide +kernel
theorem dX12_handful_153 : decode cX12_handful 153 = .ok (.iload_n 1, 1) := by decide +kernel
theorem dX12_handful_154 : decode cX12_handful 154 = .ok (.imul, 1) := by decide +kernel
theorem dX12_handful_155 : decode cX12_handful 155 = .ok (.iload 10, 2) := by decide +kernel
theorem dX12_handful_157 : decode cX12_handful 157 = .ok (.iadd, 1) := by decide +kernel
theorem dX12_handful_158 : decode cX12_handful 158 = .ok (.iaload, 1) := by decide +kernel
theorem dX12_handful_159 : decode cX12_handful 159 = .ok (.i2l, 1) := by decide +kernel
theorem dX12_handful_160 : decode cX12_handful 160 = .ok (.aload_n 0, 1) := by decide +kernel
theorem dX12_handful_161 : decode cX12_handful 161 = .ok (.iload 5, 2) := by decide +kernel
theorem dX12_handful_163 : decode cX12_handful 163 = .ok (.iload 6, 2) := by decide +kernel
theorem dX12_handful_165 : decode cX12_handful 165 = .ok (.iload 10, 2) := by decide +kernel
theorem dX12_handful_167 : decode cX12_handful 167 = .ok (.invokevirtual 348, 3) := by decide +kernel
theorem dX12_handful_170 : decode cX12_handful 170 = .ok (.lmul, 1) := by decide +kernel
theorem dX12_handful_171 : decode cX12_handful 171 = .ok (.ladd, 1) := by decide +kernel
theorem dX12_handful_172 : decode cX12_handful 172 = .ok (.lstore 8, 2) := by decide +kernel
theorem dX12_handful_174 : decode cX12_handful 174 = .ok (.iinc 10 1, 3) := by decide +kernel
theorem dX12_handful_177 : decode cX12_handful 177 = .ok (.goto (-62), 3) := by decide +kernel
theorem dX12_handful_180 : decode cX12_handful 180 = .ok (.iload_n 3, 1) := by decide +kernel
theorem dX12_handful_181 : decode cX12_handful 181 = .ok (.ifCond .ne 29, 3) := by decide +kernel
theorem dX12_handful_184 : decode cX12_handful 184 = .ok (.lload 8, 2) := by decide +kernel
theorem dX12_handful_186 : decode cX12_handful 186 = .ok (.iload 7, 2) := by decide +kernel
theorem dX12_handful_188 : decode cX12_handful 188 = .ok (.ifCond .ne 7, 3) := by decide +kernel
theorem dX12_handful_191 : decode cX12_handful 191 = .ok (.iconst 1, 1) := by decide +kernel
theorem dX12_handful_192 : decode cX12_handful 192 = .ok (.goto 5, 3) := by decide +kernel
theorem dX12_handful_195 : decode cX12_handful 195 = .ok (.iload 7, 2) := by decide +kernel
theorem dX12_handful_197 : decode cX12_handful 197 = .ok (.i2l, 1) := by decide +kernel
theorem dX12_handful_198 : decode cX12_handful 198 = .ok (.iload 5, 2) := by decide +kernel
theorem dX12_handful_200 : decode cX12_handful 200 = .ok (.invokestatic 352, 3) := by decide +kernel
theorem dX12_handful_203 : decode cX12_handful 203 = .ok (.lmul, 1) := by decide +kernel
theorem dX12_handful_204 : decode cX12_handful 204 = .ok (.iload 4, 2) := by decide +kernel
theorem dX12_handful_206 : decode cX12_handful 206 = .ok (.invokestatic 294, 3) := by decide +kernel
theorem dX12_handful_209 : decode cX12_handful 209 = .ok (.lreturn, 1) := by decide +kernel
theorem dX12_handful_210 : decode cX12_handful 210 = .ok (.lload 8, 2) := by decide +kernel
theorem dX12_handful_212 : decode cX12_handful 212 = .ok (.lconst 0, 1) := by decide +kernel
theorem dX12_handful_213 : decode cX12_handful 213 = .ok (.lcmp, 1) := by decide +kernel
theorem dX12_handful_214 : decode cX12_handful 214 = .ok (.ifCond .ne 7, 3) := by decide +kernel
theorem dX12_handful_217 : decode cX12_handful 217 = .ok (.ldc2_w 292, 3) := by decide +kernel
theorem dX12_handful_220 : decode cX12_handful 220 = .ok (.lreturn, 1) := by decide +kernel
theorem dX12_handful_221 : decode cX12_handful 221 = .ok (.iload 7, 2) := by decide +kernel
theorem dX12_handful_223 : decode cX12_handful 223 = .ok (.ifCond .ne 7, 3) := by decide +kernel
theorem dX12_handful_226 : decode cX12_handful 226 = .ok (.iconst 1, 1) := by decide +kernel
theorem dX12_handful_227 : decode cX12_handful 227 = .ok (.goto 11, 3) := by decide +kernel
theorem dX12_handful_230 : decode cX12_handful 230 = .ok (.aload_n 0, 1) := by decide +kernel
theorem dX12_handful_231 : decode cX12_handful 231 = .ok (.getfield 9, 3) := by decide +kernel
theorem dX12_handful_234 : decode cX12_handful 234 = .ok (.iconst 4, 1) := by decide +kernel
theorem dX12_handful_235 : decode cX12_handful 235 = .ok (.iload_n 1, 1) := by decide +kernel
theorem dX12_handful_236 : decode cX12_handful 236 = .ok (.imul, 1) := by decide +kernel
theorem dX12_handful_237 : decode cX12_handful 237 = .ok (.iaload, 1) := by decide +kernel
theorem dX12_handful_238 : decode cX12_handful 238 = .ok (.i2l, 1) := by decide +kernel
theorem dX12_handful_239 : decode cX12_handful 239 = .ok (.aload_n 0, 1) := by decide +kernel
theorem dX12_handful_240 : decode cX12_handful 240 = .ok (.iload 5, 2) := by decide +kernel
theorem dX12_handful_242 : decode cX12_handful 242 = .ok (.iload 6, 2) := by decide +kernel
theorem dX12_handful_244 : decode cX12_handful 244 = .ok (.iconst 0, 1) := by decide +kernel
theorem dX12_handful_245 : decode cX12_handful 245 = .ok (.invokevirtual 348, 3) := by decide +kernel
theorem dX12_handful_248 : decode cX12_handful 248 = .ok (.lmul, 1) := by decide +kernel
theorem dX12_handful_249 : decode cX12_handful 249 = .ok (.lload 8, 2) := by decide +kernel
theorem dX12_handful_251 : decode cX12_handful 251 = .ok (.iload 4, 2) := by decide +kernel
theorem dX12_handful_253 : decode cX12_handful 253 = .ok (.invokestatic 294, 3) := by decide +kernel
theorem dX12_handful_256 : decode cX12_handful 256 = .ok (.lreturn, 1) := by decide +kernel
theorem dX12_heaps_0 : decode cX12_heaps 0 = .ok (.iload_n 1, 1) := by decide +kernel
theorem dX12_heaps_1 : decode cX12_heaps 1 = .ok (.iconst 1, 1) := by decide +kernel
theorem dX12_heaps_2 : decode cX12_heaps 2 = .ok (.bipush 40, 2) := by decide +kernel
theorem dX12_heaps_4 : decode cX12_heaps 4 = .ok (.invokestatic 124, 3) := by decide +kernel
theorem dX12_heaps_7 : decode cX12_heaps 7 = .ok (.ifCond .eq 33, 3) := by decide +kernel
theorem dX12_heaps_10 : decode cX12_heaps 10 = .ok (.iload_n 2, 1) := by decide +kernel
theorem dX12_heaps_11 : decode cX12_heaps 11 = .ok (.iconst 0, 1) := by decide +kernel
theorem dX12_heaps_12 : decode cX12_heaps 12 = .ok (.sipush 999, 3) := by decide +kernel
theorem dX12_heaps_15 : decode cX12_heaps 15 = .ok (.invokestatic 124, 3) := by decide +kernel
theorem dX12_heaps_18 : decode cX12_heaps 18 = .ok (.ifCond .eq 22, 3) := by decide +kernel
theorem dX12_heaps_21 : decode cX12_heaps 21 = .ok (.iload_n 3, 1) := by decide +kernel
theorem dX12_heaps_22 : decode cX12_heaps 22 = .ok (.iconst 0, 1) := by decide +kernel
theorem dX12_heaps_23 : decode cX12_heaps 23 = .ok (.iconst 1, 1) := by decide +kernel
theorem dX12_heaps_24 : decode cX12_heaps 24 = .ok (.invokestatic 124, 3) := by decide +kernel
theorem dX12_heaps_27 : decode cX12_heaps 27 = .ok (.ifCond .ne 15, 3) := by decide +kernel
theorem dX12_heaps_30 : decode cX12_heaps 30 = .ok (.aload_n 0, 1) := by decide +kernel
theorem dX12_heaps_31 : decode cX12_heaps 31 = .ok (.iload_n 3, 1) := by decide +kernel
theorem dX12_heaps_32 : decode cX12_heaps 32 = .ok (.iconst 2, 1) := by decide +kernel
theorem dX12_heaps_33 : decode cX12_heaps 33 = .ok (.isub, 1) := by decide +kernel
theorem dX12_heaps_34 : decode cX12_heaps 34 = .ok (.invokevirtual 158, 3) := by decide +kernel
theorem dX12_heaps_37 : decode cX12_heaps 37 = .ok (.ifCond .ne 5, 3) := by decide +kernel
theorem dX12_heaps_40 : decode cX12_heaps 40 = .ok (.iconst (-1), 1) := by decide +kernel
theorem dX12_heaps_41 : decode cX12_heaps 41 = .ok (.ireturn, 1) := by decide +kernel
theorem dX12_heaps_42 : decode cX12_heaps 42 = .ok (.aload_n 0, 1) := by decide +kernel
theorem dX12_heaps_43 : decode cX12_heaps 43 = .ok (.getfield 128, 3) := by decide +kernel
theorem dX12_heaps_46 : decode cX12_heaps 46 = .ok (.iconst 3, 1) := by decide +kernel
theorem dX12_heaps_47 : decode cX12_heaps 47 = .ok (.if_icmp .le 6, 3) := by decide +kernel
theorem dX12_heaps_50 : decode cX12_heaps 50 = .ok (.bipush (-5), 2) := by decide +kernel
theorem dX12_heaps_52 : decode cX12_heaps 52 = .ok (.ireturn, 1) := by decide +kernel
theorem dX12_heaps_53 : decode cX12_heaps 53 = .ok (.iconst 0, 1) := by decide +kernel
theorem dX12_heaps_54 : decode cX12_heaps 54 = .ok (.istore 4, 2) := by decide +kernel
theorem dX12_heaps_56 : decode cX12_heaps 56 = .ok (.iload 4, 2) := by decide +kernel
theorem dX12_heaps_58 : decode cX12_heaps 58 = .ok (.aload_n 0, 1) := by decide +kernel
theorem dX12_heaps_59 : decode cX12_heaps 59 = .ok (.getfield 128, 3) := by decide +kernel
theorem dX12_heaps_62 : decode cX12_heaps 62 = .ok (.if_icmp .ge 57, 3) := by decide +kernel
theorem dX12_heaps_65 : decode cX12_heaps 65 = .ok (.iconst 0, 1) := by decide +kernel
theorem dX12_heaps_66 : decode cX12_heaps 66 = .ok (.istore 5, 2) := by decide +kernel
theorem dX12_heaps_68 : decode cX12_heaps 68 = .ok (.iload 5, 2) := by decide +kernel
theorem dX12_heaps_70 : decode cX12_heaps 70 = .ok (.bipush 40, 2) := by decide +kernel
theorem dX12_heaps_72 : decode cX12_heaps 72 = .ok (.if_icmp .gt 41, 3) := by decide +kernel
theorem dX12_heaps_75 : decode cX12_heaps 75 = .ok (.aload_n 0, 1) := by decide +kernel
theorem dX12_heaps_76 : decode cX12_heaps 76 = .ok (.getfield 82, 3) := by decide +kernel
theorem dX12_heaps_79 : decode cX12_heaps 79 = .ok (.bipush 41, 2) := by decide +kernel
theorem dX12_heaps_81 : decode cX12_heaps 81 = .ok (.iload 4, 2) := by decide +kernel
theorem dX12_heaps_83 : decode cX12_heaps 83 = .ok (.imul, 1) := by decide +kernel
theorem dX12_heaps_84 : decode cX12_heaps 84 = .ok (.iload 5, 2) := by decide +kernel
theorem dX12_heaps_86 : decode cX12_heaps 86 = .ok (.iadd, 1) := by decide +kernel
theorem dX12_heaps_87 : decode cX12_heaps 87 = .ok (.iload 5, 2) := by decide +kernel
theorem dX12_heaps_89 : decode cX12_heaps 89 = .ok (.aload_n 0, 1) := by decide +kernel
theorem dX12_heaps_90 : decode cX12_heaps 90 = .ok (.iload 4, 2) := by decide +kernel
theorem dX12_heaps_92 : decode cX12_heaps 92 = .ok (.iconst 0, 1) := by decide +kernel
theorem dX12_heaps_93 : decode cX12_heaps 93 = .ok (.aload_n 0, 1) := by decide +kernel
theorem dX12_heaps_94 : decode cX12_heaps 94 = .ok (.getfield 28, 3) := by decide +kernel
theorem dX12_heaps_97 : decode cX12_heaps 97 = .ok (.iload 5, 2) := by decide +kernel
theorem dX12_heaps_99 : decode cX12_heaps 99 = .ok (.iconst 5, 1) := by decide +kernel
theorem dX12_heaps_100 : decode cX12_heaps 100 = .ok (.idiv, 1) := by decide +kernel
theorem dX12_heaps_101 : decode cX12_heaps 101 = .ok (.iadd, 1) := by decide +kernel
theorem dX12_heaps_102 : decode cX12_heaps 102 = .ok (.invokevirtual 246, 3) := by decide +kernel
theorem dX12_heaps_105 : decode cX12_heaps 105 = .ok (.imul, 1) := by decide +kernel
theorem dX12_heaps_106 : decode cX12_heaps 106 = .ok (.iastore, 1) := by decide +kernel
theorem dX12_heaps_107 : decode cX12_heaps 107 = .ok (.iinc 5 1, 3) := by decide +kernel
theorem dX12_heaps_110 : decode cX12_heaps 110 = .ok (.goto (-42), 3) := by decide +kernel
theorem dX12_heaps_113 : decode cX12_heaps 113 = .ok (.iinc 4 1, 3) := by decide +kernel
theorem dX12_heaps_116 : decode cX12_heaps 116 = .ok (.goto (-60), 3) := by decide +kernel
theorem dX12_heaps_119 : decode cX12_heaps 119 = .ok (.iconst (-1), 1) := by decide +kernel
theorem dX12_heaps_120 : decode cX12_heaps 120 = .ok (.istore 4, 2) := by decide +kernel
theorem dX12_heaps_122 : decode cX12_heaps 122 = .ok (.iconst 0, 1) := by decide +kernel
theorem dX12_heaps_123 : decode cX12_heaps 123 = .ok (.istore 5, 2) := by decide +kernel
theorem dX12_heaps_125 : decode cX12_heaps 125 = .ok (.iconst 0, 1) := by decide +kernel
theorem dX12_heaps_126 : decode cX12_heaps 126 = .ok (.istore 6, 2) := by decide +kernel
theorem dX12_heaps_128 : decode cX12_heaps 128 = .ok (.iconst 0, 1) := by decide +kernel
theorem dX12_heaps_129 : decode cX12_heaps 129 = .ok (.istore 7, 2) := by decide +kernel
theorem dX12_heaps_131 : decode cX12_heaps 131 = .ok (.iconst 0, 1) := by decide +kernel
theorem dX12_heaps_132 : decode cX12_heaps 132 = .ok (.istore 8, 2) := by decide +kernel
theorem dX12_heaps_134 : decode cX12_heaps 134 = .ok (.iconst 0, 1) := by decide +kernel
theorem dX12_heaps_135 : decode cX12_heaps 135 = .ok (.istore 9, 2) := by decide +kernel
theorem dX12_heaps_137 : decode cX12_heaps 137 = .ok (.iload 9, 2) := by decide +kernel
theorem dX12_heaps_139 : decode cX12_heaps 139 = .ok (.aload_n 0, 1) := by decide +kernel
theorem dX12_heaps_140 : decode cX12_heaps 140 = .ok (.getfield 128, 3) := by decide +kernel
theorem dX12_heaps_143 : decode cX12_heaps 143 = .ok (.ifCond .le 7, 3) := by decide +kernel
theorem dX12_heaps_146 : decode cX12_heaps 146 = .ok (.iload_n 1, 1) := by decide +kernel
theorem dX12_heaps_147 : decode cX12_heaps 147 = .ok (.goto 4, 3) := by decide +kernel
theorem dX12_heaps_150 : decode cX12_heaps 150 = .ok (.iconst 0, 1) := by decide +kernel
theorem dX12_heaps_151 : decode cX12_heaps 151 = .ok (.if_icmp .gt 225, 3) := by decide +kernel
theorem dX12_heaps_154 : decode cX12_heaps 154 = .ok (.iconst 0, 1) := by decide +kernel
theorem dX12_heaps_155 : decode cX12_heaps 155 = .ok (.istore 10, 2) := by decide +kernel
theorem dX12_heaps_157 : decode cX12_heaps 157 = .ok (.iload 10, 2) := by decide +kernel
theorem dX12_heaps_159 : decode cX12_heaps 159 = .ok (.aload_n 0, 1) := by decide +kernel
theorem dX12_heaps_160 : decode cX12_heaps 160 = .ok (.getfield 128, 3) := by decide +kernel
theorem dX12_heaps_163 : decode cX12_heaps 163 = .ok (.iconst 1, 1) := by decide +kernel
theorem dX12_heaps_164 : decode cX12_heaps 164 = .ok (.if_icmp .le 10, 3) := by decide +kernel
theorem dX12_heaps_167 : decode cX12_heaps 167 = .ok (.iload_n 1, 1) := by decide +kernel
theorem dX12_heaps_168 : decode cX12_heaps 168 = .ok (.iload 9, 2) := by decide +kernel
theorem dX12_heaps_170 : decode cX12_heaps 170 = .ok (.isub, 1) := by decide +kernel
theorem dX12_heaps_171 : decode cX12_heaps 171 = .ok (.goto 4, 3) := by decide +kernel
theorem dX12_heaps_174 : decode cX12_heaps 174 = .ok (.iconst 0, 1) := by decide +kernel
theorem dX12_heaps_175 : decode cX12_heaps 175 = .ok (.if_icmp .gt 195, 3) := by decide +kernel
theorem dX12_heaps_178 : decode cX12_heaps 178 = .ok (.iconst 0, 1) := by decide +kernel
theorem dX12_heaps_179 : decode cX12_heaps 179 = .ok (.istore 11, 2) := by decide +kernel
theorem dX12_heaps_181 : decode cX12_heaps 181 = .ok (.iload 11, 2) := by decide +kernel
theorem dX12_heaps_183 : decode cX12_heaps 183 = .ok (.aload_n 0, 1) := by decide +kernel
theorem dX12_heaps_184 : decode cX12_heaps 184 = .ok (.getfield 128, 3) := by decide +kernel
theorem dX12_heaps_187 : decode cX12_heaps 187 = .ok (.iconst 2, 1) := by decide +kernel
theorem dX12_heaps_188 : decode cX12_heaps 188 = .ok (.if_icmp .le 13, 3) := by decide +kernel
theorem dX12_heaps_191 : decode cX12_heaps 191 = .ok (.iload_n 1, 1) := by decide +kernel
theorem dX12_heaps_192 : decode cX12_heaps 192 = .ok (.iload 9, 2) := by decide +kernel
theorem dX12_heaps_194 : decode cX12_heaps 194 = .ok (.isub, 1) := by decide +kernel
theorem dX12_heaps_195 : decode cX12_heaps 195 = .ok (.iload 10, 2) := by decide +kernel
theorem dX12_heaps_197 : decode cX12_heaps 197 = .ok (.isub, 1) := by decide +kernel
theorem dX12_heaps_198 : decode cX12_heaps 198 = .ok (.goto 4, 3) := by decide +kernel
theorem dX12_heaps_201 : decode cX12_heaps 201 = .ok (.iconst 0, 1) := by decide +kernel
theorem dX12_heaps_202 : decode cX12_heaps 202 = .ok (.if_icmp .gt 162, 3) := by decide +kernel
theorem dX12_heaps_205 : decode cX12_heaps 205 = .ok (.aload_n 0, 1) := by decide +kernel
theorem dX12_heaps_206 : decode cX12_heaps 206 = .ok (.getfield 21, 3) := by decide +kernel
theorem dX12_heaps_209 : decode cX12_heaps 209 = .ok (.iconst 0, 1) := by decide +kernel
theorem dX12_heaps_210 : decode cX12_heaps 210 = .ok (.iaload, 1) := by decide +kernel
theorem dX12_heaps_211 : decode cX12_heaps 211 = .ok (.iload 9, 2) := by decide +kernel
theorem dX12_heaps_213 : decode cX12_heaps 213 = .ok (.imul, 1) := by decide +kernel
theorem dX12_heaps_214 : decode cX12_heaps 214 = .ok (.aload_n 0, 1) := by decide +kernel
theorem dX12_heaps_215 : decode cX12_heaps 215 = .ok (.getfield 21, 3) := by decide +kernel
theorem dX12_heaps_218 : decode cX12_heaps 218 = .ok (.iconst 1, 1) := by decide +kernel
theorem dX12_heaps_219 : decode cX12_heaps 219 = .ok (.iaload, 1) := by decide +kernel
theorem dX12_heaps_220 : decode cX12_heaps 220 = .ok (.iload 10, 2) := by decide +kernel
theorem dX12_heaps_222 : decode cX12_heaps 222 = .ok (.imul, 1) := by decide +kernel
theorem dX12_heaps_223 : decode cX12_heaps 223 = .ok (.iadd, 1) := by decide +kernel
theorem dX12_heaps_224 : decode cX12_heaps 224 = .ok (.aload_n 0, 1) := by decide +kernel
theorem dX12_heaps_225 : decode cX12_heaps 225 = .ok (.getfield 21, 3) := by decide +kernel
theorem dX12_heaps_228 : decode cX12_heaps 228 = .ok (.iconst 2, 1) := by decide +kernel
theorem dX12_heaps_229 : decode cX12_heaps 229 = .ok (.iaload, 1) := by decide +kernel
theorem dX12_heaps_230 : decode cX12_heaps 230 = .ok (.iload 11, 2) := by decide +kernel
theorem dX12_heaps_232 : decode cX12_heaps 232 = .ok (.imul, 1) := by decide +kernel
theorem dX12_heaps_233 : decode cX12_heaps 233 = .ok (.iadd, 1) := by decide +kernel
theorem dX12_heaps_234 : decode cX12_heaps 234 = .ok (.istore 12, 2) := by decide +kernel
theorem dX12_heaps_236 : decode cX12_heaps 236 = .ok (.aload_n 0, 1) := by decide +kernel
theorem dX12_heaps_237 : decode cX12_heaps 237 = .ok (.getfield 82, 3) := by decide +kernel
theorem dX12_heaps_240 : decode cX12_heaps 240 = .ok (.iload 9, 2) := by decide +kernel
theorem dX12_heaps_242 : decode cX12_heaps 242 = .ok (.iaload, 1) := by decide +kernel
theorem dX12_heaps_243 : decode cX12_heaps 243 = .ok (.aload_n 0, 1) := by decide +kernel
theorem dX12_heaps_244 : decode cX12_heaps 244 = .ok (.getfield 128, 3) := by decide +kernel
theorem dX12_heaps_247 : decode cX12_heaps 247 = .ok (.ifCond .le 7, 3) := by decide +kernel
theorem dX12_heaps_250 : decode cX12_heaps 250 = .ok (.iconst 1, 1) := by decide +kernel
theorem dX12_heaps_251 : decode cX12_heaps 251 = .ok (.goto 4, 3) := by decide +kernel
theorem dX12_heaps_254 : decode cX12_heaps 254 = .ok (.iconst 0, 1) := by decide +kernel
theorem dX12_heaps_255 : decode cX12_heaps 255 = .ok (.imul, 1) := by decide +kernel
theorem dX12_heaps_256 : decode cX12_heaps 256 = .ok (.aload_n 0, 1) := by decide +kernel
theorem dX12_heaps_257 : decode cX12_heaps 257 = .ok (.getfield 82, 3) := by decide +kernel
theorem dX12_heaps_260 : decode cX12_heaps 260 = .ok (.bipush 41, 2) := by decide +kernel
theorem dX12_heaps_262 : decode cX12_heaps 262 = .ok (.iload 10, 2) := by decide +kernel
theorem dX12_heaps_264 : decode cX12_heaps 264 = .ok (.iadd, 1) := by decide +kernel
theorem dX12_heaps_265 : decode cX12_heaps 265 = .ok (.iaload, 1) := by decide +kernel
theorem dX12_heaps_266 : decode cX12_heaps 266 = .ok (.aload_n 0, 1) := by decide +kernel
theorem dX12_heaps_267 : decode cX12_heaps 267 = .ok (.getfield 128, 3) := by decide +kernel
theorem dX12_heaps_270 : decode cX12_heaps 270 = .ok (.iconst 1, 1) := by decide +kernel
theorem dX12_heaps_271 : decode cX12_heaps 271 = .ok (.if_icmp .le 7, 3) := by decide +kernel
theorem dX12_heaps_274 : decode cX12_heaps 274 = .ok (.iconst 1, 1) := by decide +kernel
theorem dX12_heaps_275 : decode cX12_heaps 275 = .ok (.goto 4, 3) := by decide +kernel
theorem dX12_heaps_278 : decode cX12_heaps 278 = .ok (.iconst 0, 1) := by decide +kernel
theorem dX12_heaps_279 : decode cX12_heaps 279 = .ok (.imul, 1) := by decide +kernel
theorem dX12_heaps_280 : decode cX12_heaps 280 = .ok (.iadd, 1) := by decide +kernel
theorem dX12_heaps_281 : decode cX12_heaps 281 = .ok (.aload_n 0, 1) := by decide +kernel
theorem dX12_heaps_282 : decode cX12_heaps 282 = .ok (.getfield 82, 3) := by decide +kernel
theorem dX12_heaps_285 : decode cX12_heaps 285 = .ok (.bipush 82, 2) := by decide +kernel
theorem dX12_heaps_287 : decode cX12_heaps 287 = .ok (.iload 11, 2) := by decide +kernel
theorem dX12_heaps_289 : decode cX12_heaps 289 = .ok (.iadd, 1) := by decide +kernel
theorem dX12_heaps_290 : decode cX12_heaps 290 = .ok (.iaload, 1) := by decide +kernel
theorem dX12_heaps_291 : decode cX12_heaps 291 = .ok (.aload_n 0, 1) := by decide +kernel
theorem dX12_heaps_292 : decode cX12_heaps 292 = .ok (.getfield 128, 3) := by decide +kernel
theorem dX12_heaps_295 : decode cX12_heaps 295 = .ok (.iconst 2, 1) := by decide +kernel
theorem dX12_heaps_296 : decode cX12_heaps 296 = .ok (.if_icmp .le 7, 3) := by decide +kernel
theorem dX12_heaps_299 : decode cX12_heaps 299 = .ok (.iconst 1, 1) := by decide +kernel
theorem dX12_heaps_300 : decode cX12_heaps 300 = .ok (.goto 4, 3) := by decide +kernel
theorem dX12_heaps_303 : decode cX12_heaps 303 = .ok (.iconst 0, 1) := by decide +kernel
theorem dX12_heaps_304 : decode cX12_heaps 304 = .ok (.imul, 1) := by decide +kernel
theorem dX12_heaps_305 : decode cX12_heaps 305 = .ok (.iadd, 1) := by decide +kernel
theorem dX12_heaps_306 : decode cX12_heaps 306 = .ok (.istore 13, 2) := by decide +kernel
theorem dX12_heaps_308 : decode cX12_heaps 308 = .ok (.iload 12, 2) := by decide +kernel
theorem dX12_heaps_310 : decode cX12_heaps 310 = .ok (.iload_n 2, 1) := by decide +kernel
theorem dX12_heaps_311 : decode cX12_heaps 311 = .ok (.if_icmp .gt 47, 3) := by decide +kernel
theorem dX12_heaps_314 : decode cX12_heaps 314 = .ok (.iload 13, 2) := by decide +kernel
theorem dX12_heaps_316 : decode cX12_heaps 316 = .ok (.iload 4, 2) := by decide +kernel
theorem dX12_heaps_318 : decode cX12_heaps 318 = .ok (.if_icmp .lt 40, 3) := by decide +kernel
theorem dX12_heaps_321 : decode cX12_heaps 321 = .ok (.iload 13, 2) := by decide +kernel
theorem dX12_heaps_323 : decode cX12_heaps 323 = .ok (.iload 4, 2) := by decide +kernel
theorem dX12_heaps_325 : decode cX12_heaps 325 = .ok (.if_icmp .ne 13, 3) := by decide +kernel
theorem dX12_heaps_328 : decode cX12_heaps 328 = .ok (.iload 12, 2) := by decide +kernel
theorem dX12_heaps_330 : decode cX12_heaps 330 = .ok (.iload 5, 2) := by decide +kernel
theorem dX12_heaps_332 : decode cX12_heaps 332 = .ok (.if_icmp .lt 6, 3) := by decide +kernel
theorem dX12_heaps_335 : decode cX12_heaps 335 = .ok (.goto 23, 3) := by decide +kernel
theorem dX12_heaps_338 : decode cX12_heaps 338 = .ok (.iload 13, 2) := by decide +kernel
theorem dX12_heaps_340 : decode cX12_heaps 340 = .ok (.istore 4, 2) := by decide +kernel
theorem dX12_heaps_342 : decode cX12_heaps 342 = .ok (.iload 12, 2) := by decide +kernel
theorem dX12_heaps_344 : decode cX12_heaps 344 = .ok (.istore 5, 2) := by decide +kernel
theorem dX12_heaps_346 : decode cX12_heaps 346 = .ok (.iload 9, 2) := by decide +kernel
theorem dX12_heaps_348 : decode cX12_heaps 348 = .ok (.istore 6, 2) := by decide +kernel
theorem dX12_heaps_350 : decode cX12_heaps 350 = .ok (.iload 10, 2) := by decide +kernel
theorem dX12_heaps_352 : decode cX12_heaps 352 = .ok (.istore 7, 2) := by decide +kernel
theorem dX12_heaps_354 : decode cX12_heaps 354 = .ok (.iload 11, 2) := by decide +kernel
theorem dX12_heaps_356 : decode cX12_heaps 356 = .ok (.istore 8, 2) := by decide +kernel
theorem dX12_heaps_358 : decode cX12_heaps 358 = .ok (.iinc 11 1, 3) := by decide +kernel
theorem dX12_heaps_361 : decode cX12_heaps 361 = .ok (.goto (-180), 3) := by decide +kernel
theorem dX12_heaps_364 : decode cX12_heaps 364 = .ok (.iinc 10 1, 3) := by decide +kernel
theorem dX12_heaps_367 : decode cX12_heaps 367 = .ok (.goto (-210), 3) := by decide +kernel
theorem dX12_heaps_370 : decode cX12_heaps 370 = .ok (.iinc 9 1, 3) := by decide +kernel
theorem dX12_heaps_373 : decode cX12_heaps 373 = .ok (.goto (-236), 3) := by decide +kernel
theorem dX12_heaps_376 : decode cX12_heaps 376 = .ok (.iload_n 3, 1) := by decide +kernel
theorem dX12_heaps_377 : decode cX12_heaps 377 = .ok (.tableswitch 43 0 3 #[31, 34, 37, 40], 31) := by decide +kernel
theorem dX12_heaps_408 : decode cX12_heaps 408 = .ok (.iload 4, 2) := by decide +kernel
theorem dX12_heaps_410 : decode cX12_heaps 410 = .ok (.ireturn, 1) := by decide +kernel
theorem dX12_heaps_411 : decode cX12_heaps 411 = .ok (.iload 5, 2) := by decide +kernel
theorem dX12_heaps_413 : decode cX12_heaps 413 = .ok (.ireturn, 1) := by decide +kernel
theorem dX12_heaps_414 : decode cX12_heaps 414 = .ok (.iload 6, 2) := by decide +kernel
theorem dX12_heaps_416 : decode cX12_heaps 416 = .ok (.ireturn, 1) := by decide +kernel
theorem dX12_heaps_417 : decode cX12_heaps 417 = .ok (.iload 7, 2) := by decide +kernel
theorem dX12_heaps_419 : decode cX12_heaps 419 = .ok (.ireturn, 1) := by decide +kernel
theorem dX12_heaps_420 : decode cX12_heaps 420 = .ok (.iload 8, 2) := by decide +kernel
theorem dX12_heaps_422 : decode cX12_heaps 422 = .ok (.ireturn, 1) := by decide +kernel
theorem dX12_goRows_0 : decode cX12_goRows 0 = .ok (.iload_n 1, 1) := by decide +kernel
theorem dX12_goRows_1 : decode cX12_goRows 1 = .ok (.aload_n 0, 1) := by decide +kernel
theorem dX12_goRows_2 : decode cX12_goRows 2 = .ok (.getfield 355, 3) := by decide +kernel
theorem dX12_goRows_5 : decode cX12_goRows 5 = .ok (.if_icmp .ne 98, 3) := by decide +kernel
theorem dX12_goRows_8 : decode cX12_goRows 8 = .ok (.aload_n 0, 1) := by decide +kernel
theorem dX12_goRows_9 : decode cX12_goRows 9 = .ok (.dup, 1) := by decide +kernel
theorem dX12_goRows_10 : decode cX12_goRows 10 = .ok (.getfield 358, 3) := by decide +kernel
theorem dX12_goRows_13 : decode cX12_goRows 13 = .ok (.iconst 1, 1) := by decide +kernel
theorem dX12_goRows_14 : decode cX12_goRows 14 = .ok (.iadd, 1) := by decide +kernel
theorem dX12_goRows_15 : decode cX12_goRows 15 = .ok (.putfield 358, 3) := by decide +kernel
theorem dX12_goRows_18 : decode cX12_goRows 18 = .ok (.iconst 0, 1) := by decide +kernel
theorem dX12_goRows_19 : decode cX12_goRows 19 = .ok (.istore_n 2, 1) := by decide +kernel
theorem dX12_goRows_20 : decode cX12_goRows 20 = .ok (.iload_n 2, 1) := by decide +kernel
theorem dX12_goRows_21 : decode cX12_goRows 21 = .ok (.aload_n 0, 1) := by decide +kernel
theorem dX12_goRows_22 : decode cX12_goRows 22 = .ok (.getfield 355, 3) := by decide +kernel
theorem dX12_goRows_25 : decode cX12_goRows 25 = .ok (.if_icmp .ge 26, 3) := by decide +kernel
theorem dX12_goRows_28 : decode cX12_goRows 28 = .ok (.aload_n 0, 1) := by decide +kernel
theorem dX12_goRows_29 : decode cX12_goRows 29 = .ok (.getfield 94, 3) := by decide +kernel
theorem dX12_goRows_32 : decode cX12_goRows 32 = .ok (.iload_n 2, 1) := by decide +kernel
theorem dX12_goRows_33 : decode cX12_goRows 33 = .ok (.dup2, 1) := by decide +kernel
theorem dX12_goRows_34 : decode cX12_goRows 34 = .ok (.iaload, 1) := by decide +kernel
theorem dX12_goRows_35 : decode cX12_goRows 35 = .ok (.iconst 1, 1) := by decide +kernel
theorem dX12_goRows_36 : decode cX12_goRows 36 = .ok (.aload_n 0, 1) := by decide +kernel
theorem dX12_goRows_37 : decode cX12_goRows 37 = .ok (.getfield 88, 3) := by decide +kernel
theorem dX12_goRows_40 : decode cX12_goRows 40 = .ok (.iload_n 2, 1) := by decide +kernel
theorem dX12_goRows_41 : decode cX12_goRows 41 = .ok (.iaload, 1) := by decide +kernel
theorem dX12_goRows_42 : decode cX12_goRows 42 = .ok (.ishl, 1) := by decide +kernel
theorem dX12_goRows_43 : decode cX12_goRows 43 = .ok (.iand, 1) := by decide +kernel
theorem dX12_goRows_44 : decode cX12_goRows 44 = .ok (.iastore, 1) := by decide +kernel
theorem dX12_goRows_45 : decode cX12_goRows 45 = .ok (.iinc 2 1, 3) := by decide +kernel
theorem dX12_goRows_48 : decode cX12_goRows 48 = .ok (.goto (-28), 3) := by decide +kernel
theorem dX12_goRows_51 : decode cX12_goRows 51 = .ok (.aload_n 0, 1) := by decide +kernel
theorem dX12_goRows_52 : decode cX12_goRows 52 = .ok (.iload_n 1, 1) := by decide +kernel
theorem dX12_goRows_53 : decode cX12_goRows 53 = .ok (.invokevirtual 288, 3) := by decide +kernel
theorem dX12_goRows_56 : decode cX12_goRows 56 = .ok (.aload_n 0, 1) := by decide +kernel
theorem dX12_goRows_57 : decode cX12_goRows 57 = .ok (.getfield 361, 3) := by decide +kernel
theorem dX12_goRows_60 : decode cX12_goRows 60 = .ok (.lcmp, 1) := by decide +kernel
theorem dX12_goRows_61 : decode cX12_goRows 61 = .ok (.ifCond .gt 4, 3) := by decide +kernel
theorem dX12_goRows_64 : decode cX12_goRows 64 = .ok (.return_, 1) := by decide +kernel
theorem dX12_goRows_65 : decode cX12_goRows 65 = .ok (.aload_n 0, 1) := by decide +kernel
theorem dX12_goRows_66 : decode cX12_goRows 66 = .ok (.aload_n 0, 1) := by decide +kernel
theorem dX12_goRows_67 : decode cX12_goRows 67 = .ok (.iload_n 1, 1) := by decide +kernel
theorem dX12_goRows_68 : decode cX12_goRows 68 = .ok (.invokevirtual 288, 3) := by decide +kernel
theorem dX12_goRows_71 : decode cX12_goRows 71 = .ok (.putfield 361, 3) := by decide +kernel
theorem dX12_goRows_74 : decode cX12_goRows 74 = .ok (.iconst 0, 1) := by decide +kernel
theorem dX12_goRows_75 : decode cX12_goRows 75 = .ok (.istore_n 2, 1) := by decide +kernel
theorem dX12_goRows_76 : decode cX12_goRows 76 = .ok (.iload_n 2, 1) := by decide +kernel
theorem dX12_goRows_77 : decode cX12_goRows 77 = .ok (.aload_n 0, 1) := by decide +kernel
theorem dX12_goRows_78 : decode cX12_goRows 78 = .ok (.getfield 355, 3) := by decide +kernel
theorem dX12_goRows_81 : decode cX12_goRows 81 = .ok (.if_icmp .ge 21, 3) := by decide +kernel
theorem dX12_goRows_84 : decode cX12_goRows 84 = .ok (.aload_n 0, 1) := by decide +kernel
theorem dX12_goRows_85 : decode cX12_goRows 85 = .ok (.getfield 91, 3) := by decide +kernel
theorem dX12_goRows_88 : decode cX12_goRows 88 = .ok (.iload_n 2, 1) := by decide +kernel
theorem dX12_goRows_89 : decode cX12_goRows 89 = .ok (.aload_n 0, 1) := by decide +kernel
theorem dX12_goRows_90 : decode cX12_goRows 90 = .ok (.getfield 88, 3) := by decide +kernel
theorem dX12_goRows_93 : decode cX12_goRows 93 = .ok (.iload_n 2, 1) := by decide +kernel
theorem dX12_goRows_94 : decode cX12_goRows 94 = .ok (.iaload, 1) := by decide +kernel
theorem dX12_goRows_95 : decode cX12_goRows 95 = .ok (.iastore, 1) := by decide +kernel
theorem dX12_goRows_96 : decode cX12_goRows 96 = .ok (.iinc 2 1, 3) := by decide +kernel
theorem dX12_goRows_99 : decode cX12_goRows 99 = .ok (.goto (-23), 3) := by decide +kernel
theorem dX12_goRows_102 : decode cX12_goRows 102 = .ok (.return_, 1) := by decide +kernel
theorem dX12_goRows_103 : decode cX12_goRows 103 = .ok (.iconst 0, 1) := by decide +kernel
theorem dX12_goRows_104 : decode cX12_goRows 104 = .ok (.istore_n 2, 1) := by decide +kernel
theorem dX12_goRows_105 : decode cX12_goRows 105 = .ok (.iload_n 2, 1) := by decide +kernel
theorem dX12_goRows_106 : decode cX12_goRows 106 = .ok (.aload_n 0, 1) := by decide +kernel
theorem dX12_goRows_107 : decode cX12_goRows 107 = .ok (.getfield 128, 3) := by decide +kernel
theorem dX12_goRows_110 : decode cX12_goRows 110 = .ok (.if_icmp .ge 56, 3) := by decide +kernel
theorem dX12_goRows_113 : decode cX12_goRows 113 = .ok (.aload_n 0, 1) := by decide +kernel
theorem dX12_goRows_114 : decode cX12_goRows 114 = .ok (.getfield 88, 3) := by decide +kernel
theorem dX12_goRows_117 : decode cX12_goRows 117 = .ok (.iload_n 1, 1) := by decide +kernel
theorem dX12_goRows_118 : decode cX12_goRows 118 = .ok (.iload_n 2, 1) := by decide +kernel
theorem dX12_goRows_119 : decode cX12_goRows 119 = .ok (.iastore, 1) := by decide +kernel
theorem dX12_goRows_120 : decode cX12_goRows 120 = .ok (.aload_n 0, 1) := by decide +kernel
theorem dX12_goRows_121 : decode cX12_goRows 121 = .ok (.iload_n 1, 1) := by decide +kernel
theorem dX12_goRows_122 : decode cX12_goRows 122 = .ok (.aload_n 0, 1) := by decide +kernel
theorem dX12_goRows_123 : decode cX12_goRows 123 = .ok (.iload_n 2, 1) := by decide +kernel
theorem dX12_goRows_124 : decode cX12_goRows 124 = .ok (.iload_n 1, 1) := by decide +kernel
theorem dX12_goRows_125 : decode cX12_goRows 125 = .ok (.aload_n 0, 1) := by decide +kernel
theorem dX12_goRows_126 : decode cX12_goRows 126 = .ok (.getfield 28, 3) := by decide +kernel
theorem dX12_goRows_129 : decode cX12_goRows 129 = .ok (.invokevirtual 246, 3) := by decide +kernel
theorem dX12_goRows_132 : decode cX12_goRows 132 = .ok (.aload_n 0, 1) := by decide +kernel
theorem dX12_goRows_133 : decode cX12_goRows 133 = .ok (.getfield 85, 3) := by decide +kernel
theorem dX12_goRows_136 : decode cX12_goRows 136 = .ok (.iload_n 1, 1) := by decide +kernel
theorem dX12_goRows_137 : decode cX12_goRows 137 = .ok (.iaload, 1) := by decide +kernel
theorem dX12_goRows_138 : decode cX12_goRows 138 = .ok (.invokevirtual 274, 3) := by decide +kernel
theorem dX12_goRows_141 : decode cX12_goRows 141 = .ok (.aload_n 0, 1) := by decide +kernel
theorem dX12_goRows_142 : decode cX12_goRows 142 = .ok (.iload_n 1, 1) := by decide +kernel
theorem dX12_goRows_143 : decode cX12_goRows 143 = .ok (.iconst 1, 1) := by decide +kernel
theorem dX12_goRows_144 : decode cX12_goRows 144 = .ok (.iadd, 1) := by decide +kernel
theorem dX12_goRows_145 : decode cX12_goRows 145 = .ok (.invokevirtual 288, 3) := by decide +kernel
theorem dX12_goRows_148 : decode cX12_goRows 148 = .ok (.lconst 0, 1) := by decide +kernel
theorem dX12_goRows_149 : decode cX12_goRows 149 = .ok (.lcmp, 1) := by decide +kernel
theorem dX12_goRows_150 : decode cX12_goRows 150 = .ok (.ifCond .le 10, 3) := by decide +kernel
theorem dX12_goRows_153 : decode cX12_goRows 153 = .ok (.aload_n 0, 1) := by decide +kernel
theorem dX12_goRows_154 : decode cX12_goRows 154 = .ok (.iload_n 1, 1) := by decide +kernel
theorem dX12_goRows_155 : decode cX12_goRows 155 = .ok (.iconst 1, 1) := by decide +kernel
theorem dX12_goRows_156 : decode cX12_goRows 156 = .ok (.iadd, 1) := by decide +kernel
theorem dX12_goRows_157 : decode cX12_goRows 157 = .ok (.invokevirtual 364, 3) := by decide +kernel
theorem dX12_goRows_160 : decode cX12_goRows 160 = .ok (.iinc 2 1, 3) := by decide +kernel
theorem dX12_goRows_163 : decode cX12_goRows 163 = .ok (.goto (-58), 3) := by decide +kernel
theorem dX12_goRows_166 : decode cX12_goRows 166 = .ok (.return_, 1) := by decide +kernel
theorem dX12_who_0 : decode cX12_who 0 = .ok (.iload_n 1, 1) := by decide +kernel
theorem dX12_who_1 : decode cX12_who 1 = .ok (.invokestatic 135, 3) := by decide +kernel
theorem dX12_who_4 : decode cX12_who 4 = .ok (.ifCond .eq 19, 3) := by decide +kernel
theorem dX12_who_7 : decode cX12_who 7 = .ok (.iload_n 2, 1) := by decide +kernel
theorem dX12_who_8 : decode cX12_who 8 = .ok (.invokestatic 155, 3) := by decide +kernel
theorem dX12_who_11 : decode cX12_who 11 = .ok (.ifCond .eq 12, 3) := by decide +kernel
theorem dX12_who_14 : decode cX12_who 14 = .ok (.iload_n 3, 1) := by decide +kernel
theorem dX12_who_15 : decode cX12_who 15 = .ok (.iconst 0, 1) := by decide +kernel
theorem dX12_who_16 : decode cX12_who 16 = .ok (.iconst 2, 1) := by decide +kernel
theorem dX12_who_17 : decode cX12_who 17 = .ok (.invokestatic 124, 3) := by decide +kernel
theorem dX12_who_20 : decode cX12_who 20 = .ok (.ifCond .ne 5, 3) := by decide +kernel
theorem dX12_who_23 : decode cX12_who 23 = .ok (.iconst (-1), 1) := by decide +kernel
theorem dX12_who_24 : decode cX12_who 24 = .ok (.ireturn, 1) := by decide +kernel
theorem dX12_who_25 : decode cX12_who 25 = .ok (.aload_n 0, 1) := by decide +kernel
theorem dX12_who_26 : decode cX12_who 26 = .ok (.iload_n 1, 1) := by decide +kernel
theorem dX12_who_27 : decode cX12_who 27 = .ok (.invokevirtual 280, 3) := by decide +kernel
theorem dX12_who_30 : decode cX12_who 30 = .ok (.ifCond .ge 27, 3) := by decide +kernel
theorem dX12_who_33 : decode cX12_who 33 = .ok (.iload_n 3, 1) := by decide +kernel
theorem dX12_who_34 : decode cX12_who 34 = .ok (.ifCond .le 17, 3) := by decide +kernel
theorem dX12_who_37 : decode cX12_who 37 = .ok (.iload 4, 2) := by decide +kernel
theorem dX12_who_39 : decode cX12_who 39 = .ok (.iconst 0, 1) := by decide +kernel
theorem dX12_who_40 : decode cX12_who 40 = .ok (.iconst 3, 1) := by decide +kernel
theorem dX12_who_41 : decode cX12_who 41 = .ok (.invokestatic 124, 3) := by decide +kernel
theorem dX12_who_44 : decode cX12_who 44 = .ok (.ifCond .ne 7, 3) := by decide +kernel
theorem dX12_who_47 : decode cX12_who 47 = .ok (.iconst (-1), 1) := by decide +kernel
theorem dX12_who_48 : decode cX12_who 48 = .ok (.goto 8, 3) := by decide +kernel
theorem dX12_who_51 : decode cX12_who 51 = .ok (.aload_n 0, 1) := by decide +kernel
theorem dX12_who_52 : decode cX12_who 52 = .ok (.iload_n 1, 1) := by decide +kernel
theorem dX12_who_53 : decode cX12_who 53 = .ok (.invokevirtual 280, 3) := by decide +kernel
theorem dX12_who_56 : decode cX12_who 56 = .ok (.ireturn, 1) := by decide +kernel
theorem dX12_who_57 : decode cX12_who 57 = .ok (.aload_n 0, 1) := by decide +kernel
theorem dX12_who_58 : decode cX12_who 58 = .ok (.iconst 0, 1) := by decide +kernel
theorem dX12_who_59 : decode cX12_who 59 = .ok (.putfield 355, 3) := by decide +kernel
theorem dX12_who_62 : decode cX12_who 62 = .ok (.aload_n 0, 1) := by decide +kernel
theorem dX12_who_63 : decode cX12_who 63 = .ok (.getfield 355, 3) := by decide +kernel
theorem dX12_who_66 : decode cX12_who 66 = .ok (.iconst 4, 1) := by decide +kernel
theorem dX12_who_67 : decode cX12_who 67 = .ok (.if_icmp .ge 64, 3) := by decide +kernel
theorem dX12_who_70 : decode cX12_who 70 = .ok (.aload_n 0, 1) := by decide +kernel
theorem dX12_who_71 : decode cX12_who 71 = .ok (.getfield 355, 3) := by decide +kernel
theorem dX12_who_74 : decode cX12_who 74 = .ok (.aload_n 0, 1) := by decide +kernel
theorem dX12_who_75 : decode cX12_who 75 = .ok (.getfield 112, 3) := by decide +kernel
theorem dX12_who_78 : decode cX12_who 78 = .ok (.iload_n 1, 1) := by decide +kernel
theorem dX12_who_79 : decode cX12_who 79 = .ok (.iaload, 1) := by decide +kernel
theorem dX12_who_80 : decode cX12_who 80 = .ok (.if_icmp .ge 51, 3) := by decide +kernel
theorem dX12_who_83 : decode cX12_who 83 = .ok (.aload_n 0, 1) := by decide +kernel
theorem dX12_who_84 : decode cX12_who 84 = .ok (.iload_n 1, 1) := by decide +kernel
theorem dX12_who_85 : decode cX12_who 85 = .ok (.aload_n 0, 1) := by decide +kernel
theorem dX12_who_86 : decode cX12_who 86 = .ok (.getfield 355, 3) := by decide +kernel
theorem dX12_who_89 : decode cX12_who 89 = .ok (.invokevirtual 271, 3) := by decide +kernel
theorem dX12_who_92 : decode cX12_who 92 = .ok (.iconst 0, 1) := by decide +kernel
theorem dX12_who_93 : decode cX12_who 93 = .ok (.iconst 3, 1) := by decide +kernel
theorem dX12_who_94 : decode cX12_who 94 = .ok (.invokestatic 124, 3) := by decide +kernel
theorem dX12_who_97 : decode cX12_who 97 = .ok (.ifCond .eq 34, 3) := by decide +kernel
theorem dX12_who_100 : decode cX12_who 100 = .ok (.aload_n 0, 1) := by decide +kernel
theorem dX12_who_101 : decode cX12_who 101 = .ok (.getfield 85, 3) := by decide +kernel
theorem dX12_who_104 : decode cX12_who 104 = .ok (.aload_n 0, 1) := by decide +kernel
theorem dX12_who_105 : decode cX12_who 105 = .ok (.getfield 355, 3) := by decide +kernel
theorem dX12_who_108 : decode cX12_who 108 = .ok (.aload_n 0, 1) := by decide +kernel
theorem dX12_who_109 : decode cX12_who 109 = .ok (.iload_n 1, 1) := by decide +kernel
theorem dX12_who_110 : decode cX12_who 110 = .ok (.aload_n 0, 1) := by decide +kernel
theorem dX12_who_111 : decode cX12_who 111 = .ok (.getfield 355, 3) := by decide +kernel
theorem dX12_who_114 : decode cX12_who 114 = .ok (.invokevirtual 271, 3) := by decide +kernel
theorem dX12_who_117 : decode cX12_who 117 = .ok (.iastore, 1) := by decide +kernel
theorem dX12_who_118 : decode cX12_who 118 = .ok (.aload_n 0, 1) := by decide +kernel
theorem dX12_who_119 : decode cX12_who 119 = .ok (.dup, 1) := by decide +kernel
theorem dX12_who_120 : decode cX12_who 120 = .ok (.getfield 355, 3) := by decide +kernel
theorem dX12_who_123 : decode cX12_who 123 = .ok (.iconst 1, 1) := by decide +kernel
theorem dX12_who_124 : decode cX12_who 124 = .ok (.iadd, 1) := by decide +kernel
theorem dX12_who_125 : decode cX12_who 125 = .ok (.putfield 355, 3) := by decide +kernel
theorem dX12_who_128 : decode cX12_who 128 = .ok (.goto (-66), 3) := by decide +kernel
theorem dX12_who_131 : decode cX12_who 131 = .ok (.iload_n 3, 1) := by decide +kernel
theorem dX12_who_132 : decode cX12_who 132 = .ok (.ifCond .le 20, 3) := by decide +kernel
theorem dX12_who_135 : decode cX12_who 135 = .ok (.iload 4, 2) := by decide +kernel
theorem dX12_who_137 : decode cX12_who 137 = .ok (.iconst 0, 1) := by decide +kernel
theorem dX12_who_138 : decode cX12_who 138 = .ok (.aload_n 0, 1) := by decide +kernel
theorem dX12_who_139 : decode cX12_who 139 = .ok (.getfield 355, 3) := by decide +kernel
theorem dX12_who_142 : decode cX12_who 142 = .ok (.iconst 1, 1) := by decide +kernel
theorem dX12_who_143 : decode cX12_who 143 = .ok (.isub, 1) := by decide +kernel
theorem dX12_who_144 : decode cX12_who 144 = .ok (.invokestatic 124, 3) := by decide +kernel
theorem dX12_who_147 : decode cX12_who 147 = .ok (.ifCond .ne 5, 3) := by decide +kernel
theorem dX12_who_150 : decode cX12_who 150 = .ok (.iconst (-1), 1) := by decide +kernel
theorem dX12_who_151 : decode cX12_who 151 = .ok (.ireturn, 1) := by decide +kernel
theorem dX12_who_152 : decode cX12_who 152 = .ok (.aload_n 0, 1) := by decide +kernel
theorem dX12_who_153 : decode cX12_who 153 = .ok (.iconst 0, 1) := by decide +kernel
theorem dX12_who_154 : decode cX12_who 154 = .ok (.putfield 358, 3) := by decide +kernel
theorem dX12_who_157 : decode cX12_who 157 = .ok (.aload_n 0, 1) := by decide +kernel
theorem dX12_who_158 : decode cX12_who 158 = .ok (.lconst 0, 1) := by decide +kernel
theorem dX12_who_159 : decode cX12_who 159 = .ok (.putfield 361, 3) := by decide +kernel
theorem dX12_who_162 : decode cX12_who 162 = .ok (.iconst 0, 1) := by decide +kernel
theorem dX12_who_163 : decode cX12_who 163 = .ok (.istore 5, 2) := by decide +kernel
theorem dX12_who_165 : decode cX12_who 165 = .ok (.iload 5, 2) := by decide +kernel
theorem dX12_who_167 : decode cX12_who 167 = .ok (.iconst 4, 1) := by decide +kernel
theorem dX12_who_168 : decode cX12_who 168 = .ok (.if_icmp .ge 24, 3) := by decide +kernel
theorem dX12_who_171 : decode cX12_who 171 = .ok (.aload_n 0, 1) := by decide +kernel
theorem dX12_who_172 : decode cX12_who 172 = .ok (.getfield 94, 3) := by decide +kernel
theorem dX12_who_175 : decode cX12_who 175 = .ok (.iload 5, 2) := by decide +kernel
theorem dX12_who_177 : decode cX12_who 177 = .ok (.iconst 1, 1) := by decide +kernel
theorem dX12_who_178 : decode cX12_who 178 = .ok (.aload_n 0, 1) := by decide +kernel
theorem dX12_who_179 : decode cX12_who 179 = .ok (.getfield 128, 3) := by decide +kernel
theorem dX12_who_182 : decode cX12_who 182 = .ok (.ishl, 1) := by decide +kernel
theorem dX12_who_183 : decode cX12_who 183 = .ok (.iconst 1, 1) := by decide +kernel
theorem dX12_who_184 : decode cX12_who 184 = .ok (.isub, 1) := by decide +kernel
theorem dX12_who_185 : decode cX12_who 185 = .ok (.iastore, 1) := by decide +kernel
theorem dX12_who_186 : decode cX12_who 186 = .ok (.iinc 5 1, 3) := by decide +kernel
theorem dX12_who_189 : decode cX12_who 189 = .ok (.goto (-24), 3) := by decide +kernel
theorem dX12_who_192 : decode cX12_who 192 = .ok (.aload_n 0, 1) := by decide +kernel
theorem dX12_who_193 : decode cX12_who 193 = .ok (.iload_n 2, 1) := by decide +kernel
theorem dX12_who_194 : decode cX12_who 194 = .ok (.iconst 0, 1) := by decide +kernel
theorem dX12_who_195 : decode cX12_who 195 = .ok (.invokevirtual 268, 3) := by decide +kernel
theorem dX12_who_198 : decode cX12_who 198 = .ok (.aload_n 0, 1) := by decide +kernel
theorem dX12_who_199 : decode cX12_who 199 = .ok (.iconst 0, 1) := by decide +kernel
theorem dX12_who_200 : decode cX12_who 200 = .ok (.invokevirtual 364, 3) := by decide +kernel
theorem dX12_who_203 : decode cX12_who 203 = .ok (.iload_n 3, 1) := by decide +kernel
theorem dX12_who_204 : decode cX12_who 204 = .ok (.ifCond .ne 8, 3) := by decide +kernel
theorem dX12_who_207 : decode cX12_who 207 = .ok (.aload_n 0, 1) := by decide +kernel
theorem dX12_who_208 : decode cX12_who 208 = .ok (.getfield 358, 3) := by decide +kernel
theorem dX12_who_211 : decode cX12_who 211 = .ok (.ireturn, 1) := by decide +kernel
theorem dX12_who_212 : decode cX12_who 212 = .ok (.iload_n 3, 1) := by decide +kernel
theorem dX12_who_213 : decode cX12_who 213 = .ok (.iconst 1, 1) := by decide +kernel
theorem dX12_who_214 : decode cX12_who 214 = .ok (.if_icmp .ne 22, 3) := by decide +kernel
theorem dX12_who_217 : decode cX12_who 217 = .ok (.aload_n 0, 1) := by decide +kernel
theorem dX12_who_218 : decode cX12_who 218 = .ok (.getfield 358, 3) := by decide +kernel
theorem dX12_who_221 : decode cX12_who 221 = .ok (.ifCond .ne 7, 3) := by decide +kernel
theorem dX12_who_224 : decode cX12_who 224 = .ok (.iconst 0, 1) := by decide +kernel
theorem dX12_who_225 : decode cX12_who 225 = .ok (.goto 10, 3) := by decide +kernel
theorem dX12_who_228 : decode cX12_who 228 = .ok (.aload_n 0, 1) := by decide +kernel
theorem dX12_who_229 : decode cX12_who 229 = .ok (.getfield 94, 3) := by decide +kernel
theorem dX12_who_232 : decode cX12_who 232 = .ok (.iload 4, 2) := by decide +kernel
theorem dX12_who_234 : decode cX12_who 234 = .ok (.iaload, 1) := by decide +kernel
theorem dX12_who_235 : decode cX12_who 235 = .ok (.ireturn, 1) := by decide +kernel
theorem dX12_who_236 : decode cX12_who 236 = .ok (.aload_n 0, 1) := by decide +kernel
theorem dX12_who_237 : decode cX12_who 237 = .ok (.getfield 358, 3) := by decide +kernel
theorem dX12_who_240 : decode cX12_who 240 = .ok (.ifCond .ne 8, 3) := by decide +kernel
theorem dX12_who_243 : decode cX12_who 243 = .ok (.bipush (-2), 2) := by decide +kernel
theorem dX12_who_245 : decode cX12_who 245 = .ok (.goto 10, 3) := by decide +kernel
theorem dX12_who_248 : decode cX12_who 248 = .ok (.aload_n 0, 1) := by decide +kernel
theorem dX12_who_249 : decode cX12_who 249 = .ok (.getfield 91, 3) := by decide +kernel
theorem dX12_who_252 : decode cX12_who 252 = .ok (.iload 4, 2) := by decide +kernel
theorem dX12_who_254 : decode cX12_who 254 = .ok (.iaload, 1) := by decide +kernel
theorem dX12_who_255 : decode cX12_who 255 = .ok (.ireturn, 1) := by decide +kernel
theorem dX12_draw_0 : decode cX12_draw 0 = .ok (.aload_n 0, 1) := by decide +kernel
theorem dX12_draw_1 : decode cX12_draw 1 = .ok (.aload_n 0, 1) := by decide +kernel
theorem dX12_draw_2 : decode cX12_draw 2 = .ok (.getfield 368, 3) := by decide +kernel
theorem dX12_draw_5 : decode cX12_draw 5 = .ok (.ldc_w 371, 3) := by decide +kernel
theorem dX12_draw_8 : decode cX12_draw 8 = .ok (.imul, 1) := by decide +kernel
theorem dX12_draw_9 : decode cX12_draw 9 = .ok (.sipush 12345, 3) := by decide +kernel
theorem dX12_draw_12 : decode cX12_draw 12 = .ok (.iadd, 1) := by decide +kernel
theorem dX12_draw_13 : decode cX12_draw 13 = .ok (.putfield 368, 3) := by decide +kernel
theorem dX12_draw_16 : decode cX12_draw 16 = .ok (.aload_n 0, 1) := by decide +kernel
theorem dX12_draw_17 : decode cX12_draw 17 = .ok (.getfield 368, 3) := by decide +kernel
theorem dX12_draw_20 : decode cX12_draw 20 = .ok (.bipush 8, 2) := by decide +kernel
theorem dX12_draw_22 : decode cX12_draw 22 = .ok (.iushr, 1) := by decide +kernel
theorem dX12_draw_23 : decode cX12_draw 23 = .ok (.iload_n 1, 1) := by decide +kernel
theorem dX12_draw_24 : decode cX12_draw 24 = .ok (.irem, 1) := by decide +kernel
theorem dX12_draw_25 : decode cX12_draw 25 = .ok (.ireturn, 1) := by decide +kernel
theorem dX12_drawStones_0 : decode cX12_drawStones 0 = .ok (.aload_n 0, 1) := by decide +kernel
theorem dX12_drawStones_1 : decode cX12_drawStones 1 = .ok (.iload_n 1, 1) := by decide +kernel
theorem dX12_drawStones_2 : decode cX12_drawStones 2 = .ok (.invokevirtual 249, 3) := by decide +kernel
theorem dX12_drawStones_5 : decode cX12_drawStones 5 = .ok (.ifCond .ne 5, 3) := by decide +kernel
theorem dX12_drawStones_8 : decode cX12_drawStones 8 = .ok (.iconst 0, 1) := by decide +kernel
theorem dX12_drawStones_9 : decode cX12_drawStones 9 = .ok (.ireturn, 1) := by decide +kernel
theorem dX12_drawStones_10 : decode cX12_drawStones 10 = .ok (.aload_n 0, 1) := by decide +kernel
theorem dX12_drawStones_11 : decode cX12_drawStones 11 = .ok (.aload_n 0, 1) := by decide +kernel
theorem dX12_drawStones_12 : decode cX12_drawStones 12 = .ok (.iload_n 1, 1) := by decide +kernel
theorem dX12_drawStones_13 : decode cX12_drawStones 13 = .ok (.invokevirtual 249, 3) := by decide +kernel
theorem dX12_drawStones_16 : decode cX12_drawStones 16 = .ok (.invokevirtual 372, 3) := by decide +kernel
theorem dX12_drawStones_19 : decode cX12_drawStones 19 = .ok (.istore_n 2, 1) := by decide +kernel
theorem dX12_drawStones_20 : decode cX12_drawStones 20 = .ok (.iconst 0, 1) := by decide +kernel
theorem dX12_drawStones_21 : decode cX12_drawStones 21 = .ok (.istore_n 3, 1) := by decide +kernel
theorem dX12_drawStones_22 : decode cX12_drawStones 22 = .ok (.iload_n 2, 1) := by decide +kernel
theorem dX12_drawStones_23 : decode cX12_drawStones 23 = .ok (.aload_n 0, 1) := by decide +kernel
theorem dX12_drawStones_24 : decode cX12_drawStones 24 = .ok (.getfield 9, 3) := by decide +kernel
theorem dX12_drawStones_27 : decode cX12_drawStones 27 = .ok (.iconst 4, 1) := by decide +kernel
theorem dX12_drawStones_28 : decode cX12_drawStones 28 = .ok (.iload_n 1, 1) := by decide +kernel
theorem dX12_drawStones_29 : decode cX12_drawStones 29 = .ok (.imul, 1) := by decide +kernel
theorem dX12_drawStones_30 : decode cX12_drawStones 30 = .ok (.iload_n 3, 1) := by decide +kernel
theorem dX12_drawStones_31 : decode cX12_drawStones 31 = .ok (.iadd, 1) := by decide +kernel
theorem dX12_drawStones_32 : decode cX12_drawStones 32 = .ok (.iaload, 1) := by decide +kernel
theorem dX12_drawStones_33 : decode cX12_drawStones 33 = .ok (.if_icmp .lt 22, 3) := by decide +kernel
theorem dX12_drawStones_36 : decode cX12_drawStones 36 = .ok (.iload_n 2, 1) := by decide +kernel
theorem dX12_drawStones_37 : decode cX12_drawStones 37 = .ok (.aload_n 0, 1) := by decide +kernel
theorem dX12_drawStones_38 : decode cX12_drawStones 38 = .ok (.getfield 9, 3) := by decide +kernel
theorem dX12_drawStones_41 : decode cX12_drawStones 41 = .ok (.iconst 4, 1) := by decide +kernel
theorem dX12_drawStones_42 : decode cX12_drawStones 42 = .ok (.iload_n 1, 1) := by decide +kernel
theorem dX12_drawStones_43 : decode cX12_drawStones 43 = .ok (.imul, 1) := by decide +kernel
theorem dX12_drawStones_44 : decode cX12_drawStones 44 = .ok (.iload_n 3, 1) := by decide +kernel
theorem dX12_drawStones_45 : decode cX12_drawStones 45 = .ok (.iadd, 1) := by decide +kernel
theorem dX12_drawStones_46 : decode cX12_drawStones 46 = .ok (.iaload, 1) := by decide +kernel
theorem dX12_drawStones_47 : decode cX12_drawStones 47 = .ok (.isub, 1) := by decide +kernel
theorem dX12_drawStones_48 : decode cX12_drawStones 48 = .ok (.istore_n 2, 1) := by decide +kernel
theorem dX12_drawStones_49 : decode cX12_drawStones 49 = .ok (.iinc 3 1, 3) := by decide +kernel
theorem dX12_drawStones_52 : decode cX12_drawStones 52 = .ok (.goto (-30), 3) := by decide +kernel
theorem dX12_drawStones_55 : decode cX12_drawStones 55 = .ok (.iload_n 3, 1) := by decide +kernel
theorem dX12_drawStones_56 : decode cX12_drawStones 56 = .ok (.ireturn, 1) := by decide +kernel
theorem dX12_drawFound_0 : decode cX12_drawFound 0 = .ok (.iconst 0, 1) := by decide +kernel
theorem dX12_drawFound_1 : decode cX12_drawFound 1 = .ok (.istore_n 3, 1) := by decide +kernel
theorem dX12_drawFound_2 : decode cX12_drawFound 2 = .ok (.iconst 0, 1) := by decide +kernel
theorem dX12_drawFound_3 : decode cX12_drawFound 3 = .ok (.istore 4, 2) := by decide +kernel
theorem dX12_drawFound_5 : decode cX12_drawFound 5 = .ok (.iload 4, 2) := by decide +kernel
theorem dX12_drawFound_7 : decode cX12_drawFound 7 = .ok (.iload_n 1, 1) := by decide +kernel
theorem dX12_drawFound_8 : decode cX12_drawFound 8 = .ok (.if_icmp .ge 22, 3) := by decide +kernel
theorem dX12_drawFound_11 : decode cX12_drawFound 11 = .ok (.aload_n 0, 1) := by decide +kernel
theorem dX12_drawFound_12 : decode cX12_drawFound 12 = .ok (.bipush 12, 2) := by decide +kernel
theorem dX12_drawFound_14 : decode cX12_drawFound 14 = .ok (.invokevirtual 372, 3) := by decide +kernel
theorem dX12_drawFound_17 : decode cX12_drawFound 17 = .ok (.iload_n 2, 1) := by decide +kernel
theorem dX12_drawFound_18 : decode cX12_drawFound 18 = .ok (.if_icmp .ge 6, 3) := by decide +kernel
theorem dX12_drawFound_21 : decode cX12_drawFound 21 = .ok (.iinc 3 1, 3) := by decide +kernel
theorem dX12_drawFound_24 : decode cX12_drawFound 24 = .ok (.iinc 4 1, 3) := by decide +kernel
theorem dX12_drawFound_27 : decode cX12_drawFound 27 = .ok (.goto (-22), 3) := by decide +kernel
theorem dX12_drawFound_30 : decode cX12_drawFound 30 = .ok (.iload_n 3, 1) := by decide +kernel
theorem dX12_drawFound_31 : decode cX12_drawFound 31 = .ok (.ireturn, 1) := by decide +kernel
theorem dX12_drawn_0 : decode cX12_drawn 0 = .ok (.iload_n 1, 1) := by decide +kernel
theorem dX12_drawn_1 : decode cX12_drawn 1 = .ok (.invokestatic 135, 3) := by decide +kernel
theorem dX12_drawn_4 : decode cX12_drawn 4 = .ok (.ifCond .eq 40, 3) := by decide +kernel
theorem dX12_drawn_7 : decode cX12_drawn 7 = .ok (.iload_n 3, 1) := by decide +kernel
theorem dX12_drawn_8 : decode cX12_drawn 8 = .ok (.ifCond .lt 36, 3) := by decide +kernel
theorem dX12_drawn_11 : decode cX12_drawn 11 = .ok (.iload_n 3, 1) := by decide +kernel
theorem dX12_drawn_12 : decode cX12_drawn 12 = .ok (.bipush 100, 2) := by decide +kernel
theorem dX12_drawn_14 : decode cX12_drawn 14 = .ok (.idiv, 1) := by decide +kernel
theorem dX12_drawn_15 : decode cX12_drawn 15 = .ok (.invokestatic 155, 3) := by decide +kernel
theorem dX12_drawn_18 : decode cX12_drawn 18 = .ok (.ifCond .eq 26, 3) := by decide +kernel
theorem dX12_drawn_21 : decode cX12_drawn 21 = .ok (.iload_n 3, 1) := by decide +kernel
theorem dX12_drawn_22 : decode cX12_drawn 22 = .ok (.bipush 100, 2) := by decide +kernel
theorem dX12_drawn_24 : decode cX12_drawn 24 = .ok (.irem, 1) := by decide +kernel
theorem dX12_drawn_25 : decode cX12_drawn 25 = .ok (.iconst 1, 1) := by decide +kernel
theorem dX12_drawn_26 : decode cX12_drawn 26 = .ok (.bipush 30, 2) := by decide +kernel
theorem dX12_drawn_28 : decode cX12_drawn 28 = .ok (.invokestatic 124, 3) := by decide +kernel
theorem dX12_drawn_31 : decode cX12_drawn 31 = .ok (.ifCond .eq 13, 3) := by decide +kernel
theorem dX12_drawn_34 : decode cX12_drawn 34 = .ok (.iload 4, 2) := by decide +kernel
theorem dX12_drawn_36 : decode cX12_drawn 36 = .ok (.iconst 0, 1) := by decide +kernel
theorem dX12_drawn_37 : decode cX12_drawn 37 = .ok (.iconst 1, 1) := by decide +kernel
theorem dX12_drawn_38 : decode cX12_drawn 38 = .ok (.invokestatic 124, 3) := by decide +kernel
theorem dX12_drawn_41 : decode cX12_drawn 41 = .ok (.ifCond .ne 5, 3) := by decide +kernel
theorem dX12_drawn_44 : decode cX12_drawn 44 = .ok (.iconst (-1), 1) := by decide +kernel
theorem dX12_drawn_45 : decode cX12_drawn 45 = .ok (.ireturn, 1) := by decide +kernel
theorem dX12_drawn_46 : decode cX12_drawn 46 = .ok (.aload_n 0, 1) := by decide +kernel
theorem dX12_drawn_47 : decode cX12_drawn 47 = .ok (.iload_n 1, 1) := by decide +kernel
theorem dX12_drawn_48 : decode cX12_drawn 48 = .ok (.invokevirtual 280, 3) := by decide +kernel
theorem dX12_drawn_51 : decode cX12_drawn 51 = .ok (.ifCond .ge 9, 3) := by decide +kernel
theorem dX12_drawn_54 : decode cX12_drawn 54 = .ok (.aload_n 0, 1) := by decide +kernel
theorem dX12_drawn_55 : decode cX12_drawn 55 = .ok (.iload_n 1, 1) := by decide +kernel
theorem dX12_drawn_56 : decode cX12_drawn 56 = .ok (.invokevirtual 280, 3) := by decide +kernel
theorem dX12_drawn_59 : decode cX12_drawn 59 = .ok (.ireturn, 1) := by decide +kernel
theorem dX12_drawn_60 : decode cX12_drawn 60 = .ok (.aload_n 0, 1) := by decide +kernel
theorem dX12_drawn_61 : decode cX12_drawn 61 = .ok (.iload_n 2, 1) := by decide +kernel
theorem dX12_drawn_62 : decode cX12_drawn 62 = .ok (.putfield 368, 3) := by decide +kernel
theorem dX12_drawn_65 : decode cX12_drawn 65 = .ok (.iconst 0, 1) := by decide +kernel
theorem dX12_drawn_66 : decode cX12_drawn 66 = .ok (.istore 5, 2) := by decide +kernel
theorem dX12_drawn_68 : decode cX12_drawn 68 = .ok (.iconst 0, 1) := by decide +kernel
theorem dX12_drawn_69 : decode cX12_drawn 69 = .ok (.istore 6, 2) := by decide +kernel
theorem dX12_drawn_71 : decode cX12_drawn 71 = .ok (.iconst 0, 1) := by decide +kernel
theorem dX12_drawn_72 : decode cX12_drawn 72 = .ok (.istore 7, 2) := by decide +kernel
theorem dX12_drawn_74 : decode cX12_drawn 74 = .ok (.iload 7, 2) := by decide +kernel
theorem dX12_drawn_76 : decode cX12_drawn 76 = .ok (.iload_n 3, 1) := by decide +kernel
theorem dX12_drawn_77 : decode cX12_drawn 77 = .ok (.bipush 100, 2) := by decide +kernel
theorem dX12_drawn_79 : decode cX12_drawn 79 = .ok (.irem, 1) := by decide +kernel
theorem dX12_drawn_80 : decode cX12_drawn 80 = .ok (.if_icmp .ge 121, 3) := by decide +kernel
theorem dX12_drawn_83 : decode cX12_drawn 83 = .ok (.aload_n 0, 1) := by decide +kernel
theorem dX12_drawn_84 : decode cX12_drawn 84 = .ok (.iload_n 3, 1) := by decide +kernel
theorem dX12_drawn_85 : decode cX12_drawn 85 = .ok (.bipush 100, 2) := by decide +kernel
theorem dX12_drawn_87 : decode cX12_drawn 87 = .ok (.idiv, 1) := by decide +kernel
theorem dX12_drawn_88 : decode cX12_drawn 88 = .ok (.invokevirtual 375, 3) := by decide +kernel
theorem dX12_drawn_91 : decode cX12_drawn 91 = .ok (.istore 8, 2) := by decide +kernel
theorem dX12_drawn_93 : decode cX12_drawn 93 = .ok (.iconst 0, 1) := by decide +kernel
theorem dX12_drawn_94 : decode cX12_drawn 94 = .ok (.istore 9, 2) := by decide +kernel
theorem dX12_drawn_96 : decode cX12_drawn 96 = .ok (.iload 9, 2) := by decide +kernel
theorem dX12_drawn_98 : decode cX12_drawn 98 = .ok (.iconst 4, 1) := by decide +kernel
theorem dX12_drawn_99 : decode cX12_drawn 99 = .ok (.if_icmp .ge 89, 3) := by decide +kernel
theorem dX12_drawn_102 : decode cX12_drawn 102 = .ok (.iconst 2, 1) := by decide +kernel
theorem dX12_drawn_103 : decode cX12_drawn 103 = .ok (.iload 9, 2) := by decide +kernel
theorem dX12_drawn_105 : decode cX12_drawn 105 = .ok (.imul, 1) := by decide +kernel
theorem dX12_drawn_106 : decode cX12_drawn 106 = .ok (.iconst 1, 1) := by decide +kernel
theorem dX12_drawn_107 : decode cX12_drawn 107 = .ok (.iadd, 1) := by decide +kernel
theorem dX12_drawn_108 : decode cX12_drawn 108 = .ok (.aload_n 0, 1) := by decide +kernel
theorem dX12_drawn_109 : decode cX12_drawn 109 = .ok (.getfield 112, 3) := by decide +kernel
theorem dX12_drawn_112 : decode cX12_drawn 112 = .ok (.iload_n 1, 1) := by decide +kernel
theorem dX12_drawn_113 : decode cX12_drawn 113 = .ok (.iaload, 1) := by decide +kernel
theorem dX12_drawn_114 : decode cX12_drawn 114 = .ok (.if_icmp .ge 74, 3) := by decide +kernel
theorem dX12_drawn_117 : decode cX12_drawn 117 = .ok (.aload_n 0, 1) := by decide +kernel
theorem dX12_drawn_118 : decode cX12_drawn 118 = .ok (.aload_n 0, 1) := by decide +kernel
theorem dX12_drawn_119 : decode cX12_drawn 119 = .ok (.iload_n 1, 1) := by decide +kernel
theorem dX12_drawn_120 : decode cX12_drawn 120 = .ok (.iconst 2, 1) := by decide +kernel
theorem dX12_drawn_121 : decode cX12_drawn 121 = .ok (.iload 9, 2) := by decide +kernel
theorem dX12_drawn_123 : decode cX12_drawn 123 = .ok (.imul, 1) := by decide +kernel
theorem dX12_drawn_124 : decode cX12_drawn 124 = .ok (.invokevirtual 271, 3) := by decide +kernel
theorem dX12_drawn_127 : decode cX12_drawn 127 = .ok (.invokevirtual 158, 3) := by decide +kernel
theorem dX12_drawn_130 : decode cX12_drawn 130 = .ok (.ifCond .eq 58, 3) := by decide +kernel
theorem dX12_drawn_133 : decode cX12_drawn 133 = .ok (.iload 8, 2) := by decide +kernel
theorem dX12_drawn_135 : decode cX12_drawn 135 = .ok (.aload_n 0, 1) := by decide +kernel
theorem dX12_drawn_136 : decode cX12_drawn 136 = .ok (.iload 8, 2) := by decide +kernel
theorem dX12_drawn_138 : decode cX12_drawn 138 = .ok (.aload_n 0, 1) := by decide +kernel
theorem dX12_drawn_139 : decode cX12_drawn 139 = .ok (.aload_n 0, 1) := by decide +kernel
theorem dX12_drawn_140 : decode cX12_drawn 140 = .ok (.iload_n 1, 1) := by decide +kernel
theorem dX12_drawn_141 : decode cX12_drawn 141 = .ok (.iconst 2, 1) := by decide +kernel
theorem dX12_drawn_142 : decode cX12_drawn 142 = .ok (.iload 9, 2) := by decide +kernel
theorem dX12_drawn_144 : decode cX12_drawn 144 = .ok (.imul, 1) := by decide +kernel
theorem dX12_drawn_145 : decode cX12_drawn 145 = .ok (.invokevirtual 271, 3) := by decide +kernel
theorem dX12_drawn_148 : decode cX12_drawn 148 = .ok (.iload 9, 2) := by decide +kernel
theorem dX12_drawn_150 : decode cX12_drawn 150 = .ok (.aload_n 0, 1) := by decide +kernel
theorem dX12_drawn_151 : decode cX12_drawn 151 = .ok (.getfield 28, 3) := by decide +kernel
theorem dX12_drawn_154 : decode cX12_drawn 154 = .ok (.invokevirtual 246, 3) := by decide +kernel
theorem dX12_drawn_157 : decode cX12_drawn 157 = .ok (.invokevirtual 378, 3) := by decide +kernel
theorem dX12_drawn_160 : decode cX12_drawn 160 = .ok (.isub, 1) := by decide +kernel
theorem dX12_drawn_161 : decode cX12_drawn 161 = .ok (.istore 8, 2) := by decide +kernel
theorem dX12_drawn_163 : decode cX12_drawn 163 = .ok (.iload 6, 2) := by decide +kernel
theorem dX12_drawn_165 : decode cX12_drawn 165 = .ok (.aload_n 0, 1) := by decide +kernel
theorem dX12_drawn_166 : decode cX12_drawn 166 = .ok (.getfield 21, 3) := by decide +kernel
theorem dX12_drawn_169 : decode cX12_drawn 169 = .ok (.aload_n 0, 1) := by decide +kernel
theorem dX12_drawn_170 : decode cX12_drawn 170 = .ok (.iload_n 1, 1) := by decide +kernel
theorem dX12_drawn_171 : decode cX12_drawn 171 = .ok (.iconst 2, 1) := by decide +kernel
theorem dX12_drawn_172 : decode cX12_drawn 172 = .ok (.iload 9, 2) := by decide +kernel
theorem dX12_drawn_174 : decode cX12_drawn 174 = .ok (.imul, 1) := by decide +kernel
theorem dX12_drawn_175 : decode cX12_drawn 175 = .ok (.invokevirtual 271, 3) := by decide +kernel
theorem dX12_drawn_178 : decode cX12_drawn 178 = .ok (.iaload, 1) := by decide +kernel
theorem dX12_drawn_179 : decode cX12_drawn 179 = .ok (.iadd, 1) := by decide +kernel
theorem dX12_drawn_180 : decode cX12_drawn 180 = .ok (.istore 6, 2) := by decide +kernel
theorem dX12_drawn_182 : decode cX12_drawn 182 = .ok (.iinc 9 1, 3) := by decide +kernel
theorem dX12_drawn_185 : decode cX12_drawn 185 = .ok (.goto (-89), 3) := by decide +kernel
theorem dX12_drawn_188 : decode cX12_drawn 188 = .ok (.iload 5, 2) := by decide +kernel
theorem dX12_drawn_190 : decode cX12_drawn 190 = .ok (.iload 8, 2) := by decide +kernel
theorem dX12_drawn_192 : decode cX12_drawn 192 = .ok (.iadd, 1) := by decide +kernel
theorem dX12_drawn_193 : decode cX12_drawn 193 = .ok (.istore 5, 2) := by decide +kernel
theorem dX12_drawn_195 : decode cX12_drawn 195 = .ok (.iinc 7 1, 3) := by decide +kernel
theorem dX12_drawn_198 : decode cX12_drawn 198 = .ok (.goto (-124), 3) := by decide +kernel
theorem dX12_drawn_201 : decode cX12_drawn 201 = .ok (.iload 4, 2) := by decide +kernel
theorem dX12_drawn_203 : decode cX12_drawn 203 = .ok (.ifCond .ne 8, 3) := by decide +kernel
theorem dX12_drawn_206 : decode cX12_drawn 206 = .ok (.iload 5, 2) := by decide +kernel
theorem dX12_drawn_208 : decode cX12_drawn 208 = .ok (.goto 13, 3) := by decide +kernel
theorem dX12_drawn_211 : decode cX12_drawn 211 = .ok (.iload 6, 2) := by decide +kernel
theorem dX12_drawn_213 : decode cX12_drawn 213 = .ok (.aload_n 0, 1) := by decide +kernel
theorem dX12_drawn_214 : decode cX12_drawn 214 = .ok (.getfield 31, 3) := by decide +kernel
theorem dX12_drawn_217 : decode cX12_drawn 217 = .ok (.iload 5, 2) := by decide +kernel
theorem dX12_drawn_219 : decode cX12_drawn 219 = .ok (.imul, 1) := by decide +kernel
theorem dX12_drawn_220 : decode cX12_drawn 220 = .ok (.iadd, 1) := by decide +kernel
theorem dX12_drawn_221 : decode cX12_drawn 221 = .ok (.ireturn, 1) := by decide +kernel
theorem dX12_open_0 : decode cX12_open 0 = .ok (.iload_n 1, 1) := by decide +kernel
theorem dX12_open_1 : decode cX12_open 1 = .ok (.invokestatic 155, 3) := by decide +kernel
theorem dX12_open_4 : decode cX12_open 4 = .ok (.ifCond .ne 5, 3) := by decide +kernel
theorem dX12_open_7 : decode cX12_open 7 = .ok (.iconst (-1), 1) := by decide +kernel
theorem dX12_open_8 : decode cX12_open 8 = .ok (.ireturn, 1) := by decide +kernel
theorem dX12_open_9 : decode cX12_open 9 = .ok (.aload_n 0, 1) := by decide +kernel
theorem dX12_open_10 : decode cX12_open 10 = .ok (.getfield 97, 3) := by decide +kernel
theorem dX12_open_13 : decode cX12_open 13 = .ok (.iconst 5, 1) := by decide +kernel
theorem dX12_open_14 : decode cX12_open 14 = .ok (.iaload, 1) := by decide +kernel
theorem dX12_open_15 : decode cX12_open 15 = .ok (.ifCond .lt 6, 3) := by decide +kernel
theorem dX12_open_18 : decode cX12_open 18 = .ok (.bipush (-5), 2) := by decide +kernel
theorem dX12_open_20 : decode cX12_open 20 = .ok (.ireturn, 1) := by decide +kernel
theorem dX12_open_21 : decode cX12_open 21 = .ok (.aload_n 0, 1) := by decide +kernel
theorem dX12_open_22 : decode cX12_open 22 = .ok (.iload_n 2, 1) := by decide +kernel
theorem dX12_open_23 : decode cX12_open 23 = .ok (.putfield 368, 3) := by decide +kernel
theorem dX12_open_26 : decode cX12_open 26 = .ok (.aload_n 0, 1) := by decide +kernel
theorem dX12_open_27 : decode cX12_open 27 = .ok (.getfield 97, 3) := by decide +kernel
theorem dX12_open_30 : decode cX12_open 30 = .ok (.iconst 5, 1) := by decide +kernel
theorem dX12_open_31 : decode cX12_open 31 = .ok (.aload_n 0, 1) := by decide +kernel
theorem dX12_open_32 : decode cX12_open 32 = .ok (.iload_n 1, 1) := by decide +kernel
theorem dX12_open_33 : decode cX12_open 33 = .ok (.invokevirtual 375, 3) := by decide +kernel
theorem dX12_open_36 : decode cX12_open 36 = .ok (.iastore, 1) := by decide +kernel
theorem dX12_open_37 : decode cX12_open 37 = .ok (.aload_n 0, 1) := by decide +kernel
theorem dX12_open_38 : decode cX12_open 38 = .ok (.getfield 97, 3) := by decide +kernel
theorem dX12_open_41 : decode cX12_open 41 = .ok (.bipush 6, 2) := by decide +kernel
theorem dX12_open_43 : decode cX12_open 43 = .ok (.iconst 0, 1) := by decide +kernel
theorem dX12_open_44 : decode cX12_open 44 = .ok (.iastore, 1) := by decide +kernel
theorem dX12_open_45 : decode cX12_open 45 = .ok (.aload_n 0, 1) := by decide +kernel
theorem dX12_open_46 : decode cX12_open 46 = .ok (.getfield 97, 3) := by decide +kernel
theorem dX12_open_49 : decode cX12_open 49 = .ok (.bipush 7, 2) := by decide +kernel
theorem dX12_open_51 : decode cX12_open 51 = .ok (.aload_n 0, 1) := by decide +kernel
theorem dX12_open_52 : decode cX12_open 52 = .ok (.getfield 368, 3) := by decide +kernel
theorem dX12_open_55 : decode cX12_open 55 = .ok (.iastore, 1) := by decide +kernel
theorem dX12_open_56 : decode cX12_open 56 = .ok (.iload_n 1, 1) := by decide +kernel
theorem dX12_open_57 : decode cX12_open 57 = .ok (.ireturn, 1) := by decide +kernel
theorem dX12_look_0 : decode cX12_look 0 = .ok (.aload_n 0, 1) := by decide +kernel
theorem dX12_look_1 : decode cX12_look 1 = .ok (.iload_n 1, 1) := by decide +kernel
theorem dX12_look_2 : decode cX12_look 2 = .ok (.invokevirtual 158, 3) := by decide +kernel
theorem dX12_look_5 : decode cX12_look 5 = .ok (.ifCond .ne 5, 3) := by decide +kernel
theorem dX12_look_8 : decode cX12_look 8 = .ok (.iconst (-1), 1) := by decide +kernel
theorem dX12_look_9 : decode cX12_look 9 = .ok (.ireturn, 1) := by decide +kernel
theorem dX12_look_10 : decode cX12_look 10 = .ok (.aload_n 0, 1) := by decide +kernel
theorem dX12_look_11 : decode cX12_look 11 = .ok (.getfield 97, 3) := by decide +kernel
theorem dX12_look_14 : decode cX12_look 14 = .ok (.iconst 5, 1) := by decide +kernel
theorem dX12_look_15 : decode cX12_look 15 = .ok (.iaload, 1) := by decide +kernel
theorem dX12_look_16 : decode cX12_look 16 = .ok (.ifCond .ge 6, 3) := by decide +kernel
theorem dX12_look_19 : decode cX12_look 19 = .ok (.bipush (-5), 2) := by decide +kernel
theorem dX12_look_21 : decode cX12_look 21 = .ok (.ireturn, 1) := by decide +kernel
theorem dX12_look_22 : decode cX12_look 22 = .ok (.aload_n 0, 1) := by decide +kernel
theorem dX12_look_23 : decode cX12_look 23 = .ok (.aload_n 0, 1) := by decide +kernel
theorem dX12_look_24 : decode cX12_look 24 = .ok (.getfield 97, 3) := by decide +kernel
theorem dX12_look_27 : decode cX12_look 27 = .ok (.bipush 7, 2) := by decide +kernel
theorem dX12_look_29 : decode cX12_look 29 = .ok (.iaload, 1) := by decide +kernel
theorem dX12_look_30 : decode cX12_look 30 = .ok (.putfield 368, 3) := by decide +kernel
theorem dX12_look_33 : decode cX12_look 33 = .ok (.aload_n 0, 1) := by decide +kernel
theorem dX12_look_34 : decode cX12_look 34 = .ok (.aload_n 0, 1) := by decide +kernel
theorem dX12_look_35 : decode cX12_look 35 = .ok (.getfield 97, 3) := by decide +kernel
theorem dX12_look_38 : decode cX12_look 38 = .ok (.iconst 5, 1) := by decide +kernel
theorem dX12_look_39 : decode cX12_look 39 = .ok (.iaload, 1) := by decide +kernel
theorem dX12_look_40 : decode cX12_look 40 = .ok (.aload_n 0, 1) := by decide +kernel
theorem dX12_look_41 : decode cX12_look 41 = .ok (.iload_n 1, 1) := by decide +kernel
theorem dX12_look_42 : decode cX12_look 42 = .ok (.aload_n 0, 1) := by decide +kernel
theorem dX12_look_43 : decode cX12_look 43 = .ok (.getfield 97, 3) := by decide +kernel
theorem dX12_look_46 : decode cX12_look 46 = .ok (.bipush 6, 2) := by decide +kernel
theorem dX12_look_48 : decode cX12_look 48 = .ok (.iaload, 1) := by decide +kernel
theorem dX12_look_49 : decode cX12_look 49 = .ok (.aload_n 0, 1) := by decide +kernel
theorem dX12_look_50 : decode cX12_look 50 = .ok (.getfield 28, 3) := by decide +kernel
theorem dX12_look_53 : decode cX12_look 53 = .ok (.invokevirtual 246, 3) := by decide +kernel
theorem dX12_look_56 : decode cX12_look 56 = .ok (.invokevirtual 378, 3) := by decide +kernel
theorem dX12_look_59 : decode cX12_look 59 = .ok (.istore_n 2, 1) := by decide +kernel
theorem dX12_look_60 : decode cX12_look 60 = .ok (.aload_n 0, 1) := by decide +kernel
theorem dX12_look_61 : decode cX12_look 61 = .ok (.getfield 97, 3) := by decide +kernel
theorem dX12_look_64 : decode cX12_look 64 = .ok (.bipush 7, 2) := by decide +kernel
theorem dX12_look_66 : decode cX12_look 66 = .ok (.aload_n 0, 1) := by decide +kernel
theorem dX12_look_67 : decode cX12_look 67 = .ok (.getfield 368, 3) := by decide +kernel
theorem dX12_look_70 : decode cX12_look 70 = .ok (.iastore, 1) := by decide +kernel
theorem dX12_look_71 : decode cX12_look 71 = .ok (.aload_n 0, 1) := by decide +kernel
theorem dX12_look_72 : decode cX12_look 72 = .ok (.getfield 97, 3) := by decide +kernel
theorem dX12_look_75 : decode cX12_look 75 = .ok (.iconst 5, 1) := by decide +kernel
theorem dX12_look_76 : decode cX12_look 76 = .ok (.dup2, 1) := by decide +kernel
theorem dX12_look_77 : decode cX12_look 77 = .ok (.iaload, 1) := by decide +kernel
theorem dX12_look_78 : decode cX12_look 78 = .ok (.iload_n 2, 1) := by decide +kernel
theorem dX12_look_79 : decode cX12_look 79 = .ok (.isub, 1) := by decide +kernel
theorem dX12_look_80 : decode cX12_look 80 = .ok (.iastore, 1) := by decide +kernel
theorem dX12_look_81 : decode cX12_look 81 = .ok (.aload_n 0, 1) := by decide +kernel
theorem dX12_look_82 : decode cX12_look 82 = .ok (.getfield 97, 3) := by decide +kernel
theorem dX12_look_85 : decode cX12_look 85 = .ok (.bipush 6, 2) := by decide +kernel
theorem dX12_look_87 : decode cX12_look 87 = .ok (.dup2, 1) := by decide +kernel
theorem dX12_look_88 : decode cX12_look 88 = .ok (.iaload, 1) := by decide +kernel
theorem dX12_look_89 : decode cX12_look 89 = .ok (.iconst 1, 1) := by decide +kernel
theorem dX12_look_90 : decode cX12_look 90 = .ok (.iadd, 1) := by decide +kernel
theorem dX12_look_91 : decode cX12_look 91 = .ok (.iastore, 1) := by decide +kernel
theorem dX12_look_92 : decode cX12_look 92 = .ok (.aload_n 0, 1) := by decide +kernel
theorem dX12_look_93 : decode cX12_look 93 = .ok (.getfield 97, 3) := by decide +kernel
theorem dX12_look_96 : decode cX12_look 96 = .ok (.iconst 1, 1) := by decide +kernel
theorem dX12_look_97 : decode cX12_look 97 = .ok (.dup2, 1) := by decide +kernel
theorem dX12_look_98 : decode cX12_look 98 = .ok (.iaload, 1) := by decide +kernel
theorem dX12_look_99 : decode cX12_look 99 = .ok (.iconst 1, 1) := by decide +kernel
theorem dX12_look_100 : decode cX12_look 100 = .ok (.iadd, 1) := by decide +kernel
theorem dX12_look_101 : decode cX12_look 101 = .ok (.iastore, 1) := by decide +kernel
theorem dX12_look_102 : decode cX12_look 102 = .ok (.aload_n 0, 1) := by decide +kernel
theorem dX12_look_103 : decode cX12_look 103 = .ok (.getfield 97, 3) := by decide +kernel
theorem dX12_look_106 : decode cX12_look 106 = .ok (.iconst 2, 1) := by decide +kernel
theorem dX12_look_107 : decode cX12_look 107 = .ok (.dup2, 1) := by decide +kernel
theorem dX12_look_108 : decode cX12_look 108 = .ok (.iaload, 1) := by decide +kernel
theorem dX12_look_109 : decode cX12_look 109 = .ok (.iload_n 2, 1) := by decide +kernel
theorem dX12_look_110 : decode cX12_look 110 = .ok (.iadd, 1) := by decide +kernel
theorem dX12_look_111 : decode cX12_look 111 = .ok (.iastore, 1) := by decide +kernel
theorem dX12_look_112 : decode cX12_look 112 = .ok (.aload_n 0, 1) := by decide +kernel
theorem dX12_look_113 : decode cX12_look 113 = .ok (.getfield 97, 3) := by decide +kernel
theorem dX12_look_116 : decode cX12_look 116 = .ok (.iconst 4, 1) := by decide +kernel
theorem dX12_look_117 : decode cX12_look 117 = .ok (.dup2, 1) := by decide +kernel
theorem dX12_look_118 : decode cX12_look 118 = .ok (.iaload, 1) := by decide +kernel
theorem dX12_look_119 : decode cX12_look 119 = .ok (.aload_n 0, 1) := by decide +kernel
theorem dX12_look_120 : decode cX12_look 120 = .ok (.getfield 21, 3) := by decide +kernel
theorem dX12_look_123 : decode cX12_look 123 = .ok (.iload_n 1, 1) := by decide +kernel
theorem dX12_look_124 : decode cX12_look 124 = .ok (.iaload, 1) := by decide +kernel
theorem dX12_look_125 : decode cX12_look 125 = .ok (.iadd, 1) := by decide +kernel
theorem dX12_look_126 : decode cX12_look 126 = .ok (.iastore, 1) := by decide +kernel
theorem dX12_look_127 : decode cX12_look 127 = .ok (.iload_n 2, 1) := by decide +kernel
theorem dX12_look_128 : decode cX12_look 128 = .ok (.ireturn, 1) := by decide +kernel
theorem dX12_eat_0 : decode cX12_eat 0 = .ok (.aload_n 0, 1) := by decide +kernel
theorem dX12_eat_1 : decode cX12_eat 1 = .ok (.getfield 97, 3) := by decide +kernel
theorem dX12_eat_4 : decode cX12_eat 4 = .ok (.iconst 5, 1) := by decide +kernel
theorem dX12_eat_5 : decode cX12_eat 5 = .ok (.iaload, 1) := by decide +kernel
theorem dX12_eat_6 : decode cX12_eat 6 = .ok (.ifCond .ge 6, 3) := by decide +kernel
theorem dX12_eat_9 : decode cX12_eat 9 = .ok (.bipush (-5), 2) := by decide +kernel
theorem dX12_eat_11 : decode cX12_eat 11 = .ok (.ireturn, 1) := by decide +kernel
theorem dX12_eat_12 : decode cX12_eat 12 = .ok (.aload_n 0, 1) := by decide +kernel
theorem dX12_eat_13 : decode cX12_eat 13 = .ok (.getfield 97, 3) := by decide +kernel
theorem dX12_eat_16 : decode cX12_eat 16 = .ok (.iconst 5, 1) := by decide +kernel
theorem dX12_eat_17 : decode cX12_eat 17 = .ok (.iaload, 1) := by decide +kernel
theorem dX12_eat_18 : decode cX12_eat 18 = .ok (.istore_n 1, 1) := by decide +kernel
theorem dX12_eat_19 : decode cX12_eat 19 = .ok (.aload_n 0, 1) := by decide +kernel
theorem dX12_eat_20 : decode cX12_eat 20 = .ok (.getfield 97, 3) := by decide +kernel
theorem dX12_eat_23 : decode cX12_eat 23 = .ok (.iconst 0, 1) := by decide +kernel
theorem dX12_eat_24 : decode cX12_eat 24 = .ok (.dup2, 1) := by decide +kernel
theorem dX12_eat_25 : decode cX12_eat 25 = .ok (.iaload, 1) := by decide +kernel
theorem dX12_eat_26 : decode cX12_eat 26 = .ok (.iconst 1, 1) := by decide +kernel
theorem dX12_eat_27 : decode cX12_eat 27 = .ok (.iadd, 1) := by decide +kernel
theorem dX12_eat_28 : decode cX12_eat 28 = .ok (.iastore, 1) := by decide +kernel
theorem dX12_eat_29 : decode cX12_eat 29 = .ok (.aload_n 0, 1) := by decide +kernel
theorem dX12_eat_30 : decode cX12_eat 30 = .ok (.getfield 97, 3) := by decide +kernel
theorem dX12_eat_33 : decode cX12_eat 33 = .ok (.iconst 3, 1) := by decide +kernel
theorem dX12_eat_34 : decode cX12_eat 34 = .ok (.dup2, 1) := by decide +kernel
theorem dX12_eat_35 : decode cX12_eat 35 = .ok (.iaload, 1) := by decide +kernel
theorem dX12_eat_36 : decode cX12_eat 36 = .ok (.iload_n 1, 1) := by decide +kernel
theorem dX12_eat_37 : decode cX12_eat 37 = .ok (.iadd, 1) := by decide +kernel
theorem dX12_eat_38 : decode cX12_eat 38 = .ok (.iastore, 1) := by decide +kernel
theorem dX12_eat_39 : decode cX12_eat 39 = .ok (.aload_n 0, 1) := by decide +kernel
theorem dX12_eat_40 : decode cX12_eat 40 = .ok (.getfield 97, 3) := by decide +kernel
theorem dX12_eat_43 : decode cX12_eat 43 = .ok (.iconst 4, 1) := by decide +kernel
theorem dX12_eat_44 : decode cX12_eat 44 = .ok (.dup2, 1) := by decide +kernel
theorem dX12_eat_45 : decode cX12_eat 45 = .ok (.iaload, 1) := by decide +kernel
theorem dX12_eat_46 : decode cX12_eat 46 = .ok (.aload_n 0, 1) := by decide +kernel
theorem dX12_eat_47 : decode cX12_eat 47 = .ok (.getfield 31, 3) := by decide +kernel
theorem dX12_eat_50 : decode cX12_eat 50 = .ok (.iload_n 1, 1) := by decide +kernel
theorem dX12_eat_51 : decode cX12_eat 51 = .ok (.imul, 1) := by decide +kernel
theorem dX12_eat_52 : decode cX12_eat 52 = .ok (.iadd, 1) := by decide +kernel
theorem dX12_eat_53 : decode cX12_eat 53 = .ok (.iastore, 1) := by decide +kernel
theorem dX12_eat_54 : decode cX12_eat 54 = .ok (.aload_n 0, 1) := by decide +kernel
theorem dX12_eat_55 : decode cX12_eat 55 = .ok (.getfield 97, 3) := by decide +kernel
theorem dX12_eat_58 : decode cX12_eat 58 = .ok (.iconst 5, 1) := by decide +kernel
theorem dX12_eat_59 : decode cX12_eat 59 = .ok (.iconst (-1), 1) := by decide +kernel
theorem dX12_eat_60 : decode cX12_eat 60 = .ok (.iastore, 1) := by decide +kernel
theorem dX12_eat_61 : decode cX12_eat 61 = .ok (.iload_n 1, 1) := by decide +kernel
theorem dX12_eat_62 : decode cX12_eat 62 = .ok (.ireturn, 1) := by decide +kernel
theorem dX12_led_0 : decode cX12_led 0 = .ok (.iload_n 1, 1) := by decide +kernel
theorem dX12_led_1 : decode cX12_led 1 = .ok (.iconst 5, 1) := by decide +kernel
theorem dX12_led_2 : decode cX12_led 2 = .ok (.if_icmp .ne 25, 3) := by decide +kernel
theorem dX12_led_5 : decode cX12_led 5 = .ok (.aload_n 0, 1) := by decide +kernel
theorem dX12_led_6 : decode cX12_led 6 = .ok (.getfield 97, 3) := by decide +kernel
theorem dX12_led_9 : decode cX12_led 9 = .ok (.iconst 5, 1) := by decide +kernel
theorem dX12_led_10 : decode cX12_led 10 = .ok (.iaload, 1) := by decide +kernel
theorem dX12_led_11 : decode cX12_led 11 = .ok (.ifCond .ge 8, 3) := by decide +kernel
theorem dX12_led_14 : decode cX12_led 14 = .ok (.bipush (-5), 2) := by decide +kernel
theorem dX12_led_16 : decode cX12_led 16 = .ok (.goto 10, 3) := by decide +kernel
theorem dX12_led_19 : decode cX12_led 19 = .ok (.aload_n 0, 1) := by decide +kernel
theorem dX12_led_20 : decode cX12_led 20 = .ok (.getfield 97, 3) := by decide +kernel
theorem dX12_led_23 : decode cX12_led 23 = .ok (.bipush 6, 2) := by decide +kernel
theorem dX12_led_25 : decode cX12_led 25 = .ok (.iaload, 1) := by decide +kernel
theorem dX12_led_26 : decode cX12_led 26 = .ok (.ireturn, 1) := by decide +kernel
theorem dX12_led_27 : decode cX12_led 27 = .ok (.iload_n 1, 1) := by decide +kernel
theorem dX12_led_28 : decode cX12_led 28 = .ok (.iconst 0, 1) := by decide +kernel
theorem dX12_led_29 : decode cX12_led 29 = .ok (.iconst 4, 1) := by decide +kernel
theorem dX12_led_30 : decode cX12_led 30 = .ok (.invokestatic 124, 3) := by decide +kernel
theorem dX12_led_33 : decode cX12_led 33 = .ok (.ifCond .eq 12, 3) := by decide +kernel
theorem dX12_led_36 : decode cX12_led 36 = .ok (.aload_n 0, 1) := by decide +kernel
theorem dX12_led_37 : decode cX12_led 37 = .ok (.getfield 97, 3) := by decide +kernel
theorem dX12_led_40 : decode cX12_led 40 = .ok (.iload_n 1, 1) := by decide +kernel
theorem dX12_led_41 : decode cX12_led 41 = .ok (.iaload, 1) := by decide +kernel
theorem dX12_led_42 : decode cX12_led 42 = .ok (.goto 4, 3) := by decide +kernel
theorem dX12_led_45 : decode cX12_led 45 = .ok (.iconst (-1), 1) := by decide +kernel
theorem dX12_led_46 : decode cX12_led 46 = .ok (.ireturn, 1) := by decide +kernel
theorem dX12_image_0 : decode cX12_image 0 = .ok (.aload_n 0, 1) := by decide +kernel
theorem dX12_image_1 : decode cX12_image 1 = .ok (.iconst 1, 1) := by decide +kernel
theorem dX12_image_2 : decode cX12_image 2 = .ok (.putfield 381, 3) := by decide +kernel
theorem dX12_image_5 : decode cX12_image 5 = .ok (.iconst 0, 1) := by decide +kernel
theorem dX12_image_6 : decode cX12_image 6 = .ok (.istore_n 1, 1) := by decide +kernel
theorem dX12_image_7 : decode cX12_image 7 = .ok (.iload_n 1, 1) := by decide +kernel
theorem dX12_image_8 : decode cX12_image 8 = .ok (.bipush 8, 2) := by decide +kernel
theorem dX12_image_10 : decode cX12_image 10 = .ok (.if_icmp .ge 21, 3) := by decide +kernel
theorem dX12_image_13 : decode cX12_image 13 = .ok (.aload_n 0, 1) := by decide +kernel
theorem dX12_image_14 : decode cX12_image 14 = .ok (.getfield 100, 3) := by decide +kernel
theorem dX12_image_17 : decode cX12_image 17 = .ok (.iload_n 1, 1) := by decide +kernel
theorem dX12_image_18 : decode cX12_image 18 = .ok (.aload_n 0, 1) := by decide +kernel
theorem dX12_image_19 : decode cX12_image 19 = .ok (.getfield 97, 3) := by decide +kernel
theorem dX12_image_22 : decode cX12_image 22 = .ok (.iload_n 1, 1) := by decide +kernel
theorem dX12_image_23 : decode cX12_image 23 = .ok (.iaload, 1) := by decide +kernel
theorem dX12_image_24 : decode cX12_image 24 = .ok (.iastore, 1) := by decide +kernel
theorem dX12_image_25 : decode cX12_image 25 = .ok (.iinc 1 1, 3) := by decide +kernel
theorem dX12_image_28 : decode cX12_image 28 = .ok (.goto (-21), 3) := by decide +kernel
theorem dX12_image_31 : decode cX12_image 31 = .ok (.aload_n 0, 1) := by decide +kernel
theorem dX12_image_32 : decode cX12_image 32 = .ok (.getfield 97, 3) := by decide +kernel
theorem dX12_image_35 : decode cX12_image 35 = .ok (.iconst 0, 1) := by decide +kernel
theorem dX12_image_36 : decode cX12_image 36 = .ok (.iaload, 1) := by decide +kernel
theorem dX12_image_37 : decode cX12_image 37 = .ok (.ireturn, 1) := by decide +kernel
theorem dX12_back_0 : decode cX12_back 0 = .ok (.aload_n 0, 1) := by decide +kernel
theorem dX12_back_1 : decode cX12_back 1 = .ok (.getfield 381, 3) := by decide +kernel
theorem dX12_back_4 : decode cX12_back 4 = .ok (.ifCond .ne 6, 3) := by decide +kernel
theorem dX12_back_7 : decode cX12_back 7 = .ok (.bipush (-5), 2) := by decide +kernel
theorem dX12_back_9 : decode cX12_back 9 = .ok (.ireturn, 1) := by decide +kernel
theorem dX12_back_10 : decode cX12_back 10 = .ok (.iconst 0, 1) := by decide +kernel
theorem dX12_back_11 : decode cX12_back 11 = .ok (.istore_n 1, 1) := by decide +kernel
theorem dX12_back_12 : decode cX12_back 12 = .ok (.iload_n 1, 1) := by decide +kernel
theorem dX12_back_13 : decode cX12_back 13 = .ok (.bipush 8, 2) := by decide +kernel
theorem dX12_back_15 : decode cX12_back 15 = .ok (.if_icmp .ge 21, 3) := by decide +kernel
theorem dX12_back_18 : decode cX12_back 18 = .ok (.aload_n 0, 1) := by decide +kernel
theorem dX12_back_19 : decode cX12_back 19 = .ok (.getfield 97, 3) := by decide +kernel
theorem dX12_back_22 : decode cX12_back 22 = .ok (.iload_n 1, 1) := by decide +kernel
theorem dX12_back_23 : decode cX12_back 23 = .ok (.aload_n 0, 1) := by decide +kernel
theorem dX12_back_24 : decode cX12_back 24 = .ok (.getfield 100, 3) := by decide +kernel
theorem dX12_back_27 : decode cX12_back 27 = .ok (.iload_n 1, 1) := by decide +kernel
theorem dX12_back_28 : decode cX12_back 28 = .ok (.iaload, 1) := by decide +kernel
theorem dX12_back_29 : decode cX12_back 29 = .ok (.iastore, 1) := by decide +kernel
theorem dX12_back_30 : decode cX12_back 30 = .ok (.iinc 1 1, 3) := by decide +kernel
theorem dX12_back_33 : decode cX12_back 33 = .ok (.goto (-21), 3) := by decide +kernel
theorem dX12_back_36 : decode cX12_back 36 = .ok (.aload_n 0, 1) := by decide +kernel
theorem dX12_back_37 : decode cX12_back 37 = .ok (.getfield 97, 3) := by decide +kernel
theorem dX12_back_40 : decode cX12_back 40 = .ok (.iconst 0, 1) := by decide +kernel
theorem dX12_back_41 : decode cX12_back 41 = .ok (.iaload, 1) := by decide +kernel
theorem dX12_back_42 : decode cX12_back 42 = .ok (.ireturn, 1) := by decide +kernel
theorem dX12_isBody_0 : decode cX12_isBody 0 = .ok (.iload_n 1, 1) := by decide +kernel
theorem dX12_isBody_1 : decode cX12_isBody 1 = .ok (.iconst 0, 1) := by decide +kernel
theorem dX12_isBody_2 : decode cX12_isBody 2 = .ok (.aload_n 0, 1) := by decide +kernel
theorem dX12_isBody_3 : decode cX12_isBody 3 = .ok (.getfield 384, 3) := by decide +kernel
theorem dX12_isBody_6 : decode cX12_isBody 6 = .ok (.iconst 1, 1) := by decide +kernel
theorem dX12_isBody_7 : decode cX12_isBody 7 = .ok (.isub, 1) := by decide +kernel
theorem dX12_isBody_8 : decode cX12_isBody 8 = .ok (.invokestatic 124, 3) := by decide +kernel
theorem dX12_isBody_11 : decode cX12_isBody 11 = .ok (.ireturn, 1) := by decide +kernel
theorem dX12_ran_0 : decode cX12_ran 0 = .ok (.aload_n 0, 1) := by decide +kernel
theorem dX12_ran_1 : decode cX12_ran 1 = .ok (.getfield 387, 3) := by decide +kernel
theorem dX12_ran_4 : decode cX12_ran 4 = .ok (.bipush 24, 2) := by decide +kernel
theorem dX12_ran_6 : decode cX12_ran 6 = .ok (.if_icmp .ge 13, 3) := by decide +kernel
theorem dX12_ran_9 : decode cX12_ran 9 = .ok (.aload_n 0, 1) := by decide +kernel
theorem dX12_ran_10 : decode cX12_ran 10 = .ok (.getfield 106, 3) := by decide +kernel
theorem dX12_ran_13 : decode cX12_ran 13 = .ok (.aload_n 0, 1) := by decide +kernel
theorem dX12_ran_14 : decode cX12_ran 14 = .ok (.getfield 387, 3) := by decide +kernel
theorem dX12_ran_17 : decode cX12_ran 17 = .ok (.iload_n 1, 1) := by decide +kernel
theorem dX12_ran_18 : decode cX12_ran 18 = .ok (.iastore, 1) := by decide +kernel
theorem dX12_ran_19 : decode cX12_ran 19 = .ok (.aload_n 0, 1) := by decide +kernel
theorem dX12_ran_20 : decode cX12_ran 20 = .ok (.dup, 1) := by decide +kernel
theorem dX12_ran_21 : decode cX12_ran 21 = .ok (.getfield 387, 3) := by decide +kernel
theorem dX12_ran_24 : decode cX12_ran 24 = .ok (.iconst 1, 1) := by decide +kernel
theorem dX12_ran_25 : decode cX12_ran 25 = .ok (.iadd, 1) := by decide +kernel
theorem dX12_ran_26 : decode cX12_ran 26 = .ok (.putfield 387, 3) := by decide +kernel
theorem dX12_ran_29 : decode cX12_ran 29 = .ok (.return_, 1) := by decide +kernel
theorem dX12_trace_0 : decode cX12_trace 0 = .ok (.iload_n 1, 1) := by decide +kernel
theorem dX12_trace_1 : decode cX12_trace 1 = .ok (.ifCond .lt 26, 3) := by decide +kernel
theorem dX12_trace_4 : decode cX12_trace 4 = .ok (.iload_n 1, 1) := by decide +kernel
theorem dX12_trace_5 : decode cX12_trace 5 = .ok (.aload_n 0, 1) := by decide +kernel
theorem dX12_trace_6 : decode cX12_trace 6 = .ok (.getfield 387, 3) := by decide +kernel
theorem dX12_trace_9 : decode cX12_trace 9 = .ok (.if_icmp .ge 18, 3) := by decide +kernel
theorem dX12_trace_12 : decode cX12_trace 12 = .ok (.iload_n 1, 1) := by decide +kernel
theorem dX12_trace_13 : decode cX12_trace 13 = .ok (.bipush 24, 2) := by decide +kernel
theorem dX12_trace_15 : decode cX12_trace 15 = .ok (.if_icmp .ge 12, 3) := by decide +kernel
theorem dX12_trace_18 : decode cX12_trace 18 = .ok (.aload_n 0, 1) := by decide +kernel
theorem dX12_trace_19 : decode cX12_trace 19 = .ok (.getfield 106, 3) := by decide +kernel
theorem dX12_trace_22 : decode cX12_trace 22 = .ok (.iload_n 1, 1) := by decide +kernel
theorem dX12_trace_23 : decode cX12_trace 23 = .ok (.iaload, 1) := by decide +kernel
theorem dX12_trace_24 : decode cX12_trace 24 = .ok (.goto 4, 3) := by decide +kernel
theorem dX12_trace_27 : decode cX12_trace 27 = .ok (.iconst (-1), 1) := by decide +kernel
theorem dX12_trace_28 : decode cX12_trace 28 = .ok (.ireturn, 1) := by decide +kernel
theorem dX12_body_0 : decode cX12_body 0 = .ok (.iload_n 1, 1) := by decide +kernel
theorem dX12_body_1 : decode cX12_body 1 = .ok (.iconst 0, 1) := by decide +kernel
theorem dX12_body_2 : decode cX12_body 2 = .ok (.bipush 7, 2) := by decide +kernel
theorem dX12_body_4 : decode cX12_body 4 = .ok (.invokestatic 124, 3) := by decide +kernel
theorem dX12_body_7 : decode cX12_body 7 = .ok (.ifCond .ne 5, 3) := by decide +kernel
theorem dX12_body_10 : decode cX12_body 10 = .ok (.iconst (-1), 1) := by decide +kernel
theorem dX12_body_11 : decode cX12_body 11 = .ok (.ireturn, 1) := by decide +kernel
theorem dX12_body_12 : decode cX12_body 12 = .ok (.aload_n 0, 1) := by decide +kernel
theorem dX12_body_13 : decode cX12_body 13 = .ok (.getfield 384, 3) := by decide +kernel
theorem dX12_body_16 : decode cX12_body 16 = .ok (.bipush 50, 2) := by decide +kernel
theorem dX12_body_18 : decode cX12_body 18 = .ok (.if_icmp .ne 6, 3) := by decide +kernel
theorem dX12_body_21 : decode cX12_body 21 = .ok (.bipush (-3), 2) := by decide +kernel
theorem dX12_body_23 : decode cX12_body 23 = .ok (.ireturn, 1) := by decide +kernel
theorem dX12_body_24 : decode cX12_body 24 = .ok (.aload_n 0, 1) := by decide +kernel
theorem dX12_body_25 : decode cX12_body 25 = .ok (.getfield 103, 3) := by decide +kernel
theorem dX12_body_28 : decode cX12_body 28 = .ok (.aload_n 0, 1) := by decide +kernel
theorem dX12_body_29 : decode cX12_body 29 = .ok (.getfield 384, 3) := by decide +kernel
theorem dX12_body_32 : decode cX12_body 32 = .ok (.iload_n 1, 1) := by decide +kernel
theorem dX12_body_33 : decode cX12_body 33 = .ok (.iastore, 1) := by decide +kernel
theorem dX12_body_34 : decode cX12_body 34 = .ok (.aload_n 0, 1) := by decide +kernel
theorem dX12_body_35 : decode cX12_body 35 = .ok (.dup, 1) := by decide +kernel
theorem dX12_body_36 : decode cX12_body 36 = .ok (.getfield 384, 3) := by decide +kernel
theorem dX12_body_39 : decode cX12_body 39 = .ok (.iconst 1, 1) := by decide +kernel
theorem dX12_body_40 : decode cX12_body 40 = .ok (.iadd, 1) := by decide +kernel
theorem dX12_body_41 : decode cX12_body 41 = .ok (.putfield 384, 3) := by decide +kernel
theorem dX12_body_44 : decode cX12_body 44 = .ok (.aload_n 0, 1) := by decide +kernel
theorem dX12_body_45 : decode cX12_body 45 = .ok (.getfield 384, 3) := by decide +kernel
theorem dX12_body_48 : decode cX12_body 48 = .ok (.iconst 1, 1) := by decide +kernel
theorem dX12_body_49 : decode cX12_body 49 = .ok (.isub, 1) := by decide +kernel
theorem dX12_body_50 : decode cX12_body 50 = .ok (.ireturn, 1) := by decide +kernel
theorem dX12_isUnder_0 : decode cX12_isUnder 0 = .ok (.iload_n 1, 1) := by decide +kernel
theorem dX12_isUnder_1 : decode cX12_isUnder 1 = .ok (.ifCond .eq 55, 3) := by decide +kernel
theorem dX12_isUnder_4 : decode cX12_isUnder 4 = .ok (.iload_n 0, 1) := by decide +kernel
theorem dX12_isUnder_5 : decode cX12_isUnder 5 = .ok (.iload_n 1, 1) := by decide +kernel
theorem dX12_isUnder_6 : decode cX12_isUnder 6 = .ok (.if_icmp .eq 50, 3) := by decide +kernel
theorem dX12_isUnder_9 : decode cX12_isUnder 9 = .ok (.iload_n 1, 1) := by decide +kernel
theorem dX12_isUnder_10 : decode cX12_isUnder 10 = .ok (.iconst 1, 1) := by decide +kernel
theorem dX12_isUnder_11 : decode cX12_isUnder 11 = .ok (.if_icmp .ne 8, 3) := by decide +kernel
theorem dX12_isUnder_14 : decode cX12_isUnder 14 = .ok (.iload_n 0, 1) := by decide +kernel
theorem dX12_isUnder_15 : decode cX12_isUnder 15 = .ok (.iconst 4, 1) := by decide +kernel
theorem dX12_isUnder_16 : decode cX12_isUnder 16 = .ok (.if_icmp .eq 40, 3) := by decide +kernel
theorem dX12_isUnder_19 : decode cX12_isUnder 19 = .ok (.iload_n 1, 1) := by decide +kernel
theorem dX12_isUnder_20 : decode cX12_isUnder 20 = .ok (.iconst 2, 1) := by decide +kernel
theorem dX12_isUnder_21 : decode cX12_isUnder 21 = .ok (.if_icmp .ne 13, 3) := by decide +kernel
theorem dX12_isUnder_24 : decode cX12_isUnder 24 = .ok (.iload_n 0, 1) := by decide +kernel
theorem dX12_isUnder_25 : decode cX12_isUnder 25 = .ok (.iconst 3, 1) := by decide +kernel
theorem dX12_isUnder_26 : decode cX12_isUnder 26 = .ok (.if_icmp .eq 30, 3) := by decide +kernel
theorem dX12_isUnder_29 : decode cX12_isUnder 29 = .ok (.iload_n 0, 1) := by decide +kernel
theorem dX12_isUnder_30 : decode cX12_isUnder 30 = .ok (.iconst 5, 1) := by decide +kernel
theorem dX12_isUnder_31 : decode cX12_isUnder 31 = .ok (.if_icmp .eq 25, 3) := by decide +kernel
theorem dX12_isUnder_34 : decode cX12_isUnder 34 = .ok (.iload_n 1, 1) := by decide +kernel
theorem dX12_isUnder_35 : decode cX12_isUnder 35 = .ok (.iconst 3, 1) := by decide +kernel
theorem dX12_isUnder_36 : decode cX12_isUnder 36 = .ok (.if_icmp .ne 8, 3) := by decide +kernel
theorem dX12_isUnder_39 : decode cX12_isUnder 39 = .ok (.iload_n 0, 1) := by decide +kernel
theorem dX12_isUnder_40 : decode cX12_isUnder 40 = .ok (.iconst 5, 1) := by decide +kernel
theorem dX12_isUnder_41 : decode cX12_isUnder 41 = .ok (.if_icmp .eq 15, 3) := by decide +kernel
theorem dX12_isUnder_44 : decode cX12_isUnder 44 = .ok (.iload_n 1, 1) := by decide +kernel
theorem dX12_isUnder_45 : decode cX12_isUnder 45 = .ok (.bipush 6, 2) := by decide +kernel
theorem dX12_isUnder_47 : decode cX12_isUnder 47 = .ok (.if_icmp .ne 13, 3) := by decide +kernel
theorem dX12_isUnder_50 : decode cX12_isUnder 50 = .ok (.iload_n 0, 1) := by decide +kernel
theorem dX12_isUnder_51 : decode cX12_isUnder 51 = .ok (.bipush 7, 2) := by decide +kernel
theorem dX12_isUnder_53 : decode cX12_isUnder 53 = .ok (.if_icmp .ne 7, 3) := by decide +kernel
theorem dX12_isUnder_56 : decode cX12_isUnder 56 = .ok (.iconst 1, 1) := by decide +kernel
theorem dX12_isUnder_57 : decode cX12_isUnder 57 = .ok (.goto 4, 3) := by decide +kernel
theorem dX12_isUnder_60 : decode cX12_isUnder 60 = .ok (.iconst 0, 1) := by decide +kernel
theorem dX12_isUnder_61 : decode cX12_isUnder 61 = .ok (.ireturn, 1) := by decide +kernel
theorem dX12_plainPicks_0 : decode cX12_plainPicks 0 = .ok (.aload_n 0, 1) := by decide +kernel
theorem dX12_plainPicks_1 : decode cX12_plainPicks 1 = .ok (.iconst 1, 1) := by decide +kernel
theorem dX12_plainPicks_2 : decode cX12_plainPicks 2 = .ok (.invokevirtual 390, 3) := by decide +kernel
theorem dX12_plainPicks_5 : decode cX12_plainPicks 5 = .ok (.iload_n 2, 1) := by decide +kernel
theorem dX12_plainPicks_6 : decode cX12_plainPicks 6 = .ok (.iload_n 1, 1) := by decide +kernel
theorem dX12_plainPicks_7 : decode cX12_plainPicks 7 = .ok (.iadd, 1) := by decide +kernel
theorem dX12_plainPicks_8 : decode cX12_plainPicks 8 = .ok (.ireturn, 1) := by decide +kernel
theorem dX12_countedPicks_0 : decode cX12_countedPicks 0 = .ok (.aload_n 0, 1) := by decide +kernel
theorem dX12_countedPicks_1 : decode cX12_countedPicks 1 = .ok (.bipush 70, 2) := by decide +kernel
theorem dX12_countedPicks_3 : decode cX12_countedPicks 3 = .ok (.invokevirtual 390, 3) := by decide +kernel
theorem dX12_countedPicks_6 : decode cX12_countedPicks 6 = .ok (.aload_n 0, 1) := by decide +kernel
theorem dX12_countedPicks_7 : decode cX12_countedPicks 7 = .ok (.iload_n 1, 1) := by decide +kernel
theorem dX12_countedPicks_8 : decode cX12_countedPicks 8 = .ok (.iload_n 2, 1) := by decide +kernel
theorem dX12_countedPicks_9 : decode cX12_countedPicks 9 = .ok (.invokevirtual 393, 3) := by decide +kernel
theorem dX12_countedPicks_12 : decode cX12_countedPicks 12 = .ok (.iconst 2, 1) := by decide +kernel
theorem dX12_countedPicks_13 : decode cX12_countedPicks 13 = .ok (.imul, 1) := by decide +kernel
theorem dX12_countedPicks_14 : decode cX12_countedPicks 14 = .ok (.ireturn, 1) := by decide +kernel
theorem dX12_picking_0 : decode cX12_picking 0 = .ok (.aload_n 0, 1) := by decide +kernel
theorem dX12_picking_1 : decode cX12_picking 1 = .ok (.getfield 103, 3) := by decide +kernel
theorem dX12_picking_4 : decode cX12_picking 4 = .ok (.iload_n 1, 1) := by decide +kernel
theorem dX12_picking_5 : decode cX12_picking 5 = .ok (.iaload, 1) := by decide +kernel
theorem dX12_picking_6 : decode cX12_picking 6 = .ok (.iconst 1, 1) := by decide +kernel
theorem dX12_picking_7 : decode cX12_picking 7 = .ok (.invokestatic 396, 3) := by decide +kernel
theorem dX12_picking_10 : decode cX12_picking 10 = .ok (.ifCond .eq 18, 3) := by decide +kernel
theorem dX12_picking_13 : decode cX12_picking 13 = .ok (.aload_n 0, 1) := by decide +kernel
theorem dX12_picking_14 : decode cX12_picking 14 = .ok (.bipush 20, 2) := by decide +kernel
theorem dX12_picking_16 : decode cX12_picking 16 = .ok (.invokevirtual 390, 3) := by decide +kernel
theorem dX12_picking_19 : decode cX12_picking 19 = .ok (.aload_n 0, 1) := by decide +kernel
theorem dX12_picking_20 : decode cX12_picking 20 = .ok (.iload_n 1, 1) := by decide +kernel
theorem dX12_picking_21 : decode cX12_picking 21 = .ok (.iload_n 2, 1) := by decide +kernel
theorem dX12_picking_22 : decode cX12_picking 22 = .ok (.invokevirtual 393, 3) := by decide +kernel
theorem dX12_picking_25 : decode cX12_picking 25 = .ok (.iconst 3, 1) := by decide +kernel
theorem dX12_picking_26 : decode cX12_picking 26 = .ok (.iadd, 1) := by decide +kernel
theorem dX12_picking_27 : decode cX12_picking 27 = .ok (.ireturn, 1) := by decide +kernel
theorem dX12_picking_28 : decode cX12_picking 28 = .ok (.aload_n 0, 1) := by decide +kernel
theorem dX12_picking_29 : decode cX12_picking 29 = .ok (.getfield 103, 3) := by decide +kernel
theorem dX12_picking_32 : decode cX12_picking 32 = .ok (.iload_n 1, 1) := by decide +kernel
theorem dX12_picking_33 : decode cX12_picking 33 = .ok (.iaload, 1) := by decide +kernel
theorem dX12_picking_34 : decode cX12_picking 34 = .ok (.bipush 7, 2) := by decide +kernel
theorem dX12_picking_36 : decode cX12_picking 36 = .ok (.if_icmp .ne 18, 3) := by decide +kernel
theorem dX12_picking_39 : decode cX12_picking 39 = .ok (.aload_n 0, 1) := by decide +kernel
theorem dX12_picking_40 : decode cX12_picking 40 = .ok (.bipush 81, 2) := by decide +kernel
theorem dX12_picking_42 : decode cX12_picking 42 = .ok (.invokevirtual 390, 3) := by decide +kernel
theorem dX12_picking_45 : decode cX12_picking 45 = .ok (.aload_n 0, 1) := by decide +kernel
theorem dX12_picking_46 : decode cX12_picking 46 = .ok (.iload_n 1, 1) := by decide +kernel
theorem dX12_picking_47 : decode cX12_picking 47 = .ok (.iload_n 2, 1) := by decide +kernel
theorem dX12_picking_48 : decode cX12_picking 48 = .ok (.invokevirtual 399, 3) := by decide +kernel
theorem dX12_picking_51 : decode cX12_picking 51 = .ok (.iconst 1, 1) := by decide +kernel
theorem dX12_picking_52 : decode cX12_picking 52 = .ok (.isub, 1) := by decide +kernel
theorem dX12_picking_53 : decode cX12_picking 53 = .ok (.ireturn, 1) := by decide +kernel
theorem dX12_picking_54 : decode cX12_picking 54 = .ok (.aload_n 0, 1) := by decide +kernel
theorem dX12_picking_55 : decode cX12_picking 55 = .ok (.getfield 103, 3) := by decide +kernel
theorem dX12_picking_58 : decode cX12_picking 58 = .ok (.iload_n 1, 1) := by decide +kernel
theorem dX12_picking_59 : decode cX12_picking 59 = .ok (.iaload, 1) := by decide +kernel
theorem dX12_picking_60 : decode cX12_picking 60 = .ok (.bipush 6, 2) := by decide +kernel
theorem dX12_picking_62 : decode cX12_picking 62 = .ok (.if_icmp .ne 12, 3) := by decide +kernel
theorem dX12_picking_65 : decode cX12_picking 65 = .ok (.aload_n 0, 1) := by decide +kernel
theorem dX12_picking_66 : decode cX12_picking 66 = .ok (.iload_n 1, 1) := by decide +kernel
theorem dX12_picking_67 : decode cX12_picking 67 = .ok (.iload_n 2, 1) := by decide +kernel
theorem dX12_picking_68 : decode cX12_picking 68 = .ok (.invokevirtual 399, 3) := by decide +kernel
theorem dX12_picking_71 : decode cX12_picking 71 = .ok (.goto 9, 3) := by decide +kernel
theorem dX12_picking_74 : decode cX12_picking 74 = .ok (.aload_n 0, 1) := by decide +kernel
theorem dX12_picking_75 : decode cX12_picking 75 = .ok (.iload_n 1, 1) := by decide +kernel
theorem dX12_picking_76 : decode cX12_picking 76 = .ok (.iload_n 2, 1) := by decide +kernel
theorem dX12_picking_77 : decode cX12_picking 77 = .ok (.invokevirtual 393, 3) := by decide +kernel
theorem dX12_picking_80 : decode cX12_picking 80 = .ok (.ireturn, 1) := by decide +kernel
theorem dX12_plainFinds_0 : decode cX12_plainFinds 0 = .ok (.aload_n 0, 1) := by decide +kernel
theorem dX12_plainFinds_1 : decode cX12_plainFinds 1 = .ok (.bipush 10, 2) := by decide +kernel
theorem dX12_plainFinds_3 : decode cX12_plainFinds 3 = .ok (.invokevirtual 390, 3) := by decide +kernel
theorem dX12_plainFinds_6 : decode cX12_plainFinds 6 = .ok (.aload_n 0, 1) := by decide +kernel
theorem dX12_plainFinds_7 : decode cX12_plainFinds 7 = .ok (.iload_n 1, 1) := by decide +kernel
theorem dX12_plainFinds_8 : decode cX12_plainFinds 8 = .ok (.iload_n 2, 1) := by decide +kernel
theorem dX12_plainFinds_9 : decode cX12_plainFinds 9 = .ok (.invokevirtual 402, 3) := by decide +kernel
theorem dX12_plainFinds_12 : decode cX12_plainFinds 12 = .ok (.iconst 2, 1) := by decide +kernel
theorem dX12_plainFinds_13 : decode cX12_plainFinds 13 = .ok (.imul, 1) := by decide +kernel
theorem dX12_plainFinds_14 : decode cX12_plainFinds 14 = .ok (.ireturn, 1) := by decide +kernel
theorem dX12_slowFinds_0 : decode cX12_slowFinds 0 = .ok (.aload_n 0, 1) := by decide +kernel
theorem dX12_slowFinds_1 : decode cX12_slowFinds 1 = .ok (.bipush 30, 2) := by decide +kernel
theorem dX12_slowFinds_3 : decode cX12_slowFinds 3 = .ok (.invokevirtual 390, 3) := by decide +kernel
theorem dX12_slowFinds_6 : decode cX12_slowFinds 6 = .ok (.aload_n 0, 1) := by decide +kernel
theorem dX12_slowFinds_7 : decode cX12_slowFinds 7 = .ok (.iload_n 1, 1) := by decide +kernel
theorem dX12_slowFinds_8 : decode cX12_slowFinds 8 = .ok (.iload_n 2, 1) := by decide +kernel
theorem dX12_slowFinds_9 : decode cX12_slowFinds 9 = .ok (.invokevirtual 405, 3) := by decide +kernel
theorem dX12_slowFinds_12 : decode cX12_slowFinds 12 = .ok (.ineg, 1) := by decide +kernel
theorem dX12_slowFinds_13 : decode cX12_slowFinds 13 = .ok (.ireturn, 1) := by decide +kernel
theorem dX12_finding_0 : decode cX12_finding 0 = .ok (.aload_n 0, 1) := by decide +kernel
theorem dX12_finding_1 : decode cX12_finding 1 = .ok (.getfield 103, 3) := by decide +kernel
theorem dX12_finding_4 : decode cX12_finding 4 = .ok (.iload_n 1, 1) := by decide +kernel
theorem dX12_finding_5 : decode cX12_finding 5 = .ok (.iaload, 1) := by decide +kernel
theorem dX12_finding_6 : decode cX12_finding 6 = .ok (.iconst 3, 1) := by decide +kernel
theorem dX12_finding_7 : decode cX12_finding 7 = .ok (.invokestatic 396, 3) := by decide +kernel
theorem dX12_finding_10 : decode cX12_finding 10 = .ok (.ifCond .eq 18, 3) := by decide +kernel
theorem dX12_finding_13 : decode cX12_finding 13 = .ok (.aload_n 0, 1) := by decide +kernel
theorem dX12_finding_14 : decode cX12_finding 14 = .ok (.bipush 41, 2) := by decide +kernel
theorem dX12_finding_16 : decode cX12_finding 16 = .ok (.invokevirtual 390, 3) := by decide +kernel
theorem dX12_finding_19 : decode cX12_finding 19 = .ok (.aload_n 0, 1) := by decide +kernel
theorem dX12_finding_20 : decode cX12_finding 20 = .ok (.iload_n 1, 1) := by decide +kernel
theorem dX12_finding_21 : decode cX12_finding 21 = .ok (.iload_n 2, 1) := by decide +kernel
theorem dX12_finding_22 : decode cX12_finding 22 = .ok (.iconst 1, 1) := by decide +kernel
theorem dX12_finding_23 : decode cX12_finding 23 = .ok (.iadd, 1) := by decide +kernel
theorem dX12_finding_24 : decode cX12_finding 24 = .ok (.invokevirtual 408, 3) := by decide +kernel
theorem dX12_finding_27 : decode cX12_finding 27 = .ok (.ireturn, 1) := by decide +kernel
theorem dX12_finding_28 : decode cX12_finding 28 = .ok (.aload_n 0, 1) := by decide +kernel
theorem dX12_finding_29 : decode cX12_finding 29 = .ok (.getfield 103, 3) := by decide +kernel
theorem dX12_finding_32 : decode cX12_finding 32 = .ok (.iload_n 1, 1) := by decide +kernel
theorem dX12_finding_33 : decode cX12_finding 33 = .ok (.iaload, 1) := by decide +kernel
theorem dX12_finding_34 : decode cX12_finding 34 = .ok (.bipush 7, 2) := by decide +kernel
theorem dX12_finding_36 : decode cX12_finding 36 = .ok (.if_icmp .ne 25, 3) := by decide +kernel
theorem dX12_finding_39 : decode cX12_finding 39 = .ok (.aload_n 0, 1) := by decide +kernel
theorem dX12_finding_40 : decode cX12_finding 40 = .ok (.bipush 80, 2) := by decide +kernel
theorem dX12_finding_42 : decode cX12_finding 42 = .ok (.invokevirtual 390, 3) := by decide +kernel
theorem dX12_finding_45 : decode cX12_finding 45 = .ok (.aload_n 0, 1) := by decide +kernel
theorem dX12_finding_46 : decode cX12_finding 46 = .ok (.iload_n 1, 1) := by decide +kernel
theorem dX12_finding_47 : decode cX12_finding 47 = .ok (.iload_n 2, 1) := by decide +kernel
theorem dX12_finding_48 : decode cX12_finding 48 = .ok (.invokevirtual 405, 3) := by decide +kernel
theorem dX12_finding_51 : decode cX12_finding 51 = .ok (.istore_n 3, 1) := by decide +kernel
theorem dX12_finding_52 : decode cX12_finding 52 = .ok (.iload_n 3, 1) := by decide +kernel
theorem dX12_finding_53 : decode cX12_finding 53 = .ok (.aload_n 0, 1) := by decide +kernel
theorem dX12_finding_54 : decode cX12_finding 54 = .ok (.iload_n 1, 1) := by decide +kernel
theorem dX12_finding_55 : decode cX12_finding 55 = .ok (.iconst 2, 1) := by decide +kernel
theorem dX12_finding_56 : decode cX12_finding 56 = .ok (.invokevirtual 411, 3) := by decide +kernel
theorem dX12_finding_59 : decode cX12_finding 59 = .ok (.iadd, 1) := by decide +kernel
theorem dX12_finding_60 : decode cX12_finding 60 = .ok (.ireturn, 1) := by decide +kernel
theorem dX12_finding_61 : decode cX12_finding 61 = .ok (.aload_n 0, 1) := by decide +kernel
theorem dX12_finding_62 : decode cX12_finding 62 = .ok (.getfield 103, 3) := by decide +kernel
theorem dX12_finding_65 : decode cX12_finding 65 = .ok (.iload_n 1, 1) := by decide +kernel
theorem dX12_finding_66 : decode cX12_finding 66 = .ok (.iaload, 1) := by decide +kernel
theorem dX12_finding_67 : decode cX12_finding 67 = .ok (.iconst 2, 1) := by decide +kernel
theorem dX12_finding_68 : decode cX12_finding 68 = .ok (.if_icmp .ne 12, 3) := by decide +kernel
theorem dX12_finding_71 : decode cX12_finding 71 = .ok (.aload_n 0, 1) := by decide +kernel
theorem dX12_finding_72 : decode cX12_finding 72 = .ok (.iload_n 1, 1) := by decide +kernel
theorem dX12_finding_73 : decode cX12_finding 73 = .ok (.iload_n 2, 1) := by decide +kernel
theorem dX12_finding_74 : decode cX12_finding 74 = .ok (.invokevirtual 408, 3) := by decide +kernel
theorem dX12_finding_77 : decode cX12_finding 77 = .ok (.goto 9, 3) := by decide +kernel
theorem dX12_finding_80 : decode cX12_finding 80 = .ok (.aload_n 0, 1) := by decide +kernel
theorem dX12_finding_81 : decode cX12_finding 81 = .ok (.iload_n 1, 1) := by decide +kernel
theorem dX12_finding_82 : decode cX12_finding 82 = .ok (.iload_n 2, 1) := by decide +kernel
theorem dX12_finding_83 : decode cX12_finding 83 = .ok (.invokevirtual 405, 3) := by decide +kernel
theorem dX12_finding_86 : decode cX12_finding 86 = .ok (.ireturn, 1) := by decide +kernel
theorem dX12_plainLeaves_0 : decode cX12_plainLeaves 0 = .ok (.aload_n 0, 1) := by decide +kernel
theorem dX12_plainLeaves_1 : decode cX12_plainLeaves 1 = .ok (.bipush 11, 2) := by decide +kernel
theorem dX12_plainLeaves_3 : decode cX12_plainLeaves 3 = .ok (.invokevirtual 390, 3) := by decide +kernel
theorem dX12_plainLeaves_6 : decode cX12_plainLeaves 6 = .ok (.iload_n 2, 1) := by decide +kernel
theorem dX12_plainLeaves_7 : decode cX12_plainLeaves 7 = .ok (.iload_n 1, 1) := by decide +kernel
theorem dX12_plainLeaves_8 : decode cX12_plainLeaves 8 = .ok (.ixor, 1) := by decide +kernel
theorem dX12_plainLeaves_9 : decode cX12_plainLeaves 9 = .ok (.ireturn, 1) := by decide +kernel
theorem dX12_lampedLeaves_0 : decode cX12_lampedLeaves 0 = .ok (.aload_n 0, 1) := by decide +kernel
theorem dX12_lampedLeaves_1 : decode cX12_lampedLeaves 1 = .ok (.bipush 40, 2) := by decide +kernel
theorem dX12_lampedLeaves_3 : decode cX12_lampedLeaves 3 = .ok (.invokevirtual 390, 3) := by decide +kernel
theorem dX12_lampedLeaves_6 : decode cX12_lampedLeaves 6 = .ok (.aload_n 0, 1) := by decide +kernel
theorem dX12_lampedLeaves_7 : decode cX12_lampedLeaves 7 = .ok (.iload_n 1, 1) := by decide +kernel
theorem dX12_lampedLeaves_8 : decode cX12_lampedLeaves 8 = .ok (.iload_n 2, 1) := by decide +kernel
theorem dX12_lampedLeaves_9 : decode cX12_lampedLeaves 9 = .ok (.invokevirtual 414, 3) := by decide +kernel
theorem dX12_lampedLeaves_12 : decode cX12_lampedLeaves 12 = .ok (.iconst 3, 1) := by decide +kernel
theorem dX12_lampedLeaves_13 : decode cX12_lampedLeaves 13 = .ok (.imul, 1) := by decide +kernel
theorem dX12_lampedLeaves_14 : decode cX12_lampedLeaves 14 = .ok (.ireturn, 1) := by decide +kernel
theorem dX12_leaving_0 : decode cX12_leaving 0 = .ok (.aload_n 0, 1) := by decide +kernel
theorem dX12_leaving_1 : decode cX12_leaving 1 = .ok (.getfield 103, 3) := by decide +kernel
theorem dX12_leaving_4 : decode cX12_leaving 4 = .ok (.iload_n 1, 1) := by decide +kernel
theorem dX12_leaving_5 : decode cX12_leaving 5 = .ok (.iaload, 1) := by decide +kernel
theorem dX12_leaving_6 : decode cX12_leaving 6 = .ok (.iconst 5, 1) := by decide +kernel
theorem dX12_leaving_7 : decode cX12_leaving 7 = .ok (.if_icmp .ne 25, 3) := by decide +kernel
theorem dX12_leaving_10 : decode cX12_leaving 10 = .ok (.aload_n 0, 1) := by decide +kernel
theorem dX12_leaving_11 : decode cX12_leaving 11 = .ok (.bipush 60, 2) := by decide +kernel
theorem dX12_leaving_13 : decode cX12_leaving 13 = .ok (.invokevirtual 390, 3) := by decide +kernel
theorem dX12_leaving_16 : decode cX12_leaving 16 = .ok (.aload_n 0, 1) := by decide +kernel
theorem dX12_leaving_17 : decode cX12_leaving 17 = .ok (.iload_n 1, 1) := by decide +kernel
theorem dX12_leaving_18 : decode cX12_leaving 18 = .ok (.iload_n 2, 1) := by decide +kernel
theorem dX12_leaving_19 : decode cX12_leaving 19 = .ok (.invokevirtual 417, 3) := by decide +kernel
theorem dX12_leaving_22 : decode cX12_leaving 22 = .ok (.istore_n 3, 1) := by decide +kernel
theorem dX12_leaving_23 : decode cX12_leaving 23 = .ok (.iload_n 3, 1) := by decide +kernel
theorem dX12_leaving_24 : decode cX12_leaving 24 = .ok (.aload_n 0, 1) := by decide +kernel
theorem dX12_leaving_25 : decode cX12_leaving 25 = .ok (.iload_n 1, 1) := by decide +kernel
theorem dX12_leaving_26 : decode cX12_leaving 26 = .ok (.iconst 2, 1) := by decide +kernel
theorem dX12_leaving_27 : decode cX12_leaving 27 = .ok (.invokevirtual 402, 3) := by decide +kernel
theorem dX12_leaving_30 : decode cX12_leaving 30 = .ok (.isub, 1) := by decide +kernel
theorem dX12_leaving_31 : decode cX12_leaving 31 = .ok (.ireturn, 1) := by decide +kernel
theorem dX12_leaving_32 : decode cX12_leaving 32 = .ok (.aload_n 0, 1) := by decide +kernel
theorem dX12_leaving_33 : decode cX12_leaving 33 = .ok (.getfield 103, 3) := by decide +kernel
theorem dX12_leaving_36 : decode cX12_leaving 36 = .ok (.iload_n 1, 1) := by decide +kernel
theorem dX12_leaving_37 : decode cX12_leaving 37 = .ok (.iaload, 1) := by decide +kernel
theorem dX12_leaving_38 : decode cX12_leaving 38 = .ok (.iconst 3, 1) := by decide +kernel
theorem dX12_leaving_39 : decode cX12_leaving 39 = .ok (.if_icmp .ne 12, 3) := by decide +kernel
theorem dX12_leaving_42 : decode cX12_leaving 42 = .ok (.aload_n 0, 1) := by decide +kernel
theorem dX12_leaving_43 : decode cX12_leaving 43 = .ok (.iload_n 1, 1) := by decide +kernel
theorem dX12_leaving_44 : decode cX12_leaving 44 = .ok (.iload_n 2, 1) := by decide +kernel
theorem dX12_leaving_45 : decode cX12_leaving 45 = .ok (.invokevirtual 417, 3) := by decide +kernel
theorem dX12_leaving_48 : decode cX12_leaving 48 = .ok (.goto 9, 3) := by decide +kernel
theorem dX12_leaving_51 : decode cX12_leaving 51 = .ok (.aload_n 0, 1) := by decide +kernel
theorem dX12_leaving_52 : decode cX12_leaving 52 = .ok (.iload_n 1, 1) := by decide +kernel
theorem dX12_leaving_53 : decode cX12_leaving 53 = .ok (.iload_n 2, 1) := by decide +kernel
theorem dX12_leaving_54 : decode cX12_leaving 54 = .ok (.invokevirtual 414, 3) := by decide +kernel
theorem dX12_leaving_57 : decode cX12_leaving 57 = .ok (.ireturn, 1) := by decide +kernel
theorem dX12_plainTells_0 : decode cX12_plainTells 0 = .ok (.aload_n 0, 1) := by decide +kernel
theorem dX12_plainTells_1 : decode cX12_plainTells 1 = .ok (.iconst 2, 1) := by decide +kernel
theorem dX12_plainTells_2 : decode cX12_plainTells 2 = .ok (.invokevirtual 390, 3) := by decide +kernel
theorem dX12_plainTells_5 : decode cX12_plainTells 5 = .ok (.aload_n 0, 1) := by decide +kernel
theorem dX12_plainTells_6 : decode cX12_plainTells 6 = .ok (.iload_n 1, 1) := by decide +kernel
theorem dX12_plainTells_7 : decode cX12_plainTells 7 = .ok (.iload_n 2, 1) := by decide +kernel
theorem dX12_plainTells_8 : decode cX12_plainTells 8 = .ok (.invokevirtual 420, 3) := by decide +kernel
theorem dX12_plainTells_11 : decode cX12_plainTells 11 = .ok (.istore_n 3, 1) := by decide +kernel
theorem dX12_plainTells_12 : decode cX12_plainTells 12 = .ok (.iload_n 3, 1) := by decide +kernel
theorem dX12_plainTells_13 : decode cX12_plainTells 13 = .ok (.aload_n 0, 1) := by decide +kernel
theorem dX12_plainTells_14 : decode cX12_plainTells 14 = .ok (.iload_n 1, 1) := by decide +kernel
theorem dX12_plainTells_15 : decode cX12_plainTells 15 = .ok (.iconst 1, 1) := by decide +kernel
theorem dX12_plainTells_16 : decode cX12_plainTells 16 = .ok (.invokevirtual 411, 3) := by decide +kernel
theorem dX12_plainTells_19 : decode cX12_plainTells 19 = .ok (.isub, 1) := by decide +kernel
theorem dX12_plainTells_20 : decode cX12_plainTells 20 = .ok (.ireturn, 1) := by decide +kernel
theorem dX12_telling_0 : decode cX12_telling 0 = .ok (.aload_n 0, 1) := by decide +kernel
theorem dX12_telling_1 : decode cX12_telling 1 = .ok (.getfield 103, 3) := by decide +kernel
theorem dX12_telling_4 : decode cX12_telling 4 = .ok (.iload_n 1, 1) := by decide +kernel
theorem dX12_telling_5 : decode cX12_telling 5 = .ok (.iaload, 1) := by decide +kernel
theorem dX12_telling_6 : decode cX12_telling 6 = .ok (.iconst 4, 1) := by decide +kernel
theorem dX12_telling_7 : decode cX12_telling 7 = .ok (.if_icmp .ne 18, 3) := by decide +kernel
theorem dX12_telling_10 : decode cX12_telling 10 = .ok (.aload_n 0, 1) := by decide +kernel
theorem dX12_telling_11 : decode cX12_telling 11 = .ok (.bipush 50, 2) := by decide +kernel
theorem dX12_telling_13 : decode cX12_telling 13 = .ok (.invokevirtual 390, 3) := by decide +kernel
theorem dX12_telling_16 : decode cX12_telling 16 = .ok (.aload_n 0, 1) := by decide +kernel
theorem dX12_telling_17 : decode cX12_telling 17 = .ok (.iload_n 1, 1) := by decide +kernel
theorem dX12_telling_18 : decode cX12_telling 18 = .ok (.iload_n 2, 1) := by decide +kernel
theorem dX12_telling_19 : decode cX12_telling 19 = .ok (.invokevirtual 423, 3) := by decide +kernel
theorem dX12_telling_22 : decode cX12_telling 22 = .ok (.iconst 5, 1) := by decide +kernel
theorem dX12_telling_23 : decode cX12_telling 23 = .ok (.ixor, 1) := by decide +kernel
theorem dX12_telling_24 : decode cX12_telling 24 = .ok (.ireturn, 1) := by decide +kernel
theorem dX12_telling_25 : decode cX12_telling 25 = .ok (.aload_n 0, 1) := by decide +kernel
theorem dX12_telling_26 : decode cX12_telling 26 = .ok (.getfield 103, 3) := by decide +kernel
theorem dX12_telling_29 : decode cX12_telling 29 = .ok (.iload_n 1, 1) := by decide +kernel
theorem dX12_telling_30 : decode cX12_telling 30 = .ok (.iaload, 1) := by decide +kernel
theorem dX12_telling_31 : decode cX12_telling 31 = .ok (.iconst 5, 1) := by decide +kernel
theorem dX12_telling_32 : decode cX12_telling 32 = .ok (.if_icmp .ne 18, 3) := by decide +kernel
theorem dX12_telling_35 : decode cX12_telling 35 = .ok (.aload_n 0, 1) := by decide +kernel
theorem dX12_telling_36 : decode cX12_telling 36 = .ok (.bipush 61, 2) := by decide +kernel
theorem dX12_telling_38 : decode cX12_telling 38 = .ok (.invokevirtual 390, 3) := by decide +kernel
theorem dX12_telling_41 : decode cX12_telling 41 = .ok (.aload_n 0, 1) := by decide +kernel
theorem dX12_telling_42 : decode cX12_telling 42 = .ok (.iload_n 1, 1) := by decide +kernel
theorem dX12_telling_43 : decode cX12_telling 43 = .ok (.iload_n 2, 1) := by decide +kernel
theorem dX12_telling_44 : decode cX12_telling 44 = .ok (.invokevirtual 423, 3) := by decide +kernel
theorem dX12_telling_47 : decode cX12_telling 47 = .ok (.iconst 1, 1) := by decide +kernel
theorem dX12_telling_48 : decode cX12_telling 48 = .ok (.iadd, 1) := by decide +kernel
theorem dX12_telling_49 : decode cX12_telling 49 = .ok (.ireturn, 1) := by decide +kernel
theorem dX12_telling_50 : decode cX12_telling 50 = .ok (.aload_n 0, 1) := by decide +kernel
theorem dX12_telling_51 : decode cX12_telling 51 = .ok (.iload_n 1, 1) := by decide +kernel
theorem dX12_telling_52 : decode cX12_telling 52 = .ok (.iload_n 2, 1) := by decide +kernel
theorem dX12_telling_53 : decode cX12_telling 53 = .ok (.invokevirtual 423, 3) := by decide +kernel
theorem dX12_telling_56 : decode cX12_telling 56 = .ok (.ireturn, 1) := by decide +kernel
theorem dX12_act_0 : decode cX12_act 0 = .ok (.aload_n 0, 1) := by decide +kernel
theorem dX12_act_1 : decode cX12_act 1 = .ok (.iconst 0, 1) := by decide +kernel
theorem dX12_act_2 : decode cX12_act 2 = .ok (.putfield 387, 3) := by decide +kernel
theorem dX12_act_5 : decode cX12_act 5 = .ok (.aload_n 0, 1) := by decide +kernel
theorem dX12_act_6 : decode cX12_act 6 = .ok (.iload_n 1, 1) := by decide +kernel
theorem dX12_act_7 : decode cX12_act 7 = .ok (.invokevirtual 426, 3) := by decide +kernel
theorem dX12_act_10 : decode cX12_act 10 = .ok (.ifCond .eq 12, 3) := by decide +kernel
theorem dX12_act_13 : decode cX12_act 13 = .ok (.iload_n 2, 1) := by decide +kernel
theorem dX12_act_14 : decode cX12_act 14 = .ok (.iconst 0, 1) := by decide +kernel
theorem dX12_act_15 : decode cX12_act 15 = .ok (.iconst 3, 1) := by decide +kernel
theorem dX12_act_16 : decode cX12_act 16 = .ok (.invokestatic 124, 3) := by decide +kernel
theorem dX12_act_19 : decode cX12_act 19 = .ok (.ifCond .ne 5, 3) := by decide +kernel
theorem dX12_act_22 : decode cX12_act 22 = .ok (.iconst 0, 1) := by decide +kernel
theorem dX12_act_23 : decode cX12_act 23 = .ok (.ireturn, 1) := by decide +kernel
theorem dX12_act_24 : decode cX12_act 24 = .ok (.iload_n 2, 1) := by decide +kernel
theorem dX12_act_25 : decode cX12_act 25 = .ok (.ifCond .ne 12, 3) := by decide +kernel
theorem dX12_act_28 : decode cX12_act 28 = .ok (.aload_n 0, 1) := by decide +kernel
theorem dX12_act_29 : decode cX12_act 29 = .ok (.iload_n 1, 1) := by decide +kernel
theorem dX12_act_30 : decode cX12_act 30 = .ok (.iload_n 3, 1) := by decide +kernel
theorem dX12_act_31 : decode cX12_act 31 = .ok (.invokevirtual 402, 3) := by decide +kernel
theorem dX12_act_34 : decode cX12_act 34 = .ok (.goto 37, 3) := by decide +kernel
theorem dX12_act_37 : decode cX12_act 37 = .ok (.iload_n 2, 1) := by decide +kernel
theorem dX12_act_38 : decode cX12_act 38 = .ok (.iconst 1, 1) := by decide +kernel
theorem dX12_act_39 : decode cX12_act 39 = .ok (.if_icmp .ne 12, 3) := by decide +kernel
theorem dX12_act_42 : decode cX12_act 42 = .ok (.aload_n 0, 1) := by decide +kernel
theorem dX12_act_43 : decode cX12_act 43 = .ok (.iload_n 1, 1) := by decide +kernel
theorem dX12_act_44 : decode cX12_act 44 = .ok (.iload_n 3, 1) := by decide +kernel
theorem dX12_act_45 : decode cX12_act 45 = .ok (.invokevirtual 420, 3) := by decide +kernel
theorem dX12_act_48 : decode cX12_act 48 = .ok (.goto 23, 3) := by decide +kernel
theorem dX12_act_51 : decode cX12_act 51 = .ok (.iload_n 2, 1) := by decide +kernel
theorem dX12_act_52 : decode cX12_act 52 = .ok (.iconst 2, 1) := by decide +kernel
theorem dX12_act_53 : decode cX12_act 53 = .ok (.if_icmp .ne 12, 3) := by decide +kernel
theorem dX12_act_56 : decode cX12_act 56 = .ok (.aload_n 0, 1) := by decide +kernel
theorem dX12_act_57 : decode cX12_act 57 = .ok (.iload_n 1, 1) := by decide +kernel
theorem dX12_act_58 : decode cX12_act 58 = .ok (.iload_n 3, 1) := by decide +kernel
theorem dX12_act_59 : decode cX12_act 59 = .ok (.invokevirtual 411, 3) := by decide +kernel
theorem dX12_act_62 : decode cX12_act 62 = .ok (.goto 9, 3) := by decide +kernel
theorem dX12_act_65 : decode cX12_act 65 = .ok (.aload_n 0, 1) := by decide +kernel
theorem dX12_act_66 : decode cX12_act 66 = .ok (.iload_n 1, 1) := by decide +kernel
theorem dX12_act_67 : decode cX12_act 67 = .ok (.iload_n 3, 1) := by decide +kernel
theorem dX12_act_68 : decode cX12_act 68 = .ok (.invokevirtual 429, 3) := by decide +kernel
theorem dX12_act_71 : decode cX12_act 71 = .ok (.ireturn, 1) := by decide +kernel
theorem dX12_count_0 : decode cX12_count 0 = .ok (.iload_n 1, 1) := by decide +kernel
theorem dX12_count_1 : decode cX12_count 1 = .ok (.tableswitch 60 0 4 #[35, 40, 45, 50, 55], 35) := by decide +kernel
theorem dX12_count_36 : decode cX12_count 36 = .ok (.aload_n 0, 1) := by decide +kernel
theorem dX12_count_37 : decode cX12_count 37 = .ok (.getfield 128, 3) := by decide +kernel
theorem dX12_count_40 : decode cX12_count 40 = .ok (.ireturn, 1) := by decide +kernel
theorem dX12_count_41 : decode cX12_count 41 = .ok (.aload_n 0, 1) := by decide +kernel
theorem dX12_count_42 : decode cX12_count 42 = .ok (.getfield 172, 3) := by decide +kernel
theorem dX12_count_45 : decode cX12_count 45 = .ok (.ireturn, 1) := by decide +kernel
theorem dX12_count_46 : decode cX12_count 46 = .ok (.aload_n 0, 1) := by decide +kernel
theorem dX12_count_47 : decode cX12_count 47 = .ok (.getfield 148, 3) := by decide +kernel
theorem dX12_count_50 : decode cX12_count 50 = .ok (.ireturn, 1) := by decide +kernel
theorem dX12_count_51 : decode cX12_count 51 = .ok (.aload_n 0, 1) := by decide +kernel
theorem dX12_count_52 : decode cX12_count 52 = .ok (.getfield 384, 3) := by decide +kernel
theorem dX12_count_55 : decode cX12_count 55 = .ok (.ireturn, 1) := by decide +kernel
theorem dX12_count_56 : decode cX12_count 56 = .ok (.aload_n 0, 1) := by decide +kernel
theorem dX12_count_57 : decode cX12_count 57 = .ok (.getfield 387, 3) := by decide +kernel
theorem dX12_count_60 : decode cX12_count 60 = .ok (.ireturn, 1) := by decide +kernel
theorem dX12_count_61 : decode cX12_count 61 = .ok (.iconst (-1), 1) := by decide +kernel
theorem dX12_count_62 : decode cX12_count 62 = .ok (.ireturn, 1) := by decide +kernel
theorem dX12_isShelf_0 : decode cX12_isShelf 0 = .ok (.iload_n 0, 1) := by decide +kernel
theorem dX12_isShelf_1 : decode cX12_isShelf 1 = .ok (.iconst 0, 1) := by decide +kernel
theorem dX12_isShelf_2 : decode cX12_isShelf 2 = .ok (.iconst 5, 1) := by decide +kernel
theorem dX12_isShelf_3 : decode cX12_isShelf 3 = .ok (.invokestatic 124, 3) := by decide +kernel
theorem dX12_isShelf_6 : decode cX12_isShelf 6 = .ok (.ireturn, 1) := by decide +kernel
theorem dX12_keep_0 : decode cX12_keep 0 = .ok (.iload_n 1, 1) := by decide +kernel
theorem dX12_keep_1 : decode cX12_keep 1 = .ok (.invokestatic 135, 3) := by decide +kernel
theorem dX12_keep_4 : decode cX12_keep 4 = .ok (.ifCond .eq 16, 3) := by decide +kernel
theorem dX12_keep_7 : decode cX12_keep 7 = .ok (.iload_n 2, 1) := by decide +kernel
theorem dX12_keep_8 : decode cX12_keep 8 = .ok (.iconst (-1), 1) := by decide +kernel
theorem dX12_keep_9 : decode cX12_keep 9 = .ok (.if_icmp .eq 13, 3) := by decide +kernel
theorem dX12_keep_12 : decode cX12_keep 12 = .ok (.aload_n 0, 1) := by decide +kernel
theorem dX12_keep_13 : decode cX12_keep 13 = .ok (.iload_n 2, 1) := by decide +kernel
theorem dX12_keep_14 : decode cX12_keep 14 = .ok (.invokevirtual 426, 3) := by decide +kernel
theorem dX12_keep_17 : decode cX12_keep 17 = .ok (.ifCond .ne 5, 3) := by decide +kernel
theorem dX12_keep_20 : decode cX12_keep 20 = .ok (.iconst (-1), 1) := by decide +kernel
theorem dX12_keep_21 : decode cX12_keep 21 = .ok (.ireturn, 1) := by decide +kernel
theorem dX12_keep_22 : decode cX12_keep 22 = .ok (.aload_n 0, 1) := by decide +kernel
theorem dX12_keep_23 : decode cX12_keep 23 = .ok (.getfield 109, 3) := by decide +kernel
theorem dX12_keep_26 : decode cX12_keep 26 = .ok (.iload_n 1, 1) := by decide +kernel
theorem dX12_keep_27 : decode cX12_keep 27 = .ok (.iload_n 2, 1) := by decide +kernel
theorem dX12_keep_28 : decode cX12_keep 28 = .ok (.iastore, 1) := by decide +kernel
theorem dX12_keep_29 : decode cX12_keep 29 = .ok (.iconst 1, 1) := by decide +kernel
theorem dX12_keep_30 : decode cX12_keep 30 = .ok (.ireturn, 1) := by decide +kernel
theorem dX12_row_0 : decode cX12_row 0 = .ok (.iload_n 1, 1) := by decide +kernel
theorem dX12_row_1 : decode cX12_row 1 = .ok (.invokestatic 135, 3) := by decide +kernel
theorem dX12_row_4 : decode cX12_row 4 = .ok (.ifCond .eq 18, 3) := by decide +kernel
theorem dX12_row_7 : decode cX12_row 7 = .ok (.iload_n 2, 1) := by decide +kernel
theorem dX12_row_8 : decode cX12_row 8 = .ok (.iconst 0, 1) := by decide +kernel
theorem dX12_row_9 : decode cX12_row 9 = .ok (.iconst 4, 1) := by decide +kernel
theorem dX12_row_10 : decode cX12_row 10 = .ok (.invokestatic 124, 3) := by decide +kernel
theorem dX12_row_13 : decode cX12_row 13 = .ok (.ifCond .eq 9, 3) := by decide +kernel
theorem dX12_row_16 : decode cX12_row 16 = .ok (.iload_n 3, 1) := by decide +kernel
theorem dX12_row_17 : decode cX12_row 17 = .ok (.bipush 60, 2) := by decide +kernel
theorem dX12_row_19 : decode cX12_row 19 = .ok (.if_icmp .le 5, 3) := by decide +kernel
theorem dX12_row_22 : decode cX12_row 22 = .ok (.iconst (-1), 1) := by decide +kernel
theorem dX12_row_23 : decode cX12_row 23 = .ok (.ireturn, 1) := by decide +kernel
theorem dX12_row_24 : decode cX12_row 24 = .ok (.iload_n 3, 1) := by decide +kernel
theorem dX12_row_25 : decode cX12_row 25 = .ok (.ifCond .ge 6, 3) := by decide +kernel
theorem dX12_row_28 : decode cX12_row 28 = .ok (.bipush (-14), 2) := by decide +kernel
theorem dX12_row_30 : decode cX12_row 30 = .ok (.ireturn, 1) := by decide +kernel
theorem dX12_row_31 : decode cX12_row 31 = .ok (.aload_n 0, 1) := by decide +kernel
theorem dX12_row_32 : decode cX12_row 32 = .ok (.getfield 109, 3) := by decide +kernel
theorem dX12_row_35 : decode cX12_row 35 = .ok (.iload_n 1, 1) := by decide +kernel
theorem dX12_row_36 : decode cX12_row 36 = .ok (.bipush (-2), 2) := by decide +kernel
theorem dX12_row_38 : decode cX12_row 38 = .ok (.iload_n 2, 1) := by decide +kernel
theorem dX12_row_39 : decode cX12_row 39 = .ok (.isub, 1) := by decide +kernel
theorem dX12_row_40 : decode cX12_row 40 = .ok (.iastore, 1) := by decide +kernel
theorem dX12_row_41 : decode cX12_row 41 = .ok (.aload_n 0, 1) := by decide +kernel
theorem dX12_row_42 : decode cX12_row 42 = .ok (.getfield 112, 3) := by decide +kernel
theorem dX12_row_45 : decode cX12_row 45 = .ok (.iload_n 1, 1) := by decide +kernel
theorem dX12_row_46 : decode cX12_row 46 = .ok (.iload_n 3, 1) := by decide +kernel
theorem dX12_row_47 : decode cX12_row 47 = .ok (.iastore, 1) := by decide +kernel
theorem dX12_row_48 : decode cX12_row 48 = .ok (.bipush 60, 2) := by decide +kernel
theorem dX12_row_50 : decode cX12_row 50 = .ok (.iload_n 1, 1) := by decide +kernel
theorem dX12_row_51 : decode cX12_row 51 = .ok (.imul, 1) := by decide +kernel
theorem dX12_row_52 : decode cX12_row 52 = .ok (.istore 4, 2) := by decide +kernel
theorem dX12_row_54 : decode cX12_row 54 = .ok (.iload 4, 2) := by decide +kernel
theorem dX12_row_56 : decode cX12_row 56 = .ok (.bipush 60, 2) := by decide +kernel
theorem dX12_row_58 : decode cX12_row 58 = .ok (.iload_n 1, 1) := by decide +kernel
theorem dX12_row_59 : decode cX12_row 59 = .ok (.imul, 1) := by decide +kernel
theorem dX12_row_60 : decode cX12_row 60 = .ok (.bipush 60, 2) := by decide +kernel
theorem dX12_row_62 : decode cX12_row 62 = .ok (.iadd, 1) := by decide +kernel
theorem dX12_row_63 : decode cX12_row 63 = .ok (.if_icmp .ge 17, 3) := by decide +kernel
theorem dX12_row_66 : decode cX12_row 66 = .ok (.aload_n 0, 1) := by decide +kernel
theorem dX12_row_67 : decode cX12_row 67 = .ok (.getfield 115, 3) := by decide +kernel
theorem dX12_row_70 : decode cX12_row 70 = .ok (.iload 4, 2) := by decide +kernel
theorem dX12_row_72 : decode cX12_row 72 = .ok (.lconst 0, 1) := by decide +kernel
theorem dX12_row_73 : decode cX12_row 73 = .ok (.lastore, 1) := by decide +kernel
theorem dX12_row_74 : decode cX12_row 74 = .ok (.iinc 4 1, 3) := by decide +kernel
theorem dX12_row_77 : decode cX12_row 77 = .ok (.goto (-23), 3) := by decide +kernel
theorem dX12_row_80 : decode cX12_row 80 = .ok (.iconst 1, 1) := by decide +kernel
theorem dX12_row_81 : decode cX12_row 81 = .ok (.ireturn, 1) := by decide +kernel
theorem dX12_whyNoPlace_0 : decode cX12_whyNoPlace 0 = .ok (.iload_n 1, 1) := by decide +kernel
theorem dX12_whyNoPlace_1 : decode cX12_whyNoPlace 1 = .ok (.invokestatic 135, 3) := by decide +kernel
theorem dX12_whyNoPlace_4 : decode cX12_whyNoPlace 4 = .ok (.ifCond .ne 5, 3) := by decide +kernel
theorem dX12_whyNoPlace_7 : decode cX12_whyNoPlace 7 = .ok (.iconst (-1), 1) := by decide +kernel
theorem dX12_whyNoPlace_8 : decode cX12_whyNoPlace 8 = .ok (.ireturn, 1) := by decide +kernel
theorem dX12_whyNoPlace_9 : decode cX12_whyNoPlace 9 = .ok (.aload_n 0, 1) := by decide +kernel
theorem dX12_whyNoPlace_10 : decode cX12_whyNoPlace 10 = .ok (.getfield 109, 3) := by decide +kernel
theorem dX12_whyNoPlace_13 : decode cX12_whyNoPlace 13 = .ok (.iload_n 1, 1) := by decide +kernel
theorem dX12_whyNoPlace_14 : decode cX12_whyNoPlace 14 = .ok (.iaload, 1) := by decide +kernel
theorem dX12_whyNoPlace_15 : decode cX12_whyNoPlace 15 = .ok (.iconst (-1), 1) := by decide +kernel
theorem dX12_whyNoPlace_16 : decode cX12_whyNoPlace 16 = .ok (.if_icmp .ne 6, 3) := by decide +kernel
theorem dX12_whyNoPlace_19 : decode cX12_whyNoPlace 19 = .ok (.bipush (-11), 2) := by decide +kernel
theorem dX12_whyNoPlace_21 : decode cX12_whyNoPlace 21 = .ok (.ireturn, 1) := by decide +kernel
theorem dX12_whyNoPlace_22 : decode cX12_whyNoPlace 22 = .ok (.aload_n 0, 1) := by decide +kernel
theorem dX12_whyNoPlace_23 : decode cX12_whyNoPlace 23 = .ok (.getfield 109, 3) := by decide +kernel
theorem dX12_whyNoPlace_26 : decode cX12_whyNoPlace 26 = .ok (.iload_n 1, 1) := by decide +kernel
theorem dX12_whyNoPlace_27 : decode cX12_whyNoPlace 27 = .ok (.iaload, 1) := by decide +kernel
theorem dX12_whyNoPlace_28 : decode cX12_whyNoPlace 28 = .ok (.ifCond .lt 6, 3) := by decide +kernel
theorem dX12_whyNoPlace_31 : decode cX12_whyNoPlace 31 = .ok (.bipush (-12), 2) := by decide +kernel
theorem dX12_whyNoPlace_33 : decode cX12_whyNoPlace 33 = .ok (.ireturn, 1) := by decide +kernel
theorem dX12_whyNoPlace_34 : decode cX12_whyNoPlace 34 = .ok (.iload_n 2, 1) := by decide +kernel
theorem dX12_whyNoPlace_35 : decode cX12_whyNoPlace 35 = .ok (.iconst 0, 1) := by decide +kernel
theorem dX12_whyNoPlace_36 : decode cX12_whyNoPlace 36 = .ok (.aload_n 0, 1) := by decide +kernel
theorem dX12_whyNoPlace_37 : decode cX12_whyNoPlace 37 = .ok (.getfield 112, 3) := by decide +kernel
theorem dX12_whyNoPlace_40 : decode cX12_whyNoPlace 40 = .ok (.iload_n 1, 1) := by decide +kernel
theorem dX12_whyNoPlace_41 : decode cX12_whyNoPlace 41 = .ok (.iaload, 1) := by decide +kernel
theorem dX12_whyNoPlace_42 : decode cX12_whyNoPlace 42 = .ok (.iconst 1, 1) := by decide +kernel
theorem dX12_whyNoPlace_43 : decode cX12_whyNoPlace 43 = .ok (.isub, 1) := by decide +kernel
theorem dX12_whyNoPlace_44 : decode cX12_whyNoPlace 44 = .ok (.invokestatic 124, 3) := by decide +kernel
theorem dX12_whyNoPlace_47 : decode cX12_whyNoPlace 47 = .ok (.ifCond .eq 7, 3) := by decide +kernel
theorem dX12_whyNoPlace_50 : decode cX12_whyNoPlace 50 = .ok (.iconst 0, 1) := by decide +kernel
theorem dX12_whyNoPlace_51 : decode cX12_whyNoPlace 51 = .ok (.goto 5, 3) := by decide +kernel
theorem dX12_whyNoPlace_54 : decode cX12_whyNoPlace 54 = .ok (.bipush (-13), 2) := by decide +kernel
theorem dX12_whyNoPlace_56 : decode cX12_whyNoPlace 56 = .ok (.ireturn, 1) := by decide +kernel
theorem dX12_put_0 : decode cX12_put 0 = .ok (.aload_n 0, 1) := by decide +kernel
theorem dX12_put_1 : decode cX12_put 1 = .ok (.iload_n 1, 1) := by decide +kernel
theorem dX12_put_2 : decode cX12_put 2 = .ok (.iload_n 2, 1) := by decide +kernel
theorem dX12_put_3 : decode cX12_put 3 = .ok (.invokevirtual 432, 3) := by decide +kernel
theorem dX12_put_6 : decode cX12_put 6 = .ok (.istore 5, 2) := by decide +kernel
theorem dX12_put_8 : decode cX12_put 8 = .ok (.iload 5, 2) := by decide +kernel
theorem dX12_put_10 : decode cX12_put 10 = .ok (.ifCond .ge 6, 3) := by decide +kernel
theorem dX12_put_13 : decode cX12_put 13 = .ok (.iload 5, 2) := by decide +kernel
theorem dX12_put_15 : decode cX12_put 15 = .ok (.ireturn, 1) := by decide +kernel
theorem dX12_put_16 : decode cX12_put 16 = .ok (.bipush (-2), 2) := by decide +kernel
theorem dX12_put_18 : decode cX12_put 18 = .ok (.aload_n 0, 1) := by decide +kernel
theorem dX12_put_19 : decode cX12_put 19 = .ok (.getfield 109, 3) := by decide +kernel
theorem dX12_put_22 : decode cX12_put 22 = .ok (.iload_n 1, 1) := by decide +kernel
theorem dX12_put_23 : decode cX12_put 23 = .ok (.iaload, 1) := by decide +kernel
theorem dX12_put_24 : decode cX12_put 24 = .ok (.isub, 1) := by decide +kernel
theorem dX12_put_25 : decode cX12_put 25 = .ok (.istore 6, 2) := by decide +kernel
theorem dX12_put_27 : decode cX12_put 27 = .ok (.aload_n 0, 1) := by decide +kernel
theorem dX12_put_28 : decode cX12_put 28 = .ok (.getfield 115, 3) := by decide +kernel
theorem dX12_put_31 : decode cX12_put 31 = .ok (.bipush 60, 2) := by decide +kernel
theorem dX12_put_33 : decode cX12_put 33 = .ok (.iload_n 1, 1) := by decide +kernel
theorem dX12_put_34 : decode cX12_put 34 = .ok (.imul, 1) := by decide +kernel
theorem dX12_put_35 : decode cX12_put 35 = .ok (.iload_n 2, 1) := by decide +kernel
theorem dX12_put_36 : decode cX12_put 36 = .ok (.iadd, 1) := by decide +kernel
theorem dX12_put_37 : decode cX12_put 37 = .ok (.iload 6, 2) := by decide +kernel
theorem dX12_put_39 : decode cX12_put 39 = .ok (.ifCond .ne 10, 3) := by decide +kernel
theorem dX12_put_42 : decode cX12_put 42 = .ok (.lload_n 3, 1) := by decide +kernel
theorem dX12_put_43 : decode cX12_put 43 = .ok (.l2i, 1) := by decide +kernel
theorem dX12_put_44 : decode cX12_put 44 = .ok (.i2b, 1) := by decide +kernel
theorem dX12_put_45 : decode cX12_put 45 = .ok (.i2l, 1) := by decide +kernel
theorem dX12_put_46 : decode cX12_put 46 = .ok (.goto 49, 3) := by decide +kernel
theorem dX12_put_49 : decode cX12_put 49 = .ok (.iload 6, 2) := by decide +kernel
theorem dX12_put_51 : decode cX12_put 51 = .ok (.iconst 1, 1) := by decide +kernel
theorem dX12_put_52 : decode cX12_put 52 = .ok (.if_icmp .ne 10, 3) := by decide +kernel
theorem dX12_put_55 : decode cX12_put 55 = .ok (.lload_n 3, 1) := by decide +kernel
theorem dX12_put_56 : decode cX12_put 56 = .ok (.l2i, 1) := by decide +kernel
theorem dX12_put_57 : decode cX12_put 57 = .ok (.i2s, 1) := by decide +kernel
theorem dX12_put_58 : decode cX12_put 58 = .ok (.i2l, 1) := by decide +kernel
theorem dX12_put_59 : decode cX12_put 59 = .ok (.goto 36, 3) := by decide +kernel
theorem dX12_put_62 : decode cX12_put 62 = .ok (.iload 6, 2) := by decide +kernel
theorem dX12_put_64 : decode cX12_put 64 = .ok (.iconst 2, 1) := by decide +kernel
theorem dX12_put_65 : decode cX12_put 65 = .ok (.if_icmp .ne 9, 3) := by decide +kernel
theorem dX12_put_68 : decode cX12_put 68 = .ok (.lload_n 3, 1) := by decide +kernel
theorem dX12_put_69 : decode cX12_put 69 = .ok (.l2i, 1) := by decide +kernel
theorem dX12_put_70 : decode cX12_put 70 = .ok (.i2l, 1) := by decide +kernel
theorem dX12_put_71 : decode cX12_put 71 = .ok (.goto 24, 3) := by decide +kernel
theorem dX12_put_74 : decode cX12_put 74 = .ok (.iload 6, 2) := by decide +kernel
theorem dX12_put_76 : decode cX12_put 76 = .ok (.iconst 3, 1) := by decide +kernel
theorem dX12_put_77 : decode cX12_put 77 = .ok (.if_icmp .ne 7, 3) := by decide +kernel
theorem dX12_put_80 : decode cX12_put 80 = .ok (.lload_n 3, 1) := by decide +kernel
theorem dX12_put_81 : decode cX12_put 81 = .ok (.goto 14, 3) := by decide +kernel
theorem dX12_put_84 : decode cX12_put 84 = .ok (.lload_n 3, 1) := by decide +kernel
theorem dX12_put_85 : decode cX12_put 85 = .ok (.lconst 0, 1) := by decide +kernel
theorem dX12_put_86 : decode cX12_put 86 = .ok (.lcmp, 1) := by decide +kernel
theorem dX12_put_87 : decode cX12_put 87 = .ok (.ifCond .eq 7, 3) := by decide +kernel
theorem dX12_put_90 : decode cX12_put 90 = .ok (.lconst 1, 1) := by decide +kernel
theorem dX12_put_91 : decode cX12_put 91 = .ok (.goto 4, 3) := by decide +kernel
theorem dX12_put_94 : decode cX12_put 94 = .ok (.lconst 0, 1) := by decide +kernel
theorem dX12_put_95 : decode cX12_put 95 = .ok (.lastore, 1) := by decide +kernel
theorem dX12_put_96 : decode cX12_put 96 = .ok (.iconst 1, 1) := by decide +kernel
theorem dX12_put_97 : decode cX12_put 97 = .ok (.ireturn, 1) := by decide +kernel
theorem dX12_element_0 : decode cX12_element 0 = .ok (.aload_n 0, 1) := by decide +kernel
theorem dX12_element_1 : decode cX12_element 1 = .ok (.iload_n 1, 1) := by decide +kernel
theorem dX12_element_2 : decode cX12_element 2 = .ok (.iload_n 2, 1) := by decide +kernel
theorem dX12_element_3 : decode cX12_element 3 = .ok (.invokevirtual 432, 3) := by decide +kernel
theorem dX12_element_6 : decode cX12_element 6 = .ok (.ifCond .ge 9, 3) := by decide +kernel
theorem dX12_element_9 : decode cX12_element 9 = .ok (.ldc2_w 283, 3) := by decide +kernel
theorem dX12_element_12 : decode cX12_element 12 = .ok (.goto 14, 3) := by decide +kernel
theorem dX12_element_15 : decode cX12_element 15 = .ok (.aload_n 0, 1) := by decide +kernel
theorem dX12_element_16 : decode cX12_element 16 = .ok (.getfield 115, 3) := by decide +kernel
theorem dX12_element_19 : decode cX12_element 19 = .ok (.bipush 60, 2) := by decide +kernel
theorem dX12_element_21 : decode cX12_element 21 = .ok (.iload_n 1, 1) := by decide +kernel
theorem dX12_element_22 : decode cX12_element 22 = .ok (.imul, 1) := by decide +kernel
theorem dX12_element_23 : decode cX12_element 23 = .ok (.iload_n 2, 1) := by decide +kernel
theorem dX12_element_24 : decode cX12_element 24 = .ok (.iadd, 1) := by decide +kernel
theorem dX12_element_25 : decode cX12_element 25 = .ok (.laload, 1) := by decide +kernel
theorem dX12_element_26 : decode cX12_element 26 = .ok (.lreturn, 1) := by decide +kernel
theorem dX12_shift_0 : decode cX12_shift 0 = .ok (.iload_n 1, 1) := by decide +kernel
theorem dX12_shift_1 : decode cX12_shift 1 = .ok (.invokestatic 135, 3) := by decide +kernel
theorem dX12_shift_4 : decode cX12_shift 4 = .ok (.ifCond .eq 10, 3) := by decide +kernel
theorem dX12_shift_7 : decode cX12_shift 7 = .ok (.iload_n 3, 1) := by decide +kernel
theorem dX12_shift_8 : decode cX12_shift 8 = .ok (.invokestatic 135, 3) := by decide +kernel
theorem dX12_shift_11 : decode cX12_shift 11 = .ok (.ifCond .ne 5, 3) := by decide +kernel
theorem dX12_shift_14 : decode cX12_shift 14 = .ok (.iconst (-1), 1) := by decide +kernel
theorem dX12_shift_15 : decode cX12_shift 15 = .ok (.ireturn, 1) := by decide +kernel
theorem dX12_shift_16 : decode cX12_shift 16 = .ok (.aload_n 0, 1) := by decide +kernel
theorem dX12_shift_17 : decode cX12_shift 17 = .ok (.getfield 109, 3) := by decide +kernel
theorem dX12_shift_20 : decode cX12_shift 20 = .ok (.iload_n 1, 1) := by decide +kernel
theorem dX12_shift_21 : decode cX12_shift 21 = .ok (.iaload, 1) := by decide +kernel
theorem dX12_shift_22 : decode cX12_shift 22 = .ok (.iconst (-1), 1) := by decide +kernel
theorem dX12_shift_23 : decode cX12_shift 23 = .ok (.if_icmp .eq 13, 3) := by decide +kernel
theorem dX12_shift_26 : decode cX12_shift 26 = .ok (.aload_n 0, 1) := by decide +kernel
theorem dX12_shift_27 : decode cX12_shift 27 = .ok (.getfield 109, 3) := by decide +kernel
theorem dX12_shift_30 : decode cX12_shift 30 = .ok (.iload_n 3, 1) := by decide +kernel
theorem dX12_shift_31 : decode cX12_shift 31 = .ok (.iaload, 1) := by decide +kernel
theorem dX12_shift_32 : decode cX12_shift 32 = .ok (.iconst (-1), 1) := by decide +kernel
theorem dX12_shift_33 : decode cX12_shift 33 = .ok (.if_icmp .ne 6, 3) := by decide +kernel
theorem dX12_shift_36 : decode cX12_shift 36 = .ok (.bipush (-11), 2) := by decide +kernel
theorem dX12_shift_38 : decode cX12_shift 38 = .ok (.ireturn, 1) := by decide +kernel
theorem dX12_shift_39 : decode cX12_shift 39 = .ok (.aload_n 0, 1) := by decide +kernel
theorem dX12_shift_40 : decode cX12_shift 40 = .ok (.getfield 109, 3) := by decide +kernel
theorem dX12_shift_43 : decode cX12_shift 43 = .ok (.iload_n 1, 1) := by decide +kernel
theorem dX12_shift_44 : decode cX12_shift 44 = .ok (.iaload, 1) := by decide +kernel
theorem dX12_shift_45 : decode cX12_shift 45 = .ok (.ifCond .ge 18, 3) := by decide +kernel
theorem dX12_shift_48 : decode cX12_shift 48 = .ok (.aload_n 0, 1) := by decide +kernel
theorem dX12_shift_49 : decode cX12_shift 49 = .ok (.getfield 109, 3) := by decide +kernel
theorem dX12_shift_52 : decode cX12_shift 52 = .ok (.iload_n 1, 1) := by decide +kernel
theorem dX12_shift_53 : decode cX12_shift 53 = .ok (.iaload, 1) := by decide +kernel
theorem dX12_shift_54 : decode cX12_shift 54 = .ok (.aload_n 0, 1) := by decide +kernel
theorem dX12_shift_55 : decode cX12_shift 55 = .ok (.getfield 109, 3) := by decide +kernel
theorem dX12_shift_58 : decode cX12_shift 58 = .ok (.iload_n 3, 1) := by decide +kernel
theorem dX12_shift_59 : decode cX12_shift 59 = .ok (.iaload, 1) := by decide +kernel
theorem dX12_shift_60 : decode cX12_shift 60 = .ok (.if_icmp .eq 6, 3) := by decide +kernel
theorem dX12_shift_63 : decode cX12_shift 63 = .ok (.bipush (-12), 2) := by decide +kernel
theorem dX12_shift_65 : decode cX12_shift 65 = .ok (.ireturn, 1) := by decide +kernel
theorem dX12_shift_66 : decode cX12_shift 66 = .ok (.iload 5, 2) := by decide +kernel
theorem dX12_shift_68 : decode cX12_shift 68 = .ok (.ifCond .lt 39, 3) := by decide +kernel
theorem dX12_shift_71 : decode cX12_shift 71 = .ok (.iload_n 2, 1) := by decide +kernel
theorem dX12_shift_72 : decode cX12_shift 72 = .ok (.ifCond .lt 35, 3) := by decide +kernel
theorem dX12_shift_75 : decode cX12_shift 75 = .ok (.iload 4, 2) := by decide +kernel
theorem dX12_shift_77 : decode cX12_shift 77 = .ok (.ifCond .lt 30, 3) := by decide +kernel
theorem dX12_shift_80 : decode cX12_shift 80 = .ok (.iload_n 2, 1) := by decide +kernel
theorem dX12_shift_81 : decode cX12_shift 81 = .ok (.aload_n 0, 1) := by decide +kernel
theorem dX12_shift_82 : decode cX12_shift 82 = .ok (.getfield 112, 3) := by decide +kernel
theorem dX12_shift_85 : decode cX12_shift 85 = .ok (.iload_n 1, 1) := by decide +kernel
theorem dX12_shift_86 : decode cX12_shift 86 = .ok (.iaload, 1) := by decide +kernel
theorem dX12_shift_87 : decode cX12_shift 87 = .ok (.iload 5, 2) := by decide +kernel
theorem dX12_shift_89 : decode cX12_shift 89 = .ok (.isub, 1) := by decide +kernel
theorem dX12_shift_90 : decode cX12_shift 90 = .ok (.if_icmp .gt 17, 3) := by decide +kernel
theorem dX12_shift_93 : decode cX12_shift 93 = .ok (.iload 4, 2) := by decide +kernel
theorem dX12_shift_95 : decode cX12_shift 95 = .ok (.aload_n 0, 1) := by decide +kernel
theorem dX12_shift_96 : decode cX12_shift 96 = .ok (.getfield 112, 3) := by decide +kernel
theorem dX12_shift_99 : decode cX12_shift 99 = .ok (.iload_n 3, 1) := by decide +kernel
theorem dX12_shift_100 : decode cX12_shift 100 = .ok (.iaload, 1) := by decide +kernel
theorem dX12_shift_101 : decode cX12_shift 101 = .ok (.iload 5, 2) := by decide +kernel
theorem dX12_shift_103 : decode cX12_shift 103 = .ok (.isub, 1) := by decide +kernel
theorem dX12_shift_104 : decode cX12_shift 104 = .ok (.if_icmp .le 6, 3) := by decide +kernel
theorem dX12_shift_107 : decode cX12_shift 107 = .ok (.bipush (-13), 2) := by decide +kernel
theorem dX12_shift_109 : decode cX12_shift 109 = .ok (.ireturn, 1) := by decide +kernel
theorem dX12_shift_110 : decode cX12_shift 110 = .ok (.iconst 0, 1) := by decide +kernel
theorem dX12_shift_111 : decode cX12_shift 111 = .ok (.istore 6, 2) := by decide +kernel
theorem dX12_shift_113 : decode cX12_shift 113 = .ok (.iload 6, 2) := by decide +kernel
theorem dX12_shift_115 : decode cX12_shift 115 = .ok (.iload 5, 2) := by decide +kernel
theorem dX12_shift_117 : decode cX12_shift 117 = .ok (.if_icmp .ge 30, 3) := by decide +kernel
theorem dX12_shift_120 : decode cX12_shift 120 = .ok (.aload_n 0, 1) := by decide +kernel
theorem dX12_shift_121 : decode cX12_shift 121 = .ok (.getfield 118, 3) := by decide +kernel
theorem dX12_shift_124 : decode cX12_shift 124 = .ok (.iload 6, 2) := by decide +kernel
theorem dX12_shift_126 : decode cX12_shift 126 = .ok (.aload_n 0, 1) := by decide +kernel
theorem dX12_shift_127 : decode cX12_shift 127 = .ok (.getfield 115, 3) := by decide +kernel
theorem dX12_shift_130 : decode cX12_shift 130 = .ok (.bipush 60, 2) := by decide +kernel
theorem dX12_shift_132 : decode cX12_shift 132 = .ok (.iload_n 1, 1) := by decide +kernel
theorem dX12_shift_133 : decode cX12_shift 133 = .ok (.imul, 1) := by decide +kernel
theorem dX12_shift_134 : decode cX12_shift 134 = .ok (.iload_n 2, 1) := by decide +kernel
theorem dX12_shift_135 : decode cX12_shift 135 = .ok (.iadd, 1) := by decide +kernel
theorem dX12_shift_136 : decode cX12_shift 136 = .ok (.iload 6, 2) := by decide +kernel
theorem dX12_shift_138 : decode cX12_shift 138 = .ok (.iadd, 1) := by decide +kernel
theorem dX12_shift_139 : decode cX12_shift 139 = .ok (.laload, 1) := by decide +kernel
theorem dX12_shift_140 : decode cX12_shift 140 = .ok (.lastore, 1) := by decide +kernel
theorem dX12_shift_141 : decode cX12_shift 141 = .ok (.iinc 6 1, 3) := by decide +kernel
theorem dX12_shift_144 : decode cX12_shift 144 = .ok (.goto (-31), 3) := by decide +kernel
theorem dX12_shift_147 : decode cX12_shift 147 = .ok (.iconst 0, 1) := by decide +kernel
theorem dX12_shift_148 : decode cX12_shift 148 = .ok (.istore 6, 2) := by decide +kernel
theorem dX12_shift_150 : decode cX12_shift 150 = .ok (.iload 6, 2) := by decide +kernel
theorem dX12_shift_152 : decode cX12_shift 152 = .ok (.iload 5, 2) := by decide +kernel
theorem dX12_shift_154 : decode cX12_shift 154 = .ok (.if_icmp .ge 31, 3) := by decide +kernel
theorem dX12_shift_157 : decode cX12_shift 157 = .ok (.aload_n 0, 1) := by decide +kernel
theorem dX12_shift_158 : decode cX12_shift 158 = .ok (.getfield 115, 3) := by decide +kernel
theorem dX12_shift_161 : decode cX12_shift 161 = .ok (.bipush 60, 2) := by decide +kernel
theorem dX12_shift_163 : decode cX12_shift 163 = .ok (.iload_n 3, 1) := by decide +kernel
theorem dX12_shift_164 : decode cX12_shift 164 = .ok (.imul, 1) := by decide +kernel
theorem dX12_shift_165 : decode cX12_shift 165 = .ok (.iload 4, 2) := by decide +kernel
theorem dX12_shift_167 : decode cX12_shift 167 = .ok (.iadd, 1) := by decide +kernel
theorem dX12_shift_168 : decode cX12_shift 168 = .ok (.iload 6, 2) := by decide +kernel
theorem dX12_shift_170 : decode cX12_shift 170 = .ok (.iadd, 1) := by decide +kernel
theorem dX12_shift_171 : decode cX12_shift 171 = .ok (.aload_n 0, 1) := by decide +kernel
theorem dX12_shift_172 : decode cX12_shift 172 = .ok (.getfield 118, 3) := by decide +kernel
theorem dX12_shift_175 : decode cX12_shift 175 = .ok (.iload 6, 2) := by decide +kernel
theorem dX12_shift_177 : decode cX12_shift 177 = .ok (.laload, 1) := by decide +kernel
theorem dX12_shift_178 : decode cX12_shift 178 = .ok (.lastore, 1) := by decide +kernel
theorem dX12_shift_179 : decode cX12_shift 179 = .ok (.iinc 6 1, 3) := by decide +kernel
theorem dX12_shift_182 : decode cX12_shift 182 = .ok (.goto (-32), 3) := by decide +kernel
theorem dX12_shift_185 : decode cX12_shift 185 = .ok (.iload 5, 2) := by decide +kernel
theorem dX12_shift_187 : decode cX12_shift 187 = .ok (.ireturn, 1) := by decide +kernel
theorem dX12_taken_0 : decode cX12_taken 0 = .ok (.iload_n 1, 1) := by decide +kernel
theorem dX12_taken_1 : decode cX12_taken 1 = .ok (.invokestatic 135, 3) := by decide +kernel
theorem dX12_taken_4 : decode cX12_taken 4 = .ok (.ifCond .eq 13, 3) := by decide +kernel
theorem dX12_taken_7 : decode cX12_taken 7 = .ok (.iload_n 2, 1) := by decide +kernel
theorem dX12_taken_8 : decode cX12_taken 8 = .ok (.iconst 0, 1) := by decide +kernel
theorem dX12_taken_9 : decode cX12_taken 9 = .ok (.bipush 7, 2) := by decide +kernel
theorem dX12_taken_11 : decode cX12_taken 11 = .ok (.invokestatic 124, 3) := by decide +kernel
theorem dX12_taken_14 : decode cX12_taken 14 = .ok (.ifCond .ne 5, 3) := by decide +kernel
theorem dX12_taken_17 : decode cX12_taken 17 = .ok (.iconst (-1), 1) := by decide +kernel
theorem dX12_taken_18 : decode cX12_taken 18 = .ok (.ireturn, 1) := by decide +kernel
theorem dX12_taken_19 : decode cX12_taken 19 = .ok (.aload_n 0, 1) := by decide +kernel
theorem dX12_taken_20 : decode cX12_taken 20 = .ok (.getfield 109, 3) := by decide +kernel
theorem dX12_taken_23 : decode cX12_taken 23 = .ok (.iload_n 1, 1) := by decide +kernel
theorem dX12_taken_24 : decode cX12_taken 24 = .ok (.iaload, 1) := by decide +kernel
theorem dX12_taken_25 : decode cX12_taken 25 = .ok (.iconst (-1), 1) := by decide +kernel
theorem dX12_taken_26 : decode cX12_taken 26 = .ok (.if_icmp .ne 6, 3) := by decide +kernel
theorem dX12_taken_29 : decode cX12_taken 29 = .ok (.bipush (-11), 2) := by decide +kernel
theorem dX12_taken_31 : decode cX12_taken 31 = .ok (.ireturn, 1) := by decide +kernel
theorem dX12_taken_32 : decode cX12_taken 32 = .ok (.aload_n 0, 1) := by decide +kernel
theorem dX12_taken_33 : decode cX12_taken 33 = .ok (.getfield 109, 3) := by decide +kernel
theorem dX12_taken_36 : decode cX12_taken 36 = .ok (.iload_n 1, 1) := by decide +kernel
theorem dX12_taken_37 : decode cX12_taken 37 = .ok (.iaload, 1) := by decide +kernel
theorem dX12_taken_38 : decode cX12_taken 38 = .ok (.ifCond .lt 35, 3) := by decide +kernel
theorem dX12_taken_41 : decode cX12_taken 41 = .ok (.aload_n 0, 1) := by decide +kernel
theorem dX12_taken_42 : decode cX12_taken 42 = .ok (.getfield 103, 3) := by decide +kernel
theorem dX12_taken_45 : decode cX12_taken 45 = .ok (.aload_n 0, 1) := by decide +kernel
theorem dX12_taken_46 : decode cX12_taken 46 = .ok (.getfield 109, 3) := by decide +kernel
theorem dX12_taken_49 : decode cX12_taken 49 = .ok (.iload_n 1, 1) := by decide +kernel
theorem dX12_taken_50 : decode cX12_taken 50 = .ok (.iaload, 1) := by decide +kernel
theorem dX12_taken_51 : decode cX12_taken 51 = .ok (.iaload, 1) := by decide +kernel
theorem dX12_taken_52 : decode cX12_taken 52 = .ok (.iload_n 2, 1) := by decide +kernel
theorem dX12_taken_53 : decode cX12_taken 53 = .ok (.invokestatic 396, 3) := by decide +kernel
theorem dX12_taken_56 : decode cX12_taken 56 = .ok (.ifCond .eq 17, 3) := by decide +kernel
theorem dX12_taken_59 : decode cX12_taken 59 = .ok (.aload_n 0, 1) := by decide +kernel
theorem dX12_taken_60 : decode cX12_taken 60 = .ok (.getfield 103, 3) := by decide +kernel
theorem dX12_taken_63 : decode cX12_taken 63 = .ok (.aload_n 0, 1) := by decide +kernel
theorem dX12_taken_64 : decode cX12_taken 64 = .ok (.getfield 109, 3) := by decide +kernel
theorem dX12_taken_67 : decode cX12_taken 67 = .ok (.iload_n 1, 1) := by decide +kernel
theorem dX12_taken_68 : decode cX12_taken 68 = .ok (.iaload, 1) := by decide +kernel
theorem dX12_taken_69 : decode cX12_taken 69 = .ok (.iaload, 1) := by decide +kernel
theorem dX12_taken_70 : decode cX12_taken 70 = .ok (.goto 5, 3) := by decide +kernel
theorem dX12_taken_73 : decode cX12_taken 73 = .ok (.bipush (-12), 2) := by decide +kernel
theorem dX12_taken_75 : decode cX12_taken 75 = .ok (.ireturn, 1) := by decide +kernel
theorem dJ6_bitCount_0f7a4_0 : decode cJ6_bitCount_0f7a4 0 = .ok (.iload_n 0, 1) := by decide +kernel
theorem dJ6_bitCount_0f7a4_1 : decode cJ6_bitCount_0f7a4 1 = .ok (.iload_n 0, 1) := by decide +kernel
theorem dJ6_bitCount_0f7a4_2 : decode cJ6_bitCount_0f7a4 2 = .ok (.iconst 1, 1) := by decide +kernel
theorem dJ6_bitCount_0f7a4_3 : decode cJ6_bitCount_0f7a4 3 = .ok (.iushr, 1) := by decide +kernel
theorem dJ6_bitCount_0f7a4_4 : decode cJ6_bitCount_0f7a4 4 = .ok (.ldc_w 265, 3) := by decide +kernel
theorem dJ6_bitCount_0f7a4_7 : decode cJ6_bitCount_0f7a4 7 = .ok (.iand, 1) := by decide +kernel
theorem dJ6_bitCount_0f7a4_8 : decode cJ6_bitCount_0f7a4 8 = .ok (.isub, 1) := by decide +kernel
theorem dJ6_bitCount_0f7a4_9 : decode cJ6_bitCount_0f7a4 9 = .ok (.istore_n 0, 1) := by decide +kernel
theorem dJ6_bitCount_0f7a4_10 : decode cJ6_bitCount_0f7a4 10 = .ok (.iload_n 0, 1) := by decide +kernel
theorem dJ6_bitCount_0f7a4_11 : decode cJ6_bitCount_0f7a4 11 = .ok (.ldc_w 266, 3) := by decide +kernel
theorem dJ6_bitCount_0f7a4_14 : decode cJ6_bitCount_0f7a4 14 = .ok (.iand, 1) := by decide +kernel
theorem dJ6_bitCount_0f7a4_15 : decode cJ6_bitCount_0f7a4 15 = .ok (.iload_n 0, 1) := by decide +kernel
theorem dJ6_bitCount_0f7a4_16 : decode cJ6_bitCount_0f7a4 16 = .ok (.iconst 2, 1) := by decide +kernel
theorem dJ6_bitCount_0f7a4_17 : decode cJ6_bitCount_0f7a4 17 = .ok (.iushr, 1) := by decide +kernel
theorem dJ6_bitCount_0f7a4_18 : decode cJ6_bitCount_0f7a4 18 = .ok (.ldc_w 266, 3) := by decide +kernel
theorem dJ6_bitCount_0f7a4_21 : decode cJ6_bitCount_0f7a4 21 = .ok (.iand, 1) := by decide +kernel
theorem dJ6_bitCount_0f7a4_22 : decode cJ6_bitCount_0f7a4 22 = .ok (.iadd, 1) := by decide +kernel
theorem dJ6_bitCount_0f7a4_23 : decode cJ6_bitCount_0f7a4 23 = .ok (.istore_n 0, 1) := by decide +kernel
theorem dJ6_bitCount_0f7a4_24 : decode cJ6_bitCount_0f7a4 24 = .ok (.iload_n 0, 1) := by decide +kernel
theorem dJ6_bitCount_0f7a4_25 : decode cJ6_bitCount_0f7a4 25 = .ok (.iload_n 0, 1) := by decide +kernel
theorem dJ6_bitCount_0f7a4_26 : decode cJ6_bitCount_0f7a4 26 = .ok (.iconst 4, 1) := by decide +kernel
theorem dJ6_bitCount_0f7a4_27 : decode cJ6_bitCount_0f7a4 27 = .ok (.iushr, 1) := by decide +kernel
theorem dJ6_bitCount_0f7a4_28 : decode cJ6_bitCount_0f7a4 28 = .ok (.iadd, 1) := by decide +kernel
theorem dJ6_bitCount_0f7a4_29 : decode cJ6_bitCount_0f7a4 29 = .ok (.ldc_w 267, 3) := by decide +kernel
theorem dJ6_bitCount_0f7a4_32 : decode cJ6_bitCount_0f7a4 32 = .ok (.iand, 1) := by decide +kernel
theorem dJ6_bitCount_0f7a4_33 : decode cJ6_bitCount_0f7a4 33 = .ok (.istore_n 0, 1) := by decide +kernel
theorem dJ6_bitCount_0f7a4_34 : decode cJ6_bitCount_0f7a4 34 = .ok (.iload_n 0, 1) := by decide +kernel
theorem dJ6_bitCount_0f7a4_35 : decode cJ6_bitCount_0f7a4 35 = .ok (.iload_n 0, 1) := by decide +kernel
theorem dJ6_bitCount_0f7a4_36 : decode cJ6_bitCount_0f7a4 36 = .ok (.bipush 8, 2) := by decide +kernel
theorem dJ6_bitCount_0f7a4_38 : decode cJ6_bitCount_0f7a4 38 = .ok (.iushr, 1) := by decide +kernel
theorem dJ6_bitCount_0f7a4_39 : decode cJ6_bitCount_0f7a4 39 = .ok (.iadd, 1) := by decide +kernel
theorem dJ6_bitCount_0f7a4_40 : decode cJ6_bitCount_0f7a4 40 = .ok (.istore_n 0, 1) := by decide +kernel
theorem dJ6_bitCount_0f7a4_41 : decode cJ6_bitCount_0f7a4 41 = .ok (.iload_n 0, 1) := by decide +kernel
theorem dJ6_bitCount_0f7a4_42 : decode cJ6_bitCount_0f7a4 42 = .ok (.iload_n 0, 1) := by decide +kernel
theorem dJ6_bitCount_0f7a4_43 : decode cJ6_bitCount_0f7a4 43 = .ok (.bipush 16, 2) := by decide +kernel
theorem dJ6_bitCount_0f7a4_45 : decode cJ6_bitCount_0f7a4 45 = .ok (.iushr, 1) := by decide +kernel
theorem dJ6_bitCount_0f7a4_46 : decode cJ6_bitCount_0f7a4 46 = .ok (.iadd, 1) := by decide +kernel
theorem dJ6_bitCount_0f7a4_47 : decode cJ6_bitCount_0f7a4 47 = .ok (.istore_n 0, 1) := by decide +kernel
theorem dJ6_bitCount_0f7a4_48 : decode cJ6_bitCount_0f7a4 48 = .ok (.iload_n 0, 1) := by decide +kernel
theorem dJ6_bitCount_0f7a4_49 : decode cJ6_bitCount_0f7a4 49 = .ok (.bipush 63, 2) := by decide +kernel
theorem dJ6_bitCount_0f7a4_51 : decode cJ6_bitCount_0f7a4 51 = .ok (.iand, 1) := by decide +kernel
theorem dJ6_bitCount_0f7a4_52 : decode cJ6_bitCount_0f7a4 52 = .ok (.ireturn, 1) := by decide +kernel
theorem dL_law_0 : decode cL_law 0 = .ok (.new 7, 3) := by decide +kernel
theorem dL_law_3 : decode cL_law 3 = .ok (.dup, 1) := by decide +kernel
theorem dL_law_4 : decode cL_law 4 = .ok (.invokespecial 9, 3) := by decide +kernel
theorem dL_law_7 : decode cL_law 7 = .ok (.astore_n 1, 1) := by decide +kernel
theorem dL_law_8 : decode cL_law 8 = .ok (.new 10, 3) := by decide +kernel
theorem dL_law_11 : decode cL_law 11 = .ok (.dup, 1) := by decide +kernel
theorem dL_law_12 : decode cL_law 12 = .ok (.invokespecial 12, 3) := by decide +kernel
theorem dL_law_15 : decode cL_law 15 = .ok (.astore_n 2, 1) := by decide +kernel
theorem dL_law_16 : decode cL_law 16 = .ok (.iconst 0, 1) := by decide +kernel
theorem dL_law_17 : decode cL_law 17 = .ok (.istore_n 3, 1) := by decide +kernel
theorem dL_law_18 : decode cL_law 18 = .ok (.iload_n 3, 1) := by decide +kernel
theorem dL_law_19 : decode cL_law 19 = .ok (.aload_n 0, 1) := by decide +kernel
theorem dL_law_20 : decode cL_law 20 = .ok (.arraylength, 1) := by decide +kernel
theorem dL_law_21 : decode cL_law 21 = .ok (.bipush 6, 2) := by decide +kernel
theorem dL_law_23 : decode cL_law 23 = .ok (.isub, 1) := by decide +kernel
theorem dL_law_24 : decode cL_law 24 = .ok (.if_icmp .gt 1522, 3) := by decide +kernel
theorem dL_law_27 : decode cL_law 27 = .ok (.aload_n 0, 1) := by decide +kernel
theorem dL_law_28 : decode cL_law 28 = .ok (.iload_n 3, 1) := by decide +kernel
theorem dL_law_29 : decode cL_law 29 = .ok (.iaload, 1) := by decide +kernel
theorem dL_law_30 : decode cL_law 30 = .ok (.bipush 63, 2) := by decide +kernel
theorem dL_law_32 : decode cL_law 32 = .ok (.iand, 1) := by decide +kernel
theorem dL_law_33 : decode cL_law 33 = .ok (.tableswitch 1507 0 38 #[171, 194, 237, 280, 313, 336, 349, 382, 436, 490, 534, 567, 611, 635, 679, 702, 725, 769, 823, 866, 919, 972, 1005, 1028, 1041, 1064, 1077, 1090, 1103, 1116, 1139, 1182, 1205, 1238, 1281, 1354, 1388, 1451, 1484], 171) := by decide +kernel
theorem dL_law_204 : decode cL_law 204 = .ok (.aload_n 1, 1) := by decide +kernel
theorem dL_law_205 : decode cL_law 205 = .ok (.aload_n 0, 1) := by decide +kernel
theorem dL_law_206 : decode cL_law 206 = .ok (.iload_n 3, 1) := by decide +kernel
theorem dL_law_207 : decode cL_law 207 = .ok (.iconst 1, 1) := by decide +kernel
theorem dL_law_208 : decode cL_law 208 = .ok (.iadd, 1) := by decide +kernel
theorem dL_law_209 : decode cL_law 209 = .ok (.iaload, 1) := by decide +kernel
theorem dL_law_210 : decode cL_law 210 = .ok (.invokevirtual 13, 3) := by decide +kernel
theorem dL_law_213 : decode cL_law 213 = .ok (.aload_n 2, 1) := by decide +kernel
theorem dL_law_214 : decode cL_law 214 = .ok (.aload_n 0, 1) := by decide +kernel
theorem dL_law_215 : decode cL_law 215 = .ok (.iload_n 3, 1) := by decide +kernel
theorem dL_law_216 : decode cL_law 216 = .ok (.iconst 1, 1) := by decide +kernel
theorem dL_law_217 : decode cL_law 217 = .ok (.iadd, 1) := by decide +kernel
theorem dL_law_218 : decode cL_law 218 = .ok (.iaload, 1) := by decide +kernel
theorem dL_law_219 : decode cL_law 219 = .ok (.invokevirtual 17, 3) := by decide +kernel
theorem dL_law_222 : decode cL_law 222 = .ok (.if_icmp .eq 1318, 3) := by decide +kernel
theorem dL_law_225 : decode cL_law 225 = .ok (.iconst 0, 1) := by decide +kernel
theorem dL_law_226 : decode cL_law 226 = .ok (.ireturn, 1) := by decide +kernel
theorem dL_law_227 : decode cL_law 227 = .ok (.aload_n 1, 1) := by decide +kernel
theorem dL_law_228 : decode cL_law 228 = .ok (.aload_n 0, 1) := by decide +kernel
theorem dL_law_229 : decode cL_law 229 = .ok (.iload_n 3, 1) := by decide +kernel
theorem dL_law_230 : decode cL_law 230 = .ok (.iconst 1, 1) := by decide +kernel
theorem dL_law_231 : decode cL_law 231 = .ok (.iadd, 1) := by decide +kernel
theorem dL_law_232 : decode cL_law 232 = .ok (.iaload, 1) := by decide +kernel
theorem dL_law_233 : decode cL_law 233 = .ok (.aload_n 0, 1) := by decide +kernel
theorem dL_law_234 : decode cL_law 234 = .ok (.iload_n 3, 1) := by decide +kernel
theorem dL_law_235 : decode cL_law 235 = .ok (.iconst 2, 1) := by decide +kernel
theorem dL_law_236 : decode cL_law 236 = .ok (.iadd, 1) := by decide +kernel
theorem dL_law_237 : decode cL_law 237 = .ok (.iaload, 1) := by decide +kernel
theorem dL_law_238 : decode cL_law 238 = .ok (.aload_n 0, 1) := by decide +kernel
theorem dL_law_239 : decode cL_law 239 = .ok (.iload_n 3, 1) := by decide +kernel
theorem dL_law_240 : decode cL_law 240 = .ok (.iconst 3, 1) := by decide +kernel
theorem dL_law_241 : decode cL_law 241 = .ok (.iadd, 1) := by decide +kernel
theorem dL_law_242 : decode cL_law 242 = .ok (.iaload, 1) := by decide +kernel
theorem dL_law_243 : decode cL_law 243 = .ok (.invokevirtual 18, 3) := by decide +kernel
theorem dL_law_246 : decode cL_law 246 = .ok (.aload_n 2, 1) := by decide +kernel
theorem dL_law_247 : decode cL_law 247 = .ok (.aload_n 0, 1) := by decide +kernel
theorem dL_law_248 : decode cL_law 248 = .ok (.iload_n 3, 1) := by decide +kernel
theorem dL_law_249 : decode cL_law 249 = .ok (.iconst 1, 1) := by decide +kernel
theorem dL_law_250 : decode cL_law 250 = .ok (.iadd, 1) := by decide +kernel
theorem dL_law_251 : decode cL_law 251 = .ok (.iaload, 1) := by decide +kernel
theorem dL_law_252 : decode cL_law 252 = .ok (.aload_n 0, 1) := by decide +kernel
theorem dL_law_253 : decode cL_law 253 = .ok (.iload_n 3, 1) := by decide +kernel
theorem dL_law_254 : decode cL_law 254 = .ok (.iconst 2, 1) := by decide +kernel
theorem dL_law_255 : decode cL_law 255 = .ok (.iadd, 1) := by decide +kernel
theorem dL_law_256 : decode cL_law 256 = .ok (.iaload, 1) := by decide +kernel
theorem dL_law_257 : decode cL_law 257 = .ok (.aload_n 0, 1) := by decide +kernel
theorem dL_law_258 : decode cL_law 258 = .ok (.iload_n 3, 1) := by decide +kernel
theorem dL_law_259 : decode cL_law 259 = .ok (.iconst 3, 1) := by decide +kernel
theorem dL_law_260 : decode cL_law 260 = .ok (.iadd, 1) := by decide +kernel
theorem dL_law_261 : decode cL_law 261 = .ok (.iaload, 1) := by decide +kernel
theorem dL_law_262 : decode cL_law 262 = .ok (.invokevirtual 22, 3) := by decide +kernel
theorem dL_law_265 : decode cL_law 265 = .ok (.if_icmp .eq 1275, 3) := by decide +kernel
theorem dL_law_268 : decode cL_law 268 = .ok (.iconst 0, 1) := by decide +kernel
theorem dL_law_269 : decode cL_law 269 = .ok (.ireturn, 1) := by decide +kernel
theorem dL_law_270 : decode cL_law 270 = .ok (.aload_n 1, 1) := by decide +kernel
theorem dL_law_271 : decode cL_law 271 = .ok (.aload_n 0, 1) := by decide +kernel
theorem dL_law_272 : decode cL_law 272 = .ok (.iload_n 3, 1) := by decide +kernel
theorem dL_law_273 : decode cL_law 273 = .ok (.iconst 1, 1) := by decide +kernel
theorem dL_law_274 : decode cL_law 274 = .ok (.iadd, 1) := by decide +kernel
theorem dL_law_275 : decode cL_law 275 = .ok (.iaload, 1) := by decide +kernel
theorem dL_law_276 : decode cL_law 276 = .ok (.aload_n 0, 1) := by decide +kernel
theorem dL_law_277 : decode cL_law 277 = .ok (.iload_n 3, 1) := by decide +kernel
theorem dL_law_278 : decode cL_law 278 = .ok (.iconst 2, 1) := by decide +kernel
theorem dL_law_279 : decode cL_law 279 = .ok (.iadd, 1) := by decide +kernel
theorem dL_law_280 : decode cL_law 280 = .ok (.iaload, 1) := by decide +kernel
theorem dL_law_281 : decode cL_law 281 = .ok (.aload_n 0, 1) := by decide +kernel
theorem dL_law_282 : decode cL_law 282 = .ok (.iload_n 3, 1) := by decide +kernel
theorem dL_law_283 : decode cL_law 283 = .ok (.iconst 3, 1) := by decide +kernel
theorem dL_law_284 : decode cL_law 284 = .ok (.iadd, 1) := by decide +kernel
theorem dL_law_285 : decode cL_law 285 = .ok (.iaload, 1) := by decide +kernel
theorem dL_law_286 : decode cL_law 286 = .ok (.invokevirtual 23, 3) := by decide +kernel
theorem dL_law_289 : decode cL_law 289 = .ok (.aload_n 2, 1) := by decide +kernel
theorem dL_law_290 : decode cL_law 290 = .ok (.aload_n 0, 1) := by decide +kernel
theorem dL_law_291 : decode cL_law 291 = .ok (.iload_n 3, 1) := by decide +kernel
theorem dL_law_292 : decode cL_law 292 = .ok (.iconst 1, 1) := by decide +kernel
theorem dL_law_293 : decode cL_law 293 = .ok (.iadd, 1) := by decide +kernel
theorem dL_law_294 : decode cL_law 294 = .ok (.iaload, 1) := by decide +kernel
theorem dL_law_295 : decode cL_law 295 = .ok (.aload_n 0, 1) := by decide +kernel
theorem dL_law_296 : decode cL_law 296 = .ok (.iload_n 3, 1) := by decide +kernel
theorem dL_law_297 : decode cL_law 297 = .ok (.iconst 2, 1) := by decide +kernel
theorem dL_law_298 : decode cL_law 298 = .ok (.iadd, 1) := by decide +kernel
theorem dL_law_299 : decode cL_law 299 = .ok (.iaload, 1) := by decide +kernel
theorem dL_law_300 : decode cL_law 300 = .ok (.aload_n 0, 1) := by decide +kernel
theorem dL_law_301 : decode cL_law 301 = .ok (.iload_n 3, 1) := by decide +kernel
theorem dL_law_302 : decode cL_law 302 = .ok (.iconst 3, 1) := by decide +kernel
theorem dL_law_303 : decode cL_law 303 = .ok (.iadd, 1) := by decide +kernel
theorem dL_law_304 : decode cL_law 304 = .ok (.iaload, 1) := by decide +kernel
theorem dL_law_305 : decode cL_law 305 = .ok (.invokevirtual 26, 3) := by decide +kernel
theorem dL_law_308 : decode cL_law 308 = .ok (.if_icmp .eq 1232, 3) := by decide +kernel
theorem dL_law_311 : decode cL_law 311 = .ok (.iconst 0, 1) := by decide +kernel
theorem dL_law_312 : decode cL_law 312 = .ok (.ireturn, 1) := by decide +kernel
theorem dL_law_313 : decode cL_law 313 = .ok (.aload_n 1, 1) := by decide +kernel
theorem dL_law_314 : decode cL_law 314 = .ok (.aload_n 0, 1) := by decide +kernel
theorem dL_law_315 : decode cL_law 315 = .ok (.iload_n 3, 1) := by decide +kernel
theorem dL_law_316 : decode cL_law 316 = .ok (.iconst 1, 1) := by decide +kernel
theorem dL_law_317 : decode cL_law 317 = .ok (.iadd, 1) := by decide +kernel
theorem dL_law_318 : decode cL_law 318 = .ok (.iaload, 1) := by decide +kernel
theorem dL_law_319 : decode cL_law 319 = .ok (.aload_n 0, 1) := by decide +kernel
theorem dL_law_320 : decode cL_law 320 = .ok (.iload_n 3, 1) := by decide +kernel
theorem dL_law_321 : decode cL_law 321 = .ok (.iconst 2, 1) := by decide +kernel
theorem dL_law_322 : decode cL_law 322 = .ok (.iadd, 1) := by decide +kernel
theorem dL_law_323 : decode cL_law 323 = .ok (.iaload, 1) := by decide +kernel
theorem dL_law_324 : decode cL_law 324 = .ok (.invokevirtual 27, 3) := by decide +kernel
theorem dL_law_327 : decode cL_law 327 = .ok (.aload_n 2, 1) := by decide +kernel
theorem dL_law_328 : decode cL_law 328 = .ok (.aload_n 0, 1) := by decide +kernel
theorem dL_law_329 : decode cL_law 329 = .ok (.iload_n 3, 1) := by decide +kernel
theorem dL_law_330 : decode cL_law 330 = .ok (.iconst 1, 1) := by decide +kernel
theorem dL_law_331 : decode cL_law 331 = .ok (.iadd, 1) := by decide +kernel
theorem dL_law_332 : decode cL_law 332 = .ok (.iaload, 1) := by decide +kernel
theorem dL_law_333 : decode cL_law 333 = .ok (.aload_n 0, 1) := by decide +kernel
theorem dL_law_334 : decode cL_law 334 = .ok (.iload_n 3, 1) := by decide +kernel
theorem dL_law_335 : decode cL_law 335 = .ok (.iconst 2, 1) := by decide +kernel
theorem dL_law_336 : decode cL_law 336 = .ok (.iadd, 1) := by decide +kernel
theorem dL_law_337 : decode cL_law 337 = .ok (.iaload, 1) := by decide +kernel
theorem dL_law_338 : decode cL_law 338 = .ok (.invokevirtual 31, 3) := by decide +kernel
theorem dL_law_341 : decode cL_law 341 = .ok (.if_icmp .eq 1199, 3) := by decide +kernel
theorem dL_law_344 : decode cL_law 344 = .ok (.iconst 0, 1) := by decide +kernel
theorem dL_law_345 : decode cL_law 345 = .ok (.ireturn, 1) := by decide +kernel
theorem dL_law_346 : decode cL_law 346 = .ok (.aload_n 1, 1) := by decide +kernel
theorem dL_law_347 : decode cL_law 347 = .ok (.aload_n 0, 1) := by decide +kernel
theorem dL_law_348 : decode cL_law 348 = .ok (.iload_n 3, 1) := by decide +kernel
theorem dL_law_349 : decode cL_law 349 = .ok (.iconst 1, 1) := by decide +kernel
theorem dL_law_350 : decode cL_law 350 = .ok (.iadd, 1) := by decide +kernel
theorem dL_law_351 : decode cL_law 351 = .ok (.iaload, 1) := by decide +kernel
theorem dL_law_352 : decode cL_law 352 = .ok (.invokevirtual 32, 3) := by decide +kernel
theorem dL_law_355 : decode cL_law 355 = .ok (.aload_n 2, 1) := by decide +kernel
theorem dL_law_356 : decode cL_law 356 = .ok (.aload_n 0, 1) := by decide +kernel
theorem dL_law_357 : decode cL_law 357 = .ok (.iload_n 3, 1) := by decide +kernel
theorem dL_law_358 : decode cL_law 358 = .ok (.iconst 1, 1) := by decide +kernel
theorem dL_law_359 : decode cL_law 359 = .ok (.iadd, 1) := by decide +kernel
theorem dL_law_360 : decode cL_law 360 = .ok (.iaload, 1) := by decide +kernel
theorem dL_law_361 : decode cL_law 361 = .ok (.invokevirtual 35, 3) := by decide +kernel
theorem dL_law_364 : decode cL_law 364 = .ok (.if_icmp .eq 1176, 3) := by decide +kernel
theorem dL_law_367 : decode cL_law 367 = .ok (.iconst 0, 1) := by decide +kernel
theorem dL_law_368 : decode cL_law 368 = .ok (.ireturn, 1) := by decide +kernel
theorem dL_law_369 : decode cL_law 369 = .ok (.aload_n 1, 1) := by decide +kernel
theorem dL_law_370 : decode cL_law 370 = .ok (.invokevirtual 36, 3) := by decide +kernel
theorem dL_law_373 : decode cL_law 373 = .ok (.aload_n 2, 1) := by decide +kernel
theorem dL_law_374 : decode cL_law 374 = .ok (.invokevirtual 40, 3) := by decide +kernel
theorem dL_law_377 : decode cL_law 377 = .ok (.if_icmp .eq 1163, 3) := by decide +kernel
theorem dL_law_380 : decode cL_law 380 = .ok (.iconst 0, 1) := by decide +kernel
theorem dL_law_381 : decode cL_law 381 = .ok (.ireturn, 1) := by decide +kernel
theorem dL_law_382 : decode cL_law 382 = .ok (.aload_n 1, 1) := by decide +kernel
theorem dL_law_383 : decode cL_law 383 = .ok (.aload_n 0, 1) := by decide +kernel
theorem dL_law_384 : decode cL_law 384 = .ok (.iload_n 3, 1) := by decide +kernel
theorem dL_law_385 : decode cL_law 385 = .ok (.iconst 1, 1) := by decide +kernel
theorem dL_law_386 : decode cL_law 386 = .ok (.iadd, 1) := by decide +kernel
theorem dL_law_387 : decode cL_law 387 = .ok (.iaload, 1) := by decide +kernel
theorem dL_law_388 : decode cL_law 388 = .ok (.aload_n 0, 1) := by decide +kernel
theorem dL_law_389 : decode cL_law 389 = .ok (.iload_n 3, 1) := by decide +kernel
theorem dL_law_390 : decode cL_law 390 = .ok (.iconst 2, 1) := by decide +kernel
theorem dL_law_391 : decode cL_law 391 = .ok (.iadd, 1) := by decide +kernel
theorem dL_law_392 : decode cL_law 392 = .ok (.iaload, 1) := by decide +kernel
theorem dL_law_393 : decode cL_law 393 = .ok (.invokevirtual 41, 3) := by decide +kernel
theorem dL_law_396 : decode cL_law 396 = .ok (.aload_n 2, 1) := by decide +kernel
theorem dL_law_397 : decode cL_law 397 = .ok (.aload_n 0, 1) := by decide +kernel
theorem dL_law_398 : decode cL_law 398 = .ok (.iload_n 3, 1) := by decide +kernel
theorem dL_law_399 : decode cL_law 399 = .ok (.iconst 1, 1) := by decide +kernel
theorem dL_law_400 : decode cL_law 400 = .ok (.iadd, 1) := by decide +kernel
theorem dL_law_401 : decode cL_law 401 = .ok (.iaload, 1) := by decide +kernel
theorem dL_law_402 : decode cL_law 402 = .ok (.aload_n 0, 1) := by decide +kernel
theorem dL_law_403 : decode cL_law 403 = .ok (.iload_n 3, 1) := by decide +kernel
theorem dL_law_404 : decode cL_law 404 = .ok (.iconst 2, 1) := by decide +kernel
theorem dL_law_405 : decode cL_law 405 = .ok (.iadd, 1) := by decide +kernel
theorem dL_law_406 : decode cL_law 406 = .ok (.iaload, 1) := by decide +kernel
theorem dL_law_407 : decode cL_law 407 = .ok (.invokevirtual 44, 3) := by decide +kernel
theorem dL_law_410 : decode cL_law 410 = .ok (.if_icmp .eq 1130, 3) := by decide +kernel
theorem dL_law_413 : decode cL_law 413 = .ok (.iconst 0, 1) := by decide +kernel
theorem dL_law_414 : decode cL_law 414 = .ok (.ireturn, 1) := by decide +kernel
theorem dL_law_415 : decode cL_law 415 = .ok (.aload_n 1, 1) := by decide +kernel
theorem dL_law_416 : decode cL_law 416 = .ok (.aload_n 0, 1) := by decide +kernel
theorem dL_law_417 : decode cL_law 417 = .ok (.iload_n 3, 1) := by decide +kernel
theorem dL_law_418 : decode cL_law 418 = .ok (.iconst 1, 1) := by decide +kernel
theorem dL_law_419 : decode cL_law 419 = .ok (.iadd, 1) := by decide +kernel
theorem dL_law_420 : decode cL_law 420 = .ok (.iaload, 1) := by decide +kernel
theorem dL_law_421 : decode cL_law 421 = .ok (.aload_n 0, 1) := by decide +kernel
theorem dL_law_422 : decode cL_law 422 = .ok (.iload_n 3, 1) := by decide +kernel
theorem dL_law_423 : decode cL_law 423 = .ok (.iconst 2, 1) := by decide +kernel
theorem dL_law_424 : decode cL_law 424 = .ok (.iadd, 1) := by decide +kernel
theorem dL_law_425 : decode cL_law 425 = .ok (.iaload, 1) := by decide +kernel
theorem dL_law_426 : decode cL_law 426 = .ok (.aload_n 0, 1) := by decide +kernel
theorem dL_law_427 : decode cL_law 427 = .ok (.iload_n 3, 1) := by decide +kernel
theorem dL_law_428 : decode cL_law 428 = .ok (.iconst 3, 1) := by decide +kernel
theorem dL_law_429 : decode cL_law 429 = .ok (.iadd, 1) := by decide +kernel
theorem dL_law_430 : decode cL_law 430 = .ok (.iaload, 1) := by decide +kernel
theorem dL_law_431 : decode cL_law 431 = .ok (.aload_n 0, 1) := by decide +kernel
theorem dL_law_432 : decode cL_law 432 = .ok (.iload_n 3, 1) := by decide +kernel
theorem dL_law_433 : decode cL_law 433 = .ok (.iconst 4, 1) := by decide +kernel
theorem dL_law_434 : decode cL_law 434 = .ok (.iadd, 1) := by decide +kernel
theorem dL_law_435 : decode cL_law 435 = .ok (.iaload, 1) := by decide +kernel
theorem dL_law_436 : decode cL_law 436 = .ok (.invokevirtual 45, 3) := by decide +kernel
theorem dL_law_439 : decode cL_law 439 = .ok (.aload_n 2, 1) := by decide +kernel
theorem dL_law_440 : decode cL_law 440 = .ok (.aload_n 0, 1) := by decide +kernel
theorem dL_law_441 : decode cL_law 441 = .ok (.iload_n 3, 1) := by decide +kernel
theorem dL_law_442 : decode cL_law 442 = .ok (.iconst 1, 1) := by decide +kernel
theorem dL_law_443 : decode cL_law 443 = .ok (.iadd, 1) := by decide +kernel
theorem dL_law_444 : decode cL_law 444 = .ok (.iaload, 1) := by decide +kernel
theorem dL_law_445 : decode cL_law 445 = .ok (.aload_n 0, 1) := by decide +kernel
theorem dL_law_446 : decode cL_law 446 = .ok (.iload_n 3, 1) := by decide +kernel
theorem dL_law_447 : decode cL_law 447 = .ok (.iconst 2, 1) := by decide +kernel
theorem dL_law_448 : decode cL_law 448 = .ok (.iadd, 1) := by decide +kernel
theorem dL_law_449 : decode cL_law 449 = .ok (.iaload, 1) := by decide +kernel
theorem dL_law_450 : decode cL_law 450 = .ok (.aload_n 0, 1) := by decide +kernel
theorem dL_law_451 : decode cL_law 451 = .ok (.iload_n 3, 1) := by decide +kernel
theorem dL_law_452 : decode cL_law 452 = .ok (.iconst 3, 1) := by decide +kernel
theorem dL_law_453 : decode cL_law 453 = .ok (.iadd, 1) := by decide +kernel
theorem dL_law_454 : decode cL_law 454 = .ok (.iaload, 1) := by decide +kernel
theorem dL_law_455 : decode cL_law 455 = .ok (.aload_n 0, 1) := by decide +kernel
theorem dL_law_456 : decode cL_law 456 = .ok (.iload_n 3, 1) := by decide +kernel
theorem dL_law_457 : decode cL_law 457 = .ok (.iconst 4, 1) := by decide +kernel
theorem dL_law_458 : decode cL_law 458 = .ok (.iadd, 1) := by decide +kernel
theorem dL_law_459 : decode cL_law 459 = .ok (.iaload, 1) := by decide +kernel
theorem dL_law_460 : decode cL_law 460 = .ok (.invokevirtual 49, 3) := by decide +kernel
theorem dL_law_463 : decode cL_law 463 = .ok (.lcmp, 1) := by decide +kernel
theorem dL_law_464 : decode cL_law 464 = .ok (.ifCond .eq 1076, 3) := by decide +kernel
theorem dL_law_467 : decode cL_law 467 = .ok (.iconst 0, 1) := by decide +kernel
theorem dL_law_468 : decode cL_law 468 = .ok (.ireturn, 1) := by decide +kernel
theorem dL_law_469 : decode cL_law 469 = .ok (.aload_n 1, 1) := by decide +kernel
theorem dL_law_470 : decode cL_law 470 = .ok (.aload_n 0, 1) := by decide +kernel
theorem dL_law_471 : decode cL_law 471 = .ok (.iload_n 3, 1) := by decide +kernel
theorem dL_law_472 : decode cL_law 472 = .ok (.iconst 1, 1) := by decide +kernel
theorem dL_law_473 : decode cL_law 473 = .ok (.iadd, 1) := by decide +kernel
theorem dL_law_474 : decode cL_law 474 = .ok (.iaload, 1) := by decide +kernel
theorem dL_law_475 : decode cL_law 475 = .ok (.aload_n 0, 1) := by decide +kernel
theorem dL_law_476 : decode cL_law 476 = .ok (.iload_n 3, 1) := by decide +kernel
theorem dL_law_477 : decode cL_law 477 = .ok (.iconst 2, 1) := by decide +kernel
theorem dL_law_478 : decode cL_law 478 = .ok (.iadd, 1) := by decide +kernel
theorem dL_law_479 : decode cL_law 479 = .ok (.iaload, 1) := by decide +kernel
theorem dL_law_480 : decode cL_law 480 = .ok (.aload_n 0, 1) := by decide +kernel
theorem dL_law_481 : decode cL_law 481 = .ok (.iload_n 3, 1) := by decide +kernel
theorem dL_law_482 : decode cL_law 482 = .ok (.iconst 3, 1) := by decide +kernel
theorem dL_law_483 : decode cL_law 483 = .ok (.iadd, 1) := by decide +kernel
theorem dL_law_484 : decode cL_law 484 = .ok (.iaload, 1) := by decide +kernel
theorem dL_law_485 : decode cL_law 485 = .ok (.aload_n 0, 1) := by decide +kernel
theorem dL_law_486 : decode cL_law 486 = .ok (.iload_n 3, 1) := by decide +kernel
theorem dL_law_487 : decode cL_law 487 = .ok (.iconst 4, 1) := by decide +kernel
theorem dL_law_488 : decode cL_law 488 = .ok (.iadd, 1) := by decide +kernel
theorem dL_law_489 : decode cL_law 489 = .ok (.iaload, 1) := by decide +kernel
theorem dL_law_490 : decode cL_law 490 = .ok (.invokevirtual 50, 3) := by decide +kernel
theorem dL_law_493 : decode cL_law 493 = .ok (.aload_n 2, 1) := by decide +kernel
theorem dL_law_494 : decode cL_law 494 = .ok (.aload_n 0, 1) := by decide +kernel
theorem dL_law_495 : decode cL_law 495 = .ok (.iload_n 3, 1) := by decide +kernel
theorem dL_law_496 : decode cL_law 496 = .ok (.iconst 1, 1) := by decide +kernel
theorem dL_law_497 : decode cL_law 497 = .ok (.iadd, 1) := by decide +kernel
theorem dL_law_498 : decode cL_law 498 = .ok (.iaload, 1) := by decide +kernel
theorem dL_law_499 : decode cL_law 499 = .ok (.aload_n 0, 1) := by decide +kernel
theorem dL_law_500 : decode cL_law 500 = .ok (.iload_n 3, 1) := by decide +kernel
theorem dL_law_501 : decode cL_law 501 = .ok (.iconst 2, 1) := by decide +kernel
theorem dL_law_502 : decode cL_law 502 = .ok (.iadd, 1) := by decide +kernel
theorem dL_law_503 : decode cL_law 503 = .ok (.iaload, 1) := by decide +kernel
theorem dL_law_504 : decode cL_law 504 = .ok (.aload_n 0, 1) := by decide +kernel
theorem dL_law_505 : decode cL_law 505 = .ok (.iload_n 3, 1) := by decide +kernel
theorem dL_law_506 : decode cL_law 506 = .ok (.iconst 3, 1) := by decide +kernel
theorem dL_law_507 : decode cL_law 507 = .ok (.iadd, 1) := by decide +kernel
theorem dL_law_508 : decode cL_law 508 = .ok (.iaload, 1) := by decide +kernel
theorem dL_law_509 : decode cL_law 509 = .ok (.aload_n 0, 1) := by decide +kernel
theorem dL_law_510 : decode cL_law 510 = .ok (.iload_n 3, 1) := by decide +kernel
theorem dL_law_511 : decode cL_law 511 = .ok (.iconst 4, 1) := by decide +kernel
theorem dL_law_512 : decode cL_law 512 = .ok (.iadd, 1) := by decide +kernel
theorem dL_law_513 : decode cL_law 513 = .ok (.iaload, 1) := by decide +kernel
theorem dL_law_514 : decode cL_law 514 = .ok (.invokevirtual 53, 3) := by decide +kernel
theorem dL_law_517 : decode cL_law 517 = .ok (.lcmp, 1) := by decide +kernel
theorem dL_law_518 : decode cL_law 518 = .ok (.ifCond .eq 1022, 3) := by decide +kernel
theorem dL_law_521 : decode cL_law 521 = .ok (.iconst 0, 1) := by decide +kernel
theorem dL_law_522 : decode cL_law 522 = .ok (.ireturn, 1) := by decide +kernel
theorem dL_law_523 : decode cL_law 523 = .ok (.aload_n 1, 1) := by decide +kernel
theorem dL_law_524 : decode cL_law 524 = .ok (.aload_n 0, 1) := by decide +kernel
theorem dL_law_525 : decode cL_law 525 = .ok (.iload_n 3, 1) := by decide +kernel
theorem dL_law_526 : decode cL_law 526 = .ok (.iconst 1, 1) := by decide +kernel
theorem dL_law_527 : decode cL_law 527 = .ok (.iadd, 1) := by decide +kernel
theorem dL_law_528 : decode cL_law 528 = .ok (.iaload, 1) := by decide +kernel
theorem dL_law_529 : decode cL_law 529 = .ok (.aload_n 0, 1) := by decide +kernel
theorem dL_law_530 : decode cL_law 530 = .ok (.iload_n 3, 1) := by decide +kernel
theorem dL_law_531 : decode cL_law 531 = .ok (.iconst 2, 1) := by decide +kernel
theorem dL_law_532 : decode cL_law 532 = .ok (.iadd, 1) := by decide +kernel
theorem dL_law_533 : decode cL_law 533 = .ok (.iaload, 1) := by decide +kernel
theorem dL_law_534 : decode cL_law 534 = .ok (.aload_n 0, 1) := by decide +kernel
theorem dL_law_535 : decode cL_law 535 = .ok (.iload_n 3, 1) := by decide +kernel
theorem dL_law_536 : decode cL_law 536 = .ok (.iconst 3, 1) := by decide +kernel
theorem dL_law_537 : decode cL_law 537 = .ok (.iadd, 1) := by decide +kernel
theorem dL_law_538 : decode cL_law 538 = .ok (.iaload, 1) := by decide +kernel
theorem dL_law_539 : decode cL_law 539 = .ok (.invokevirtual 54, 3) := by decide +kernel
theorem dL_law_542 : decode cL_law 542 = .ok (.aload_n 2, 1) := by decide +kernel
theorem dL_law_543 : decode cL_law 543 = .ok (.aload_n 0, 1) := by decide +kernel
theorem dL_law_544 : decode cL_law 544 = .ok (.iload_n 3, 1) := by decide +kernel
theorem dL_law_545 : decode cL_law 545 = .ok (.iconst 1, 1) := by decide +kernel
theorem dL_law_546 : decode cL_law 546 = .ok (.iadd, 1) := by decide +kernel
theorem dL_law_547 : decode cL_law 547 = .ok (.iaload, 1) := by decide +kernel
theorem dL_law_548 : decode cL_law 548 = .ok (.aload_n 0, 1) := by decide +kernel
theorem dL_law_549 : decode cL_law 549 = .ok (.iload_n 3, 1) := by decide +kernel
theorem dL_law_550 : decode cL_law 550 = .ok (.iconst 2, 1) := by decide +kernel
theorem dL_law_551 : decode cL_law 551 = .ok (.iadd, 1) := by decide +kernel
theorem dL_law_552 : decode cL_law 552 = .ok (.iaload, 1) := by decide +kernel
theorem dL_law_553 : decode cL_law 553 = .ok (.aload_n 0, 1) := by decide +kernel
theorem dL_law_554 : decode cL_law 554 = .ok (.iload_n 3, 1) := by decide +kernel
theorem dL_law_555 : decode cL_law 555 = .ok (.iconst 3, 1) := by decide +kernel
theorem dL_law_556 : decode cL_law 556 = .ok (.iadd, 1) := by decide +kernel
theorem dL_law_557 : decode cL_law 557 = .ok (.iaload, 1) := by decide +kernel
theorem dL_law_558 : decode cL_law 558 = .ok (.invokevirtual 58, 3) := by decide +kernel
theorem dL_law_561 : decode cL_law 561 = .ok (.lcmp, 1) := by decide +kernel
theorem dL_law_562 : decode cL_law 562 = .ok (.ifCond .eq 978, 3) := by decide +kernel
theorem dL_law_565 : decode cL_law 565 = .ok (.iconst 0, 1) := by decide +kernel
theorem dL_law_566 : decode cL_law 566 = .ok (.ireturn, 1) := by decide +kernel
theorem dL_law_567 : decode cL_law 567 = .ok (.aload_n 1, 1) := by decide +kernel
theorem dL_law_568 : decode cL_law 568 = .ok (.aload_n 0, 1) := by decide +kernel
theorem dL_law_569 : decode cL_law 569 = .ok (.iload_n 3, 1) := by decide +kernel
theorem dL_law_570 : decode cL_law 570 = .ok (.iconst 1, 1) := by decide +kernel
theorem dL_law_571 : decode cL_law 571 = .ok (.iadd, 1) := by decide +kernel
theorem dL_law_572 : decode cL_law 572 = .ok (.iaload, 1) := by decide +kernel
theorem dL_law_573 : decode cL_law 573 = .ok (.aload_n 0, 1) := by decide +kernel
theorem dL_law_574 : decode cL_law 574 = .ok (.iload_n 3, 1) := by decide +kernel
theorem dL_law_575 : decode cL_law 575 = .ok (.iconst 2, 1) := by decide +kernel
theorem dL_law_576 : decode cL_law 576 = .ok (.iadd, 1) := by decide +kernel
theorem dL_law_577 : decode cL_law 577 = .ok (.iaload, 1) := by decide +kernel
theorem dL_law_578 : decode cL_law 578 = .ok (.invokevirtual 59, 3) := by decide +kernel
theorem dL_law_581 : decode cL_law 581 = .ok (.aload_n 2, 1) := by decide +kernel
theorem dL_law_582 : decode cL_law 582 = .ok (.aload_n 0, 1) := by decide +kernel
theorem dL_law_583 : decode cL_law 583 = .ok (.iload_n 3, 1) := by decide +kernel
theorem dL_law_584 : decode cL_law 584 = .ok (.iconst 1, 1) := by decide +kernel
theorem dL_law_585 : decode cL_law 585 = .ok (.iadd, 1) := by decide +kernel
theorem dL_law_586 : decode cL_law 586 = .ok (.iaload, 1) := by decide +kernel
theorem dL_law_587 : decode cL_law 587 = .ok (.aload_n 0, 1) := by decide +kernel
theorem dL_law_588 : decode cL_law 588 = .ok (.iload_n 3, 1) := by decide +kernel
theorem dL_law_589 : decode cL_law 589 = .ok (.iconst 2, 1) := by decide +kernel
theorem dL_law_590 : decode cL_law 590 = .ok (.iadd, 1) := by decide +kernel
theorem dL_law_591 : decode cL_law 591 = .ok (.iaload, 1) := by decide +kernel
theorem dL_law_592 : decode cL_law 592 = .ok (.invokevirtual 62, 3) := by decide +kernel
theorem dL_law_595 : decode cL_law 595 = .ok (.if_icmp .eq 945, 3) := by decide +kernel
theorem dL_law_598 : decode cL_law 598 = .ok (.iconst 0, 1) := by decide +kernel
theorem dL_law_599 : decode cL_law 599 = .ok (.ireturn, 1) := by decide +kernel
theorem dL_law_600 : decode cL_law 600 = .ok (.aload_n 1, 1) := by decide +kernel
theorem dL_law_601 : decode cL_law 601 = .ok (.aload_n 0, 1) := by decide +kernel
theorem dL_law_602 : decode cL_law 602 = .ok (.iload_n 3, 1) := by decide +kernel
theorem dL_law_603 : decode cL_law 603 = .ok (.iconst 1, 1) := by decide +kernel
theorem dL_law_604 : decode cL_law 604 = .ok (.iadd, 1) := by decide +kernel
theorem dL_law_605 : decode cL_law 605 = .ok (.iaload, 1) := by decide +kernel
theorem dL_law_606 : decode cL_law 606 = .ok (.aload_n 0, 1) := by decide +kernel
theorem dL_law_607 : decode cL_law 607 = .ok (.iload_n 3, 1) := by decide +kernel
theorem dL_law_608 : decode cL_law 608 = .ok (.iconst 2, 1) := by decide +kernel
theorem dL_law_609 : decode cL_law 609 = .ok (.iadd, 1) := by decide +kernel
theorem dL_law_610 : decode cL_law 610 = .ok (.iaload, 1) := by decide +kernel
theorem dL_law_611 : decode cL_law 611 = .ok (.aload_n 0, 1) := by decide +kernel
theorem dL_law_612 : decode cL_law 612 = .ok (.iload_n 3, 1) := by decide +kernel
theorem dL_law_613 : decode cL_law 613 = .ok (.iconst 3, 1) := by decide +kernel
theorem dL_law_614 : decode cL_law 614 = .ok (.iadd, 1) := by decide +kernel
theorem dL_law_615 : decode cL_law 615 = .ok (.iaload, 1) := by decide +kernel
theorem dL_law_616 : decode cL_law 616 = .ok (.invokevirtual 63, 3) := by decide +kernel
theorem dL_law_619 : decode cL_law 619 = .ok (.aload_n 2, 1) := by decide +kernel
theorem dL_law_620 : decode cL_law 620 = .ok (.aload_n 0, 1) := by decide +kernel
theorem dL_law_621 : decode cL_law 621 = .ok (.iload_n 3, 1) := by decide +kernel
theorem dL_law_622 : decode cL_law 622 = .ok (.iconst 1, 1) := by decide +kernel
theorem dL_law_623 : decode cL_law 623 = .ok (.iadd, 1) := by decide +kernel
theorem dL_law_624 : decode cL_law 624 = .ok (.iaload, 1) := by decide +kernel
theorem dL_law_625 : decode cL_law 625 = .ok (.aload_n 0, 1) := by decide +kernel
theorem dL_law_626 : decode cL_law 626 = .ok (.iload_n 3, 1) := by decide +kernel
theorem dL_law_627 : decode cL_law 627 = .ok (.iconst 2, 1) := by decide +kernel
theorem dL_law_628 : decode cL_law 628 = .ok (.iadd, 1) := by decide +kernel
theorem dL_law_629 : decode cL_law 629 = .ok (.iaload, 1) := by decide +kernel
theorem dL_law_630 : decode cL_law 630 = .ok (.aload_n 0, 1) := by decide +kernel
theorem dL_law_631 : decode cL_law 631 = .ok (.iload_n 3, 1) := by decide +kernel
theorem dL_law_632 : decode cL_law 632 = .ok (.iconst 3, 1) := by decide +kernel
theorem dL_law_633 : decode cL_law 633 = .ok (.iadd, 1) := by decide +kernel
theorem dL_law_634 : decode cL_law 634 = .ok (.iaload, 1) := by decide +kernel
theorem dL_law_635 : decode cL_law 635 = .ok (.invokevirtual 66, 3) := by decide +kernel
theorem dL_law_638 : decode cL_law 638 = .ok (.lcmp, 1) := by decide +kernel
theorem dL_law_639 : decode cL_law 639 = .ok (.ifCond .eq 901, 3) := by decide +kernel
theorem dL_law_642 : decode cL_law 642 = .ok (.iconst 0, 1) := by decide +kernel
theorem dL_law_643 : decode cL_law 643 = .ok (.ireturn, 1) := by decide +kernel
theorem dL_law_644 : decode cL_law 644 = .ok (.aload_n 1, 1) := by decide +kernel
theorem dL_law_645 : decode cL_law 645 = .ok (.aload_n 0, 1) := by decide +kernel
theorem dL_law_646 : decode cL_law 646 = .ok (.iload_n 3, 1) := by decide +kernel
theorem dL_law_647 : decode cL_law 647 = .ok (.iconst 1, 1) := by decide +kernel
theorem dL_law_648 : decode cL_law 648 = .ok (.iadd, 1) := by decide +kernel
theorem dL_law_649 : decode cL_law 649 = .ok (.iaload, 1) := by decide +kernel
theorem dL_law_650 : decode cL_law 650 = .ok (.invokevirtual 67, 3) := by decide +kernel
theorem dL_law_653 : decode cL_law 653 = .ok (.aload_n 2, 1) := by decide +kernel
theorem dL_law_654 : decode cL_law 654 = .ok (.aload_n 0, 1) := by decide +kernel
theorem dL_law_655 : decode cL_law 655 = .ok (.iload_n 3, 1) := by decide +kernel
theorem dL_law_656 : decode cL_law 656 = .ok (.iconst 1, 1) := by decide +kernel
theorem dL_law_657 : decode cL_law 657 = .ok (.iadd, 1) := by decide +kernel
theorem dL_law_658 : decode cL_law 658 = .ok (.iaload, 1) := by decide +kernel
theorem dL_law_659 : decode cL_law 659 = .ok (.invokevirtual 71, 3) := by decide +kernel
theorem dL_law_662 : decode cL_law 662 = .ok (.lcmp, 1) := by decide +kernel
theorem dL_law_663 : decode cL_law 663 = .ok (.ifCond .eq 877, 3) := by decide +kernel
theorem dL_law_666 : decode cL_law 666 = .ok (.iconst 0, 1) := by decide +kernel
theorem dL_law_667 : decode cL_law 667 = .ok (.ireturn, 1) := by decide +kernel
theorem dL_law_668 : decode cL_law 668 = .ok (.aload_n 1, 1) := by decide +kernel
theorem dL_law_669 : decode cL_law 669 = .ok (.aload_n 0, 1) := by decide +kernel
theorem dL_law_670 : decode cL_law 670 = .ok (.iload_n 3, 1) := by decide +kernel
theorem dL_law_671 : decode cL_law 671 = .ok (.iconst 1, 1) := by decide +kernel
theorem dL_law_672 : decode cL_law 672 = .ok (.iadd, 1) := by decide +kernel
theorem dL_law_673 : decode cL_law 673 = .ok (.iaload, 1) := by decide +kernel
theorem dL_law_674 : decode cL_law 674 = .ok (.aload_n 0, 1) := by decide +kernel
theorem dL_law_675 : decode cL_law 675 = .ok (.iload_n 3, 1) := by decide +kernel
theorem dL_law_676 : decode cL_law 676 = .ok (.iconst 2, 1) := by decide +kernel
theorem dL_law_677 : decode cL_law 677 = .ok (.iadd, 1) := by decide +kernel
theorem dL_law_678 : decode cL_law 678 = .ok (.iaload, 1) := by decide +kernel
theorem dL_law_679 : decode cL_law 679 = .ok (.aload_n 0, 1) := by decide +kernel
theorem dL_law_680 : decode cL_law 680 = .ok (.iload_n 3, 1) := by decide +kernel
theorem dL_law_681 : decode cL_law 681 = .ok (.iconst 3, 1) := by decide +kernel
theorem dL_law_682 : decode cL_law 682 = .ok (.iadd, 1) := by decide +kernel
theorem dL_law_683 : decode cL_law 683 = .ok (.iaload, 1) := by decide +kernel
theorem dL_law_684 : decode cL_law 684 = .ok (.invokevirtual 72, 3) := by decide +kernel
theorem dL_law_687 : decode cL_law 687 = .ok (.aload_n 2, 1) := by decide +kernel
theorem dL_law_688 : decode cL_law 688 = .ok (.aload_n 0, 1) := by decide +kernel
theorem dL_law_689 : decode cL_law 689 = .ok (.iload_n 3, 1) := by decide +kernel
theorem dL_law_690 : decode cL_law 690 = .ok (.iconst 1, 1) := by decide +kernel
theorem dL_law_691 : decode cL_law 691 = .ok (.iadd, 1) := by decide +kernel
theorem dL_law_692 : decode cL_law 692 = .ok (.iaload, 1) := by decide +kernel
theorem dL_law_693 : decode cL_law 693 = .ok (.aload_n 0, 1) := by decide +kernel
theorem dL_law_694 : decode cL_law 694 = .ok (.iload_n 3, 1) := by decide +kernel
theorem dL_law_695 : decode cL_law 695 = .ok (.iconst 2, 1) := by decide +kernel
theorem dL_law_696 : decode cL_law 696 = .ok (.iadd, 1) := by decide +kernel
theorem dL_law_697 : decode cL_law 697 = .ok (.iaload, 1) := by decide +kernel
theorem dL_law_698 : decode cL_law 698 = .ok (.aload_n 0, 1) := by decide +kernel
theorem dL_law_699 : decode cL_law 699 = .ok (.iload_n 3, 1) := by decide +kernel
theorem dL_law_700 : decode cL_law 700 = .ok (.iconst 3, 1) := by decide +kernel
theorem dL_law_701 : decode cL_law 701 = .ok (.iadd, 1) := by decide +kernel
theorem dL_law_702 : decode cL_law 702 = .ok (.iaload, 1) := by decide +kernel
theorem dL_law_703 : decode cL_law 703 = .ok (.invokevirtual 75, 3) := by decide +kernel
theorem dL_law_706 : decode cL_law 706 = .ok (.lcmp, 1) := by decide +kernel
theorem dL_law_707 : decode cL_law 707 = .ok (.ifCond .eq 833, 3) := by decide +kernel
theorem dL_law_710 : decode cL_law 710 = .ok (.iconst 0, 1) := by decide +kernel
theorem dL_law_711 : decode cL_law 711 = .ok (.ireturn, 1) := by decide +kernel
theorem dL_law_712 : decode cL_law 712 = .ok (.aload_n 1, 1) := by decide +kernel
theorem dL_law_713 : decode cL_law 713 = .ok (.aload_n 0, 1) := by decide +kernel
theorem dL_law_714 : decode cL_law 714 = .ok (.iload_n 3, 1) := by decide +kernel
theorem dL_law_715 : decode cL_law 715 = .ok (.iconst 1, 1) := by decide +kernel
theorem dL_law_716 : decode cL_law 716 = .ok (.iadd, 1) := by decide +kernel
theorem dL_law_717 : decode cL_law 717 = .ok (.iaload, 1) := by decide +kernel
theorem dL_law_718 : decode cL_law 718 = .ok (.invokevirtual 76, 3) := by decide +kernel
theorem dL_law_721 : decode cL_law 721 = .ok (.aload_n 2, 1) := by decide +kernel
theorem dL_law_722 : decode cL_law 722 = .ok (.aload_n 0, 1) := by decide +kernel
theorem dL_law_723 : decode cL_law 723 = .ok (.iload_n 3, 1) := by decide +kernel
theorem dL_law_724 : decode cL_law 724 = .ok (.iconst 1, 1) := by decide +kernel
theorem dL_law_725 : decode cL_law 725 = .ok (.iadd, 1) := by decide +kernel
theorem dL_law_726 : decode cL_law 726 = .ok (.iaload, 1) := by decide +kernel
theorem dL_law_727 : decode cL_law 727 = .ok (.invokevirtual 79, 3) := by decide +kernel
theorem dL_law_730 : decode cL_law 730 = .ok (.if_icmp .eq 810, 3) := by decide +kernel
theorem dL_law_733 : decode cL_law 733 = .ok (.iconst 0, 1) := by decide +kernel
theorem dL_law_734 : decode cL_law 734 = .ok (.ireturn, 1) := by decide +kernel
theorem dL_law_735 : decode cL_law 735 = .ok (.aload_n 1, 1) := by decide +kernel
theorem dL_law_736 : decode cL_law 736 = .ok (.aload_n 0, 1) := by decide +kernel
theorem dL_law_737 : decode cL_law 737 = .ok (.iload_n 3, 1) := by decide +kernel
theorem dL_law_738 : decode cL_law 738 = .ok (.iconst 1, 1) := by decide +kernel
theorem dL_law_739 : decode cL_law 739 = .ok (.iadd, 1) := by decide +kernel
theorem dL_law_740 : decode cL_law 740 = .ok (.iaload, 1) := by decide +kernel
theorem dL_law_741 : decode cL_law 741 = .ok (.invokevirtual 80, 3) := by decide +kernel
theorem dL_law_744 : decode cL_law 744 = .ok (.aload_n 2, 1) := by decide +kernel
theorem dL_law_745 : decode cL_law 745 = .ok (.aload_n 0, 1) := by decide +kernel
theorem dL_law_746 : decode cL_law 746 = .ok (.iload_n 3, 1) := by decide +kernel
theorem dL_law_747 : decode cL_law 747 = .ok (.iconst 1, 1) := by decide +kernel
theorem dL_law_748 : decode cL_law 748 = .ok (.iadd, 1) := by decide +kernel
theorem dL_law_749 : decode cL_law 749 = .ok (.iaload, 1) := by decide +kernel
theorem dL_law_750 : decode cL_law 750 = .ok (.invokevirtual 83, 3) := by decide +kernel
theorem dL_law_753 : decode cL_law 753 = .ok (.if_icmp .eq 787, 3) := by decide +kernel
theorem dL_law_756 : decode cL_law 756 = .ok (.iconst 0, 1) := by decide +kernel
theorem dL_law_757 : decode cL_law 757 = .ok (.ireturn, 1) := by decide +kernel
theorem dL_law_758 : decode cL_law 758 = .ok (.aload_n 1, 1) := by decide +kernel
theorem dL_law_759 : decode cL_law 759 = .ok (.aload_n 0, 1) := by decide +kernel
theorem dL_law_760 : decode cL_law 760 = .ok (.iload_n 3, 1) := by decide +kernel
theorem dL_law_761 : decode cL_law 761 = .ok (.iconst 1, 1) := by decide +kernel
theorem dL_law_762 : decode cL_law 762 = .ok (.iadd, 1) := by decide +kernel
theorem dL_law_763 : decode cL_law 763 = .ok (.iaload, 1) := by decide +kernel
theorem dL_law_764 : decode cL_law 764 = .ok (.aload_n 0, 1) := by decide +kernel
theorem dL_law_765 : decode cL_law 765 = .ok (.iload_n 3, 1) := by decide +kernel
theorem dL_law_766 : decode cL_law 766 = .ok (.iconst 2, 1) := by decide +kernel
theorem dL_law_767 : decode cL_law 767 = .ok (.iadd, 1) := by decide +kernel
theorem dL_law_768 : decode cL_law 768 = .ok (.iaload, 1) := by decide +kernel
theorem dL_law_769 : decode cL_law 769 = .ok (.aload_n 0, 1) := by decide +kernel
theorem dL_law_770 : decode cL_law 770 = .ok (.iload_n 3, 1) := by decide +kernel
theorem dL_law_771 : decode cL_law 771 = .ok (.iconst 3, 1) := by decide +kernel
theorem dL_law_772 : decode cL_law 772 = .ok (.iadd, 1) := by decide +kernel
theorem dL_law_773 : decode cL_law 773 = .ok (.iaload, 1) := by decide +kernel
theorem dL_law_774 : decode cL_law 774 = .ok (.invokevirtual 84, 3) := by decide +kernel
theorem dL_law_777 : decode cL_law 777 = .ok (.aload_n 2, 1) := by decide +kernel
theorem dL_law_778 : decode cL_law 778 = .ok (.aload_n 0, 1) := by decide +kernel
theorem dL_law_779 : decode cL_law 779 = .ok (.iload_n 3, 1) := by decide +kernel
theorem dL_law_780 : decode cL_law 780 = .ok (.iconst 1, 1) := by decide +kernel
theorem dL_law_781 : decode cL_law 781 = .ok (.iadd, 1) := by decide +kernel
theorem dL_law_782 : decode cL_law 782 = .ok (.iaload, 1) := by decide +kernel
theorem dL_law_783 : decode cL_law 783 = .ok (.aload_n 0, 1) := by decide +kernel
theorem dL_law_784 : decode cL_law 784 = .ok (.iload_n 3, 1) := by decide +kernel
theorem dL_law_785 : decode cL_law 785 = .ok (.iconst 2, 1) := by decide +kernel
theorem dL_law_786 : decode cL_law 786 = .ok (.iadd, 1) := by decide +kernel
theorem dL_law_787 : decode cL_law 787 = .ok (.iaload, 1) := by decide +kernel
theorem dL_law_788 : decode cL_law 788 = .ok (.aload_n 0, 1) := by decide +kernel
theorem dL_law_789 : decode cL_law 789 = .ok (.iload_n 3, 1) := by decide +kernel
theorem dL_law_790 : decode cL_law 790 = .ok (.iconst 3, 1) := by decide +kernel
theorem dL_law_791 : decode cL_law 791 = .ok (.iadd, 1) := by decide +kernel
theorem dL_law_792 : decode cL_law 792 = .ok (.iaload, 1) := by decide +kernel
theorem dL_law_793 : decode cL_law 793 = .ok (.invokevirtual 87, 3) := by decide +kernel
theorem dL_law_796 : decode cL_law 796 = .ok (.lcmp, 1) := by decide +kernel
theorem dL_law_797 : decode cL_law 797 = .ok (.ifCond .eq 743, 3) := by decide +kernel
theorem dL_law_800 : decode cL_law 800 = .ok (.iconst 0, 1) := by decide +kernel
theorem dL_law_801 : decode cL_law 801 = .ok (.ireturn, 1) := by decide +kernel
theorem dL_law_802 : decode cL_law 802 = .ok (.aload_n 1, 1) := by decide +kernel
theorem dL_law_803 : decode cL_law 803 = .ok (.aload_n 0, 1) := by decide +kernel
theorem dL_law_804 : decode cL_law 804 = .ok (.iload_n 3, 1) := by decide +kernel
theorem dL_law_805 : decode cL_law 805 = .ok (.iconst 1, 1) := by decide +kernel
theorem dL_law_806 : decode cL_law 806 = .ok (.iadd, 1) := by decide +kernel
theorem dL_law_807 : decode cL_law 807 = .ok (.iaload, 1) := by decide +kernel
theorem dL_law_808 : decode cL_law 808 = .ok (.aload_n 0, 1) := by decide +kernel
theorem dL_law_809 : decode cL_law 809 = .ok (.iload_n 3, 1) := by decide +kernel
theorem dL_law_810 : decode cL_law 810 = .ok (.iconst 2, 1) := by decide +kernel
theorem dL_law_811 : decode cL_law 811 = .ok (.iadd, 1) := by decide +kernel
theorem dL_law_812 : decode cL_law 812 = .ok (.iaload, 1) := by decide +kernel
theorem dL_law_813 : decode cL_law 813 = .ok (.aload_n 0, 1) := by decide +kernel
theorem dL_law_814 : decode cL_law 814 = .ok (.iload_n 3, 1) := by decide +kernel
theorem dL_law_815 : decode cL_law 815 = .ok (.iconst 3, 1) := by decide +kernel
theorem dL_law_816 : decode cL_law 816 = .ok (.iadd, 1) := by decide +kernel
theorem dL_law_817 : decode cL_law 817 = .ok (.iaload, 1) := by decide +kernel
theorem dL_law_818 : decode cL_law 818 = .ok (.aload_n 0, 1) := by decide +kernel
theorem dL_law_819 : decode cL_law 819 = .ok (.iload_n 3, 1) := by decide +kernel
theorem dL_law_820 : decode cL_law 820 = .ok (.iconst 4, 1) := by decide +kernel
theorem dL_law_821 : decode cL_law 821 = .ok (.iadd, 1) := by decide +kernel
theorem dL_law_822 : decode cL_law 822 = .ok (.iaload, 1) := by decide +kernel
theorem dL_law_823 : decode cL_law 823 = .ok (.invokevirtual 88, 3) := by decide +kernel
theorem dL_law_826 : decode cL_law 826 = .ok (.aload_n 2, 1) := by decide +kernel
theorem dL_law_827 : decode cL_law 827 = .ok (.aload_n 0, 1) := by decide +kernel
theorem dL_law_828 : decode cL_law 828 = .ok (.iload_n 3, 1) := by decide +kernel
theorem dL_law_829 : decode cL_law 829 = .ok (.iconst 1, 1) := by decide +kernel
theorem dL_law_830 : decode cL_law 830 = .ok (.iadd, 1) := by decide +kernel
theorem dL_law_831 : decode cL_law 831 = .ok (.iaload, 1) := by decide +kernel
theorem dL_law_832 : decode cL_law 832 = .ok (.aload_n 0, 1) := by decide +kernel
theorem dL_law_833 : decode cL_law 833 = .ok (.iload_n 3, 1) := by decide +kernel
theorem dL_law_834 : decode cL_law 834 = .ok (.iconst 2, 1) := by decide +kernel
theorem dL_law_835 : decode cL_law 835 = .ok (.iadd, 1) := by decide +kernel
theorem dL_law_836 : decode cL_law 836 = .ok (.iaload, 1) := by decide +kernel
theorem dL_law_837 : decode cL_law 837 = .ok (.aload_n 0, 1) := by decide +kernel
theorem dL_law_838 : decode cL_law 838 = .ok (.iload_n 3, 1) := by decide +kernel
theorem dL_law_839 : decode cL_law 839 = .ok (.iconst 3, 1) := by decide +kernel
theorem dL_law_840 : decode cL_law 840 = .ok (.iadd, 1) := by decide +kernel
theorem dL_law_841 : decode cL_law 841 = .ok (.iaload, 1) := by decide +kernel
theorem dL_law_842 : decode cL_law 842 = .ok (.aload_n 0, 1) := by decide +kernel
theorem dL_law_843 : decode cL_law 843 = .ok (.iload_n 3, 1) := by decide +kernel
theorem dL_law_844 : decode cL_law 844 = .ok (.iconst 4, 1) := by decide +kernel
theorem dL_law_845 : decode cL_law 845 = .ok (.iadd, 1) := by decide +kernel
theorem dL_law_846 : decode cL_law 846 = .ok (.iaload, 1) := by decide +kernel
theorem dL_law_847 : decode cL_law 847 = .ok (.invokevirtual 91, 3) := by decide +kernel
theorem dL_law_850 : decode cL_law 850 = .ok (.lcmp, 1) := by decide +kernel
theorem dL_law_851 : decode cL_law 851 = .ok (.ifCond .eq 689, 3) := by decide +kernel
theorem dL_law_854 : decode cL_law 854 = .ok (.iconst 0, 1) := by decide +kernel
theorem dL_law_855 : decode cL_law 855 = .ok (.ireturn, 1) := by decide +kernel
theorem dL_law_856 : decode cL_law 856 = .ok (.aload_n 1, 1) := by decide +kernel
theorem dL_law_857 : decode cL_law 857 = .ok (.aload_n 0, 1) := by decide +kernel
theorem dL_law_858 : decode cL_law 858 = .ok (.iload_n 3, 1) := by decide +kernel
theorem dL_law_859 : decode cL_law 859 = .ok (.iconst 1, 1) := by decide +kernel
theorem dL_law_860 : decode cL_law 860 = .ok (.iadd, 1) := by decide +kernel
theorem dL_law_861 : decode cL_law 861 = .ok (.iaload, 1) := by decide +kernel
theorem dL_law_862 : decode cL_law 862 = .ok (.aload_n 0, 1) := by decide +kernel
theorem dL_law_863 : decode cL_law 863 = .ok (.iload_n 3, 1) := by decide +kernel
theorem dL_law_864 : decode cL_law 864 = .ok (.iconst 2, 1) := by decide +kernel
theorem dL_law_865 : decode cL_law 865 = .ok (.iadd, 1) := by decide +kernel
theorem dL_law_866 : decode cL_law 866 = .ok (.iaload, 1) := by decide +kernel
theorem dL_law_867 : decode cL_law 867 = .ok (.aload_n 0, 1) := by decide +kernel
theorem dL_law_868 : decode cL_law 868 = .ok (.iload_n 3, 1) := by decide +kernel
theorem dL_law_869 : decode cL_law 869 = .ok (.iconst 3, 1) := by decide +kernel
theorem dL_law_870 : decode cL_law 870 = .ok (.iadd, 1) := by decide +kernel
theorem dL_law_871 : decode cL_law 871 = .ok (.iaload, 1) := by decide +kernel
theorem dL_law_872 : decode cL_law 872 = .ok (.invokevirtual 92, 3) := by decide +kernel
theorem dL_law_875 : decode cL_law 875 = .ok (.aload_n 2, 1) := by decide +kernel
theorem dL_law_876 : decode cL_law 876 = .ok (.aload_n 0, 1) := by decide +kernel
theorem dL_law_877 : decode cL_law 877 = .ok (.iload_n 3, 1) := by decide +kernel
theorem dL_law_878 : decode cL_law 878 = .ok (.iconst 1, 1) := by decide +kernel
theorem dL_law_879 : decode cL_law 879 = .ok (.iadd, 1) := by decide +kernel
theorem dL_law_880 : decode cL_law 880 = .ok (.iaload, 1) := by decide +kernel
theorem dL_law_881 : decode cL_law 881 = .ok (.aload_n 0, 1) := by decide +kernel
theorem dL_law_882 : decode cL_law 882 = .ok (.iload_n 3, 1) := by decide +kernel
theorem dL_law_883 : decode cL_law 883 = .ok (.iconst 2, 1) := by decide +kernel
theorem dL_law_884 : decode cL_law 884 = .ok (.iadd, 1) := by decide +kernel
theorem dL_law_885 : decode cL_law 885 = .ok (.iaload, 1) := by decide +kernel
theorem dL_law_886 : decode cL_law 886 = .ok (.aload_n 0, 1) := by decide +kernel
theorem dL_law_887 : decode cL_law 887 = .ok (.iload_n 3, 1) := by decide +kernel
theorem dL_law_888 : decode cL_law 888 = .ok (.iconst 3, 1) := by decide +kernel
theorem dL_law_889 : decode cL_law 889 = .ok (.iadd, 1) := by decide +kernel
theorem dL_law_890 : decode cL_law 890 = .ok (.iaload, 1) := by decide +kernel
theorem dL_law_891 : decode cL_law 891 = .ok (.invokevirtual 95, 3) := by decide +kernel
theorem dL_law_894 : decode cL_law 894 = .ok (.if_icmp .eq 646, 3) := by decide +kernel
theorem dL_law_897 : decode cL_law 897 = .ok (.iconst 0, 1) := by decide +kernel
theorem dL_law_898 : decode cL_law 898 = .ok (.ireturn, 1) := by decide +kernel
theorem dL_law_899 : decode cL_law 899 = .ok (.aload_n 1, 1) := by decide +kernel
theorem dL_law_900 : decode cL_law 900 = .ok (.aload_n 0, 1) := by decide +kernel
theorem dL_law_901 : decode cL_law 901 = .ok (.iload_n 3, 1) := by decide +kernel
theorem dL_law_902 : decode cL_law 902 = .ok (.iconst 1, 1) := by decide +kernel
theorem dL_law_903 : decode cL_law 903 = .ok (.iadd, 1) := by decide +kernel
theorem dL_law_904 : decode cL_law 904 = .ok (.iaload, 1) := by decide +kernel
theorem dL_law_905 : decode cL_law 905 = .ok (.aload_n 0, 1) := by decide +kernel
theorem dL_law_906 : decode cL_law 906 = .ok (.iload_n 3, 1) := by decide +kernel
theorem dL_law_907 : decode cL_law 907 = .ok (.iconst 2, 1) := by decide +kernel
theorem dL_law_908 : decode cL_law 908 = .ok (.iadd, 1) := by decide +kernel
theorem dL_law_909 : decode cL_law 909 = .ok (.iaload, 1) := by decide +kernel
theorem dL_law_910 : decode cL_law 910 = .ok (.aload_n 0, 1) := by decide +kernel
theorem dL_law_911 : decode cL_law 911 = .ok (.iload_n 3, 1) := by decide +kernel
theorem dL_law_912 : decode cL_law 912 = .ok (.iconst 3, 1) := by decide +kernel
theorem dL_law_913 : decode cL_law 913 = .ok (.iadd, 1) := by decide +kernel
theorem dL_law_914 : decode cL_law 914 = .ok (.iaload, 1) := by decide +kernel
theorem dL_law_915 : decode cL_law 915 = .ok (.aload_n 0, 1) := by decide +kernel
theorem dL_law_916 : decode cL_law 916 = .ok (.iload_n 3, 1) := by decide +kernel
theorem dL_law_917 : decode cL_law 917 = .ok (.iconst 4, 1) := by decide +kernel
theorem dL_law_918 : decode cL_law 918 = .ok (.iadd, 1) := by decide +kernel
theorem dL_law_919 : decode cL_law 919 = .ok (.iaload, 1) := by decide +kernel
theorem dL_law_920 : decode cL_law 920 = .ok (.invokevirtual 96, 3) := by decide +kernel
theorem dL_law_923 : decode cL_law 923 = .ok (.aload_n 2, 1) := by decide +kernel
theorem dL_law_924 : decode cL_law 924 = .ok (.aload_n 0, 1) := by decide +kernel
theorem dL_law_925 : decode cL_law 925 = .ok (.iload_n 3, 1) := by decide +kernel
theorem dL_law_926 : decode cL_law 926 = .ok (.iconst 1, 1) := by decide +kernel
theorem dL_law_927 : decode cL_law 927 = .ok (.iadd, 1) := by decide +kernel
theorem dL_law_928 : decode cL_law 928 = .ok (.iaload, 1) := by decide +kernel
theorem dL_law_929 : decode cL_law 929 = .ok (.aload_n 0, 1) := by decide +kernel
theorem dL_law_930 : decode cL_law 930 = .ok (.iload_n 3, 1) := by decide +kernel
theorem dL_law_931 : decode cL_law 931 = .ok (.iconst 2, 1) := by decide +kernel
theorem dL_law_932 : decode cL_law 932 = .ok (.iadd, 1) := by decide +kernel
theorem dL_law_933 : decode cL_law 933 = .ok (.iaload, 1) := by decide +kernel
theorem dL_law_934 : decode cL_law 934 = .ok (.aload_n 0, 1) := by decide +kernel
theorem dL_law_935 : decode cL_law 935 = .ok (.iload_n 3, 1) := by decide +kernel
theorem dL_law_936 : decode cL_law 936 = .ok (.iconst 3, 1) := by decide +kernel
theorem dL_law_937 : decode cL_law 937 = .ok (.iadd, 1) := by decide +kernel
theorem dL_law_938 : decode cL_law 938 = .ok (.iaload, 1) := by decide +kernel
theorem dL_law_939 : decode cL_law 939 = .ok (.aload_n 0, 1) := by decide +kernel
theorem dL_law_940 : decode cL_law 940 = .ok (.iload_n 3, 1) := by decide +kernel
theorem dL_law_941 : decode cL_law 941 = .ok (.iconst 4, 1) := by decide +kernel
theorem dL_law_942 : decode cL_law 942 = .ok (.iadd, 1) := by decide +kernel
theorem dL_law_943 : decode cL_law 943 = .ok (.iaload, 1) := by decide +kernel
theorem dL_law_944 : decode cL_law 944 = .ok (.invokevirtual 100, 3) := by decide +kernel
theorem dL_law_947 : decode cL_law 947 = .ok (.if_icmp .eq 593, 3) := by decide +kernel
theorem dL_law_950 : decode cL_law 950 = .ok (.iconst 0, 1) := by decide +kernel
theorem dL_law_951 : decode cL_law 951 = .ok (.ireturn, 1) := by decide +kernel
theorem dL_law_952 : decode cL_law 952 = .ok (.aload_n 1, 1) := by decide +kernel
theorem dL_law_953 : decode cL_law 953 = .ok (.aload_n 0, 1) := by decide +kernel
theorem dL_law_954 : decode cL_law 954 = .ok (.iload_n 3, 1) := by decide +kernel
theorem dL_law_955 : decode cL_law 955 = .ok (.iconst 1, 1) := by decide +kernel
theorem dL_law_956 : decode cL_law 956 = .ok (.iadd, 1) := by decide +kernel
theorem dL_law_957 : decode cL_law 957 = .ok (.iaload, 1) := by decide +kernel
theorem dL_law_958 : decode cL_law 958 = .ok (.aload_n 0, 1) := by decide +kernel
theorem dL_law_959 : decode cL_law 959 = .ok (.iload_n 3, 1) := by decide +kernel
theorem dL_law_960 : decode cL_law 960 = .ok (.iconst 2, 1) := by decide +kernel
theorem dL_law_961 : decode cL_law 961 = .ok (.iadd, 1) := by decide +kernel
theorem dL_law_962 : decode cL_law 962 = .ok (.iaload, 1) := by decide +kernel
theorem dL_law_963 : decode cL_law 963 = .ok (.aload_n 0, 1) := by decide +kernel
theorem dL_law_964 : decode cL_law 964 = .ok (.iload_n 3, 1) := by decide +kernel
theorem dL_law_965 : decode cL_law 965 = .ok (.iconst 3, 1) := by decide +kernel
theorem dL_law_966 : decode cL_law 966 = .ok (.iadd, 1) := by decide +kernel
theorem dL_law_967 : decode cL_law 967 = .ok (.iaload, 1) := by decide +kernel
theorem dL_law_968 : decode cL_law 968 = .ok (.aload_n 0, 1) := by decide +kernel
theorem dL_law_969 : decode cL_law 969 = .ok (.iload_n 3, 1) := by decide +kernel
theorem dL_law_970 : decode cL_law 970 = .ok (.iconst 4, 1) := by decide +kernel
theorem dL_law_971 : decode cL_law 971 = .ok (.iadd, 1) := by decide +kernel
theorem dL_law_972 : decode cL_law 972 = .ok (.iaload, 1) := by decide +kernel
theorem dL_law_973 : decode cL_law 973 = .ok (.invokevirtual 101, 3) := by decide +kernel
theorem dL_law_976 : decode cL_law 976 = .ok (.aload_n 2, 1) := by decide +kernel
theorem dL_law_977 : decode cL_law 977 = .ok (.aload_n 0, 1) := by decide +kernel
theorem dL_law_978 : decode cL_law 978 = .ok (.iload_n 3, 1) := by decide +kernel
theorem dL_law_979 : decode cL_law 979 = .ok (.iconst 1, 1) := by decide +kernel
theorem dL_law_980 : decode cL_law 980 = .ok (.iadd, 1) := by decide +kernel
theorem dL_law_981 : decode cL_law 981 = .ok (.iaload, 1) := by decide +kernel
theorem dL_law_982 : decode cL_law 982 = .ok (.aload_n 0, 1) := by decide +kernel
theorem dL_law_983 : decode cL_law 983 = .ok (.iload_n 3, 1) := by decide +kernel
theorem dL_law_984 : decode cL_law 984 = .ok (.iconst 2, 1) := by decide +kernel
theorem dL_law_985 : decode cL_law 985 = .ok (.iadd, 1) := by decide +kernel
theorem dL_law_986 : decode cL_law 986 = .ok (.iaload, 1) := by decide +kernel
theorem dL_law_987 : decode cL_law 987 = .ok (.aload_n 0, 1) := by decide +kernel
theorem dL_law_988 : decode cL_law 988 = .ok (.iload_n 3, 1) := by decide +kernel
theorem dL_law_989 : decode cL_law 989 = .ok (.iconst 3, 1) := by decide +kernel
theorem dL_law_990 : decode cL_law 990 = .ok (.iadd, 1) := by decide +kernel
theorem dL_law_991 : decode cL_law 991 = .ok (.iaload, 1) := by decide +kernel
theorem dL_law_992 : decode cL_law 992 = .ok (.aload_n 0, 1) := by decide +kernel
theorem dL_law_993 : decode cL_law 993 = .ok (.iload_n 3, 1) := by decide +kernel
theorem dL_law_994 : decode cL_law 994 = .ok (.iconst 4, 1) := by decide +kernel
theorem dL_law_995 : decode cL_law 995 = .ok (.iadd, 1) := by decide +kernel
theorem dL_law_996 : decode cL_law 996 = .ok (.iaload, 1) := by decide +kernel
theorem dL_law_997 : decode cL_law 997 = .ok (.invokevirtual 104, 3) := by decide +kernel
theorem dL_law_1000 : decode cL_law 1000 = .ok (.if_icmp .eq 540, 3) := by decide +kernel
theorem dL_law_1003 : decode cL_law 1003 = .ok (.iconst 0, 1) := by decide +kernel
theorem dL_law_1004 : decode cL_law 1004 = .ok (.ireturn, 1) := by decide +kernel
theorem dL_law_1005 : decode cL_law 1005 = .ok (.aload_n 1, 1) := by decide +kernel
theorem dL_law_1006 : decode cL_law 1006 = .ok (.aload_n 0, 1) := by decide +kernel
theorem dL_law_1007 : decode cL_law 1007 = .ok (.iload_n 3, 1) := by decide +kernel
theorem dL_law_1008 : decode cL_law 1008 = .ok (.iconst 1, 1) := by decide +kernel
theorem dL_law_1009 : decode cL_law 1009 = .ok (.iadd, 1) := by decide +kernel
theorem dL_law_1010 : decode cL_law 1010 = .ok (.iaload, 1) := by decide +kernel
theorem dL_law_1011 : decode cL_law 1011 = .ok (.aload_n 0, 1) := by decide +kernel
theorem dL_law_1012 : decode cL_law 1012 = .ok (.iload_n 3, 1) := by decide +kernel
theorem dL_law_1013 : decode cL_law 1013 = .ok (.iconst 2, 1) := by decide +kernel
theorem dL_law_1014 : decode cL_law 1014 = .ok (.iadd, 1) := by decide +kernel
theorem dL_law_1015 : decode cL_law 1015 = .ok (.iaload, 1) := by decide +kernel
theorem dL_law_1016 : decode cL_law 1016 = .ok (.invokevirtual 105, 3) := by decide +kernel
theorem dL_law_1019 : decode cL_law 1019 = .ok (.aload_n 2, 1) := by decide +kernel
theorem dL_law_1020 : decode cL_law 1020 = .ok (.aload_n 0, 1) := by decide +kernel
theorem dL_law_1021 : decode cL_law 1021 = .ok (.iload_n 3, 1) := by decide +kernel
theorem dL_law_1022 : decode cL_law 1022 = .ok (.iconst 1, 1) := by decide +kernel
theorem dL_law_1023 : decode cL_law 1023 = .ok (.iadd, 1) := by decide +kernel
theorem dL_law_1024 : decode cL_law 1024 = .ok (.iaload, 1) := by decide +kernel
theorem dL_law_1025 : decode cL_law 1025 = .ok (.aload_n 0, 1) := by decide +kernel
theorem dL_law_1026 : decode cL_law 1026 = .ok (.iload_n 3, 1) := by decide +kernel
theorem dL_law_1027 : decode cL_law 1027 = .ok (.iconst 2, 1) := by decide +kernel
theorem dL_law_1028 : decode cL_law 1028 = .ok (.iadd, 1) := by decide +kernel
theorem dL_law_1029 : decode cL_law 1029 = .ok (.iaload, 1) := by decide +kernel
theorem dL_law_1030 : decode cL_law 1030 = .ok (.invokevirtual 108, 3) := by decide +kernel
theorem dL_law_1033 : decode cL_law 1033 = .ok (.if_icmp .eq 507, 3) := by decide +kernel
theorem dL_law_1036 : decode cL_law 1036 = .ok (.iconst 0, 1) := by decide +kernel
theorem dL_law_1037 : decode cL_law 1037 = .ok (.ireturn, 1) := by decide +kernel
theorem dL_law_1038 : decode cL_law 1038 = .ok (.aload_n 1, 1) := by decide +kernel
theorem dL_law_1039 : decode cL_law 1039 = .ok (.aload_n 0, 1) := by decide +kernel
theorem dL_law_1040 : decode cL_law 1040 = .ok (.iload_n 3, 1) := by decide +kernel
theorem dL_law_1041 : decode cL_law 1041 = .ok (.iconst 1, 1) := by decide +kernel
theorem dL_law_1042 : decode cL_law 1042 = .ok (.iadd, 1) := by decide +kernel
theorem dL_law_1043 : decode cL_law 1043 = .ok (.iaload, 1) := by decide +kernel
theorem dL_law_1044 : decode cL_law 1044 = .ok (.invokevirtual 109, 3) := by decide +kernel
theorem dL_law_1047 : decode cL_law 1047 = .ok (.aload_n 2, 1) := by decide +kernel
theorem dL_law_1048 : decode cL_law 1048 = .ok (.aload_n 0, 1) := by decide +kernel
theorem dL_law_1049 : decode cL_law 1049 = .ok (.iload_n 3, 1) := by decide +kernel
theorem dL_law_1050 : decode cL_law 1050 = .ok (.iconst 1, 1) := by decide +kernel
theorem dL_law_1051 : decode cL_law 1051 = .ok (.iadd, 1) := by decide +kernel
theorem dL_law_1052 : decode cL_law 1052 = .ok (.iaload, 1) := by decide +kernel
theorem dL_law_1053 : decode cL_law 1053 = .ok (.invokevirtual 112, 3) := by decide +kernel
theorem dL_law_1056 : decode cL_law 1056 = .ok (.if_icmp .eq 484, 3) := by decide +kernel
theorem dL_law_1059 : decode cL_law 1059 = .ok (.iconst 0, 1) := by decide +kernel
theorem dL_law_1060 : decode cL_law 1060 = .ok (.ireturn, 1) := by decide +kernel
theorem dL_law_1061 : decode cL_law 1061 = .ok (.aload_n 1, 1) := by decide +kernel
theorem dL_law_1062 : decode cL_law 1062 = .ok (.invokevirtual 113, 3) := by decide +kernel
theorem dL_law_1065 : decode cL_law 1065 = .ok (.aload_n 2, 1) := by decide +kernel
theorem dL_law_1066 : decode cL_law 1066 = .ok (.invokevirtual 116, 3) := by decide +kernel
theorem dL_law_1069 : decode cL_law 1069 = .ok (.if_icmp .eq 471, 3) := by decide +kernel
theorem dL_law_1072 : decode cL_law 1072 = .ok (.iconst 0, 1) := by decide +kernel
theorem dL_law_1073 : decode cL_law 1073 = .ok (.ireturn, 1) := by decide +kernel
theorem dL_law_1074 : decode cL_law 1074 = .ok (.aload_n 1, 1) := by decide +kernel
theorem dL_law_1075 : decode cL_law 1075 = .ok (.aload_n 0, 1) := by decide +kernel
theorem dL_law_1076 : decode cL_law 1076 = .ok (.iload_n 3, 1) := by decide +kernel
theorem dL_law_1077 : decode cL_law 1077 = .ok (.iconst 1, 1) := by decide +kernel
theorem dL_law_1078 : decode cL_law 1078 = .ok (.iadd, 1) := by decide +kernel
theorem dL_law_1079 : decode cL_law 1079 = .ok (.iaload, 1) := by decide +kernel
theorem dL_law_1080 : decode cL_law 1080 = .ok (.invokevirtual 117, 3) := by decide +kernel
theorem dL_law_1083 : decode cL_law 1083 = .ok (.aload_n 2, 1) := by decide +kernel
theorem dL_law_1084 : decode cL_law 1084 = .ok (.aload_n 0, 1) := by decide +kernel
theorem dL_law_1085 : decode cL_law 1085 = .ok (.iload_n 3, 1) := by decide +kernel
theorem dL_law_1086 : decode cL_law 1086 = .ok (.iconst 1, 1) := by decide +kernel
theorem dL_law_1087 : decode cL_law 1087 = .ok (.iadd, 1) := by decide +kernel
theorem dL_law_1088 : decode cL_law 1088 = .ok (.iaload, 1) := by decide +kernel
theorem dL_law_1089 : decode cL_law 1089 = .ok (.invokevirtual 120, 3) := by decide +kernel
theorem dL_law_1092 : decode cL_law 1092 = .ok (.if_icmp .eq 448, 3) := by decide +kernel
theorem dL_law_1095 : decode cL_law 1095 = .ok (.iconst 0, 1) := by decide +kernel
theorem dL_law_1096 : decode cL_law 1096 = .ok (.ireturn, 1) := by decide +kernel
theorem dL_law_1097 : decode cL_law 1097 = .ok (.aload_n 1, 1) := by decide +kernel
theorem dL_law_1098 : decode cL_law 1098 = .ok (.invokevirtual 121, 3) := by decide +kernel
theorem dL_law_1101 : decode cL_law 1101 = .ok (.aload_n 2, 1) := by decide +kernel
theorem dL_law_1102 : decode cL_law 1102 = .ok (.invokevirtual 124, 3) := by decide +kernel
theorem dL_law_1105 : decode cL_law 1105 = .ok (.if_icmp .eq 435, 3) := by decide +kernel
theorem dL_law_1108 : decode cL_law 1108 = .ok (.iconst 0, 1) := by decide +kernel
theorem dL_law_1109 : decode cL_law 1109 = .ok (.ireturn, 1) := by decide +kernel
theorem dL_law_1110 : decode cL_law 1110 = .ok (.aload_n 1, 1) := by decide +kernel
theorem dL_law_1111 : decode cL_law 1111 = .ok (.invokevirtual 125, 3) := by decide +kernel
theorem dL_law_1114 : decode cL_law 1114 = .ok (.aload_n 2, 1) := by decide +kernel
theorem dL_law_1115 : decode cL_law 1115 = .ok (.invokevirtual 128, 3) := by decide +kernel
theorem dL_law_1118 : decode cL_law 1118 = .ok (.if_icmp .eq 422, 3) := by decide +kernel
theorem dL_law_1121 : decode cL_law 1121 = .ok (.iconst 0, 1) := by decide +kernel
theorem dL_law_1122 : decode cL_law 1122 = .ok (.ireturn, 1) := by decide +kernel
theorem dL_law_1123 : decode cL_law 1123 = .ok (.aload_n 1, 1) := by decide +kernel
theorem dL_law_1124 : decode cL_law 1124 = .ok (.invokevirtual 129, 3) := by decide +kernel
theorem dL_law_1127 : decode cL_law 1127 = .ok (.aload_n 2, 1) := by decide +kernel
theorem dL_law_1128 : decode cL_law 1128 = .ok (.invokevirtual 132, 3) := by decide +kernel
theorem dL_law_1131 : decode cL_law 1131 = .ok (.if_icmp .eq 409, 3) := by decide +kernel
theorem dL_law_1134 : decode cL_law 1134 = .ok (.iconst 0, 1) := by decide +kernel
theorem dL_law_1135 : decode cL_law 1135 = .ok (.ireturn, 1) := by decide +kernel
theorem dL_law_1136 : decode cL_law 1136 = .ok (.aload_n 1, 1) := by decide +kernel
theorem dL_law_1137 : decode cL_law 1137 = .ok (.invokevirtual 133, 3) := by decide +kernel
theorem dL_law_1140 : decode cL_law 1140 = .ok (.aload_n 2, 1) := by decide +kernel
theorem dL_law_1141 : decode cL_law 1141 = .ok (.invokevirtual 136, 3) := by decide +kernel
theorem dL_law_1144 : decode cL_law 1144 = .ok (.if_icmp .eq 396, 3) := by decide +kernel
theorem dL_law_1147 : decode cL_law 1147 = .ok (.iconst 0, 1) := by decide +kernel
theorem dL_law_1148 : decode cL_law 1148 = .ok (.ireturn, 1) := by decide +kernel
theorem dL_law_1149 : decode cL_law 1149 = .ok (.aload_n 1, 1) := by decide +kernel
theorem dL_law_1150 : decode cL_law 1150 = .ok (.aload_n 0, 1) := by decide +kernel
theorem dL_law_1151 : decode cL_law 1151 = .ok (.iload_n 3, 1) := by decide +kernel
theorem dL_law_1152 : decode cL_law 1152 = .ok (.iconst 1, 1) := by decide +kernel
theorem dL_law_1153 : decode cL_law 1153 = .ok (.iadd, 1) := by decide +kernel
theorem dL_law_1154 : decode cL_law 1154 = .ok (.iaload, 1) := by decide +kernel
theorem dL_law_1155 : decode cL_law 1155 = .ok (.invokevirtual 137, 3) := by decide +kernel
theorem dL_law_1158 : decode cL_law 1158 = .ok (.aload_n 2, 1) := by decide +kernel
theorem dL_law_1159 : decode cL_law 1159 = .ok (.aload_n 0, 1) := by decide +kernel
theorem dL_law_1160 : decode cL_law 1160 = .ok (.iload_n 3, 1) := by decide +kernel
theorem dL_law_1161 : decode cL_law 1161 = .ok (.iconst 1, 1) := by decide +kernel
theorem dL_law_1162 : decode cL_law 1162 = .ok (.iadd, 1) := by decide +kernel
theorem dL_law_1163 : decode cL_law 1163 = .ok (.iaload, 1) := by decide +kernel
theorem dL_law_1164 : decode cL_law 1164 = .ok (.invokevirtual 140, 3) := by decide +kernel
theorem dL_law_1167 : decode cL_law 1167 = .ok (.if_icmp .eq 373, 3) := by decide +kernel
theorem dL_law_1170 : decode cL_law 1170 = .ok (.iconst 0, 1) := by decide +kernel
theorem dL_law_1171 : decode cL_law 1171 = .ok (.ireturn, 1) := by decide +kernel
theorem dL_law_1172 : decode cL_law 1172 = .ok (.aload_n 1, 1) := by decide +kernel
theorem dL_law_1173 : decode cL_law 1173 = .ok (.aload_n 0, 1) := by decide +kernel
theorem dL_law_1174 : decode cL_law 1174 = .ok (.iload_n 3, 1) := by decide +kernel
theorem dL_law_1175 : decode cL_law 1175 = .ok (.iconst 1, 1) := by decide +kernel
theorem dL_law_1176 : decode cL_law 1176 = .ok (.iadd, 1) := by decide +kernel
theorem dL_law_1177 : decode cL_law 1177 = .ok (.iaload, 1) := by decide +kernel
theorem dL_law_1178 : decode cL_law 1178 = .ok (.aload_n 0, 1) := by decide +kernel
theorem dL_law_1179 : decode cL_law 1179 = .ok (.iload_n 3, 1) := by decide +kernel
theorem dL_law_1180 : decode cL_law 1180 = .ok (.iconst 2, 1) := by decide +kernel
theorem dL_law_1181 : decode cL_law 1181 = .ok (.iadd, 1) := by decide +kernel
theorem dL_law_1182 : decode cL_law 1182 = .ok (.iaload, 1) := by decide +kernel
theorem dL_law_1183 : decode cL_law 1183 = .ok (.aload_n 0, 1) := by decide +kernel
theorem dL_law_1184 : decode cL_law 1184 = .ok (.iload_n 3, 1) := by decide +kernel
theorem dL_law_1185 : decode cL_law 1185 = .ok (.iconst 3, 1) := by decide +kernel
theorem dL_law_1186 : decode cL_law 1186 = .ok (.iadd, 1) := by decide +kernel
theorem dL_law_1187 : decode cL_law 1187 = .ok (.iaload, 1) := by decide +kernel
theorem dL_law_1188 : decode cL_law 1188 = .ok (.invokevirtual 141, 3) := by decide +kernel
theorem dL_law_1191 : decode cL_law 1191 = .ok (.aload_n 2, 1) := by decide +kernel
theorem dL_law_1192 : decode cL_law 1192 = .ok (.aload_n 0, 1) := by decide +kernel
theorem dL_law_1193 : decode cL_law 1193 = .ok (.iload_n 3, 1) := by decide +kernel
theorem dL_law_1194 : decode cL_law 1194 = .ok (.iconst 1, 1) := by decide +kernel
theorem dL_law_1195 : decode cL_law 1195 = .ok (.iadd, 1) := by decide +kernel
theorem dL_law_1196 : decode cL_law 1196 = .ok (.iaload, 1) := by decide +kernel
theorem dL_law_1197 : decode cL_law 1197 = .ok (.aload_n 0, 1) := by decide +kernel
theorem dL_law_1198 : decode cL_law 1198 = .ok (.iload_n 3, 1) := by decide +kernel
theorem dL_law_1199 : decode cL_law 1199 = .ok (.iconst 2, 1) := by decide +kernel
theorem dL_law_1200 : decode cL_law 1200 = .ok (.iadd, 1) := by decide +kernel
theorem dL_law_1201 : decode cL_law 1201 = .ok (.iaload, 1) := by decide +kernel
theorem dL_law_1202 : decode cL_law 1202 = .ok (.aload_n 0, 1) := by decide +kernel
theorem dL_law_1203 : decode cL_law 1203 = .ok (.iload_n 3, 1) := by decide +kernel
theorem dL_law_1204 : decode cL_law 1204 = .ok (.iconst 3, 1) := by decide +kernel
theorem dL_law_1205 : decode cL_law 1205 = .ok (.iadd, 1) := by decide +kernel
theorem dL_law_1206 : decode cL_law 1206 = .ok (.iaload, 1) := by decide +kernel
theorem dL_law_1207 : decode cL_law 1207 = .ok (.invokevirtual 144, 3) := by decide +kernel
theorem dL_law_1210 : decode cL_law 1210 = .ok (.if_icmp .eq 330, 3) := by decide +kernel
theorem dL_law_1213 : decode cL_law 1213 = .ok (.iconst 0, 1) := by decide +kernel
theorem dL_law_1214 : decode cL_law 1214 = .ok (.ireturn, 1) := by decide +kernel
theorem dL_law_1215 : decode cL_law 1215 = .ok (.aload_n 1, 1) := by decide +kernel
theorem dL_law_1216 : decode cL_law 1216 = .ok (.aload_n 0, 1) := by decide +kernel
theorem dL_law_1217 : decode cL_law 1217 = .ok (.iload_n 3, 1) := by decide +kernel
theorem dL_law_1218 : decode cL_law 1218 = .ok (.iconst 1, 1) := by decide +kernel
theorem dL_law_1219 : decode cL_law 1219 = .ok (.iadd, 1) := by decide +kernel
theorem dL_law_1220 : decode cL_law 1220 = .ok (.iaload, 1) := by decide +kernel
theorem dL_law_1221 : decode cL_law 1221 = .ok (.invokevirtual 145, 3) := by decide +kernel
theorem dL_law_1224 : decode cL_law 1224 = .ok (.aload_n 2, 1) := by decide +kernel
theorem dL_law_1225 : decode cL_law 1225 = .ok (.aload_n 0, 1) := by decide +kernel
theorem dL_law_1226 : decode cL_law 1226 = .ok (.iload_n 3, 1) := by decide +kernel
theorem dL_law_1227 : decode cL_law 1227 = .ok (.iconst 1, 1) := by decide +kernel
theorem dL_law_1228 : decode cL_law 1228 = .ok (.iadd, 1) := by decide +kernel
theorem dL_law_1229 : decode cL_law 1229 = .ok (.iaload, 1) := by decide +kernel
theorem dL_law_1230 : decode cL_law 1230 = .ok (.invokevirtual 148, 3) := by decide +kernel
theorem dL_law_1233 : decode cL_law 1233 = .ok (.if_icmp .eq 307, 3) := by decide +kernel
theorem dL_law_1236 : decode cL_law 1236 = .ok (.iconst 0, 1) := by decide +kernel
theorem dL_law_1237 : decode cL_law 1237 = .ok (.ireturn, 1) := by decide +kernel
theorem dL_law_1238 : decode cL_law 1238 = .ok (.aload_n 1, 1) := by decide +kernel
theorem dL_law_1239 : decode cL_law 1239 = .ok (.aload_n 0, 1) := by decide +kernel
theorem dL_law_1240 : decode cL_law 1240 = .ok (.iload_n 3, 1) := by decide +kernel
theorem dL_law_1241 : decode cL_law 1241 = .ok (.iconst 1, 1) := by decide +kernel
theorem dL_law_1242 : decode cL_law 1242 = .ok (.iadd, 1) := by decide +kernel
theorem dL_law_1243 : decode cL_law 1243 = .ok (.iaload, 1) := by decide +kernel
theorem dL_law_1244 : decode cL_law 1244 = .ok (.aload_n 0, 1) := by decide +kernel
theorem dL_law_1245 : decode cL_law 1245 = .ok (.iload_n 3, 1) := by decide +kernel
theorem dL_law_1246 : decode cL_law 1246 = .ok (.iconst 2, 1) := by decide +kernel
theorem dL_law_1247 : decode cL_law 1247 = .ok (.iadd, 1) := by decide +kernel
theorem dL_law_1248 : decode cL_law 1248 = .ok (.iaload, 1) := by decide +kernel
theorem dL_law_1249 : decode cL_law 1249 = .ok (.invokevirtual 149, 3) := by decide +kernel
theorem dL_law_1252 : decode cL_law 1252 = .ok (.aload_n 2, 1) := by decide +kernel
theorem dL_law_1253 : decode cL_law 1253 = .ok (.aload_n 0, 1) := by decide +kernel
theorem dL_law_1254 : decode cL_law 1254 = .ok (.iload_n 3, 1) := by decide +kernel
theorem dL_law_1255 : decode cL_law 1255 = .ok (.iconst 1, 1) := by decide +kernel
theorem dL_law_1256 : decode cL_law 1256 = .ok (.iadd, 1) := by decide +kernel
theorem dL_law_1257 : decode cL_law 1257 = .ok (.iaload, 1) := by decide +kernel
theorem dL_law_1258 : decode cL_law 1258 = .ok (.aload_n 0, 1) := by decide +kernel
theorem dL_law_1259 : decode cL_law 1259 = .ok (.iload_n 3, 1) := by decide +kernel
theorem dL_law_1260 : decode cL_law 1260 = .ok (.iconst 2, 1) := by decide +kernel
theorem dL_law_1261 : decode cL_law 1261 = .ok (.iadd, 1) := by decide +kernel
theorem dL_law_1262 : decode cL_law 1262 = .ok (.iaload, 1) := by decide +kernel
theorem dL_law_1263 : decode cL_law 1263 = .ok (.invokevirtual 152, 3) := by decide +kernel
theorem dL_law_1266 : decode cL_law 1266 = .ok (.if_icmp .eq 274, 3) := by decide +kernel
theorem dL_law_1269 : decode cL_law 1269 = .ok (.iconst 0, 1) := by decide +kernel
theorem dL_law_1270 : decode cL_law 1270 = .ok (.ireturn, 1) := by decide +kernel
theorem dL_law_1271 : decode cL_law 1271 = .ok (.aload_n 1, 1) := by decide +kernel
theorem dL_law_1272 : decode cL_law 1272 = .ok (.aload_n 0, 1) := by decide +kernel
theorem dL_law_1273 : decode cL_law 1273 = .ok (.iload_n 3, 1) := by decide +kernel
theorem dL_law_1274 : decode cL_law 1274 = .ok (.iconst 1, 1) := by decide +kernel
theorem dL_law_1275 : decode cL_law 1275 = .ok (.iadd, 1) := by decide +kernel
theorem dL_law_1276 : decode cL_law 1276 = .ok (.iaload, 1) := by decide +kernel
theorem dL_law_1277 : decode cL_law 1277 = .ok (.aload_n 0, 1) := by decide +kernel
theorem dL_law_1278 : decode cL_law 1278 = .ok (.iload_n 3, 1) := by decide +kernel
theorem dL_law_1279 : decode cL_law 1279 = .ok (.iconst 2, 1) := by decide +kernel
theorem dL_law_1280 : decode cL_law 1280 = .ok (.iadd, 1) := by decide +kernel
theorem dL_law_1281 : decode cL_law 1281 = .ok (.iaload, 1) := by decide +kernel
theorem dL_law_1282 : decode cL_law 1282 = .ok (.aload_n 0, 1) := by decide +kernel
theorem dL_law_1283 : decode cL_law 1283 = .ok (.iload_n 3, 1) := by decide +kernel
theorem dL_law_1284 : decode cL_law 1284 = .ok (.iconst 3, 1) := by decide +kernel
theorem dL_law_1285 : decode cL_law 1285 = .ok (.iadd, 1) := by decide +kernel
theorem dL_law_1286 : decode cL_law 1286 = .ok (.iaload, 1) := by decide +kernel
theorem dL_law_1287 : decode cL_law 1287 = .ok (.invokevirtual 153, 3) := by decide +kernel
theorem dL_law_1290 : decode cL_law 1290 = .ok (.aload_n 2, 1) := by decide +kernel
theorem dL_law_1291 : decode cL_law 1291 = .ok (.aload_n 0, 1) := by decide +kernel
theorem dL_law_1292 : decode cL_law 1292 = .ok (.iload_n 3, 1) := by decide +kernel
theorem dL_law_1293 : decode cL_law 1293 = .ok (.iconst 1, 1) := by decide +kernel
theorem dL_law_1294 : decode cL_law 1294 = .ok (.iadd, 1) := by decide +kernel
theorem dL_law_1295 : decode cL_law 1295 = .ok (.iaload, 1) := by decide +kernel
theorem dL_law_1296 : decode cL_law 1296 = .ok (.aload_n 0, 1) := by decide +kernel
theorem dL_law_1297 : decode cL_law 1297 = .ok (.iload_n 3, 1) := by decide +kernel
theorem dL_law_1298 : decode cL_law 1298 = .ok (.iconst 2, 1) := by decide +kernel
theorem dL_law_1299 : decode cL_law 1299 = .ok (.iadd, 1) := by decide +kernel
theorem dL_law_1300 : decode cL_law 1300 = .ok (.iaload, 1) := by decide +kernel
theorem dL_law_1301 : decode cL_law 1301 = .ok (.aload_n 0, 1) := by decide +kernel
theorem dL_law_1302 : decode cL_law 1302 = .ok (.iload_n 3, 1) := by decide +kernel
theorem dL_law_1303 : decode cL_law 1303 = .ok (.iconst 3, 1) := by decide +kernel
theorem dL_law_1304 : decode cL_law 1304 = .ok (.iadd, 1) := by decide +kernel
theorem dL_law_1305 : decode cL_law 1305 = .ok (.iaload, 1) := by decide +kernel
theorem dL_law_1306 : decode cL_law 1306 = .ok (.invokevirtual 156, 3) := by decide +kernel
theorem dL_law_1309 : decode cL_law 1309 = .ok (.if_icmp .eq 231, 3) := by decide +kernel
theorem dL_law_1312 : decode cL_law 1312 = .ok (.iconst 0, 1) := by decide +kernel
theorem dL_law_1313 : decode cL_law 1313 = .ok (.ireturn, 1) := by decide +kernel
theorem dL_law_1314 : decode cL_law 1314 = .ok (.aload_n 1, 1) := by decide +kernel
theorem dL_law_1315 : decode cL_law 1315 = .ok (.aload_n 0, 1) := by decide +kernel
theorem dL_law_1316 : decode cL_law 1316 = .ok (.iload_n 3, 1) := by decide +kernel
theorem dL_law_1317 : decode cL_law 1317 = .ok (.iconst 1, 1) := by decide +kernel
theorem dL_law_1318 : decode cL_law 1318 = .ok (.iadd, 1) := by decide +kernel
theorem dL_law_1319 : decode cL_law 1319 = .ok (.iaload, 1) := by decide +kernel
theorem dL_law_1320 : decode cL_law 1320 = .ok (.aload_n 0, 1) := by decide +kernel
theorem dL_law_1321 : decode cL_law 1321 = .ok (.iload_n 3, 1) := by decide +kernel
theorem dL_law_1322 : decode cL_law 1322 = .ok (.iconst 2, 1) := by decide +kernel
theorem dL_law_1323 : decode cL_law 1323 = .ok (.iadd, 1) := by decide +kernel
theorem dL_law_1324 : decode cL_law 1324 = .ok (.iaload, 1) := by decide +kernel
theorem dL_law_1325 : decode cL_law 1325 = .ok (.aload_n 0, 1) := by decide +kernel
theorem dL_law_1326 : decode cL_law 1326 = .ok (.iload_n 3, 1) := by decide +kernel
theorem dL_law_1327 : decode cL_law 1327 = .ok (.iconst 3, 1) := by decide +kernel
theorem dL_law_1328 : decode cL_law 1328 = .ok (.iadd, 1) := by decide +kernel
theorem dL_law_1329 : decode cL_law 1329 = .ok (.iaload, 1) := by decide +kernel
theorem dL_law_1330 : decode cL_law 1330 = .ok (.i2l, 1) := by decide +kernel
theorem dL_law_1331 : decode cL_law 1331 = .ok (.bipush 32, 2) := by decide +kernel
theorem dL_law_1333 : decode cL_law 1333 = .ok (.lshl, 1) := by decide +kernel
theorem dL_law_1334 : decode cL_law 1334 = .ok (.aload_n 0, 1) := by decide +kernel
theorem dL_law_1335 : decode cL_law 1335 = .ok (.iload_n 3, 1) := by decide +kernel
theorem dL_law_1336 : decode cL_law 1336 = .ok (.iconst 4, 1) := by decide +kernel
theorem dL_law_1337 : decode cL_law 1337 = .ok (.iadd, 1) := by decide +kernel
theorem dL_law_1338 : decode cL_law 1338 = .ok (.iaload, 1) := by decide +kernel
theorem dL_law_1339 : decode cL_law 1339 = .ok (.i2l, 1) := by decide +kernel
theorem dL_law_1340 : decode cL_law 1340 = .ok (.ldc2_w 157, 3) := by decide +kernel
theorem dL_law_1343 : decode cL_law 1343 = .ok (.land, 1) := by decide +kernel
theorem dL_law_1344 : decode cL_law 1344 = .ok (.lor, 1) := by decide +kernel
theorem dL_law_1345 : decode cL_law 1345 = .ok (.invokevirtual 159, 3) := by decide +kernel
theorem dL_law_1348 : decode cL_law 1348 = .ok (.aload_n 2, 1) := by decide +kernel
theorem dL_law_1349 : decode cL_law 1349 = .ok (.aload_n 0, 1) := by decide +kernel
theorem dL_law_1350 : decode cL_law 1350 = .ok (.iload_n 3, 1) := by decide +kernel
theorem dL_law_1351 : decode cL_law 1351 = .ok (.iconst 1, 1) := by decide +kernel
theorem dL_law_1352 : decode cL_law 1352 = .ok (.iadd, 1) := by decide +kernel
theorem dL_law_1353 : decode cL_law 1353 = .ok (.iaload, 1) := by decide +kernel
theorem dL_law_1354 : decode cL_law 1354 = .ok (.aload_n 0, 1) := by decide +kernel
theorem dL_law_1355 : decode cL_law 1355 = .ok (.iload_n 3, 1) := by decide +kernel
theorem dL_law_1356 : decode cL_law 1356 = .ok (.iconst 2, 1) := by decide +kernel
theorem dL_law_1357 : decode cL_law 1357 = .ok (.iadd, 1) := by decide +kernel
theorem dL_law_1358 : decode cL_law 1358 = .ok (.iaload, 1) := by decide +kernel
theorem dL_law_1359 : decode cL_law 1359 = .ok (.aload_n 0, 1) := by decide +kernel
theorem dL_law_1360 : decode cL_law 1360 = .ok (.iload_n 3, 1) := by decide +kernel
theorem dL_law_1361 : decode cL_law 1361 = .ok (.iconst 3, 1) := by decide +kernel
theorem dL_law_1362 : decode cL_law 1362 = .ok (.iadd, 1) := by decide +kernel
theorem dL_law_1363 : decode cL_law 1363 = .ok (.iaload, 1) := by decide +kernel
theorem dL_law_1364 : decode cL_law 1364 = .ok (.i2l, 1) := by decide +kernel
theorem dL_law_1365 : decode cL_law 1365 = .ok (.bipush 32, 2) := by decide +kernel
theorem dL_law_1367 : decode cL_law 1367 = .ok (.lshl, 1) := by decide +kernel
theorem dL_law_1368 : decode cL_law 1368 = .ok (.aload_n 0, 1) := by decide +kernel
theorem dL_law_1369 : decode cL_law 1369 = .ok (.iload_n 3, 1) := by decide +kernel
theorem dL_law_1370 : decode cL_law 1370 = .ok (.iconst 4, 1) := by decide +kernel
theorem dL_law_1371 : decode cL_law 1371 = .ok (.iadd, 1) := by decide +kernel
theorem dL_law_1372 : decode cL_law 1372 = .ok (.iaload, 1) := by decide +kernel
theorem dL_law_1373 : decode cL_law 1373 = .ok (.i2l, 1) := by decide +kernel
theorem dL_law_1374 : decode cL_law 1374 = .ok (.ldc2_w 157, 3) := by decide +kernel
theorem dL_law_1377 : decode cL_law 1377 = .ok (.land, 1) := by decide +kernel
theorem dL_law_1378 : decode cL_law 1378 = .ok (.lor, 1) := by decide +kernel
theorem dL_law_1379 : decode cL_law 1379 = .ok (.invokevirtual 163, 3) := by decide +kernel
theorem dL_law_1382 : decode cL_law 1382 = .ok (.if_icmp .eq 158, 3) := by decide +kernel
theorem dL_law_1385 : decode cL_law 1385 = .ok (.iconst 0, 1) := by decide +kernel
theorem dL_law_1386 : decode cL_law 1386 = .ok (.ireturn, 1) := by decide +kernel
theorem dL_law_1387 : decode cL_law 1387 = .ok (.aload_n 1, 1) := by decide +kernel
theorem dL_law_1388 : decode cL_law 1388 = .ok (.aload_n 0, 1) := by decide +kernel
theorem dL_law_1389 : decode cL_law 1389 = .ok (.iload_n 3, 1) := by decide +kernel
theorem dL_law_1390 : decode cL_law 1390 = .ok (.iconst 1, 1) := by decide +kernel
theorem dL_law_1391 : decode cL_law 1391 = .ok (.iadd, 1) := by decide +kernel
theorem dL_law_1392 : decode cL_law 1392 = .ok (.iaload, 1) := by decide +kernel
theorem dL_law_1393 : decode cL_law 1393 = .ok (.aload_n 0, 1) := by decide +kernel
theorem dL_law_1394 : decode cL_law 1394 = .ok (.iload_n 3, 1) := by decide +kernel
theorem dL_law_1395 : decode cL_law 1395 = .ok (.iconst 2, 1) := by decide +kernel
theorem dL_law_1396 : decode cL_law 1396 = .ok (.iadd, 1) := by decide +kernel
theorem dL_law_1397 : decode cL_law 1397 = .ok (.iaload, 1) := by decide +kernel
theorem dL_law_1398 : decode cL_law 1398 = .ok (.invokevirtual 164, 3) := by decide +kernel
theorem dL_law_1401 : decode cL_law 1401 = .ok (.aload_n 2, 1) := by decide +kernel
theorem dL_law_1402 : decode cL_law 1402 = .ok (.aload_n 0, 1) := by decide +kernel
theorem dL_law_1403 : decode cL_law 1403 = .ok (.iload_n 3, 1) := by decide +kernel
theorem dL_law_1404 : decode cL_law 1404 = .ok (.iconst 1, 1) := by decide +kernel
theorem dL_law_1405 : decode cL_law 1405 = .ok (.iadd, 1) := by decide +kernel
theorem dL_law_1406 : decode cL_law 1406 = .ok (.iaload, 1) := by decide +kernel
theorem dL_law_1407 : decode cL_law 1407 = .ok (.aload_n 0, 1) := by decide +kernel
theorem dL_law_1408 : decode cL_law 1408 = .ok (.iload_n 3, 1) := by decide +kernel
theorem dL_law_1409 : decode cL_law 1409 = .ok (.iconst 2, 1) := by decide +kernel
theorem dL_law_1410 : decode cL_law 1410 = .ok (.iadd, 1) := by decide +kernel
theorem dL_law_1411 : decode cL_law 1411 = .ok (.iaload, 1) := by decide +kernel
theorem dL_law_1412 : decode cL_law 1412 = .ok (.invokevirtual 168, 3) := by decide +kernel
theorem dL_law_1415 : decode cL_law 1415 = .ok (.lcmp, 1) := by decide +kernel
theorem dL_law_1416 : decode cL_law 1416 = .ok (.ifCond .eq 124, 3) := by decide +kernel
theorem dL_law_1419 : decode cL_law 1419 = .ok (.iconst 0, 1) := by decide +kernel
theorem dL_law_1420 : decode cL_law 1420 = .ok (.ireturn, 1) := by decide +kernel
theorem dL_law_1421 : decode cL_law 1421 = .ok (.aload_n 1, 1) := by decide +kernel
theorem dL_law_1422 : decode cL_law 1422 = .ok (.aload_n 0, 1) := by decide +kernel
theorem dL_law_1423 : decode cL_law 1423 = .ok (.iload_n 3, 1) := by decide +kernel
theorem dL_law_1424 : decode cL_law 1424 = .ok (.iconst 1, 1) := by decide +kernel
theorem dL_law_1425 : decode cL_law 1425 = .ok (.iadd, 1) := by decide +kernel
theorem dL_law_1426 : decode cL_law 1426 = .ok (.iaload, 1) := by decide +kernel
theorem dL_law_1427 : decode cL_law 1427 = .ok (.aload_n 0, 1) := by decide +kernel
theorem dL_law_1428 : decode cL_law 1428 = .ok (.iload_n 3, 1) := by decide +kernel
theorem dL_law_1429 : decode cL_law 1429 = .ok (.iconst 2, 1) := by decide +kernel
theorem dL_law_1430 : decode cL_law 1430 = .ok (.iadd, 1) := by decide +kernel
theorem dL_law_1431 : decode cL_law 1431 = .ok (.iaload, 1) := by decide +kernel
theorem dL_law_1432 : decode cL_law 1432 = .ok (.aload_n 0, 1) := by decide +kernel
theorem dL_law_1433 : decode cL_law 1433 = .ok (.iload_n 3, 1) := by decide +kernel
theorem dL_law_1434 : decode cL_law 1434 = .ok (.iconst 3, 1) := by decide +kernel
theorem dL_law_1435 : decode cL_law 1435 = .ok (.iadd, 1) := by decide +kernel
theorem dL_law_1436 : decode cL_law 1436 = .ok (.iaload, 1) := by decide +kernel
theorem dL_law_1437 : decode cL_law 1437 = .ok (.aload_n 0, 1) := by decide +kernel
theorem dL_law_1438 : decode cL_law 1438 = .ok (.iload_n 3, 1) := by decide +kernel
theorem dL_law_1439 : decode cL_law 1439 = .ok (.iconst 4, 1) := by decide +kernel
theorem dL_law_1440 : decode cL_law 1440 = .ok (.iadd, 1) := by decide +kernel
theorem dL_law_1441 : decode cL_law 1441 = .ok (.iaload, 1) := by decide +kernel
theorem dL_law_1442 : decode cL_law 1442 = .ok (.aload_n 0, 1) := by decide +kernel
theorem dL_law_1443 : decode cL_law 1443 = .ok (.iload_n 3, 1) := by decide +kernel
theorem dL_law_1444 : decode cL_law 1444 = .ok (.iconst 5, 1) := by decide +kernel
theorem dL_law_1445 : decode cL_law 1445 = .ok (.iadd, 1) := by decide +kernel
theorem dL_law_1446 : decode cL_law 1446 = .ok (.iaload, 1) := by decide +kernel
theorem dL_law_1447 : decode cL_law 1447 = .ok (.invokevirtual 169, 3) := by decide +kernel
theorem dL_law_1450 : decode cL_law 1450 = .ok (.aload_n 2, 1) := by decide +kernel
theorem dL_law_1451 : decode cL_law 1451 = .ok (.aload_n 0, 1) := by decide +kernel
theorem dL_law_1452 : decode cL_law 1452 = .ok (.iload_n 3, 1) := by decide +kernel
theorem dL_law_1453 : decode cL_law 1453 = .ok (.iconst 1, 1) := by decide +kernel
theorem dL_law_1454 : decode cL_law 1454 = .ok (.iadd, 1) := by decide +kernel
theorem dL_law_1455 : decode cL_law 1455 = .ok (.iaload, 1) := by decide +kernel
theorem dL_law_1456 : decode cL_law 1456 = .ok (.aload_n 0, 1) := by decide +kernel
theorem dL_law_1457 : decode cL_law 1457 = .ok (.iload_n 3, 1) := by decide +kernel
theorem dL_law_1458 : decode cL_law 1458 = .ok (.iconst 2, 1) := by decide +kernel
theorem dL_law_1459 : decode cL_law 1459 = .ok (.iadd, 1) := by decide +kernel
theorem dL_law_1460 : decode cL_law 1460 = .ok (.iaload, 1) := by decide +kernel
theorem dL_law_1461 : decode cL_law 1461 = .ok (.aload_n 0, 1) := by decide +kernel
theorem dL_law_1462 : decode cL_law 1462 = .ok (.iload_n 3, 1) := by decide +kernel
theorem dL_law_1463 : decode cL_law 1463 = .ok (.iconst 3, 1) := by decide +kernel
theorem dL_law_1464 : decode cL_law 1464 = .ok (.iadd, 1) := by decide +kernel
theorem dL_law_1465 : decode cL_law 1465 = .ok (.iaload, 1) := by decide +kernel
theorem dL_law_1466 : decode cL_law 1466 = .ok (.aload_n 0, 1) := by decide +kernel
theorem dL_law_1467 : decode cL_law 1467 = .ok (.iload_n 3, 1) := by decide +kernel
theorem dL_law_1468 : decode cL_law 1468 = .ok (.iconst 4, 1) := by decide +kernel
theorem dL_law_1469 : decode cL_law 1469 = .ok (.iadd, 1) := by decide +kernel
theorem dL_law_1470 : decode cL_law 1470 = .ok (.iaload, 1) := by decide +kernel
theorem dL_law_1471 : decode cL_law 1471 = .ok (.aload_n 0, 1) := by decide +kernel
theorem dL_law_1472 : decode cL_law 1472 = .ok (.iload_n 3, 1) := by decide +kernel
theorem dL_law_1473 : decode cL_law 1473 = .ok (.iconst 5, 1) := by decide +kernel
theorem dL_law_1474 : decode cL_law 1474 = .ok (.iadd, 1) := by decide +kernel
theorem dL_law_1475 : decode cL_law 1475 = .ok (.iaload, 1) := by decide +kernel
theorem dL_law_1476 : decode cL_law 1476 = .ok (.invokevirtual 173, 3) := by decide +kernel
theorem dL_law_1479 : decode cL_law 1479 = .ok (.if_icmp .eq 61, 3) := by decide +kernel
theorem dL_law_1482 : decode cL_law 1482 = .ok (.iconst 0, 1) := by decide +kernel
theorem dL_law_1483 : decode cL_law 1483 = .ok (.ireturn, 1) := by decide +kernel
theorem dL_law_1484 : decode cL_law 1484 = .ok (.aload_n 1, 1) := by decide +kernel
theorem dL_law_1485 : decode cL_law 1485 = .ok (.aload_n 0, 1) := by decide +kernel
theorem dL_law_1486 : decode cL_law 1486 = .ok (.iload_n 3, 1) := by decide +kernel
theorem dL_law_1487 : decode cL_law 1487 = .ok (.iconst 1, 1) := by decide +kernel
theorem dL_law_1488 : decode cL_law 1488 = .ok (.iadd, 1) := by decide +kernel
theorem dL_law_1489 : decode cL_law 1489 = .ok (.iaload, 1) := by decide +kernel
theorem dL_law_1490 : decode cL_law 1490 = .ok (.aload_n 0, 1) := by decide +kernel
theorem dL_law_1491 : decode cL_law 1491 = .ok (.iload_n 3, 1) := by decide +kernel
theorem dL_law_1492 : decode cL_law 1492 = .ok (.iconst 2, 1) := by decide +kernel
theorem dL_law_1493 : decode cL_law 1493 = .ok (.iadd, 1) := by decide +kernel
theorem dL_law_1494 : decode cL_law 1494 = .ok (.iaload, 1) := by decide +kernel
theorem dL_law_1495 : decode cL_law 1495 = .ok (.invokevirtual 174, 3) := by decide +kernel
theorem dL_law_1498 : decode cL_law 1498 = .ok (.aload_n 2, 1) := by decide +kernel
theorem dL_law_1499 : decode cL_law 1499 = .ok (.aload_n 0, 1) := by decide +kernel
theorem dL_law_1500 : decode cL_law 1500 = .ok (.iload_n 3, 1) := by decide +kernel
theorem dL_law_1501 : decode cL_law 1501 = .ok (.iconst 1, 1) := by decide +kernel
theorem dL_law_1502 : decode cL_law 1502 = .ok (.iadd, 1) := by decide +kernel
theorem dL_law_1503 : decode cL_law 1503 = .ok (.iaload, 1) := by decide +kernel
theorem dL_law_1504 : decode cL_law 1504 = .ok (.aload_n 0, 1) := by decide +kernel
theorem dL_law_1505 : decode cL_law 1505 = .ok (.iload_n 3, 1) := by decide +kernel
theorem dL_law_1506 : decode cL_law 1506 = .ok (.iconst 2, 1) := by decide +kernel
theorem dL_law_1507 : decode cL_law 1507 = .ok (.iadd, 1) := by decide +kernel
theorem dL_law_1508 : decode cL_law 1508 = .ok (.iaload, 1) := by decide +kernel
theorem dL_law_1509 : decode cL_law 1509 = .ok (.invokevirtual 177, 3) := by decide +kernel
theorem dL_law_1512 : decode cL_law 1512 = .ok (.if_icmp .eq 28, 3) := by decide +kernel
theorem dL_law_1515 : decode cL_law 1515 = .ok (.iconst 0, 1) := by decide +kernel
theorem dL_law_1516 : decode cL_law 1516 = .ok (.ireturn, 1) := by decide +kernel
theorem dL_law_1517 : decode cL_law 1517 = .ok (.aload_n 1, 1) := by decide +kernel
theorem dL_law_1518 : decode cL_law 1518 = .ok (.aload_n 0, 1) := by decide +kernel
theorem dL_law_1519 : decode cL_law 1519 = .ok (.iload_n 3, 1) := by decide +kernel
theorem dL_law_1520 : decode cL_law 1520 = .ok (.iconst 1, 1) := by decide +kernel
theorem dL_law_1521 : decode cL_law 1521 = .ok (.iadd, 1) := by decide +kernel
theorem dL_law_1522 : decode cL_law 1522 = .ok (.iaload, 1) := by decide +kernel
theorem dL_law_1523 : decode cL_law 1523 = .ok (.invokevirtual 178, 3) := by decide +kernel
theorem dL_law_1526 : decode cL_law 1526 = .ok (.aload_n 2, 1) := by decide +kernel
theorem dL_law_1527 : decode cL_law 1527 = .ok (.aload_n 0, 1) := by decide +kernel
theorem dL_law_1528 : decode cL_law 1528 = .ok (.iload_n 3, 1) := by decide +kernel
theorem dL_law_1529 : decode cL_law 1529 = .ok (.iconst 1, 1) := by decide +kernel
theorem dL_law_1530 : decode cL_law 1530 = .ok (.iadd, 1) := by decide +kernel
theorem dL_law_1531 : decode cL_law 1531 = .ok (.iaload, 1) := by decide +kernel
theorem dL_law_1532 : decode cL_law 1532 = .ok (.invokevirtual 181, 3) := by decide +kernel
theorem dL_law_1535 : decode cL_law 1535 = .ok (.if_icmp .eq 5, 3) := by decide +kernel
theorem dL_law_1538 : decode cL_law 1538 = .ok (.iconst 0, 1) := by decide +kernel
theorem dL_law_1539 : decode cL_law 1539 = .ok (.ireturn, 1) := by decide +kernel
theorem dL_law_1540 : decode cL_law 1540 = .ok (.iinc 3 6, 3) := by decide +kernel
theorem dL_law_1543 : decode cL_law 1543 = .ok (.goto (-1525), 3) := by decide +kernel
theorem dL_law_1546 : decode cL_law 1546 = .ok (.iconst 1, 1) := by decide +kernel
theorem dL_law_1547 : decode cL_law 1547 = .ok (.ireturn, 1) := by decide +kernel
