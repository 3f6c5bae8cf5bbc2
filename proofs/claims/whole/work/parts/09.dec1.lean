theorem dX4_settleOne_73 : decode cX4_settleOne 73 = .ok (.iload_n 2, 1) := by decide +kernel
theorem dX4_settleOne_74 : decode cX4_settleOne 74 = .ok (.iaload, 1) := by decide +kernel
theorem dX4_settleOne_75 : decode cX4_settleOne 75 = .ok (.ifCond .ge 12, 3) := by decide +kernel
theorem dX4_settleOne_78 : decode cX4_settleOne 78 = .ok (.aload_n 0, 1) := by decide +kernel
theorem dX4_settleOne_79 : decode cX4_settleOne 79 = .ok (.getfield 45, 3) := by decide +kernel
theorem dX4_settleOne_82 : decode cX4_settleOne 82 = .ok (.bipush 10, 2) := by decide +kernel
theorem dX4_settleOne_84 : decode cX4_settleOne 84 = .ok (.if_icmp .lt 5, 3) := by decide +kernel
theorem dX4_settleOne_87 : decode cX4_settleOne 87 = .ok (.iconst 0, 1) := by decide +kernel
theorem dX4_settleOne_88 : decode cX4_settleOne 88 = .ok (.ireturn, 1) := by decide +kernel
theorem dX4_settleOne_89 : decode cX4_settleOne 89 = .ok (.aload_n 0, 1) := by decide +kernel
theorem dX4_settleOne_90 : decode cX4_settleOne 90 = .ok (.getfield 15, 3) := by decide +kernel
theorem dX4_settleOne_93 : decode cX4_settleOne 93 = .ok (.iload_n 1, 1) := by decide +kernel
theorem dX4_settleOne_94 : decode cX4_settleOne 94 = .ok (.iaload, 1) := by decide +kernel
theorem dX4_settleOne_95 : decode cX4_settleOne 95 = .ok (.aload_n 0, 1) := by decide +kernel
theorem dX4_settleOne_96 : decode cX4_settleOne 96 = .ok (.getfield 15, 3) := by decide +kernel
theorem dX4_settleOne_99 : decode cX4_settleOne 99 = .ok (.iload_n 2, 1) := by decide +kernel
theorem dX4_settleOne_100 : decode cX4_settleOne 100 = .ok (.iaload, 1) := by decide +kernel
theorem dX4_settleOne_101 : decode cX4_settleOne 101 = .ok (.ineg, 1) := by decide +kernel
theorem dX4_settleOne_102 : decode cX4_settleOne 102 = .ok (.invokestatic 53, 3) := by decide +kernel
theorem dX4_settleOne_105 : decode cX4_settleOne 105 = .ok (.istore_n 3, 1) := by decide +kernel
theorem dX4_settleOne_106 : decode cX4_settleOne 106 = .ok (.aload_n 0, 1) := by decide +kernel
theorem dX4_settleOne_107 : decode cX4_settleOne 107 = .ok (.getfield 15, 3) := by decide +kernel
theorem dX4_settleOne_110 : decode cX4_settleOne 110 = .ok (.iload_n 1, 1) := by decide +kernel
theorem dX4_settleOne_111 : decode cX4_settleOne 111 = .ok (.dup2, 1) := by decide +kernel
theorem dX4_settleOne_112 : decode cX4_settleOne 112 = .ok (.iaload, 1) := by decide +kernel
theorem dX4_settleOne_113 : decode cX4_settleOne 113 = .ok (.iload_n 3, 1) := by decide +kernel
theorem dX4_settleOne_114 : decode cX4_settleOne 114 = .ok (.isub, 1) := by decide +kernel
theorem dX4_settleOne_115 : decode cX4_settleOne 115 = .ok (.iastore, 1) := by decide +kernel
theorem dX4_settleOne_116 : decode cX4_settleOne 116 = .ok (.aload_n 0, 1) := by decide +kernel
theorem dX4_settleOne_117 : decode cX4_settleOne 117 = .ok (.getfield 15, 3) := by decide +kernel
theorem dX4_settleOne_120 : decode cX4_settleOne 120 = .ok (.iload_n 2, 1) := by decide +kernel
theorem dX4_settleOne_121 : decode cX4_settleOne 121 = .ok (.dup2, 1) := by decide +kernel
theorem dX4_settleOne_122 : decode cX4_settleOne 122 = .ok (.iaload, 1) := by decide +kernel
theorem dX4_settleOne_123 : decode cX4_settleOne 123 = .ok (.iload_n 3, 1) := by decide +kernel
theorem dX4_settleOne_124 : decode cX4_settleOne 124 = .ok (.iadd, 1) := by decide +kernel
theorem dX4_settleOne_125 : decode cX4_settleOne 125 = .ok (.iastore, 1) := by decide +kernel
theorem dX4_settleOne_126 : decode cX4_settleOne 126 = .ok (.aload_n 0, 1) := by decide +kernel
theorem dX4_settleOne_127 : decode cX4_settleOne 127 = .ok (.getfield 18, 3) := by decide +kernel
theorem dX4_settleOne_130 : decode cX4_settleOne 130 = .ok (.aload_n 0, 1) := by decide +kernel
theorem dX4_settleOne_131 : decode cX4_settleOne 131 = .ok (.getfield 45, 3) := by decide +kernel
theorem dX4_settleOne_134 : decode cX4_settleOne 134 = .ok (.ldc 59, 2) := by decide +kernel
theorem dX4_settleOne_136 : decode cX4_settleOne 136 = .ok (.iload_n 2, 1) := by decide +kernel
theorem dX4_settleOne_137 : decode cX4_settleOne 137 = .ok (.imul, 1) := by decide +kernel
theorem dX4_settleOne_138 : decode cX4_settleOne 138 = .ok (.ldc 60, 2) := by decide +kernel
theorem dX4_settleOne_140 : decode cX4_settleOne 140 = .ok (.iload_n 1, 1) := by decide +kernel
theorem dX4_settleOne_141 : decode cX4_settleOne 141 = .ok (.imul, 1) := by decide +kernel
theorem dX4_settleOne_142 : decode cX4_settleOne 142 = .ok (.iadd, 1) := by decide +kernel
theorem dX4_settleOne_143 : decode cX4_settleOne 143 = .ok (.iload_n 3, 1) := by decide +kernel
theorem dX4_settleOne_144 : decode cX4_settleOne 144 = .ok (.iadd, 1) := by decide +kernel
theorem dX4_settleOne_145 : decode cX4_settleOne 145 = .ok (.iastore, 1) := by decide +kernel
theorem dX4_settleOne_146 : decode cX4_settleOne 146 = .ok (.iconst 1, 1) := by decide +kernel
theorem dX4_settleOne_147 : decode cX4_settleOne 147 = .ok (.ireturn, 1) := by decide +kernel
theorem dX4_payment_0 : decode cX4_payment 0 = .ok (.iload_n 1, 1) := by decide +kernel
theorem dX4_payment_1 : decode cX4_payment 1 = .ok (.ifCond .lt 26, 3) := by decide +kernel
theorem dX4_payment_4 : decode cX4_payment 4 = .ok (.iload_n 1, 1) := by decide +kernel
theorem dX4_payment_5 : decode cX4_payment 5 = .ok (.aload_n 0, 1) := by decide +kernel
theorem dX4_payment_6 : decode cX4_payment 6 = .ok (.getfield 45, 3) := by decide +kernel
theorem dX4_payment_9 : decode cX4_payment 9 = .ok (.if_icmp .ge 18, 3) := by decide +kernel
theorem dX4_payment_12 : decode cX4_payment 12 = .ok (.iload_n 1, 1) := by decide +kernel
theorem dX4_payment_13 : decode cX4_payment 13 = .ok (.bipush 10, 2) := by decide +kernel
theorem dX4_payment_15 : decode cX4_payment 15 = .ok (.if_icmp .ge 12, 3) := by decide +kernel
theorem dX4_payment_18 : decode cX4_payment 18 = .ok (.aload_n 0, 1) := by decide +kernel
theorem dX4_payment_19 : decode cX4_payment 19 = .ok (.getfield 18, 3) := by decide +kernel
theorem dX4_payment_22 : decode cX4_payment 22 = .ok (.iload_n 1, 1) := by decide +kernel
theorem dX4_payment_23 : decode cX4_payment 23 = .ok (.iaload, 1) := by decide +kernel
theorem dX4_payment_24 : decode cX4_payment 24 = .ok (.goto 5, 3) := by decide +kernel
theorem dX4_payment_27 : decode cX4_payment 27 = .ok (.ldc 61, 2) := by decide +kernel
theorem dX4_payment_29 : decode cX4_payment 29 = .ok (.ireturn, 1) := by decide +kernel
theorem dX4_forget_0 : decode cX4_forget 0 = .ok (.aload_n 0, 1) := by decide +kernel
theorem dX4_forget_1 : decode cX4_forget 1 = .ok (.getfield 21, 3) := by decide +kernel
theorem dX4_forget_4 : decode cX4_forget 4 = .ok (.aload_n 0, 1) := by decide +kernel
theorem dX4_forget_5 : decode cX4_forget 5 = .ok (.getfield 9, 3) := by decide +kernel
theorem dX4_forget_8 : decode cX4_forget 8 = .ok (.iconst 0, 1) := by decide +kernel
theorem dX4_forget_9 : decode cX4_forget 9 = .ok (.aload_n 0, 1) := by decide +kernel
theorem dX4_forget_10 : decode cX4_forget 10 = .ok (.getfield 9, 3) := by decide +kernel
theorem dX4_forget_13 : decode cX4_forget 13 = .ok (.arraylength, 1) := by decide +kernel
theorem dX4_forget_14 : decode cX4_forget 14 = .ok (.invokevirtual 35, 3) := by decide +kernel
theorem dX4_forget_17 : decode cX4_forget 17 = .ok (.aload_n 0, 1) := by decide +kernel
theorem dX4_forget_18 : decode cX4_forget 18 = .ok (.getfield 9, 3) := by decide +kernel
theorem dX4_forget_21 : decode cX4_forget 21 = .ok (.iconst 0, 1) := by decide +kernel
theorem dX4_forget_22 : decode cX4_forget 22 = .ok (.invokestatic 62, 3) := by decide +kernel
theorem dX4_forget_25 : decode cX4_forget 25 = .ok (.return_, 1) := by decide +kernel
theorem dX5_init_0 : decode cX5_init 0 = .ok (.aload_n 0, 1) := by decide +kernel
theorem dX5_init_1 : decode cX5_init 1 = .ok (.invokespecial 3, 3) := by decide +kernel
theorem dX5_init_4 : decode cX5_init 4 = .ok (.aload_n 0, 1) := by decide +kernel
theorem dX5_init_5 : decode cX5_init 5 = .ok (.bipush 40, 2) := by decide +kernel
theorem dX5_init_7 : decode cX5_init 7 = .ok (.newarray .int, 2) := by decide +kernel
theorem dX5_init_9 : decode cX5_init 9 = .ok (.putfield 11, 3) := by decide +kernel
theorem dX5_init_12 : decode cX5_init 12 = .ok (.aload_n 0, 1) := by decide +kernel
theorem dX5_init_13 : decode cX5_init 13 = .ok (.new 15, 3) := by decide +kernel
theorem dX5_init_16 : decode cX5_init 16 = .ok (.dup, 1) := by decide +kernel
theorem dX5_init_17 : decode cX5_init 17 = .ok (.aload_n 1, 1) := by decide +kernel
theorem dX5_init_18 : decode cX5_init 18 = .ok (.iconst 3, 1) := by decide +kernel
theorem dX5_init_19 : decode cX5_init 19 = .ok (.bipush 40, 2) := by decide +kernel
theorem dX5_init_21 : decode cX5_init 21 = .ok (.invokespecial 17, 3) := by decide +kernel
theorem dX5_init_24 : decode cX5_init 24 = .ok (.putfield 20, 3) := by decide +kernel
theorem dX5_init_27 : decode cX5_init 27 = .ok (.return_, 1) := by decide +kernel
theorem dX5_count_0 : decode cX5_count 0 = .ok (.aload_n 0, 1) := by decide +kernel
theorem dX5_count_1 : decode cX5_count 1 = .ok (.getfield 20, 3) := by decide +kernel
theorem dX5_count_4 : decode cX5_count 4 = .ok (.invokevirtual 24, 3) := by decide +kernel
theorem dX5_count_7 : decode cX5_count 7 = .ok (.ireturn, 1) := by decide +kernel
theorem dX5_enter_0 : decode cX5_enter 0 = .ok (.iconst 3, 1) := by decide +kernel
theorem dX5_enter_1 : decode cX5_enter 1 = .ok (.newarray .int, 2) := by decide +kernel
theorem dX5_enter_3 : decode cX5_enter 3 = .ok (.dup, 1) := by decide +kernel
theorem dX5_enter_4 : decode cX5_enter 4 = .ok (.iconst 0, 1) := by decide +kernel
theorem dX5_enter_5 : decode cX5_enter 5 = .ok (.iload_n 1, 1) := by decide +kernel
theorem dX5_enter_6 : decode cX5_enter 6 = .ok (.iastore, 1) := by decide +kernel
theorem dX5_enter_7 : decode cX5_enter 7 = .ok (.dup, 1) := by decide +kernel
theorem dX5_enter_8 : decode cX5_enter 8 = .ok (.iconst 1, 1) := by decide +kernel
theorem dX5_enter_9 : decode cX5_enter 9 = .ok (.iload_n 2, 1) := by decide +kernel
theorem dX5_enter_10 : decode cX5_enter 10 = .ok (.iastore, 1) := by decide +kernel
theorem dX5_enter_11 : decode cX5_enter 11 = .ok (.dup, 1) := by decide +kernel
theorem dX5_enter_12 : decode cX5_enter 12 = .ok (.iconst 2, 1) := by decide +kernel
theorem dX5_enter_13 : decode cX5_enter 13 = .ok (.iload_n 3, 1) := by decide +kernel
theorem dX5_enter_14 : decode cX5_enter 14 = .ok (.iastore, 1) := by decide +kernel
theorem dX5_enter_15 : decode cX5_enter 15 = .ok (.astore 4, 2) := by decide +kernel
theorem dX5_enter_17 : decode cX5_enter 17 = .ok (.aload_n 0, 1) := by decide +kernel
theorem dX5_enter_18 : decode cX5_enter 18 = .ok (.getfield 20, 3) := by decide +kernel
theorem dX5_enter_21 : decode cX5_enter 21 = .ok (.aload 4, 2) := by decide +kernel
theorem dX5_enter_23 : decode cX5_enter 23 = .ok (.invokevirtual 28, 3) := by decide +kernel
theorem dX5_enter_26 : decode cX5_enter 26 = .ok (.istore 5, 2) := by decide +kernel
theorem dX5_enter_28 : decode cX5_enter 28 = .ok (.iload 5, 2) := by decide +kernel
theorem dX5_enter_30 : decode cX5_enter 30 = .ok (.ldc 32, 2) := by decide +kernel
theorem dX5_enter_32 : decode cX5_enter 32 = .ok (.if_icmp .ne 8, 3) := by decide +kernel
theorem dX5_enter_35 : decode cX5_enter 35 = .ok (.ldc 32, 2) := by decide +kernel
theorem dX5_enter_37 : decode cX5_enter 37 = .ok (.goto 7, 3) := by decide +kernel
theorem dX5_enter_40 : decode cX5_enter 40 = .ok (.iload 5, 2) := by decide +kernel
theorem dX5_enter_42 : decode cX5_enter 42 = .ok (.iconst 1, 1) := by decide +kernel
theorem dX5_enter_43 : decode cX5_enter 43 = .ok (.iadd, 1) := by decide +kernel
theorem dX5_enter_44 : decode cX5_enter 44 = .ok (.ireturn, 1) := by decide +kernel
theorem dX5_tells_0 : decode cX5_tells 0 = .ok (.aload_n 0, 1) := by decide +kernel
theorem dX5_tells_1 : decode cX5_tells 1 = .ok (.iload_n 1, 1) := by decide +kernel
theorem dX5_tells_2 : decode cX5_tells 2 = .ok (.iload_n 2, 1) := by decide +kernel
theorem dX5_tells_3 : decode cX5_tells 3 = .ok (.invokevirtual 33, 3) := by decide +kernel
theorem dX5_tells_6 : decode cX5_tells 6 = .ok (.istore 4, 2) := by decide +kernel
theorem dX5_tells_8 : decode cX5_tells 8 = .ok (.iload_n 3, 1) := by decide +kernel
theorem dX5_tells_9 : decode cX5_tells 9 = .ok (.iconst 3, 1) := by decide +kernel
theorem dX5_tells_10 : decode cX5_tells 10 = .ok (.if_icmp .ne 6, 3) := by decide +kernel
theorem dX5_tells_13 : decode cX5_tells 13 = .ok (.iload 4, 2) := by decide +kernel
theorem dX5_tells_15 : decode cX5_tells 15 = .ok (.ireturn, 1) := by decide +kernel
theorem dX5_tells_16 : decode cX5_tells 16 = .ok (.iload 4, 2) := by decide +kernel
theorem dX5_tells_18 : decode cX5_tells 18 = .ok (.ifCond .ne 6, 3) := by decide +kernel
theorem dX5_tells_21 : decode cX5_tells 21 = .ok (.ldc 37, 2) := by decide +kernel
theorem dX5_tells_23 : decode cX5_tells 23 = .ok (.ireturn, 1) := by decide +kernel
theorem dX5_tells_24 : decode cX5_tells 24 = .ok (.iload_n 3, 1) := by decide +kernel
theorem dX5_tells_25 : decode cX5_tells 25 = .ok (.iconst 1, 1) := by decide +kernel
theorem dX5_tells_26 : decode cX5_tells 26 = .ok (.if_icmp .ne 15, 3) := by decide +kernel
theorem dX5_tells_29 : decode cX5_tells 29 = .ok (.aload_n 0, 1) := by decide +kernel
theorem dX5_tells_30 : decode cX5_tells 30 = .ok (.getfield 11, 3) := by decide +kernel
theorem dX5_tells_33 : decode cX5_tells 33 = .ok (.iload 4, 2) := by decide +kernel
theorem dX5_tells_35 : decode cX5_tells 35 = .ok (.iconst 1, 1) := by decide +kernel
theorem dX5_tells_36 : decode cX5_tells 36 = .ok (.isub, 1) := by decide +kernel
theorem dX5_tells_37 : decode cX5_tells 37 = .ok (.iconst 2, 1) := by decide +kernel
theorem dX5_tells_38 : decode cX5_tells 38 = .ok (.idiv, 1) := by decide +kernel
theorem dX5_tells_39 : decode cX5_tells 39 = .ok (.iaload, 1) := by decide +kernel
theorem dX5_tells_40 : decode cX5_tells 40 = .ok (.ireturn, 1) := by decide +kernel
theorem dX5_tells_41 : decode cX5_tells 41 = .ok (.iload_n 3, 1) := by decide +kernel
theorem dX5_tells_42 : decode cX5_tells 42 = .ok (.ifCond .ne 15, 3) := by decide +kernel
theorem dX5_tells_45 : decode cX5_tells 45 = .ok (.aload_n 0, 1) := by decide +kernel
theorem dX5_tells_46 : decode cX5_tells 46 = .ok (.getfield 11, 3) := by decide +kernel
theorem dX5_tells_49 : decode cX5_tells 49 = .ok (.iload 4, 2) := by decide +kernel
theorem dX5_tells_51 : decode cX5_tells 51 = .ok (.iconst 4, 1) := by decide +kernel
theorem dX5_tells_52 : decode cX5_tells 52 = .ok (.idiv, 1) := by decide +kernel
theorem dX5_tells_53 : decode cX5_tells 53 = .ok (.iaload, 1) := by decide +kernel
theorem dX5_tells_54 : decode cX5_tells 54 = .ok (.goto 17, 3) := by decide +kernel
theorem dX5_tells_57 : decode cX5_tells 57 = .ok (.aload_n 0, 1) := by decide +kernel
theorem dX5_tells_58 : decode cX5_tells 58 = .ok (.getfield 11, 3) := by decide +kernel
theorem dX5_tells_61 : decode cX5_tells 61 = .ok (.iload 4, 2) := by decide +kernel
theorem dX5_tells_63 : decode cX5_tells 63 = .ok (.iconst 1, 1) := by decide +kernel
theorem dX5_tells_64 : decode cX5_tells 64 = .ok (.isub, 1) := by decide +kernel
theorem dX5_tells_65 : decode cX5_tells 65 = .ok (.iload 4, 2) := by decide +kernel
theorem dX5_tells_67 : decode cX5_tells 67 = .ok (.iconst 4, 1) := by decide +kernel
theorem dX5_tells_68 : decode cX5_tells 68 = .ok (.idiv, 1) := by decide +kernel
theorem dX5_tells_69 : decode cX5_tells 69 = .ok (.isub, 1) := by decide +kernel
theorem dX5_tells_70 : decode cX5_tells 70 = .ok (.iaload, 1) := by decide +kernel
theorem dX5_tells_71 : decode cX5_tells 71 = .ok (.ireturn, 1) := by decide +kernel
theorem dX5_gather_0 : decode cX5_gather 0 = .ok (.iconst 0, 1) := by decide +kernel
theorem dX5_gather_1 : decode cX5_gather 1 = .ok (.istore_n 3, 1) := by decide +kernel
theorem dX5_gather_2 : decode cX5_gather 2 = .ok (.iconst 0, 1) := by decide +kernel
theorem dX5_gather_3 : decode cX5_gather 3 = .ok (.istore 4, 2) := by decide +kernel
theorem dX5_gather_5 : decode cX5_gather 5 = .ok (.iload 4, 2) := by decide +kernel
theorem dX5_gather_7 : decode cX5_gather 7 = .ok (.aload_n 0, 1) := by decide +kernel
theorem dX5_gather_8 : decode cX5_gather 8 = .ok (.getfield 20, 3) := by decide +kernel
theorem dX5_gather_11 : decode cX5_gather 11 = .ok (.invokevirtual 24, 3) := by decide +kernel
theorem dX5_gather_14 : decode cX5_gather 14 = .ok (.if_icmp .ge 68, 3) := by decide +kernel
theorem dX5_gather_17 : decode cX5_gather 17 = .ok (.aload_n 0, 1) := by decide +kernel
theorem dX5_gather_18 : decode cX5_gather 18 = .ok (.getfield 20, 3) := by decide +kernel
theorem dX5_gather_21 : decode cX5_gather 21 = .ok (.iload 4, 2) := by decide +kernel
theorem dX5_gather_23 : decode cX5_gather 23 = .ok (.iconst 1, 1) := by decide +kernel
theorem dX5_gather_24 : decode cX5_gather 24 = .ok (.invokevirtual 38, 3) := by decide +kernel
theorem dX5_gather_27 : decode cX5_gather 27 = .ok (.istore 5, 2) := by decide +kernel
theorem dX5_gather_29 : decode cX5_gather 29 = .ok (.aload_n 0, 1) := by decide +kernel
theorem dX5_gather_30 : decode cX5_gather 30 = .ok (.getfield 20, 3) := by decide +kernel
theorem dX5_gather_33 : decode cX5_gather 33 = .ok (.iload 4, 2) := by decide +kernel
theorem dX5_gather_35 : decode cX5_gather 35 = .ok (.iconst 0, 1) := by decide +kernel
theorem dX5_gather_36 : decode cX5_gather 36 = .ok (.invokevirtual 38, 3) := by decide +kernel
theorem dX5_gather_39 : decode cX5_gather 39 = .ok (.iload_n 1, 1) := by decide +kernel
theorem dX5_gather_40 : decode cX5_gather 40 = .ok (.if_icmp .ne 36, 3) := by decide +kernel
theorem dX5_gather_43 : decode cX5_gather 43 = .ok (.iload 5, 2) := by decide +kernel
theorem dX5_gather_45 : decode cX5_gather 45 = .ok (.iload_n 2, 1) := by decide +kernel
theorem dX5_gather_46 : decode cX5_gather 46 = .ok (.bipush 30, 2) := by decide +kernel
theorem dX5_gather_48 : decode cX5_gather 48 = .ok (.isub, 1) := by decide +kernel
theorem dX5_gather_49 : decode cX5_gather 49 = .ok (.if_icmp .le 27, 3) := by decide +kernel
theorem dX5_gather_52 : decode cX5_gather 52 = .ok (.iload 5, 2) := by decide +kernel
theorem dX5_gather_54 : decode cX5_gather 54 = .ok (.iload_n 2, 1) := by decide +kernel
theorem dX5_gather_55 : decode cX5_gather 55 = .ok (.if_icmp .gt 21, 3) := by decide +kernel
theorem dX5_gather_58 : decode cX5_gather 58 = .ok (.aload_n 0, 1) := by decide +kernel
theorem dX5_gather_59 : decode cX5_gather 59 = .ok (.aload_n 0, 1) := by decide +kernel
theorem dX5_gather_60 : decode cX5_gather 60 = .ok (.getfield 20, 3) := by decide +kernel
theorem dX5_gather_63 : decode cX5_gather 63 = .ok (.iload 4, 2) := by decide +kernel
theorem dX5_gather_65 : decode cX5_gather 65 = .ok (.iconst 2, 1) := by decide +kernel
theorem dX5_gather_66 : decode cX5_gather 66 = .ok (.invokevirtual 38, 3) := by decide +kernel
theorem dX5_gather_69 : decode cX5_gather 69 = .ok (.iload_n 3, 1) := by decide +kernel
theorem dX5_gather_70 : decode cX5_gather 70 = .ok (.invokevirtual 41, 3) := by decide +kernel
theorem dX5_gather_73 : decode cX5_gather 73 = .ok (.iinc 3 1, 3) := by decide +kernel
theorem dX5_gather_76 : decode cX5_gather 76 = .ok (.iinc 4 1, 3) := by decide +kernel
theorem dX5_gather_79 : decode cX5_gather 79 = .ok (.goto (-74), 3) := by decide +kernel
theorem dX5_gather_82 : decode cX5_gather 82 = .ok (.iload_n 3, 1) := by decide +kernel
theorem dX5_gather_83 : decode cX5_gather 83 = .ok (.ireturn, 1) := by decide +kernel
theorem dX5_insert_0 : decode cX5_insert 0 = .ok (.iload_n 2, 1) := by decide +kernel
theorem dX5_insert_1 : decode cX5_insert 1 = .ok (.istore_n 3, 1) := by decide +kernel
theorem dX5_insert_2 : decode cX5_insert 2 = .ok (.iload_n 3, 1) := by decide +kernel
theorem dX5_insert_3 : decode cX5_insert 3 = .ok (.ifCond .le 41, 3) := by decide +kernel
theorem dX5_insert_6 : decode cX5_insert 6 = .ok (.iload_n 3, 1) := by decide +kernel
theorem dX5_insert_7 : decode cX5_insert 7 = .ok (.bipush 40, 2) := by decide +kernel
theorem dX5_insert_9 : decode cX5_insert 9 = .ok (.if_icmp .ge 35, 3) := by decide +kernel
theorem dX5_insert_12 : decode cX5_insert 12 = .ok (.aload_n 0, 1) := by decide +kernel
theorem dX5_insert_13 : decode cX5_insert 13 = .ok (.getfield 11, 3) := by decide +kernel
theorem dX5_insert_16 : decode cX5_insert 16 = .ok (.iload_n 3, 1) := by decide +kernel
theorem dX5_insert_17 : decode cX5_insert 17 = .ok (.iconst 1, 1) := by decide +kernel
theorem dX5_insert_18 : decode cX5_insert 18 = .ok (.isub, 1) := by decide +kernel
theorem dX5_insert_19 : decode cX5_insert 19 = .ok (.iaload, 1) := by decide +kernel
theorem dX5_insert_20 : decode cX5_insert 20 = .ok (.iload_n 1, 1) := by decide +kernel
theorem dX5_insert_21 : decode cX5_insert 21 = .ok (.if_icmp .le 23, 3) := by decide +kernel
theorem dX5_insert_24 : decode cX5_insert 24 = .ok (.aload_n 0, 1) := by decide +kernel
theorem dX5_insert_25 : decode cX5_insert 25 = .ok (.getfield 11, 3) := by decide +kernel
theorem dX5_insert_28 : decode cX5_insert 28 = .ok (.iload_n 3, 1) := by decide +kernel
theorem dX5_insert_29 : decode cX5_insert 29 = .ok (.aload_n 0, 1) := by decide +kernel
theorem dX5_insert_30 : decode cX5_insert 30 = .ok (.getfield 11, 3) := by decide +kernel
theorem dX5_insert_33 : decode cX5_insert 33 = .ok (.iload_n 3, 1) := by decide +kernel
theorem dX5_insert_34 : decode cX5_insert 34 = .ok (.iconst 1, 1) := by decide +kernel
theorem dX5_insert_35 : decode cX5_insert 35 = .ok (.isub, 1) := by decide +kernel
theorem dX5_insert_36 : decode cX5_insert 36 = .ok (.iaload, 1) := by decide +kernel
theorem dX5_insert_37 : decode cX5_insert 37 = .ok (.iastore, 1) := by decide +kernel
theorem dX5_insert_38 : decode cX5_insert 38 = .ok (.iinc 3 (-1), 3) := by decide +kernel
theorem dX5_insert_41 : decode cX5_insert 41 = .ok (.goto (-39), 3) := by decide +kernel
theorem dX5_insert_44 : decode cX5_insert 44 = .ok (.iload_n 3, 1) := by decide +kernel
theorem dX5_insert_45 : decode cX5_insert 45 = .ok (.bipush 40, 2) := by decide +kernel
theorem dX5_insert_47 : decode cX5_insert 47 = .ok (.if_icmp .ge 10, 3) := by decide +kernel
theorem dX5_insert_50 : decode cX5_insert 50 = .ok (.aload_n 0, 1) := by decide +kernel
theorem dX5_insert_51 : decode cX5_insert 51 = .ok (.getfield 11, 3) := by decide +kernel
theorem dX5_insert_54 : decode cX5_insert 54 = .ok (.iload_n 3, 1) := by decide +kernel
theorem dX5_insert_55 : decode cX5_insert 55 = .ok (.iload_n 1, 1) := by decide +kernel
theorem dX5_insert_56 : decode cX5_insert 56 = .ok (.iastore, 1) := by decide +kernel
theorem dX5_insert_57 : decode cX5_insert 57 = .ok (.return_, 1) := by decide +kernel
theorem dX6_init_0 : decode cX6_init 0 = .ok (.aload_n 0, 1) := by decide +kernel
theorem dX6_init_1 : decode cX6_init 1 = .ok (.invokespecial 3, 3) := by decide +kernel
theorem dX6_init_4 : decode cX6_init 4 = .ok (.aload_n 0, 1) := by decide +kernel
theorem dX6_init_5 : decode cX6_init 5 = .ok (.aload_n 2, 1) := by decide +kernel
theorem dX6_init_6 : decode cX6_init 6 = .ok (.putfield 9, 3) := by decide +kernel
theorem dX6_init_9 : decode cX6_init 9 = .ok (.aload_n 0, 1) := by decide +kernel
theorem dX6_init_10 : decode cX6_init 10 = .ok (.new 15, 3) := by decide +kernel
theorem dX6_init_13 : decode cX6_init 13 = .ok (.dup, 1) := by decide +kernel
theorem dX6_init_14 : decode cX6_init 14 = .ok (.aload_n 1, 1) := by decide +kernel
theorem dX6_init_15 : decode cX6_init 15 = .ok (.iconst 3, 1) := by decide +kernel
theorem dX6_init_16 : decode cX6_init 16 = .ok (.bipush 30, 2) := by decide +kernel
theorem dX6_init_18 : decode cX6_init 18 = .ok (.invokespecial 17, 3) := by decide +kernel
theorem dX6_init_21 : decode cX6_init 21 = .ok (.putfield 20, 3) := by decide +kernel
theorem dX6_init_24 : decode cX6_init 24 = .ok (.return_, 1) := by decide +kernel
theorem dX6_count_0 : decode cX6_count 0 = .ok (.aload_n 0, 1) := by decide +kernel
theorem dX6_count_1 : decode cX6_count 1 = .ok (.getfield 20, 3) := by decide +kernel
theorem dX6_count_4 : decode cX6_count 4 = .ok (.invokevirtual 24, 3) := by decide +kernel
theorem dX6_count_7 : decode cX6_count 7 = .ok (.ireturn, 1) := by decide +kernel
theorem dX6_enter_0 : decode cX6_enter 0 = .ok (.iconst 3, 1) := by decide +kernel
theorem dX6_enter_1 : decode cX6_enter 1 = .ok (.newarray .int, 2) := by decide +kernel
theorem dX6_enter_3 : decode cX6_enter 3 = .ok (.dup, 1) := by decide +kernel
theorem dX6_enter_4 : decode cX6_enter 4 = .ok (.iconst 0, 1) := by decide +kernel
theorem dX6_enter_5 : decode cX6_enter 5 = .ok (.iload_n 1, 1) := by decide +kernel
theorem dX6_enter_6 : decode cX6_enter 6 = .ok (.iastore, 1) := by decide +kernel
theorem dX6_enter_7 : decode cX6_enter 7 = .ok (.dup, 1) := by decide +kernel
theorem dX6_enter_8 : decode cX6_enter 8 = .ok (.iconst 1, 1) := by decide +kernel
theorem dX6_enter_9 : decode cX6_enter 9 = .ok (.iload_n 2, 1) := by decide +kernel
theorem dX6_enter_10 : decode cX6_enter 10 = .ok (.iastore, 1) := by decide +kernel
theorem dX6_enter_11 : decode cX6_enter 11 = .ok (.dup, 1) := by decide +kernel
theorem dX6_enter_12 : decode cX6_enter 12 = .ok (.iconst 2, 1) := by decide +kernel
theorem dX6_enter_13 : decode cX6_enter 13 = .ok (.iload_n 3, 1) := by decide +kernel
theorem dX6_enter_14 : decode cX6_enter 14 = .ok (.iastore, 1) := by decide +kernel
theorem dX6_enter_15 : decode cX6_enter 15 = .ok (.astore 4, 2) := by decide +kernel
theorem dX6_enter_17 : decode cX6_enter 17 = .ok (.aload_n 0, 1) := by decide +kernel
theorem dX6_enter_18 : decode cX6_enter 18 = .ok (.getfield 20, 3) := by decide +kernel
theorem dX6_enter_21 : decode cX6_enter 21 = .ok (.aload 4, 2) := by decide +kernel
theorem dX6_enter_23 : decode cX6_enter 23 = .ok (.invokevirtual 28, 3) := by decide +kernel
theorem dX6_enter_26 : decode cX6_enter 26 = .ok (.ireturn, 1) := by decide +kernel
theorem dX6_compare_0 : decode cX6_compare 0 = .ok (.aload_n 0, 1) := by decide +kernel
theorem dX6_compare_1 : decode cX6_compare 1 = .ok (.getfield 9, 3) := by decide +kernel
theorem dX6_compare_4 : decode cX6_compare 4 = .ok (.invokevirtual 32, 3) := by decide +kernel
theorem dX6_compare_7 : decode cX6_compare 7 = .ok (.aload_n 0, 1) := by decide +kernel
theorem dX6_compare_8 : decode cX6_compare 8 = .ok (.iconst 0, 1) := by decide +kernel
theorem dX6_compare_9 : decode cX6_compare 9 = .ok (.putfield 37, 3) := by decide +kernel
theorem dX6_compare_12 : decode cX6_compare 12 = .ok (.aload_n 0, 1) := by decide +kernel
theorem dX6_compare_13 : decode cX6_compare 13 = .ok (.ldc 41, 2) := by decide +kernel
theorem dX6_compare_15 : decode cX6_compare 15 = .ok (.putfield 42, 3) := by decide +kernel
theorem dX6_compare_18 : decode cX6_compare 18 = .ok (.iconst 0, 1) := by decide +kernel
theorem dX6_compare_19 : decode cX6_compare 19 = .ok (.istore_n 2, 1) := by decide +kernel
theorem dX6_compare_20 : decode cX6_compare 20 = .ok (.iload_n 2, 1) := by decide +kernel
theorem dX6_compare_21 : decode cX6_compare 21 = .ok (.aload_n 0, 1) := by decide +kernel
theorem dX6_compare_22 : decode cX6_compare 22 = .ok (.getfield 20, 3) := by decide +kernel
theorem dX6_compare_25 : decode cX6_compare 25 = .ok (.invokevirtual 24, 3) := by decide +kernel
theorem dX6_compare_28 : decode cX6_compare 28 = .ok (.if_icmp .ge 99, 3) := by decide +kernel
theorem dX6_compare_31 : decode cX6_compare 31 = .ok (.iload_n 2, 1) := by decide +kernel
theorem dX6_compare_32 : decode cX6_compare 32 = .ok (.iconst 1, 1) := by decide +kernel
theorem dX6_compare_33 : decode cX6_compare 33 = .ok (.iadd, 1) := by decide +kernel
theorem dX6_compare_34 : decode cX6_compare 34 = .ok (.istore_n 3, 1) := by decide +kernel
theorem dX6_compare_35 : decode cX6_compare 35 = .ok (.iload_n 3, 1) := by decide +kernel
theorem dX6_compare_36 : decode cX6_compare 36 = .ok (.aload_n 0, 1) := by decide +kernel
theorem dX6_compare_37 : decode cX6_compare 37 = .ok (.getfield 20, 3) := by decide +kernel
theorem dX6_compare_40 : decode cX6_compare 40 = .ok (.invokevirtual 24, 3) := by decide +kernel
theorem dX6_compare_43 : decode cX6_compare 43 = .ok (.if_icmp .ge 78, 3) := by decide +kernel
theorem dX6_compare_46 : decode cX6_compare 46 = .ok (.aload_n 0, 1) := by decide +kernel
theorem dX6_compare_47 : decode cX6_compare 47 = .ok (.getfield 20, 3) := by decide +kernel
theorem dX6_compare_50 : decode cX6_compare 50 = .ok (.iload_n 2, 1) := by decide +kernel
theorem dX6_compare_51 : decode cX6_compare 51 = .ok (.iconst 0, 1) := by decide +kernel
theorem dX6_compare_52 : decode cX6_compare 52 = .ok (.invokevirtual 45, 3) := by decide +kernel
theorem dX6_compare_55 : decode cX6_compare 55 = .ok (.iload_n 1, 1) := by decide +kernel
theorem dX6_compare_56 : decode cX6_compare 56 = .ok (.if_icmp .ne 59, 3) := by decide +kernel
theorem dX6_compare_59 : decode cX6_compare 59 = .ok (.aload_n 0, 1) := by decide +kernel
theorem dX6_compare_60 : decode cX6_compare 60 = .ok (.getfield 20, 3) := by decide +kernel
theorem dX6_compare_63 : decode cX6_compare 63 = .ok (.iload_n 3, 1) := by decide +kernel
theorem dX6_compare_64 : decode cX6_compare 64 = .ok (.iconst 0, 1) := by decide +kernel
theorem dX6_compare_65 : decode cX6_compare 65 = .ok (.invokevirtual 45, 3) := by decide +kernel
theorem dX6_compare_68 : decode cX6_compare 68 = .ok (.iload_n 1, 1) := by decide +kernel
theorem dX6_compare_69 : decode cX6_compare 69 = .ok (.if_icmp .ne 46, 3) := by decide +kernel
theorem dX6_compare_72 : decode cX6_compare 72 = .ok (.aload_n 0, 1) := by decide +kernel
theorem dX6_compare_73 : decode cX6_compare 73 = .ok (.iload_n 2, 1) := by decide +kernel
theorem dX6_compare_74 : decode cX6_compare 74 = .ok (.iload_n 3, 1) := by decide +kernel
theorem dX6_compare_75 : decode cX6_compare 75 = .ok (.invokevirtual 49, 3) := by decide +kernel
theorem dX6_compare_78 : decode cX6_compare 78 = .ok (.ifCond .eq 37, 3) := by decide +kernel
theorem dX6_compare_81 : decode cX6_compare 81 = .ok (.aload_n 0, 1) := by decide +kernel
theorem dX6_compare_82 : decode cX6_compare 82 = .ok (.aload_n 0, 1) := by decide +kernel
theorem dX6_compare_83 : decode cX6_compare 83 = .ok (.getfield 37, 3) := by decide +kernel
theorem dX6_compare_86 : decode cX6_compare 86 = .ok (.ifCond .ne 12, 3) := by decide +kernel
theorem dX6_compare_89 : decode cX6_compare 89 = .ok (.bipush 100, 2) := by decide +kernel
theorem dX6_compare_91 : decode cX6_compare 91 = .ok (.iload_n 2, 1) := by decide +kernel
theorem dX6_compare_92 : decode cX6_compare 92 = .ok (.imul, 1) := by decide +kernel
theorem dX6_compare_93 : decode cX6_compare 93 = .ok (.iload_n 3, 1) := by decide +kernel
theorem dX6_compare_94 : decode cX6_compare 94 = .ok (.iadd, 1) := by decide +kernel
theorem dX6_compare_95 : decode cX6_compare 95 = .ok (.goto 7, 3) := by decide +kernel
theorem dX6_compare_98 : decode cX6_compare 98 = .ok (.aload_n 0, 1) := by decide +kernel
theorem dX6_compare_99 : decode cX6_compare 99 = .ok (.getfield 42, 3) := by decide +kernel
theorem dX6_compare_102 : decode cX6_compare 102 = .ok (.putfield 42, 3) := by decide +kernel
theorem dX6_compare_105 : decode cX6_compare 105 = .ok (.aload_n 0, 1) := by decide +kernel
theorem dX6_compare_106 : decode cX6_compare 106 = .ok (.dup, 1) := by decide +kernel
theorem dX6_compare_107 : decode cX6_compare 107 = .ok (.getfield 37, 3) := by decide +kernel
theorem dX6_compare_110 : decode cX6_compare 110 = .ok (.iconst 1, 1) := by decide +kernel
theorem dX6_compare_111 : decode cX6_compare 111 = .ok (.iadd, 1) := by decide +kernel
theorem dX6_compare_112 : decode cX6_compare 112 = .ok (.putfield 37, 3) := by decide +kernel
theorem dX6_compare_115 : decode cX6_compare 115 = .ok (.iinc 3 1, 3) := by decide +kernel
theorem dX6_compare_118 : decode cX6_compare 118 = .ok (.goto (-83), 3) := by decide +kernel
theorem dX6_compare_121 : decode cX6_compare 121 = .ok (.iinc 2 1, 3) := by decide +kernel
theorem dX6_compare_124 : decode cX6_compare 124 = .ok (.goto (-104), 3) := by decide +kernel
theorem dX6_compare_127 : decode cX6_compare 127 = .ok (.return_, 1) := by decide +kernel
theorem dX6_pairs_0 : decode cX6_pairs 0 = .ok (.aload_n 0, 1) := by decide +kernel
theorem dX6_pairs_1 : decode cX6_pairs 1 = .ok (.getfield 37, 3) := by decide +kernel
theorem dX6_pairs_4 : decode cX6_pairs 4 = .ok (.ireturn, 1) := by decide +kernel
theorem dX6_firstPair_0 : decode cX6_firstPair 0 = .ok (.aload_n 0, 1) := by decide +kernel
theorem dX6_firstPair_1 : decode cX6_firstPair 1 = .ok (.getfield 42, 3) := by decide +kernel
theorem dX6_firstPair_4 : decode cX6_firstPair 4 = .ok (.ireturn, 1) := by decide +kernel
theorem dX6_cannotBe_0 : decode cX6_cannotBe 0 = .ok (.aload_n 0, 1) := by decide +kernel
theorem dX6_cannotBe_1 : decode cX6_cannotBe 1 = .ok (.getfield 20, 3) := by decide +kernel
theorem dX6_cannotBe_4 : decode cX6_cannotBe 4 = .ok (.iload_n 1, 1) := by decide +kernel
theorem dX6_cannotBe_5 : decode cX6_cannotBe 5 = .ok (.iconst 2, 1) := by decide +kernel
theorem dX6_cannotBe_6 : decode cX6_cannotBe 6 = .ok (.invokevirtual 45, 3) := by decide +kernel
theorem dX6_cannotBe_9 : decode cX6_cannotBe 9 = .ok (.aload_n 0, 1) := by decide +kernel
theorem dX6_cannotBe_10 : decode cX6_cannotBe 10 = .ok (.getfield 20, 3) := by decide +kernel
theorem dX6_cannotBe_13 : decode cX6_cannotBe 13 = .ok (.iload_n 2, 1) := by decide +kernel
theorem dX6_cannotBe_14 : decode cX6_cannotBe 14 = .ok (.iconst 2, 1) := by decide +kernel
theorem dX6_cannotBe_15 : decode cX6_cannotBe 15 = .ok (.invokevirtual 45, 3) := by decide +kernel
theorem dX6_cannotBe_18 : decode cX6_cannotBe 18 = .ok (.isub, 1) := by decide +kernel
theorem dX6_cannotBe_19 : decode cX6_cannotBe 19 = .ok (.invokestatic 53, 3) := by decide +kernel
theorem dX6_cannotBe_22 : decode cX6_cannotBe 22 = .ok (.istore_n 3, 1) := by decide +kernel
theorem dX6_cannotBe_23 : decode cX6_cannotBe 23 = .ok (.aload_n 0, 1) := by decide +kernel
theorem dX6_cannotBe_24 : decode cX6_cannotBe 24 = .ok (.getfield 9, 3) := by decide +kernel
theorem dX6_cannotBe_27 : decode cX6_cannotBe 27 = .ok (.aload_n 0, 1) := by decide +kernel
theorem dX6_cannotBe_28 : decode cX6_cannotBe 28 = .ok (.getfield 20, 3) := by decide +kernel
theorem dX6_cannotBe_31 : decode cX6_cannotBe 31 = .ok (.iload_n 1, 1) := by decide +kernel
theorem dX6_cannotBe_32 : decode cX6_cannotBe 32 = .ok (.iconst 1, 1) := by decide +kernel
theorem dX6_cannotBe_33 : decode cX6_cannotBe 33 = .ok (.invokevirtual 45, 3) := by decide +kernel
theorem dX6_cannotBe_36 : decode cX6_cannotBe 36 = .ok (.aload_n 0, 1) := by decide +kernel
theorem dX6_cannotBe_37 : decode cX6_cannotBe 37 = .ok (.getfield 20, 3) := by decide +kernel
theorem dX6_cannotBe_40 : decode cX6_cannotBe 40 = .ok (.iload_n 2, 1) := by decide +kernel
theorem dX6_cannotBe_41 : decode cX6_cannotBe 41 = .ok (.iconst 1, 1) := by decide +kernel
theorem dX6_cannotBe_42 : decode cX6_cannotBe 42 = .ok (.invokevirtual 45, 3) := by decide +kernel
theorem dX6_cannotBe_45 : decode cX6_cannotBe 45 = .ok (.invokevirtual 59, 3) := by decide +kernel
theorem dX6_cannotBe_48 : decode cX6_cannotBe 48 = .ok (.iload_n 3, 1) := by decide +kernel
theorem dX6_cannotBe_49 : decode cX6_cannotBe 49 = .ok (.if_icmp .le 7, 3) := by decide +kernel
theorem dX6_cannotBe_52 : decode cX6_cannotBe 52 = .ok (.iconst 1, 1) := by decide +kernel
theorem dX6_cannotBe_53 : decode cX6_cannotBe 53 = .ok (.goto 4, 3) := by decide +kernel
theorem dX6_cannotBe_56 : decode cX6_cannotBe 56 = .ok (.iconst 0, 1) := by decide +kernel
theorem dX6_cannotBe_57 : decode cX6_cannotBe 57 = .ok (.ireturn, 1) := by decide +kernel
theorem dX7_init_0 : decode cX7_init 0 = .ok (.aload_n 0, 1) := by decide +kernel
theorem dX7_init_1 : decode cX7_init 1 = .ok (.invokespecial 3, 3) := by decide +kernel
theorem dX7_init_4 : decode cX7_init 4 = .ok (.aload_n 0, 1) := by decide +kernel
theorem dX7_init_5 : decode cX7_init 5 = .ok (.bipush 20, 2) := by decide +kernel
theorem dX7_init_7 : decode cX7_init 7 = .ok (.newarray .int, 2) := by decide +kernel
theorem dX7_init_9 : decode cX7_init 9 = .ok (.putfield 9, 3) := by decide +kernel
theorem dX7_init_12 : decode cX7_init 12 = .ok (.return_, 1) := by decide +kernel
theorem dX7_begin_0 : decode cX7_begin 0 = .ok (.aload_n 0, 1) := by decide +kernel
theorem dX7_begin_1 : decode cX7_begin 1 = .ok (.iload_n 1, 1) := by decide +kernel
theorem dX7_begin_2 : decode cX7_begin 2 = .ok (.putfield 15, 3) := by decide +kernel
theorem dX7_begin_5 : decode cX7_begin 5 = .ok (.aload_n 0, 1) := by decide +kernel
theorem dX7_begin_6 : decode cX7_begin 6 = .ok (.iload_n 2, 1) := by decide +kernel
theorem dX7_begin_7 : decode cX7_begin 7 = .ok (.iconst 0, 1) := by decide +kernel
theorem dX7_begin_8 : decode cX7_begin 8 = .ok (.invokestatic 19, 3) := by decide +kernel
theorem dX7_begin_11 : decode cX7_begin 11 = .ok (.bipush 20, 2) := by decide +kernel
theorem dX7_begin_13 : decode cX7_begin 13 = .ok (.invokestatic 25, 3) := by decide +kernel
theorem dX7_begin_16 : decode cX7_begin 16 = .ok (.putfield 28, 3) := by decide +kernel
theorem dX7_begin_19 : decode cX7_begin 19 = .ok (.aload_n 0, 1) := by decide +kernel
theorem dX7_begin_20 : decode cX7_begin 20 = .ok (.getfield 9, 3) := by decide +kernel
theorem dX7_begin_23 : decode cX7_begin 23 = .ok (.iconst 0, 1) := by decide +kernel
theorem dX7_begin_24 : decode cX7_begin 24 = .ok (.invokestatic 31, 3) := by decide +kernel
theorem dX7_begin_27 : decode cX7_begin 27 = .ok (.return_, 1) := by decide +kernel
theorem dX7_isMissing_0 : decode cX7_isMissing 0 = .ok (.aload_n 0, 1) := by decide +kernel
theorem dX7_isMissing_1 : decode cX7_isMissing 1 = .ok (.getfield 15, 3) := by decide +kernel
theorem dX7_isMissing_4 : decode cX7_isMissing 4 = .ok (.ifCond .ne 7, 3) := by decide +kernel
theorem dX7_isMissing_7 : decode cX7_isMissing 7 = .ok (.iconst 1, 1) := by decide +kernel
theorem dX7_isMissing_8 : decode cX7_isMissing 8 = .ok (.goto 4, 3) := by decide +kernel
theorem dX7_isMissing_11 : decode cX7_isMissing 11 = .ok (.iconst 0, 1) := by decide +kernel
theorem dX7_isMissing_12 : decode cX7_isMissing 12 = .ok (.ireturn, 1) := by decide +kernel
theorem dX7_isAsWideAs_0 : decode cX7_isAsWideAs 0 = .ok (.aload_n 0, 1) := by decide +kernel
theorem dX7_isAsWideAs_1 : decode cX7_isAsWideAs 1 = .ok (.getfield 15, 3) := by decide +kernel
theorem dX7_isAsWideAs_4 : decode cX7_isAsWideAs 4 = .ok (.aload_n 1, 1) := by decide +kernel
theorem dX7_isAsWideAs_5 : decode cX7_isAsWideAs 5 = .ok (.getfield 15, 3) := by decide +kernel
theorem dX7_isAsWideAs_8 : decode cX7_isAsWideAs 8 = .ok (.if_icmp .ne 7, 3) := by decide +kernel
theorem dX7_isAsWideAs_11 : decode cX7_isAsWideAs 11 = .ok (.iconst 1, 1) := by decide +kernel
theorem dX7_isAsWideAs_12 : decode cX7_isAsWideAs 12 = .ok (.goto 4, 3) := by decide +kernel
theorem dX7_isAsWideAs_15 : decode cX7_isAsWideAs 15 = .ok (.iconst 0, 1) := by decide +kernel
theorem dX7_isAsWideAs_16 : decode cX7_isAsWideAs 16 = .ok (.ireturn, 1) := by decide +kernel
theorem dX7_count_0 : decode cX7_count 0 = .ok (.aload_n 0, 1) := by decide +kernel
theorem dX7_count_1 : decode cX7_count 1 = .ok (.getfield 28, 3) := by decide +kernel
theorem dX7_count_4 : decode cX7_count 4 = .ok (.ireturn, 1) := by decide +kernel
theorem dX7_reaches_0 : decode cX7_reaches 0 = .ok (.iload_n 1, 1) := by decide +kernel
theorem dX7_reaches_1 : decode cX7_reaches 1 = .ok (.ifCond .lt 29, 3) := by decide +kernel
theorem dX7_reaches_4 : decode cX7_reaches 4 = .ok (.iload_n 2, 1) := by decide +kernel
theorem dX7_reaches_5 : decode cX7_reaches 5 = .ok (.ifCond .lt 25, 3) := by decide +kernel
theorem dX7_reaches_8 : decode cX7_reaches 8 = .ok (.iload_n 2, 1) := by decide +kernel
theorem dX7_reaches_9 : decode cX7_reaches 9 = .ok (.aload_n 0, 1) := by decide +kernel
theorem dX7_reaches_10 : decode cX7_reaches 10 = .ok (.getfield 28, 3) := by decide +kernel
theorem dX7_reaches_13 : decode cX7_reaches 13 = .ok (.if_icmp .gt 17, 3) := by decide +kernel
theorem dX7_reaches_16 : decode cX7_reaches 16 = .ok (.iload_n 1, 1) := by decide +kernel
theorem dX7_reaches_17 : decode cX7_reaches 17 = .ok (.aload_n 0, 1) := by decide +kernel
theorem dX7_reaches_18 : decode cX7_reaches 18 = .ok (.getfield 28, 3) := by decide +kernel
theorem dX7_reaches_21 : decode cX7_reaches 21 = .ok (.iload_n 2, 1) := by decide +kernel
theorem dX7_reaches_22 : decode cX7_reaches 22 = .ok (.isub, 1) := by decide +kernel
theorem dX7_reaches_23 : decode cX7_reaches 23 = .ok (.if_icmp .gt 7, 3) := by decide +kernel
theorem dX7_reaches_26 : decode cX7_reaches 26 = .ok (.iconst 1, 1) := by decide +kernel
theorem dX7_reaches_27 : decode cX7_reaches 27 = .ok (.goto 4, 3) := by decide +kernel
theorem dX7_reaches_30 : decode cX7_reaches 30 = .ok (.iconst 0, 1) := by decide +kernel
theorem dX7_reaches_31 : decode cX7_reaches 31 = .ok (.ireturn, 1) := by decide +kernel
theorem dX7_at_0 : decode cX7_at 0 = .ok (.iload_n 1, 1) := by decide +kernel
theorem dX7_at_1 : decode cX7_at 1 = .ok (.ifCond .lt 26, 3) := by decide +kernel
theorem dX7_at_4 : decode cX7_at 4 = .ok (.iload_n 1, 1) := by decide +kernel
theorem dX7_at_5 : decode cX7_at 5 = .ok (.aload_n 0, 1) := by decide +kernel
theorem dX7_at_6 : decode cX7_at 6 = .ok (.getfield 28, 3) := by decide +kernel
theorem dX7_at_9 : decode cX7_at 9 = .ok (.if_icmp .ge 18, 3) := by decide +kernel
theorem dX7_at_12 : decode cX7_at 12 = .ok (.iload_n 1, 1) := by decide +kernel
theorem dX7_at_13 : decode cX7_at 13 = .ok (.bipush 20, 2) := by decide +kernel
theorem dX7_at_15 : decode cX7_at 15 = .ok (.if_icmp .ge 12, 3) := by decide +kernel
theorem dX7_at_18 : decode cX7_at 18 = .ok (.aload_n 0, 1) := by decide +kernel
theorem dX7_at_19 : decode cX7_at 19 = .ok (.getfield 9, 3) := by decide +kernel
theorem dX7_at_22 : decode cX7_at 22 = .ok (.iload_n 1, 1) := by decide +kernel
theorem dX7_at_23 : decode cX7_at 23 = .ok (.iaload, 1) := by decide +kernel
theorem dX7_at_24 : decode cX7_at 24 = .ok (.goto 4, 3) := by decide +kernel
theorem dX7_at_27 : decode cX7_at 27 = .ok (.iconst 0, 1) := by decide +kernel
theorem dX7_at_28 : decode cX7_at 28 = .ok (.ireturn, 1) := by decide +kernel
theorem dX7_write_0 : decode cX7_write 0 = .ok (.iload_n 1, 1) := by decide +kernel
theorem dX7_write_1 : decode cX7_write 1 = .ok (.ifCond .lt 52, 3) := by decide +kernel
theorem dX7_write_4 : decode cX7_write 4 = .ok (.iload_n 1, 1) := by decide +kernel
theorem dX7_write_5 : decode cX7_write 5 = .ok (.aload_n 0, 1) := by decide +kernel
theorem dX7_write_6 : decode cX7_write 6 = .ok (.getfield 28, 3) := by decide +kernel
theorem dX7_write_9 : decode cX7_write 9 = .ok (.if_icmp .ge 44, 3) := by decide +kernel
theorem dX7_write_12 : decode cX7_write 12 = .ok (.iload_n 1, 1) := by decide +kernel
theorem dX7_write_13 : decode cX7_write 13 = .ok (.bipush 20, 2) := by decide +kernel
theorem dX7_write_15 : decode cX7_write 15 = .ok (.if_icmp .ge 38, 3) := by decide +kernel
theorem dX7_write_18 : decode cX7_write 18 = .ok (.aload_n 0, 1) := by decide +kernel
theorem dX7_write_19 : decode cX7_write 19 = .ok (.getfield 9, 3) := by decide +kernel
theorem dX7_write_22 : decode cX7_write 22 = .ok (.iload_n 1, 1) := by decide +kernel
theorem dX7_write_23 : decode cX7_write 23 = .ok (.aload_n 0, 1) := by decide +kernel
theorem dX7_write_24 : decode cX7_write 24 = .ok (.getfield 15, 3) := by decide +kernel
theorem dX7_write_27 : decode cX7_write 27 = .ok (.bipush 8, 2) := by decide +kernel
theorem dX7_write_29 : decode cX7_write 29 = .ok (.if_icmp .ne 8, 3) := by decide +kernel
theorem dX7_write_32 : decode cX7_write 32 = .ok (.iload_n 2, 1) := by decide +kernel
theorem dX7_write_33 : decode cX7_write 33 = .ok (.i2b, 1) := by decide +kernel
theorem dX7_write_34 : decode cX7_write 34 = .ok (.goto 18, 3) := by decide +kernel
theorem dX7_write_37 : decode cX7_write 37 = .ok (.aload_n 0, 1) := by decide +kernel
theorem dX7_write_38 : decode cX7_write 38 = .ok (.getfield 15, 3) := by decide +kernel
theorem dX7_write_41 : decode cX7_write 41 = .ok (.bipush 16, 2) := by decide +kernel
theorem dX7_write_43 : decode cX7_write 43 = .ok (.if_icmp .ne 8, 3) := by decide +kernel
theorem dX7_write_46 : decode cX7_write 46 = .ok (.iload_n 2, 1) := by decide +kernel
theorem dX7_write_47 : decode cX7_write 47 = .ok (.i2s, 1) := by decide +kernel
theorem dX7_write_48 : decode cX7_write 48 = .ok (.goto 4, 3) := by decide +kernel
theorem dX7_write_51 : decode cX7_write 51 = .ok (.iload_n 2, 1) := by decide +kernel
theorem dX7_write_52 : decode cX7_write 52 = .ok (.iastore, 1) := by decide +kernel
theorem dX7_write_53 : decode cX7_write 53 = .ok (.return_, 1) := by decide +kernel
theorem dX7_take_0 : decode cX7_take 0 = .ok (.aload_n 1, 1) := by decide +kernel
theorem dX7_take_1 : decode cX7_take 1 = .ok (.iload_n 2, 1) := by decide +kernel
theorem dX7_take_2 : decode cX7_take 2 = .ok (.iload 4, 2) := by decide +kernel
theorem dX7_take_4 : decode cX7_take 4 = .ok (.invokevirtual 37, 3) := by decide +kernel
theorem dX7_take_7 : decode cX7_take 7 = .ok (.ifCond .eq 28, 3) := by decide +kernel
theorem dX7_take_10 : decode cX7_take 10 = .ok (.aload_n 0, 1) := by decide +kernel
theorem dX7_take_11 : decode cX7_take 11 = .ok (.iload_n 3, 1) := by decide +kernel
theorem dX7_take_12 : decode cX7_take 12 = .ok (.iload 4, 2) := by decide +kernel
theorem dX7_take_14 : decode cX7_take 14 = .ok (.invokevirtual 37, 3) := by decide +kernel
theorem dX7_take_17 : decode cX7_take 17 = .ok (.ifCond .eq 18, 3) := by decide +kernel
theorem dX7_take_20 : decode cX7_take 20 = .ok (.aload_n 1, 1) := by decide +kernel
theorem dX7_take_21 : decode cX7_take 21 = .ok (.getfield 9, 3) := by decide +kernel
theorem dX7_take_24 : decode cX7_take 24 = .ok (.iload_n 2, 1) := by decide +kernel
theorem dX7_take_25 : decode cX7_take 25 = .ok (.aload_n 0, 1) := by decide +kernel
theorem dX7_take_26 : decode cX7_take 26 = .ok (.getfield 9, 3) := by decide +kernel
theorem dX7_take_29 : decode cX7_take 29 = .ok (.iload_n 3, 1) := by decide +kernel
theorem dX7_take_30 : decode cX7_take 30 = .ok (.iload 4, 2) := by decide +kernel
theorem dX7_take_32 : decode cX7_take 32 = .ok (.invokestatic 41, 3) := by decide +kernel
theorem dX7_take_35 : decode cX7_take 35 = .ok (.return_, 1) := by decide +kernel
theorem dX8_init_0 : decode cX8_init 0 = .ok (.aload_n 0, 1) := by decide +kernel
theorem dX8_init_1 : decode cX8_init 1 = .ok (.invokespecial 3, 3) := by decide +kernel
theorem dX8_init_4 : decode cX8_init 4 = .ok (.aload_n 0, 1) := by decide +kernel
theorem dX8_init_5 : decode cX8_init 5 = .ok (.aload_n 1, 1) := by decide +kernel
theorem dX8_init_6 : decode cX8_init 6 = .ok (.putfield 9, 3) := by decide +kernel
theorem dX8_init_9 : decode cX8_init 9 = .ok (.aload_n 0, 1) := by decide +kernel
theorem dX8_init_10 : decode cX8_init 10 = .ok (.iload_n 2, 1) := by decide +kernel
theorem dX8_init_11 : decode cX8_init 11 = .ok (.putfield 15, 3) := by decide +kernel
theorem dX8_init_14 : decode cX8_init 14 = .ok (.aload_n 0, 1) := by decide +kernel
theorem dX8_init_15 : decode cX8_init 15 = .ok (.iload_n 3, 1) := by decide +kernel
theorem dX8_init_16 : decode cX8_init 16 = .ok (.putfield 19, 3) := by decide +kernel
theorem dX8_init_19 : decode cX8_init 19 = .ok (.aload_n 0, 1) := by decide +kernel
theorem dX8_init_20 : decode cX8_init 20 = .ok (.iconst 1, 1) := by decide +kernel
theorem dX8_init_21 : decode cX8_init 21 = .ok (.iload_n 2, 1) := by decide +kernel
theorem dX8_init_22 : decode cX8_init 22 = .ok (.iload_n 3, 1) := by decide +kernel
theorem dX8_init_23 : decode cX8_init 23 = .ok (.imul, 1) := by decide +kernel
theorem dX8_init_24 : decode cX8_init 24 = .ok (.iconst 0, 1) := by decide +kernel
theorem dX8_init_25 : decode cX8_init 25 = .ok (.invokestatic 22, 3) := by decide +kernel
theorem dX8_init_28 : decode cX8_init 28 = .ok (.iadd, 1) := by decide +kernel
theorem dX8_init_29 : decode cX8_init 29 = .ok (.newarray .int, 2) := by decide +kernel
theorem dX8_init_31 : decode cX8_init 31 = .ok (.putfield 28, 3) := by decide +kernel
theorem dX8_init_34 : decode cX8_init 34 = .ok (.return_, 1) := by decide +kernel
theorem dX8_count_0 : decode cX8_count 0 = .ok (.aload_n 0, 1) := by decide +kernel
theorem dX8_count_1 : decode cX8_count 1 = .ok (.getfield 28, 3) := by decide +kernel
theorem dX8_count_4 : decode cX8_count 4 = .ok (.iconst 0, 1) := by decide +kernel
theorem dX8_count_5 : decode cX8_count 5 = .ok (.iaload, 1) := by decide +kernel
theorem dX8_count_6 : decode cX8_count 6 = .ok (.ireturn, 1) := by decide +kernel
theorem dX8_has_0 : decode cX8_has 0 = .ok (.iload_n 1, 1) := by decide +kernel
theorem dX8_has_1 : decode cX8_has 1 = .ok (.ifCond .lt 17, 3) := by decide +kernel
theorem dX8_has_4 : decode cX8_has 4 = .ok (.iload_n 1, 1) := by decide +kernel
theorem dX8_has_5 : decode cX8_has 5 = .ok (.aload_n 0, 1) := by decide +kernel
theorem dX8_has_6 : decode cX8_has 6 = .ok (.getfield 28, 3) := by decide +kernel
theorem dX8_has_9 : decode cX8_has 9 = .ok (.iconst 0, 1) := by decide +kernel
theorem dX8_has_10 : decode cX8_has 10 = .ok (.iaload, 1) := by decide +kernel
theorem dX8_has_11 : decode cX8_has 11 = .ok (.if_icmp .ge 7, 3) := by decide +kernel
theorem dX8_has_14 : decode cX8_has 14 = .ok (.iconst 1, 1) := by decide +kernel
theorem dX8_has_15 : decode cX8_has 15 = .ok (.goto 4, 3) := by decide +kernel
theorem dX8_has_18 : decode cX8_has 18 = .ok (.iconst 0, 1) := by decide +kernel
theorem dX8_has_19 : decode cX8_has 19 = .ok (.ireturn, 1) := by decide +kernel
theorem dX8_at_0 : decode cX8_at 0 = .ok (.aload_n 0, 1) := by decide +kernel
theorem dX8_at_1 : decode cX8_at 1 = .ok (.iload_n 1, 1) := by decide +kernel
theorem dX8_at_2 : decode cX8_at 2 = .ok (.iload_n 2, 1) := by decide +kernel
theorem dX8_at_3 : decode cX8_at 3 = .ok (.invokevirtual 32, 3) := by decide +kernel
theorem dX8_at_6 : decode cX8_at 6 = .ok (.ifCond .eq 21, 3) := by decide +kernel
theorem dX8_at_9 : decode cX8_at 9 = .ok (.aload_n 0, 1) := by decide +kernel
theorem dX8_at_10 : decode cX8_at 10 = .ok (.getfield 28, 3) := by decide +kernel
theorem dX8_at_13 : decode cX8_at 13 = .ok (.iconst 1, 1) := by decide +kernel
theorem dX8_at_14 : decode cX8_at 14 = .ok (.iload_n 1, 1) := by decide +kernel
theorem dX8_at_15 : decode cX8_at 15 = .ok (.aload_n 0, 1) := by decide +kernel
theorem dX8_at_16 : decode cX8_at 16 = .ok (.getfield 15, 3) := by decide +kernel
theorem dX8_at_19 : decode cX8_at 19 = .ok (.imul, 1) := by decide +kernel
theorem dX8_at_20 : decode cX8_at 20 = .ok (.iadd, 1) := by decide +kernel
theorem dX8_at_21 : decode cX8_at 21 = .ok (.iload_n 2, 1) := by decide +kernel
theorem dX8_at_22 : decode cX8_at 22 = .ok (.iadd, 1) := by decide +kernel
theorem dX8_at_23 : decode cX8_at 23 = .ok (.iaload, 1) := by decide +kernel
theorem dX8_at_24 : decode cX8_at 24 = .ok (.goto 4, 3) := by decide +kernel
theorem dX8_at_27 : decode cX8_at 27 = .ok (.iconst 0, 1) := by decide +kernel
theorem dX8_at_28 : decode cX8_at 28 = .ok (.ireturn, 1) := by decide +kernel
theorem dX8_add_0 : decode cX8_add 0 = .ok (.aload_n 0, 1) := by decide +kernel
theorem dX8_add_1 : decode cX8_add 1 = .ok (.getfield 28, 3) := by decide +kernel
theorem dX8_add_4 : decode cX8_add 4 = .ok (.iconst 0, 1) := by decide +kernel
theorem dX8_add_5 : decode cX8_add 5 = .ok (.iaload, 1) := by decide +kernel
theorem dX8_add_6 : decode cX8_add 6 = .ok (.istore_n 2, 1) := by decide +kernel
theorem dX8_add_7 : decode cX8_add 7 = .ok (.iload_n 2, 1) := by decide +kernel
theorem dX8_add_8 : decode cX8_add 8 = .ok (.aload_n 0, 1) := by decide +kernel
theorem dX8_add_9 : decode cX8_add 9 = .ok (.getfield 19, 3) := by decide +kernel
theorem dX8_add_12 : decode cX8_add 12 = .ok (.if_icmp .ge 12, 3) := by decide +kernel
theorem dX8_add_15 : decode cX8_add 15 = .ok (.aload_n 1, 1) := by decide +kernel
theorem dX8_add_16 : decode cX8_add 16 = .ok (.arraylength, 1) := by decide +kernel
theorem dX8_add_17 : decode cX8_add 17 = .ok (.aload_n 0, 1) := by decide +kernel
theorem dX8_add_18 : decode cX8_add 18 = .ok (.getfield 15, 3) := by decide +kernel
theorem dX8_add_21 : decode cX8_add 21 = .ok (.if_icmp .eq 6, 3) := by decide +kernel
theorem dX8_add_24 : decode cX8_add 24 = .ok (.ldc 36, 2) := by decide +kernel
theorem dX8_add_26 : decode cX8_add 26 = .ok (.ireturn, 1) := by decide +kernel
theorem dX8_add_27 : decode cX8_add 27 = .ok (.aload_n 0, 1) := by decide +kernel
theorem dX8_add_28 : decode cX8_add 28 = .ok (.getfield 9, 3) := by decide +kernel
theorem dX8_add_31 : decode cX8_add 31 = .ok (.aload_n 0, 1) := by decide +kernel
theorem dX8_add_32 : decode cX8_add 32 = .ok (.getfield 28, 3) := by decide +kernel
theorem dX8_add_35 : decode cX8_add 35 = .ok (.iconst 0, 1) := by decide +kernel
theorem dX8_add_36 : decode cX8_add 36 = .ok (.iconst 1, 1) := by decide +kernel
theorem dX8_add_37 : decode cX8_add 37 = .ok (.invokevirtual 37, 3) := by decide +kernel
theorem dX8_add_40 : decode cX8_add 40 = .ok (.aload_n 1, 1) := by decide +kernel
theorem dX8_add_41 : decode cX8_add 41 = .ok (.iconst 0, 1) := by decide +kernel
theorem dX8_add_42 : decode cX8_add 42 = .ok (.aload_n 0, 1) := by decide +kernel
theorem dX8_add_43 : decode cX8_add 43 = .ok (.getfield 28, 3) := by decide +kernel
theorem dX8_add_46 : decode cX8_add 46 = .ok (.iconst 1, 1) := by decide +kernel
theorem dX8_add_47 : decode cX8_add 47 = .ok (.iload_n 2, 1) := by decide +kernel
theorem dX8_add_48 : decode cX8_add 48 = .ok (.aload_n 0, 1) := by decide +kernel
theorem dX8_add_49 : decode cX8_add 49 = .ok (.getfield 15, 3) := by decide +kernel
theorem dX8_add_52 : decode cX8_add 52 = .ok (.imul, 1) := by decide +kernel
theorem dX8_add_53 : decode cX8_add 53 = .ok (.iadd, 1) := by decide +kernel
theorem dX8_add_54 : decode cX8_add 54 = .ok (.aload_n 0, 1) := by decide +kernel
theorem dX8_add_55 : decode cX8_add 55 = .ok (.getfield 15, 3) := by decide +kernel
theorem dX8_add_58 : decode cX8_add 58 = .ok (.invokestatic 43, 3) := by decide +kernel
theorem dX8_add_61 : decode cX8_add 61 = .ok (.aload_n 0, 1) := by decide +kernel
theorem dX8_add_62 : decode cX8_add 62 = .ok (.getfield 28, 3) := by decide +kernel
theorem dX8_add_65 : decode cX8_add 65 = .ok (.iconst 0, 1) := by decide +kernel
theorem dX8_add_66 : decode cX8_add 66 = .ok (.iload_n 2, 1) := by decide +kernel
theorem dX8_add_67 : decode cX8_add 67 = .ok (.iconst 1, 1) := by decide +kernel
theorem dX8_add_68 : decode cX8_add 68 = .ok (.iadd, 1) := by decide +kernel
theorem dX8_add_69 : decode cX8_add 69 = .ok (.iastore, 1) := by decide +kernel
theorem dX8_add_70 : decode cX8_add 70 = .ok (.iload_n 2, 1) := by decide +kernel
theorem dX8_add_71 : decode cX8_add 71 = .ok (.ireturn, 1) := by decide +kernel
theorem dX8_set_0 : decode cX8_set 0 = .ok (.aload_n 0, 1) := by decide +kernel
theorem dX8_set_1 : decode cX8_set 1 = .ok (.iload_n 1, 1) := by decide +kernel
theorem dX8_set_2 : decode cX8_set 2 = .ok (.iload_n 2, 1) := by decide +kernel
theorem dX8_set_3 : decode cX8_set 3 = .ok (.invokevirtual 49, 3) := by decide +kernel
theorem dX8_set_6 : decode cX8_set 6 = .ok (.istore 4, 2) := by decide +kernel
theorem dX8_set_8 : decode cX8_set 8 = .ok (.aload_n 0, 1) := by decide +kernel
theorem dX8_set_9 : decode cX8_set 9 = .ok (.iload_n 1, 1) := by decide +kernel
theorem dX8_set_10 : decode cX8_set 10 = .ok (.iload_n 2, 1) := by decide +kernel
theorem dX8_set_11 : decode cX8_set 11 = .ok (.invokevirtual 32, 3) := by decide +kernel
theorem dX8_set_14 : decode cX8_set 14 = .ok (.ifCond .eq 41, 3) := by decide +kernel
theorem dX8_set_17 : decode cX8_set 17 = .ok (.aload_n 0, 1) := by decide +kernel
theorem dX8_set_18 : decode cX8_set 18 = .ok (.getfield 9, 3) := by decide +kernel
theorem dX8_set_21 : decode cX8_set 21 = .ok (.aload_n 0, 1) := by decide +kernel
theorem dX8_set_22 : decode cX8_set 22 = .ok (.getfield 28, 3) := by decide +kernel
theorem dX8_set_25 : decode cX8_set 25 = .ok (.iconst 1, 1) := by decide +kernel
theorem dX8_set_26 : decode cX8_set 26 = .ok (.iload_n 1, 1) := by decide +kernel
theorem dX8_set_27 : decode cX8_set 27 = .ok (.aload_n 0, 1) := by decide +kernel
theorem dX8_set_28 : decode cX8_set 28 = .ok (.getfield 15, 3) := by decide +kernel
theorem dX8_set_31 : decode cX8_set 31 = .ok (.imul, 1) := by decide +kernel
theorem dX8_set_32 : decode cX8_set 32 = .ok (.iadd, 1) := by decide +kernel
theorem dX8_set_33 : decode cX8_set 33 = .ok (.iload_n 2, 1) := by decide +kernel
theorem dX8_set_34 : decode cX8_set 34 = .ok (.iadd, 1) := by decide +kernel
theorem dX8_set_35 : decode cX8_set 35 = .ok (.iconst 1, 1) := by decide +kernel
theorem dX8_set_36 : decode cX8_set 36 = .ok (.invokevirtual 37, 3) := by decide +kernel
theorem dX8_set_39 : decode cX8_set 39 = .ok (.aload_n 0, 1) := by decide +kernel
theorem dX8_set_40 : decode cX8_set 40 = .ok (.getfield 28, 3) := by decide +kernel
theorem dX8_set_43 : decode cX8_set 43 = .ok (.iconst 1, 1) := by decide +kernel
theorem dX8_set_44 : decode cX8_set 44 = .ok (.iload_n 1, 1) := by decide +kernel
theorem dX8_set_45 : decode cX8_set 45 = .ok (.aload_n 0, 1) := by decide +kernel
theorem dX8_set_46 : decode cX8_set 46 = .ok (.getfield 15, 3) := by decide +kernel
theorem dX8_set_49 : decode cX8_set 49 = .ok (.imul, 1) := by decide +kernel
theorem dX8_set_50 : decode cX8_set 50 = .ok (.iadd, 1) := by decide +kernel
theorem dX8_set_51 : decode cX8_set 51 = .ok (.iload_n 2, 1) := by decide +kernel
theorem dX8_set_52 : decode cX8_set 52 = .ok (.iadd, 1) := by decide +kernel
theorem dX8_set_53 : decode cX8_set 53 = .ok (.iload_n 3, 1) := by decide +kernel
theorem dX8_set_54 : decode cX8_set 54 = .ok (.iastore, 1) := by decide +kernel
theorem dX8_set_55 : decode cX8_set 55 = .ok (.iload 4, 2) := by decide +kernel
theorem dX8_set_57 : decode cX8_set 57 = .ok (.ireturn, 1) := by decide +kernel
theorem dX8_setPair_0 : decode cX8_setPair 0 = .ok (.aload_n 0, 1) := by decide +kernel
theorem dX8_setPair_1 : decode cX8_setPair 1 = .ok (.iload_n 1, 1) := by decide +kernel
theorem dX8_setPair_2 : decode cX8_setPair 2 = .ok (.iload_n 2, 1) := by decide +kernel
theorem dX8_setPair_3 : decode cX8_setPair 3 = .ok (.invokevirtual 32, 3) := by decide +kernel
theorem dX8_setPair_6 : decode cX8_setPair 6 = .ok (.ifCond .eq 59, 3) := by decide +kernel
theorem dX8_setPair_9 : decode cX8_setPair 9 = .ok (.aload_n 0, 1) := by decide +kernel
theorem dX8_setPair_10 : decode cX8_setPair 10 = .ok (.iload_n 1, 1) := by decide +kernel
theorem dX8_setPair_11 : decode cX8_setPair 11 = .ok (.iload_n 2, 1) := by decide +kernel
theorem dX8_setPair_12 : decode cX8_setPair 12 = .ok (.iconst 1, 1) := by decide +kernel
theorem dX8_setPair_13 : decode cX8_setPair 13 = .ok (.iadd, 1) := by decide +kernel
theorem dX8_setPair_14 : decode cX8_setPair 14 = .ok (.invokevirtual 32, 3) := by decide +kernel
theorem dX8_setPair_17 : decode cX8_setPair 17 = .ok (.ifCond .eq 48, 3) := by decide +kernel
theorem dX8_setPair_20 : decode cX8_setPair 20 = .ok (.iconst 1, 1) := by decide +kernel
theorem dX8_setPair_21 : decode cX8_setPair 21 = .ok (.iload_n 1, 1) := by decide +kernel
theorem dX8_setPair_22 : decode cX8_setPair 22 = .ok (.aload_n 0, 1) := by decide +kernel
theorem dX8_setPair_23 : decode cX8_setPair 23 = .ok (.getfield 15, 3) := by decide +kernel
theorem dX8_setPair_26 : decode cX8_setPair 26 = .ok (.imul, 1) := by decide +kernel
theorem dX8_setPair_27 : decode cX8_setPair 27 = .ok (.iadd, 1) := by decide +kernel
theorem dX8_setPair_28 : decode cX8_setPair 28 = .ok (.iload_n 2, 1) := by decide +kernel
theorem dX8_setPair_29 : decode cX8_setPair 29 = .ok (.iadd, 1) := by decide +kernel
theorem dX8_setPair_30 : decode cX8_setPair 30 = .ok (.istore 5, 2) := by decide +kernel
theorem dX8_setPair_32 : decode cX8_setPair 32 = .ok (.aload_n 0, 1) := by decide +kernel
theorem dX8_setPair_33 : decode cX8_setPair 33 = .ok (.getfield 9, 3) := by decide +kernel
theorem dX8_setPair_36 : decode cX8_setPair 36 = .ok (.aload_n 0, 1) := by decide +kernel
theorem dX8_setPair_37 : decode cX8_setPair 37 = .ok (.getfield 28, 3) := by decide +kernel
theorem dX8_setPair_40 : decode cX8_setPair 40 = .ok (.iload 5, 2) := by decide +kernel
theorem dX8_setPair_42 : decode cX8_setPair 42 = .ok (.iconst 2, 1) := by decide +kernel
theorem dX8_setPair_43 : decode cX8_setPair 43 = .ok (.invokevirtual 37, 3) := by decide +kernel
theorem dX8_setPair_46 : decode cX8_setPair 46 = .ok (.aload_n 0, 1) := by decide +kernel
theorem dX8_setPair_47 : decode cX8_setPair 47 = .ok (.getfield 28, 3) := by decide +kernel
theorem dX8_setPair_50 : decode cX8_setPair 50 = .ok (.iload 5, 2) := by decide +kernel
theorem dX8_setPair_52 : decode cX8_setPair 52 = .ok (.iload_n 3, 1) := by decide +kernel
theorem dX8_setPair_53 : decode cX8_setPair 53 = .ok (.iastore, 1) := by decide +kernel
theorem dX8_setPair_54 : decode cX8_setPair 54 = .ok (.aload_n 0, 1) := by decide +kernel
theorem dX8_setPair_55 : decode cX8_setPair 55 = .ok (.getfield 28, 3) := by decide +kernel
theorem dX8_setPair_58 : decode cX8_setPair 58 = .ok (.iload 5, 2) := by decide +kernel
theorem dX8_setPair_60 : decode cX8_setPair 60 = .ok (.iconst 1, 1) := by decide +kernel
theorem dX8_setPair_61 : decode cX8_setPair 61 = .ok (.iadd, 1) := by decide +kernel
theorem dX8_setPair_62 : decode cX8_setPair 62 = .ok (.iload 4, 2) := by decide +kernel
theorem dX8_setPair_64 : decode cX8_setPair 64 = .ok (.iastore, 1) := by decide +kernel
theorem dX8_setPair_65 : decode cX8_setPair 65 = .ok (.return_, 1) := by decide +kernel
theorem dX8_isCell_0 : decode cX8_isCell 0 = .ok (.iload_n 1, 1) := by decide +kernel
theorem dX8_isCell_1 : decode cX8_isCell 1 = .ok (.ifCond .lt 29, 3) := by decide +kernel
theorem dX8_isCell_4 : decode cX8_isCell 4 = .ok (.iload_n 1, 1) := by decide +kernel
theorem dX8_isCell_5 : decode cX8_isCell 5 = .ok (.aload_n 0, 1) := by decide +kernel
theorem dX8_isCell_6 : decode cX8_isCell 6 = .ok (.getfield 28, 3) := by decide +kernel
theorem dX8_isCell_9 : decode cX8_isCell 9 = .ok (.iconst 0, 1) := by decide +kernel
theorem dX8_isCell_10 : decode cX8_isCell 10 = .ok (.iaload, 1) := by decide +kernel
theorem dX8_isCell_11 : decode cX8_isCell 11 = .ok (.if_icmp .ge 19, 3) := by decide +kernel
theorem dX8_isCell_14 : decode cX8_isCell 14 = .ok (.iload_n 2, 1) := by decide +kernel
theorem dX8_isCell_15 : decode cX8_isCell 15 = .ok (.ifCond .lt 15, 3) := by decide +kernel
theorem dX8_isCell_18 : decode cX8_isCell 18 = .ok (.iload_n 2, 1) := by decide +kernel
theorem dX8_isCell_19 : decode cX8_isCell 19 = .ok (.aload_n 0, 1) := by decide +kernel
theorem dX8_isCell_20 : decode cX8_isCell 20 = .ok (.getfield 15, 3) := by decide +kernel
theorem dX8_isCell_23 : decode cX8_isCell 23 = .ok (.if_icmp .ge 7, 3) := by decide +kernel
theorem dX8_isCell_26 : decode cX8_isCell 26 = .ok (.iconst 1, 1) := by decide +kernel
theorem dX8_isCell_27 : decode cX8_isCell 27 = .ok (.goto 4, 3) := by decide +kernel
theorem dX8_isCell_30 : decode cX8_isCell 30 = .ok (.iconst 0, 1) := by decide +kernel
theorem dX8_isCell_31 : decode cX8_isCell 31 = .ok (.ireturn, 1) := by decide +kernel
theorem dX9_init_0 : decode cX9_init 0 = .ok (.aload_n 0, 1) := by decide +kernel
theorem dX9_init_1 : decode cX9_init 1 = .ok (.invokespecial 3, 3) := by decide +kernel
theorem dX9_init_4 : decode cX9_init 4 = .ok (.aload_n 0, 1) := by decide +kernel
theorem dX9_init_5 : decode cX9_init 5 = .ok (.bipush 15, 2) := by decide +kernel
theorem dX9_init_7 : decode cX9_init 7 = .ok (.newarray .int, 2) := by decide +kernel
theorem dX9_init_9 : decode cX9_init 9 = .ok (.putfield 11, 3) := by decide +kernel
theorem dX9_init_12 : decode cX9_init 12 = .ok (.aload_n 0, 1) := by decide +kernel
theorem dX9_init_13 : decode cX9_init 13 = .ok (.bipush 7, 2) := by decide +kernel
theorem dX9_init_15 : decode cX9_init 15 = .ok (.newarray .int, 2) := by decide +kernel
theorem dX9_init_17 : decode cX9_init 17 = .ok (.putfield 15, 3) := by decide +kernel
theorem dX9_init_20 : decode cX9_init 20 = .ok (.aload_n 0, 1) := by decide +kernel
theorem dX9_init_21 : decode cX9_init 21 = .ok (.iconst 5, 1) := by decide +kernel
theorem dX9_init_22 : decode cX9_init 22 = .ok (.newarray .int, 2) := by decide +kernel
theorem dX9_init_24 : decode cX9_init 24 = .ok (.putfield 18, 3) := by decide +kernel
theorem dX9_init_27 : decode cX9_init 27 = .ok (.aload_n 0, 1) := by decide +kernel
theorem dX9_init_28 : decode cX9_init 28 = .ok (.aload_n 1, 1) := by decide +kernel
theorem dX9_init_29 : decode cX9_init 29 = .ok (.putfield 21, 3) := by decide +kernel
theorem dX9_init_32 : decode cX9_init 32 = .ok (.return_, 1) := by decide +kernel
theorem dX9_read_0 : decode cX9_read 0 = .ok (.aload_n 1, 1) := by decide +kernel
theorem dX9_read_1 : decode cX9_read 1 = .ok (.invokevirtual 25, 3) := by decide +kernel
theorem dX9_read_4 : decode cX9_read 4 = .ok (.istore_n 2, 1) := by decide +kernel
theorem dX9_read_5 : decode cX9_read 5 = .ok (.iload_n 2, 1) := by decide +kernel
theorem dX9_read_6 : decode cX9_read 6 = .ok (.bipush 14, 2) := by decide +kernel
theorem dX9_read_8 : decode cX9_read 8 = .ok (.if_icmp .le 6, 3) := by decide +kernel
theorem dX9_read_11 : decode cX9_read 11 = .ok (.ldc 31, 2) := by decide +kernel
theorem dX9_read_13 : decode cX9_read 13 = .ok (.ireturn, 1) := by decide +kernel
theorem dX9_read_14 : decode cX9_read 14 = .ok (.iconst 0, 1) := by decide +kernel
theorem dX9_read_15 : decode cX9_read 15 = .ok (.istore_n 3, 1) := by decide +kernel
theorem dX9_read_16 : decode cX9_read 16 = .ok (.iload_n 3, 1) := by decide +kernel
theorem dX9_read_17 : decode cX9_read 17 = .ok (.iload_n 2, 1) := by decide +kernel
theorem dX9_read_18 : decode cX9_read 18 = .ok (.if_icmp .ge 23, 3) := by decide +kernel
theorem dX9_read_21 : decode cX9_read 21 = .ok (.aload_n 1, 1) := by decide +kernel
theorem dX9_read_22 : decode cX9_read 22 = .ok (.iload_n 3, 1) := by decide +kernel
theorem dX9_read_23 : decode cX9_read 23 = .ok (.invokevirtual 32, 3) := by decide +kernel
theorem dX9_read_26 : decode cX9_read 26 = .ok (.invokestatic 36, 3) := by decide +kernel
theorem dX9_read_29 : decode cX9_read 29 = .ok (.ifCond .ne 6, 3) := by decide +kernel
theorem dX9_read_32 : decode cX9_read 32 = .ok (.ldc 40, 2) := by decide +kernel
theorem dX9_read_34 : decode cX9_read 34 = .ok (.ireturn, 1) := by decide +kernel
theorem dX9_read_35 : decode cX9_read 35 = .ok (.iinc 3 1, 3) := by decide +kernel
theorem dX9_read_38 : decode cX9_read 38 = .ok (.goto (-22), 3) := by decide +kernel
theorem dX9_read_41 : decode cX9_read 41 = .ok (.aload_n 0, 1) := by decide +kernel
theorem dX9_read_42 : decode cX9_read 42 = .ok (.getfield 21, 3) := by decide +kernel
theorem dX9_read_45 : decode cX9_read 45 = .ok (.aload_n 0, 1) := by decide +kernel
theorem dX9_read_46 : decode cX9_read 46 = .ok (.getfield 11, 3) := by decide +kernel
theorem dX9_read_49 : decode cX9_read 49 = .ok (.iconst 0, 1) := by decide +kernel
theorem dX9_read_50 : decode cX9_read 50 = .ok (.aload_n 0, 1) := by decide +kernel
theorem dX9_read_51 : decode cX9_read 51 = .ok (.getfield 11, 3) := by decide +kernel
theorem dX9_read_54 : decode cX9_read 54 = .ok (.arraylength, 1) := by decide +kernel
theorem dX9_read_55 : decode cX9_read 55 = .ok (.invokevirtual 41, 3) := by decide +kernel
theorem dX9_read_58 : decode cX9_read 58 = .ok (.aload_n 0, 1) := by decide +kernel
theorem dX9_read_59 : decode cX9_read 59 = .ok (.getfield 11, 3) := by decide +kernel
theorem dX9_read_62 : decode cX9_read 62 = .ok (.iconst 0, 1) := by decide +kernel
theorem dX9_read_63 : decode cX9_read 63 = .ok (.iload_n 2, 1) := by decide +kernel
theorem dX9_read_64 : decode cX9_read 64 = .ok (.iastore, 1) := by decide +kernel
theorem dX9_read_65 : decode cX9_read 65 = .ok (.iconst 0, 1) := by decide +kernel
theorem dX9_read_66 : decode cX9_read 66 = .ok (.istore_n 3, 1) := by decide +kernel
theorem dX9_read_67 : decode cX9_read 67 = .ok (.iload_n 3, 1) := by decide +kernel
theorem dX9_read_68 : decode cX9_read 68 = .ok (.iload_n 2, 1) := by decide +kernel
theorem dX9_read_69 : decode cX9_read 69 = .ok (.if_icmp .ge 22, 3) := by decide +kernel
theorem dX9_read_72 : decode cX9_read 72 = .ok (.aload_n 0, 1) := by decide +kernel
theorem dX9_read_73 : decode cX9_read 73 = .ok (.getfield 11, 3) := by decide +kernel
theorem dX9_read_76 : decode cX9_read 76 = .ok (.iload_n 3, 1) := by decide +kernel
theorem dX9_read_77 : decode cX9_read 77 = .ok (.iconst 1, 1) := by decide +kernel
theorem dX9_read_78 : decode cX9_read 78 = .ok (.iadd, 1) := by decide +kernel
theorem dX9_read_79 : decode cX9_read 79 = .ok (.aload_n 1, 1) := by decide +kernel
theorem dX9_read_80 : decode cX9_read 80 = .ok (.iload_n 3, 1) := by decide +kernel
theorem dX9_read_81 : decode cX9_read 81 = .ok (.invokevirtual 32, 3) := by decide +kernel
theorem dX9_read_84 : decode cX9_read 84 = .ok (.iastore, 1) := by decide +kernel
theorem dX9_read_85 : decode cX9_read 85 = .ok (.iinc 3 1, 3) := by decide +kernel
theorem dX9_read_88 : decode cX9_read 88 = .ok (.goto (-21), 3) := by decide +kernel
theorem dX9_read_91 : decode cX9_read 91 = .ok (.iload_n 2, 1) := by decide +kernel
theorem dX9_read_92 : decode cX9_read 92 = .ok (.ireturn, 1) := by decide +kernel
theorem dX9_isSign_0 : decode cX9_isSign 0 = .ok (.iload_n 0, 1) := by decide +kernel
theorem dX9_isSign_1 : decode cX9_isSign 1 = .ok (.iconst 1, 1) := by decide +kernel
theorem dX9_isSign_2 : decode cX9_isSign 2 = .ok (.bipush 6, 2) := by decide +kernel
theorem dX9_isSign_4 : decode cX9_isSign 4 = .ok (.invokestatic 47, 3) := by decide +kernel
theorem dX9_isSign_7 : decode cX9_isSign 7 = .ok (.ifCond .ne 14, 3) := by decide +kernel
theorem dX9_isSign_10 : decode cX9_isSign 10 = .ok (.iload_n 0, 1) := by decide +kernel
theorem dX9_isSign_11 : decode cX9_isSign 11 = .ok (.bipush 10, 2) := by decide +kernel
theorem dX9_isSign_13 : decode cX9_isSign 13 = .ok (.bipush 56, 2) := by decide +kernel
theorem dX9_isSign_15 : decode cX9_isSign 15 = .ok (.invokestatic 47, 3) := by decide +kernel
theorem dX9_isSign_18 : decode cX9_isSign 18 = .ok (.ifCond .eq 7, 3) := by decide +kernel
theorem dX9_isSign_21 : decode cX9_isSign 21 = .ok (.iconst 1, 1) := by decide +kernel
theorem dX9_isSign_22 : decode cX9_isSign 22 = .ok (.goto 4, 3) := by decide +kernel
theorem dX9_isSign_25 : decode cX9_isSign 25 = .ok (.iconst 0, 1) := by decide +kernel
theorem dX9_isSign_26 : decode cX9_isSign 26 = .ok (.ireturn, 1) := by decide +kernel
theorem dX9_count_0 : decode cX9_count 0 = .ok (.aload_n 0, 1) := by decide +kernel
theorem dX9_count_1 : decode cX9_count 1 = .ok (.getfield 11, 3) := by decide +kernel
theorem dX9_count_4 : decode cX9_count 4 = .ok (.iconst 0, 1) := by decide +kernel
theorem dX9_count_5 : decode cX9_count 5 = .ok (.iaload, 1) := by decide +kernel
theorem dX9_count_6 : decode cX9_count 6 = .ok (.iconst 0, 1) := by decide +kernel
theorem dX9_count_7 : decode cX9_count 7 = .ok (.invokestatic 51, 3) := by decide +kernel
theorem dX9_count_10 : decode cX9_count 10 = .ok (.bipush 14, 2) := by decide +kernel
theorem dX9_count_12 : decode cX9_count 12 = .ok (.invokestatic 57, 3) := by decide +kernel
theorem dX9_count_15 : decode cX9_count 15 = .ok (.ireturn, 1) := by decide +kernel
theorem dX9_firstFault_0 : decode cX9_firstFault 0 = .ok (.aload_n 0, 1) := by decide +kernel
theorem dX9_firstFault_1 : decode cX9_firstFault 1 = .ok (.invokevirtual 60, 3) := by decide +kernel
theorem dX9_firstFault_4 : decode cX9_firstFault 4 = .ok (.istore_n 1, 1) := by decide +kernel
theorem dX9_firstFault_5 : decode cX9_firstFault 5 = .ok (.iconst 0, 1) := by decide +kernel
theorem dX9_firstFault_6 : decode cX9_firstFault 6 = .ok (.istore_n 2, 1) := by decide +kernel
theorem dX9_firstFault_7 : decode cX9_firstFault 7 = .ok (.iconst 0, 1) := by decide +kernel
theorem dX9_firstFault_8 : decode cX9_firstFault 8 = .ok (.istore_n 3, 1) := by decide +kernel
theorem dX9_firstFault_9 : decode cX9_firstFault 9 = .ok (.iload_n 3, 1) := by decide +kernel
theorem dX9_firstFault_10 : decode cX9_firstFault 10 = .ok (.iload_n 1, 1) := by decide +kernel
theorem dX9_firstFault_11 : decode cX9_firstFault 11 = .ok (.if_icmp .ge 62, 3) := by decide +kernel
theorem dX9_firstFault_14 : decode cX9_firstFault 14 = .ok (.aload_n 0, 1) := by decide +kernel
theorem dX9_firstFault_15 : decode cX9_firstFault 15 = .ok (.getfield 11, 3) := by decide +kernel
theorem dX9_firstFault_18 : decode cX9_firstFault 18 = .ok (.iload_n 3, 1) := by decide +kernel
theorem dX9_firstFault_19 : decode cX9_firstFault 19 = .ok (.iconst 1, 1) := by decide +kernel
theorem dX9_firstFault_20 : decode cX9_firstFault 20 = .ok (.iadd, 1) := by decide +kernel
theorem dX9_firstFault_21 : decode cX9_firstFault 21 = .ok (.iaload, 1) := by decide +kernel
theorem dX9_firstFault_22 : decode cX9_firstFault 22 = .ok (.bipush 50, 2) := by decide +kernel
theorem dX9_firstFault_24 : decode cX9_firstFault 24 = .ok (.if_icmp .lt 7, 3) := by decide +kernel
theorem dX9_firstFault_27 : decode cX9_firstFault 27 = .ok (.iconst 1, 1) := by decide +kernel
theorem dX9_firstFault_28 : decode cX9_firstFault 28 = .ok (.goto 4, 3) := by decide +kernel
theorem dX9_firstFault_31 : decode cX9_firstFault 31 = .ok (.iconst 0, 1) := by decide +kernel
theorem dX9_firstFault_32 : decode cX9_firstFault 32 = .ok (.istore 4, 2) := by decide +kernel
theorem dX9_firstFault_34 : decode cX9_firstFault 34 = .ok (.iload 4, 2) := by decide +kernel
theorem dX9_firstFault_36 : decode cX9_firstFault 36 = .ok (.ifCond .eq 11, 3) := by decide +kernel
theorem dX9_firstFault_39 : decode cX9_firstFault 39 = .ok (.iload_n 2, 1) := by decide +kernel
theorem dX9_firstFault_40 : decode cX9_firstFault 40 = .ok (.iconst 2, 1) := by decide +kernel
theorem dX9_firstFault_41 : decode cX9_firstFault 41 = .ok (.if_icmp .ge 13, 3) := by decide +kernel
theorem dX9_firstFault_44 : decode cX9_firstFault 44 = .ok (.goto 8, 3) := by decide +kernel
theorem dX9_firstFault_47 : decode cX9_firstFault 47 = .ok (.iload_n 2, 1) := by decide +kernel
theorem dX9_firstFault_48 : decode cX9_firstFault 48 = .ok (.iconst 5, 1) := by decide +kernel
theorem dX9_firstFault_49 : decode cX9_firstFault 49 = .ok (.if_icmp .lt 5, 3) := by decide +kernel
theorem dX9_firstFault_52 : decode cX9_firstFault 52 = .ok (.iload_n 3, 1) := by decide +kernel
theorem dX9_firstFault_53 : decode cX9_firstFault 53 = .ok (.ireturn, 1) := by decide +kernel
theorem dX9_firstFault_54 : decode cX9_firstFault 54 = .ok (.iload_n 2, 1) := by decide +kernel
theorem dX9_firstFault_55 : decode cX9_firstFault 55 = .ok (.iload 4, 2) := by decide +kernel
theorem dX9_firstFault_57 : decode cX9_firstFault 57 = .ok (.ifCond .eq 7, 3) := by decide +kernel
theorem dX9_firstFault_60 : decode cX9_firstFault 60 = .ok (.iconst (-1), 1) := by decide +kernel
theorem dX9_firstFault_61 : decode cX9_firstFault 61 = .ok (.goto 4, 3) := by decide +kernel
theorem dX9_firstFault_64 : decode cX9_firstFault 64 = .ok (.iconst 1, 1) := by decide +kernel
theorem dX9_firstFault_65 : decode cX9_firstFault 65 = .ok (.iadd, 1) := by decide +kernel
theorem dX9_firstFault_66 : decode cX9_firstFault 66 = .ok (.istore_n 2, 1) := by decide +kernel
theorem dX9_firstFault_67 : decode cX9_firstFault 67 = .ok (.iinc 3 1, 3) := by decide +kernel
theorem dX9_firstFault_70 : decode cX9_firstFault 70 = .ok (.goto (-61), 3) := by decide +kernel
theorem dX9_firstFault_73 : decode cX9_firstFault 73 = .ok (.iload_n 1, 1) := by decide +kernel
theorem dX9_firstFault_74 : decode cX9_firstFault 74 = .ok (.ifCond .eq 8, 3) := by decide +kernel
theorem dX9_firstFault_77 : decode cX9_firstFault 77 = .ok (.iload_n 2, 1) := by decide +kernel
theorem dX9_firstFault_78 : decode cX9_firstFault 78 = .ok (.iconst 1, 1) := by decide +kernel
theorem dX9_firstFault_79 : decode cX9_firstFault 79 = .ok (.if_icmp .ne 7, 3) := by decide +kernel
theorem dX9_firstFault_82 : decode cX9_firstFault 82 = .ok (.iconst (-1), 1) := by decide +kernel
theorem dX9_firstFault_83 : decode cX9_firstFault 83 = .ok (.goto 4, 3) := by decide +kernel
theorem dX9_firstFault_86 : decode cX9_firstFault 86 = .ok (.iload_n 1, 1) := by decide +kernel
theorem dX9_firstFault_87 : decode cX9_firstFault 87 = .ok (.ireturn, 1) := by decide +kernel
theorem dX9_know_0 : decode cX9_know 0 = .ok (.iload_n 1, 1) := by decide +kernel
theorem dX9_know_1 : decode cX9_know 1 = .ok (.iconst 1, 1) := by decide +kernel
theorem dX9_know_2 : decode cX9_know 2 = .ok (.bipush 6, 2) := by decide +kernel
theorem dX9_know_4 : decode cX9_know 4 = .ok (.invokestatic 47, 3) := by decide +kernel
theorem dX9_know_7 : decode cX9_know 7 = .ok (.ifCond .eq 10, 3) := by decide +kernel
theorem dX9_know_10 : decode cX9_know 10 = .ok (.aload_n 0, 1) := by decide +kernel
theorem dX9_know_11 : decode cX9_know 11 = .ok (.getfield 15, 3) := by decide +kernel
theorem dX9_know_14 : decode cX9_know 14 = .ok (.iload_n 1, 1) := by decide +kernel
theorem dX9_know_15 : decode cX9_know 15 = .ok (.iload_n 2, 1) := by decide +kernel
theorem dX9_know_16 : decode cX9_know 16 = .ok (.iastore, 1) := by decide +kernel
theorem dX9_know_17 : decode cX9_know 17 = .ok (.return_, 1) := by decide +kernel
theorem dX9_workOut_0 : decode cX9_workOut 0 = .ok (.aload_n 0, 1) := by decide +kernel
theorem dX9_workOut_1 : decode cX9_workOut 1 = .ok (.invokevirtual 60, 3) := by decide +kernel
theorem dX9_workOut_4 : decode cX9_workOut 4 = .ok (.istore_n 1, 1) := by decide +kernel
theorem dX9_workOut_5 : decode cX9_workOut 5 = .ok (.iconst 0, 1) := by decide +kernel
theorem dX9_workOut_6 : decode cX9_workOut 6 = .ok (.istore_n 2, 1) := by decide +kernel
theorem dX9_workOut_7 : decode cX9_workOut 7 = .ok (.iconst 0, 1) := by decide +kernel
theorem dX9_workOut_8 : decode cX9_workOut 8 = .ok (.istore_n 3, 1) := by decide +kernel
theorem dX9_workOut_9 : decode cX9_workOut 9 = .ok (.iload_n 3, 1) := by decide +kernel
theorem dX9_workOut_10 : decode cX9_workOut 10 = .ok (.iload_n 1, 1) := by decide +kernel
theorem dX9_workOut_11 : decode cX9_workOut 11 = .ok (.if_icmp .ge 91, 3) := by decide +kernel
theorem dX9_workOut_14 : decode cX9_workOut 14 = .ok (.aload_n 0, 1) := by decide +kernel
theorem dX9_workOut_15 : decode cX9_workOut 15 = .ok (.getfield 11, 3) := by decide +kernel
theorem dX9_workOut_18 : decode cX9_workOut 18 = .ok (.iload_n 3, 1) := by decide +kernel
theorem dX9_workOut_19 : decode cX9_workOut 19 = .ok (.iconst 1, 1) := by decide +kernel
theorem dX9_workOut_20 : decode cX9_workOut 20 = .ok (.iadd, 1) := by decide +kernel
theorem dX9_workOut_21 : decode cX9_workOut 21 = .ok (.iaload, 1) := by decide +kernel
theorem dX9_workOut_22 : decode cX9_workOut 22 = .ok (.istore 4, 2) := by decide +kernel
theorem dX9_workOut_24 : decode cX9_workOut 24 = .ok (.iload 4, 2) := by decide +kernel
theorem dX9_workOut_26 : decode cX9_workOut 26 = .ok (.bipush 50, 2) := by decide +kernel
theorem dX9_workOut_28 : decode cX9_workOut 28 = .ok (.if_icmp .ge 26, 3) := by decide +kernel
theorem dX9_workOut_31 : decode cX9_workOut 31 = .ok (.iload_n 2, 1) := by decide +kernel
theorem dX9_workOut_32 : decode cX9_workOut 32 = .ok (.iconst 5, 1) := by decide +kernel
theorem dX9_workOut_33 : decode cX9_workOut 33 = .ok (.if_icmp .ge 21, 3) := by decide +kernel
theorem dX9_workOut_36 : decode cX9_workOut 36 = .ok (.aload_n 0, 1) := by decide +kernel
theorem dX9_workOut_37 : decode cX9_workOut 37 = .ok (.getfield 18, 3) := by decide +kernel
theorem dX9_workOut_40 : decode cX9_workOut 40 = .ok (.iload_n 2, 1) := by decide +kernel
theorem dX9_workOut_41 : decode cX9_workOut 41 = .ok (.aload_n 0, 1) := by decide +kernel
theorem dX9_workOut_42 : decode cX9_workOut 42 = .ok (.iload 4, 2) := by decide +kernel
theorem dX9_workOut_44 : decode cX9_workOut 44 = .ok (.invokevirtual 61, 3) := by decide +kernel
theorem dX9_workOut_47 : decode cX9_workOut 47 = .ok (.iastore, 1) := by decide +kernel
theorem dX9_workOut_48 : decode cX9_workOut 48 = .ok (.iinc 2 1, 3) := by decide +kernel
theorem dX9_workOut_51 : decode cX9_workOut 51 = .ok (.goto 45, 3) := by decide +kernel
theorem dX9_workOut_54 : decode cX9_workOut 54 = .ok (.iload 4, 2) := by decide +kernel
theorem dX9_workOut_56 : decode cX9_workOut 56 = .ok (.bipush 50, 2) := by decide +kernel
theorem dX9_workOut_58 : decode cX9_workOut 58 = .ok (.if_icmp .lt 38, 3) := by decide +kernel
theorem dX9_workOut_61 : decode cX9_workOut 61 = .ok (.iload_n 2, 1) := by decide +kernel
theorem dX9_workOut_62 : decode cX9_workOut 62 = .ok (.iconst 2, 1) := by decide +kernel
theorem dX9_workOut_63 : decode cX9_workOut 63 = .ok (.if_icmp .lt 33, 3) := by decide +kernel
theorem dX9_workOut_66 : decode cX9_workOut 66 = .ok (.iinc 2 (-1), 3) := by decide +kernel
theorem dX9_workOut_69 : decode cX9_workOut 69 = .ok (.aload_n 0, 1) := by decide +kernel
theorem dX9_workOut_70 : decode cX9_workOut 70 = .ok (.getfield 18, 3) := by decide +kernel
theorem dX9_workOut_73 : decode cX9_workOut 73 = .ok (.iload_n 2, 1) := by decide +kernel
theorem dX9_workOut_74 : decode cX9_workOut 74 = .ok (.iconst 1, 1) := by decide +kernel
theorem dX9_workOut_75 : decode cX9_workOut 75 = .ok (.isub, 1) := by decide +kernel
theorem dX9_workOut_76 : decode cX9_workOut 76 = .ok (.iload 4, 2) := by decide +kernel
theorem dX9_workOut_78 : decode cX9_workOut 78 = .ok (.aload_n 0, 1) := by decide +kernel
theorem dX9_workOut_79 : decode cX9_workOut 79 = .ok (.getfield 18, 3) := by decide +kernel
theorem dX9_workOut_82 : decode cX9_workOut 82 = .ok (.iload_n 2, 1) := by decide +kernel
theorem dX9_workOut_83 : decode cX9_workOut 83 = .ok (.iconst 1, 1) := by decide +kernel
theorem dX9_workOut_84 : decode cX9_workOut 84 = .ok (.isub, 1) := by decide +kernel
theorem dX9_workOut_85 : decode cX9_workOut 85 = .ok (.iaload, 1) := by decide +kernel
theorem dX9_workOut_86 : decode cX9_workOut 86 = .ok (.aload_n 0, 1) := by decide +kernel
theorem dX9_workOut_87 : decode cX9_workOut 87 = .ok (.getfield 18, 3) := by decide +kernel
theorem dX9_workOut_90 : decode cX9_workOut 90 = .ok (.iload_n 2, 1) := by decide +kernel
theorem dX9_workOut_91 : decode cX9_workOut 91 = .ok (.iaload, 1) := by decide +kernel
theorem dX9_workOut_92 : decode cX9_workOut 92 = .ok (.invokestatic 64, 3) := by decide +kernel
theorem dX9_workOut_95 : decode cX9_workOut 95 = .ok (.iastore, 1) := by decide +kernel
theorem dX9_workOut_96 : decode cX9_workOut 96 = .ok (.iinc 3 1, 3) := by decide +kernel
theorem dX9_workOut_99 : decode cX9_workOut 99 = .ok (.goto (-90), 3) := by decide +kernel
theorem dX9_workOut_102 : decode cX9_workOut 102 = .ok (.iload_n 1, 1) := by decide +kernel
theorem dX9_workOut_103 : decode cX9_workOut 103 = .ok (.ifCond .ne 7, 3) := by decide +kernel
theorem dX9_workOut_106 : decode cX9_workOut 106 = .ok (.iconst 0, 1) := by decide +kernel
theorem dX9_workOut_107 : decode cX9_workOut 107 = .ok (.goto 9, 3) := by decide +kernel
theorem dX9_workOut_110 : decode cX9_workOut 110 = .ok (.aload_n 0, 1) := by decide +kernel
theorem dX9_workOut_111 : decode cX9_workOut 111 = .ok (.getfield 18, 3) := by decide +kernel
theorem dX9_workOut_114 : decode cX9_workOut 114 = .ok (.iconst 0, 1) := by decide +kernel
theorem dX9_workOut_115 : decode cX9_workOut 115 = .ok (.iaload, 1) := by decide +kernel
theorem dX9_workOut_116 : decode cX9_workOut 116 = .ok (.ireturn, 1) := by decide +kernel
theorem dX9_single_0 : decode cX9_single 0 = .ok (.iload_n 1, 1) := by decide +kernel
theorem dX9_single_1 : decode cX9_single 1 = .ok (.iconst 1, 1) := by decide +kernel
theorem dX9_single_2 : decode cX9_single 2 = .ok (.bipush 6, 2) := by decide +kernel
theorem dX9_single_4 : decode cX9_single 4 = .ok (.invokestatic 47, 3) := by decide +kernel
theorem dX9_single_7 : decode cX9_single 7 = .ok (.ifCond .eq 12, 3) := by decide +kernel
theorem dX9_single_10 : decode cX9_single 10 = .ok (.aload_n 0, 1) := by decide +kernel
theorem dX9_single_11 : decode cX9_single 11 = .ok (.getfield 15, 3) := by decide +kernel
theorem dX9_single_14 : decode cX9_single 14 = .ok (.iload_n 1, 1) := by decide +kernel
theorem dX9_single_15 : decode cX9_single 15 = .ok (.iaload, 1) := by decide +kernel
theorem dX9_single_16 : decode cX9_single 16 = .ok (.goto 7, 3) := by decide +kernel
theorem dX9_single_19 : decode cX9_single 19 = .ok (.iload_n 1, 1) := by decide +kernel
theorem dX9_single_20 : decode cX9_single 20 = .ok (.bipush 10, 2) := by decide +kernel
theorem dX9_single_22 : decode cX9_single 22 = .ok (.isub, 1) := by decide +kernel
theorem dX9_single_23 : decode cX9_single 23 = .ok (.ireturn, 1) := by decide +kernel
theorem dX9_joined_0 : decode cX9_joined 0 = .ok (.iload_n 0, 1) := by decide +kernel
theorem dX9_joined_1 : decode cX9_joined 1 = .ok (.tableswitch 75 50 55 #[39, 43, 47, 51, 63, 69], 39) := by decide +kernel
theorem dX9_joined_40 : decode cX9_joined 40 = .ok (.iload_n 1, 1) := by decide +kernel
theorem dX9_joined_41 : decode cX9_joined 41 = .ok (.iload_n 2, 1) := by decide +kernel
theorem dX9_joined_42 : decode cX9_joined 42 = .ok (.iadd, 1) := by decide +kernel
theorem dX9_joined_43 : decode cX9_joined 43 = .ok (.ireturn, 1) := by decide +kernel
theorem dX9_joined_44 : decode cX9_joined 44 = .ok (.iload_n 1, 1) := by decide +kernel
theorem dX9_joined_45 : decode cX9_joined 45 = .ok (.iload_n 2, 1) := by decide +kernel
theorem dX9_joined_46 : decode cX9_joined 46 = .ok (.isub, 1) := by decide +kernel
theorem dX9_joined_47 : decode cX9_joined 47 = .ok (.ireturn, 1) := by decide +kernel
theorem dX9_joined_48 : decode cX9_joined 48 = .ok (.iload_n 1, 1) := by decide +kernel
theorem dX9_joined_49 : decode cX9_joined 49 = .ok (.iload_n 2, 1) := by decide +kernel
theorem dX9_joined_50 : decode cX9_joined 50 = .ok (.imul, 1) := by decide +kernel
theorem dX9_joined_51 : decode cX9_joined 51 = .ok (.ireturn, 1) := by decide +kernel
theorem dX9_joined_52 : decode cX9_joined 52 = .ok (.iload_n 2, 1) := by decide +kernel
theorem dX9_joined_53 : decode cX9_joined 53 = .ok (.ifCond .ne 7, 3) := by decide +kernel
theorem dX9_joined_56 : decode cX9_joined 56 = .ok (.iconst 0, 1) := by decide +kernel
theorem dX9_joined_57 : decode cX9_joined 57 = .ok (.goto 6, 3) := by decide +kernel
theorem dX9_joined_60 : decode cX9_joined 60 = .ok (.iload_n 1, 1) := by decide +kernel
theorem dX9_joined_61 : decode cX9_joined 61 = .ok (.iload_n 2, 1) := by decide +kernel
theorem dX9_joined_62 : decode cX9_joined 62 = .ok (.idiv, 1) := by decide +kernel
theorem dX9_joined_63 : decode cX9_joined 63 = .ok (.ireturn, 1) := by decide +kernel
theorem dX9_joined_64 : decode cX9_joined 64 = .ok (.iload_n 1, 1) := by decide +kernel
theorem dX9_joined_65 : decode cX9_joined 65 = .ok (.iload_n 2, 1) := by decide +kernel
theorem dX9_joined_66 : decode cX9_joined 66 = .ok (.invokestatic 57, 3) := by decide +kernel
theorem dX9_joined_69 : decode cX9_joined 69 = .ok (.ireturn, 1) := by decide +kernel
theorem dX9_joined_70 : decode cX9_joined 70 = .ok (.iload_n 1, 1) := by decide +kernel
theorem dX9_joined_71 : decode cX9_joined 71 = .ok (.iload_n 2, 1) := by decide +kernel
theorem dX9_joined_72 : decode cX9_joined 72 = .ok (.invokestatic 51, 3) := by decide +kernel
theorem dX9_joined_75 : decode cX9_joined 75 = .ok (.ireturn, 1) := by decide +kernel
theorem dX9_joined_76 : decode cX9_joined 76 = .ok (.iload_n 1, 1) := by decide +kernel
theorem dX9_joined_77 : decode cX9_joined 77 = .ok (.iload_n 2, 1) := by decide +kernel
theorem dX9_joined_78 : decode cX9_joined 78 = .ok (.if_icmp .ge 7, 3) := by decide +kernel
theorem dX9_joined_81 : decode cX9_joined 81 = .ok (.iconst 1, 1) := by decide +kernel
theorem dX9_joined_82 : decode cX9_joined 82 = .ok (.goto 4, 3) := by decide +kernel
theorem dX9_joined_85 : decode cX9_joined 85 = .ok (.iconst 0, 1) := by decide +kernel
theorem dX9_joined_86 : decode cX9_joined 86 = .ok (.ireturn, 1) := by decide +kernel
theorem dX10_init_0 : decode cX10_init 0 = .ok (.aload_n 0, 1) := by decide +kernel
theorem dX10_init_1 : decode cX10_init 1 = .ok (.invokespecial 3, 3) := by decide +kernel
theorem dX10_init_4 : decode cX10_init 4 = .ok (.aload_n 0, 1) := by decide +kernel
theorem dX10_init_5 : decode cX10_init 5 = .ok (.bipush 64, 2) := by decide +kernel
theorem dX10_init_7 : decode cX10_init 7 = .ok (.newarray .int, 2) := by decide +kernel
theorem dX10_init_9 : decode cX10_init 9 = .ok (.putfield 9, 3) := by decide +kernel
theorem dX10_init_12 : decode cX10_init 12 = .ok (.aload_n 0, 1) := by decide +kernel
theorem dX10_init_13 : decode cX10_init 13 = .ok (.bipush 64, 2) := by decide +kernel
theorem dX10_init_15 : decode cX10_init 15 = .ok (.newarray .int, 2) := by decide +kernel
theorem dX10_init_17 : decode cX10_init 17 = .ok (.putfield 15, 3) := by decide +kernel
theorem dX10_init_20 : decode cX10_init 20 = .ok (.aload_n 0, 1) := by decide +kernel
theorem dX10_init_21 : decode cX10_init 21 = .ok (.iconst (-1), 1) := by decide +kernel
theorem dX10_init_22 : decode cX10_init 22 = .ok (.putfield 18, 3) := by decide +kernel
theorem dX10_init_25 : decode cX10_init 25 = .ok (.aload_n 0, 1) := by decide +kernel
theorem dX10_init_26 : decode cX10_init 26 = .ok (.aload_n 1, 1) := by decide +kernel
theorem dX10_init_27 : decode cX10_init 27 = .ok (.putfield 22, 3) := by decide +kernel
theorem dX10_init_30 : decode cX10_init 30 = .ok (.return_, 1) := by decide +kernel
theorem dX10_join_0 : decode cX10_join 0 = .ok (.iload_n 1, 1) := by decide +kernel
theorem dX10_join_1 : decode cX10_join 1 = .ok (.invokestatic 26, 3) := by decide +kernel
theorem dX10_join_4 : decode cX10_join 4 = .ok (.ifCond .eq 10, 3) := by decide +kernel
theorem dX10_join_7 : decode cX10_join 7 = .ok (.iload_n 2, 1) := by decide +kernel
theorem dX10_join_8 : decode cX10_join 8 = .ok (.invokestatic 26, 3) := by decide +kernel
theorem dX10_join_11 : decode cX10_join 11 = .ok (.ifCond .ne 5, 3) := by decide +kernel
theorem dX10_join_14 : decode cX10_join 14 = .ok (.iconst 0, 1) := by decide +kernel
theorem dX10_join_15 : decode cX10_join 15 = .ok (.ireturn, 1) := by decide +kernel
theorem dX10_join_16 : decode cX10_join 16 = .ok (.iload_n 1, 1) := by decide +kernel
theorem dX10_join_17 : decode cX10_join 17 = .ok (.iload_n 2, 1) := by decide +kernel
theorem dX10_join_18 : decode cX10_join 18 = .ok (.invokestatic 30, 3) := by decide +kernel
theorem dX10_join_21 : decode cX10_join 21 = .ok (.bipush 8, 2) := by decide +kernel
theorem dX10_join_23 : decode cX10_join 23 = .ok (.imul, 1) := by decide +kernel
theorem dX10_join_24 : decode cX10_join 24 = .ok (.iload_n 1, 1) := by decide +kernel
theorem dX10_join_25 : decode cX10_join 25 = .ok (.iload_n 2, 1) := by decide +kernel
theorem dX10_join_26 : decode cX10_join 26 = .ok (.invokestatic 36, 3) := by decide +kernel
theorem dX10_join_29 : decode cX10_join 29 = .ok (.iadd, 1) := by decide +kernel
theorem dX10_join_30 : decode cX10_join 30 = .ok (.istore 4, 2) := by decide +kernel
theorem dX10_join_32 : decode cX10_join 32 = .ok (.aload_n 0, 1) := by decide +kernel
theorem dX10_join_33 : decode cX10_join 33 = .ok (.getfield 9, 3) := by decide +kernel
theorem dX10_join_36 : decode cX10_join 36 = .ok (.iload 4, 2) := by decide +kernel
theorem dX10_join_38 : decode cX10_join 38 = .ok (.iaload, 1) := by decide +kernel
theorem dX10_join_39 : decode cX10_join 39 = .ok (.istore 5, 2) := by decide +kernel
theorem dX10_join_41 : decode cX10_join 41 = .ok (.aload_n 0, 1) := by decide +kernel
theorem dX10_join_42 : decode cX10_join 42 = .ok (.getfield 22, 3) := by decide +kernel
theorem dX10_join_45 : decode cX10_join 45 = .ok (.aload_n 0, 1) := by decide +kernel
theorem dX10_join_46 : decode cX10_join 46 = .ok (.getfield 9, 3) := by decide +kernel
theorem dX10_join_49 : decode cX10_join 49 = .ok (.iload 4, 2) := by decide +kernel
theorem dX10_join_51 : decode cX10_join 51 = .ok (.iconst 1, 1) := by decide +kernel
theorem dX10_join_52 : decode cX10_join 52 = .ok (.invokevirtual 39, 3) := by decide +kernel
theorem dX10_join_55 : decode cX10_join 55 = .ok (.aload_n 0, 1) := by decide +kernel
theorem dX10_join_56 : decode cX10_join 56 = .ok (.getfield 9, 3) := by decide +kernel
theorem dX10_join_59 : decode cX10_join 59 = .ok (.iload 4, 2) := by decide +kernel
theorem dX10_join_61 : decode cX10_join 61 = .ok (.iload_n 3, 1) := by decide +kernel
theorem dX10_join_62 : decode cX10_join 62 = .ok (.iastore, 1) := by decide +kernel
theorem dX10_join_63 : decode cX10_join 63 = .ok (.iload 5, 2) := by decide +kernel
theorem dX10_join_65 : decode cX10_join 65 = .ok (.ireturn, 1) := by decide +kernel
theorem dX10_measure_0 : decode cX10_measure 0 = .ok (.aload_n 0, 1) := by decide +kernel
theorem dX10_measure_1 : decode cX10_measure 1 = .ok (.getfield 18, 3) := by decide +kernel
theorem dX10_measure_4 : decode cX10_measure 4 = .ok (.aload_n 0, 1) := by decide +kernel
theorem dX10_measure_5 : decode cX10_measure 5 = .ok (.getfield 22, 3) := by decide +kernel
theorem dX10_measure_8 : decode cX10_measure 8 = .ok (.invokevirtual 45, 3) := by decide +kernel
theorem dX10_measure_11 : decode cX10_measure 11 = .ok (.if_icmp .ne 4, 3) := by decide +kernel
theorem dX10_measure_14 : decode cX10_measure 14 = .ok (.return_, 1) := by decide +kernel
theorem dX10_measure_15 : decode cX10_measure 15 = .ok (.aload_n 0, 1) := by decide +kernel
theorem dX10_measure_16 : decode cX10_measure 16 = .ok (.aload_n 0, 1) := by decide +kernel
theorem dX10_measure_17 : decode cX10_measure 17 = .ok (.getfield 22, 3) := by decide +kernel
theorem dX10_measure_20 : decode cX10_measure 20 = .ok (.invokevirtual 45, 3) := by decide +kernel
theorem dX10_measure_23 : decode cX10_measure 23 = .ok (.putfield 18, 3) := by decide +kernel
theorem dX10_measure_26 : decode cX10_measure 26 = .ok (.iconst 0, 1) := by decide +kernel
theorem dX10_measure_27 : decode cX10_measure 27 = .ok (.istore_n 1, 1) := by decide +kernel
theorem dX10_measure_28 : decode cX10_measure 28 = .ok (.iload_n 1, 1) := by decide +kernel
theorem dX10_measure_29 : decode cX10_measure 29 = .ok (.bipush 8, 2) := by decide +kernel
theorem dX10_measure_31 : decode cX10_measure 31 = .ok (.if_icmp .ge 73, 3) := by decide +kernel
theorem dX10_measure_34 : decode cX10_measure 34 = .ok (.iconst 0, 1) := by decide +kernel
theorem dX10_measure_35 : decode cX10_measure 35 = .ok (.istore_n 2, 1) := by decide +kernel
theorem dX10_measure_36 : decode cX10_measure 36 = .ok (.iload_n 2, 1) := by decide +kernel
theorem dX10_measure_37 : decode cX10_measure 37 = .ok (.bipush 8, 2) := by decide +kernel
theorem dX10_measure_39 : decode cX10_measure 39 = .ok (.if_icmp .ge 59, 3) := by decide +kernel
theorem dX10_measure_42 : decode cX10_measure 42 = .ok (.aload_n 0, 1) := by decide +kernel
theorem dX10_measure_43 : decode cX10_measure 43 = .ok (.getfield 9, 3) := by decide +kernel
theorem dX10_measure_46 : decode cX10_measure 46 = .ok (.iload_n 1, 1) := by decide +kernel
theorem dX10_measure_47 : decode cX10_measure 47 = .ok (.iload_n 2, 1) := by decide +kernel
theorem dX10_measure_48 : decode cX10_measure 48 = .ok (.invokestatic 30, 3) := by decide +kernel
theorem dX10_measure_51 : decode cX10_measure 51 = .ok (.bipush 8, 2) := by decide +kernel
theorem dX10_measure_53 : decode cX10_measure 53 = .ok (.imul, 1) := by decide +kernel
theorem dX10_measure_54 : decode cX10_measure 54 = .ok (.iload_n 1, 1) := by decide +kernel
theorem dX10_measure_55 : decode cX10_measure 55 = .ok (.iload_n 2, 1) := by decide +kernel
theorem dX10_measure_56 : decode cX10_measure 56 = .ok (.invokestatic 36, 3) := by decide +kernel
theorem dX10_measure_59 : decode cX10_measure 59 = .ok (.iadd, 1) := by decide +kernel
theorem dX10_measure_60 : decode cX10_measure 60 = .ok (.iaload, 1) := by decide +kernel
theorem dX10_measure_61 : decode cX10_measure 61 = .ok (.istore_n 3, 1) := by decide +kernel
theorem dX10_measure_62 : decode cX10_measure 62 = .ok (.aload_n 0, 1) := by decide +kernel
theorem dX10_measure_63 : decode cX10_measure 63 = .ok (.getfield 15, 3) := by decide +kernel
theorem dX10_measure_66 : decode cX10_measure 66 = .ok (.iload_n 1, 1) := by decide +kernel
theorem dX10_measure_67 : decode cX10_measure 67 = .ok (.bipush 8, 2) := by decide +kernel
theorem dX10_measure_69 : decode cX10_measure 69 = .ok (.imul, 1) := by decide +kernel
theorem dX10_measure_70 : decode cX10_measure 70 = .ok (.iload_n 2, 1) := by decide +kernel
theorem dX10_measure_71 : decode cX10_measure 71 = .ok (.iadd, 1) := by decide +kernel
theorem dX10_measure_72 : decode cX10_measure 72 = .ok (.iload_n 1, 1) := by decide +kernel
theorem dX10_measure_73 : decode cX10_measure 73 = .ok (.iload_n 2, 1) := by decide +kernel
theorem dX10_measure_74 : decode cX10_measure 74 = .ok (.if_icmp .ne 7, 3) := by decide +kernel
theorem dX10_measure_77 : decode cX10_measure 77 = .ok (.iconst 0, 1) := by decide +kernel
theorem dX10_measure_78 : decode cX10_measure 78 = .ok (.goto 13, 3) := by decide +kernel
theorem dX10_measure_81 : decode cX10_measure 81 = .ok (.iload_n 3, 1) := by decide +kernel
theorem dX10_measure_82 : decode cX10_measure 82 = .ok (.ifCond .ne 8, 3) := by decide +kernel
theorem dX10_measure_85 : decode cX10_measure 85 = .ok (.ldc 49, 2) := by decide +kernel
theorem dX10_measure_87 : decode cX10_measure 87 = .ok (.goto 4, 3) := by decide +kernel
theorem dX10_measure_90 : decode cX10_measure 90 = .ok (.iload_n 3, 1) := by decide +kernel
theorem dX10_measure_91 : decode cX10_measure 91 = .ok (.iastore, 1) := by decide +kernel
theorem dX10_measure_92 : decode cX10_measure 92 = .ok (.iinc 2 1, 3) := by decide +kernel
theorem dX10_measure_95 : decode cX10_measure 95 = .ok (.goto (-59), 3) := by decide +kernel
theorem dX10_measure_98 : decode cX10_measure 98 = .ok (.iinc 1 1, 3) := by decide +kernel
theorem dX10_measure_101 : decode cX10_measure 101 = .ok (.goto (-73), 3) := by decide +kernel
theorem dX10_measure_104 : decode cX10_measure 104 = .ok (.iconst 0, 1) := by decide +kernel
theorem dX10_measure_105 : decode cX10_measure 105 = .ok (.istore_n 1, 1) := by decide +kernel
theorem dX10_measure_106 : decode cX10_measure 106 = .ok (.iload_n 1, 1) := by decide +kernel
theorem dX10_measure_107 : decode cX10_measure 107 = .ok (.bipush 8, 2) := by decide +kernel
theorem dX10_measure_109 : decode cX10_measure 109 = .ok (.if_icmp .ge 14, 3) := by decide +kernel
theorem dX10_measure_112 : decode cX10_measure 112 = .ok (.aload_n 0, 1) := by decide +kernel
theorem dX10_measure_113 : decode cX10_measure 113 = .ok (.iload_n 1, 1) := by decide +kernel
theorem dX10_measure_114 : decode cX10_measure 114 = .ok (.invokevirtual 50, 3) := by decide +kernel
theorem dX10_measure_117 : decode cX10_measure 117 = .ok (.iinc 1 1, 3) := by decide +kernel
theorem dX10_measure_120 : decode cX10_measure 120 = .ok (.goto (-14), 3) := by decide +kernel
theorem dX10_measure_123 : decode cX10_measure 123 = .ok (.return_, 1) := by decide +kernel
theorem dX10_shortenBy_0 : decode cX10_shortenBy 0 = .ok (.iconst 0, 1) := by decide +kernel
theorem dX10_shortenBy_1 : decode cX10_shortenBy 1 = .ok (.istore_n 2, 1) := by decide +kernel
theorem dX10_shortenBy_2 : decode cX10_shortenBy 2 = .ok (.iload_n 2, 1) := by decide +kernel
theorem dX10_shortenBy_3 : decode cX10_shortenBy 3 = .ok (.bipush 8, 2) := by decide +kernel
theorem dX10_shortenBy_5 : decode cX10_shortenBy 5 = .ok (.if_icmp .ge 77, 3) := by decide +kernel
theorem dX10_shortenBy_8 : decode cX10_shortenBy 8 = .ok (.iconst 0, 1) := by decide +kernel
theorem dX10_shortenBy_9 : decode cX10_shortenBy 9 = .ok (.istore_n 3, 1) := by decide +kernel
theorem dX10_shortenBy_10 : decode cX10_shortenBy 10 = .ok (.iload_n 3, 1) := by decide +kernel
theorem dX10_shortenBy_11 : decode cX10_shortenBy 11 = .ok (.bipush 8, 2) := by decide +kernel
theorem dX10_shortenBy_13 : decode cX10_shortenBy 13 = .ok (.if_icmp .ge 63, 3) := by decide +kernel
theorem dX10_shortenBy_16 : decode cX10_shortenBy 16 = .ok (.aload_n 0, 1) := by decide +kernel
theorem dX10_shortenBy_17 : decode cX10_shortenBy 17 = .ok (.getfield 15, 3) := by decide +kernel
theorem dX10_shortenBy_20 : decode cX10_shortenBy 20 = .ok (.iload_n 2, 1) := by decide +kernel
theorem dX10_shortenBy_21 : decode cX10_shortenBy 21 = .ok (.bipush 8, 2) := by decide +kernel
theorem dX10_shortenBy_23 : decode cX10_shortenBy 23 = .ok (.imul, 1) := by decide +kernel
theorem dX10_shortenBy_24 : decode cX10_shortenBy 24 = .ok (.iload_n 1, 1) := by decide +kernel
theorem dX10_shortenBy_25 : decode cX10_shortenBy 25 = .ok (.iadd, 1) := by decide +kernel
theorem dX10_shortenBy_26 : decode cX10_shortenBy 26 = .ok (.iaload, 1) := by decide +kernel
theorem dX10_shortenBy_27 : decode cX10_shortenBy 27 = .ok (.aload_n 0, 1) := by decide +kernel
theorem dX10_shortenBy_28 : decode cX10_shortenBy 28 = .ok (.getfield 15, 3) := by decide +kernel
theorem dX10_shortenBy_31 : decode cX10_shortenBy 31 = .ok (.iload_n 1, 1) := by decide +kernel
theorem dX10_shortenBy_32 : decode cX10_shortenBy 32 = .ok (.bipush 8, 2) := by decide +kernel
theorem dX10_shortenBy_34 : decode cX10_shortenBy 34 = .ok (.imul, 1) := by decide +kernel
theorem dX10_shortenBy_35 : decode cX10_shortenBy 35 = .ok (.iload_n 3, 1) := by decide +kernel
theorem dX10_shortenBy_36 : decode cX10_shortenBy 36 = .ok (.iadd, 1) := by decide +kernel
theorem dX10_shortenBy_37 : decode cX10_shortenBy 37 = .ok (.iaload, 1) := by decide +kernel
theorem dX10_shortenBy_38 : decode cX10_shortenBy 38 = .ok (.iadd, 1) := by decide +kernel
theorem dX10_shortenBy_39 : decode cX10_shortenBy 39 = .ok (.istore 4, 2) := by decide +kernel
theorem dX10_shortenBy_41 : decode cX10_shortenBy 41 = .ok (.iload 4, 2) := by decide +kernel
theorem dX10_shortenBy_43 : decode cX10_shortenBy 43 = .ok (.aload_n 0, 1) := by decide +kernel
theorem dX10_shortenBy_44 : decode cX10_shortenBy 44 = .ok (.getfield 15, 3) := by decide +kernel
theorem dX10_shortenBy_47 : decode cX10_shortenBy 47 = .ok (.iload_n 2, 1) := by decide +kernel
theorem dX10_shortenBy_48 : decode cX10_shortenBy 48 = .ok (.bipush 8, 2) := by decide +kernel
theorem dX10_shortenBy_50 : decode cX10_shortenBy 50 = .ok (.imul, 1) := by decide +kernel
theorem dX10_shortenBy_51 : decode cX10_shortenBy 51 = .ok (.iload_n 3, 1) := by decide +kernel
theorem dX10_shortenBy_52 : decode cX10_shortenBy 52 = .ok (.iadd, 1) := by decide +kernel
theorem dX10_shortenBy_53 : decode cX10_shortenBy 53 = .ok (.iaload, 1) := by decide +kernel
theorem dX10_shortenBy_54 : decode cX10_shortenBy 54 = .ok (.if_icmp .ge 16, 3) := by decide +kernel
theorem dX10_shortenBy_57 : decode cX10_shortenBy 57 = .ok (.aload_n 0, 1) := by decide +kernel
theorem dX10_shortenBy_58 : decode cX10_shortenBy 58 = .ok (.getfield 15, 3) := by decide +kernel
theorem dX10_shortenBy_61 : decode cX10_shortenBy 61 = .ok (.iload_n 2, 1) := by decide +kernel
theorem dX10_shortenBy_62 : decode cX10_shortenBy 62 = .ok (.bipush 8, 2) := by decide +kernel
theorem dX10_shortenBy_64 : decode cX10_shortenBy 64 = .ok (.imul, 1) := by decide +kernel
theorem dX10_shortenBy_65 : decode cX10_shortenBy 65 = .ok (.iload_n 3, 1) := by decide +kernel
theorem dX10_shortenBy_66 : decode cX10_shortenBy 66 = .ok (.iadd, 1) := by decide +kernel
theorem dX10_shortenBy_67 : decode cX10_shortenBy 67 = .ok (.iload 4, 2) := by decide +kernel
theorem dX10_shortenBy_69 : decode cX10_shortenBy 69 = .ok (.iastore, 1) := by decide +kernel
theorem dX10_shortenBy_70 : decode cX10_shortenBy 70 = .ok (.iinc 3 1, 3) := by decide +kernel
theorem dX10_shortenBy_73 : decode cX10_shortenBy 73 = .ok (.goto (-63), 3) := by decide +kernel
theorem dX10_shortenBy_76 : decode cX10_shortenBy 76 = .ok (.iinc 2 1, 3) := by decide +kernel
theorem dX10_shortenBy_79 : decode cX10_shortenBy 79 = .ok (.goto (-77), 3) := by decide +kernel
theorem dX10_shortenBy_82 : decode cX10_shortenBy 82 = .ok (.return_, 1) := by decide +kernel
theorem dX10_between_0 : decode cX10_between 0 = .ok (.iload_n 1, 1) := by decide +kernel
theorem dX10_between_1 : decode cX10_between 1 = .ok (.ifCond .lt 23, 3) := by decide +kernel
theorem dX10_between_4 : decode cX10_between 4 = .ok (.iload_n 1, 1) := by decide +kernel
theorem dX10_between_5 : decode cX10_between 5 = .ok (.bipush 8, 2) := by decide +kernel
theorem dX10_between_7 : decode cX10_between 7 = .ok (.if_icmp .ge 17, 3) := by decide +kernel
theorem dX10_between_10 : decode cX10_between 10 = .ok (.iload_n 2, 1) := by decide +kernel
theorem dX10_between_11 : decode cX10_between 11 = .ok (.ifCond .lt 13, 3) := by decide +kernel
theorem dX10_between_14 : decode cX10_between 14 = .ok (.iload_n 2, 1) := by decide +kernel
theorem dX10_between_15 : decode cX10_between 15 = .ok (.bipush 8, 2) := by decide +kernel
theorem dX10_between_17 : decode cX10_between 17 = .ok (.if_icmp .ge 7, 3) := by decide +kernel
theorem dX10_between_20 : decode cX10_between 20 = .ok (.iconst 1, 1) := by decide +kernel
theorem dX10_between_21 : decode cX10_between 21 = .ok (.goto 4, 3) := by decide +kernel
theorem dX10_between_24 : decode cX10_between 24 = .ok (.iconst 0, 1) := by decide +kernel
theorem dX10_between_25 : decode cX10_between 25 = .ok (.istore_n 3, 1) := by decide +kernel
theorem dX10_between_26 : decode cX10_between 26 = .ok (.iload_n 3, 1) := by decide +kernel
theorem dX10_between_27 : decode cX10_between 27 = .ok (.ifCond .eq 17, 3) := by decide +kernel
theorem dX10_between_30 : decode cX10_between 30 = .ok (.aload_n 0, 1) := by decide +kernel
theorem dX10_between_31 : decode cX10_between 31 = .ok (.getfield 15, 3) := by decide +kernel
theorem dX10_between_34 : decode cX10_between 34 = .ok (.iload_n 1, 1) := by decide +kernel
theorem dX10_between_35 : decode cX10_between 35 = .ok (.bipush 8, 2) := by decide +kernel
theorem dX10_between_37 : decode cX10_between 37 = .ok (.imul, 1) := by decide +kernel
theorem dX10_between_38 : decode cX10_between 38 = .ok (.iload_n 2, 1) := by decide +kernel
theorem dX10_between_39 : decode cX10_between 39 = .ok (.iadd, 1) := by decide +kernel
theorem dX10_between_40 : decode cX10_between 40 = .ok (.iaload, 1) := by decide +kernel
theorem dX10_between_41 : decode cX10_between 41 = .ok (.goto 5, 3) := by decide +kernel
theorem dX10_between_44 : decode cX10_between 44 = .ok (.ldc 49, 2) := by decide +kernel
theorem dX10_between_46 : decode cX10_between 46 = .ok (.ireturn, 1) := by decide +kernel
theorem dX11_init_0 : decode cX11_init 0 = .ok (.aload_n 0, 1) := by decide +kernel
theorem dX11_init_1 : decode cX11_init 1 = .ok (.invokespecial 1, 3) := by decide +kernel
theorem dX11_init_4 : decode cX11_init 4 = .ok (.aload_n 0, 1) := by decide +kernel
theorem dX11_init_5 : decode cX11_init 5 = .ok (.new 7, 3) := by decide +kernel
theorem dX11_init_8 : decode cX11_init 8 = .ok (.dup, 1) := by decide +kernel
theorem dX11_init_9 : decode cX11_init 9 = .ok (.invokespecial 9, 3) := by decide +kernel
theorem dX11_init_12 : decode cX11_init 12 = .ok (.putfield 10, 3) := by decide +kernel
theorem dX11_init_15 : decode cX11_init 15 = .ok (.aload_n 0, 1) := by decide +kernel
theorem dX11_init_16 : decode cX11_init 16 = .ok (.new 16, 3) := by decide +kernel
theorem dX11_init_19 : decode cX11_init 19 = .ok (.dup, 1) := by decide +kernel
theorem dX11_init_20 : decode cX11_init 20 = .ok (.aload_n 0, 1) := by decide +kernel
theorem dX11_init_21 : decode cX11_init 21 = .ok (.getfield 10, 3) := by decide +kernel
theorem dX11_init_24 : decode cX11_init 24 = .ok (.invokespecial 18, 3) := by decide +kernel
theorem dX11_init_27 : decode cX11_init 27 = .ok (.putfield 21, 3) := by decide +kernel
theorem dX11_init_30 : decode cX11_init 30 = .ok (.aload_n 0, 1) := by decide +kernel
theorem dX11_init_31 : decode cX11_init 31 = .ok (.new 25, 3) := by decide +kernel
theorem dX11_init_34 : decode cX11_init 34 = .ok (.dup, 1) := by decide +kernel
theorem dX11_init_35 : decode cX11_init 35 = .ok (.aload_n 0, 1) := by decide +kernel
theorem dX11_init_36 : decode cX11_init 36 = .ok (.getfield 10, 3) := by decide +kernel
theorem dX11_init_39 : decode cX11_init 39 = .ok (.bipush 7, 2) := by decide +kernel
theorem dX11_init_41 : decode cX11_init 41 = .ok (.bipush 6, 2) := by decide +kernel
theorem dX11_init_43 : decode cX11_init 43 = .ok (.invokespecial 27, 3) := by decide +kernel
theorem dX11_init_46 : decode cX11_init 46 = .ok (.putfield 30, 3) := by decide +kernel
theorem dX11_init_49 : decode cX11_init 49 = .ok (.aload_n 0, 1) := by decide +kernel
theorem dX11_init_50 : decode cX11_init 50 = .ok (.new 25, 3) := by decide +kernel
theorem dX11_init_53 : decode cX11_init 53 = .ok (.dup, 1) := by decide +kernel
theorem dX11_init_54 : decode cX11_init 54 = .ok (.aload_n 0, 1) := by decide +kernel
theorem dX11_init_55 : decode cX11_init 55 = .ok (.getfield 10, 3) := by decide +kernel
theorem dX11_init_58 : decode cX11_init 58 = .ok (.bipush 11, 2) := by decide +kernel
theorem dX11_init_60 : decode cX11_init 60 = .ok (.bipush 8, 2) := by decide +kernel
theorem dX11_init_62 : decode cX11_init 62 = .ok (.invokespecial 27, 3) := by decide +kernel
theorem dX11_init_65 : decode cX11_init 65 = .ok (.putfield 34, 3) := by decide +kernel
theorem dX11_init_68 : decode cX11_init 68 = .ok (.aload_n 0, 1) := by decide +kernel
theorem dX11_init_69 : decode cX11_init 69 = .ok (.new 37, 3) := by decide +kernel
theorem dX11_init_72 : decode cX11_init 72 = .ok (.dup, 1) := by decide +kernel
theorem dX11_init_73 : decode cX11_init 73 = .ok (.aload_n 0, 1) := by decide +kernel
theorem dX11_init_74 : decode cX11_init 74 = .ok (.getfield 21, 3) := by decide +kernel
theorem dX11_init_77 : decode cX11_init 77 = .ok (.aload_n 0, 1) := by decide +kernel
theorem dX11_init_78 : decode cX11_init 78 = .ok (.getfield 30, 3) := by decide +kernel
theorem dX11_init_81 : decode cX11_init 81 = .ok (.aload_n 0, 1) := by decide +kernel
theorem dX11_init_82 : decode cX11_init 82 = .ok (.getfield 34, 3) := by decide +kernel
theorem dX11_init_85 : decode cX11_init 85 = .ok (.invokespecial 39, 3) := by decide +kernel
theorem dX11_init_88 : decode cX11_init 88 = .ok (.putfield 42, 3) := by decide +kernel
theorem dX11_init_91 : decode cX11_init 91 = .ok (.aload_n 0, 1) := by decide +kernel
theorem dX11_init_92 : decode cX11_init 92 = .ok (.new 46, 3) := by decide +kernel
theorem dX11_init_95 : decode cX11_init 95 = .ok (.dup, 1) := by decide +kernel
theorem dX11_init_96 : decode cX11_init 96 = .ok (.aload_n 0, 1) := by decide +kernel
theorem dX11_init_97 : decode cX11_init 97 = .ok (.getfield 10, 3) := by decide +kernel
theorem dX11_init_100 : decode cX11_init 100 = .ok (.aload_n 0, 1) := by decide +kernel
theorem dX11_init_101 : decode cX11_init 101 = .ok (.getfield 30, 3) := by decide +kernel
theorem dX11_init_104 : decode cX11_init 104 = .ok (.aload_n 0, 1) := by decide +kernel
theorem dX11_init_105 : decode cX11_init 105 = .ok (.getfield 34, 3) := by decide +kernel
theorem dX11_init_108 : decode cX11_init 108 = .ok (.aload_n 0, 1) := by decide +kernel
theorem dX11_init_109 : decode cX11_init 109 = .ok (.getfield 42, 3) := by decide +kernel
theorem dX11_init_112 : decode cX11_init 112 = .ok (.invokespecial 48, 3) := by decide +kernel
theorem dX11_init_115 : decode cX11_init 115 = .ok (.putfield 51, 3) := by decide +kernel
theorem dX11_init_118 : decode cX11_init 118 = .ok (.aload_n 0, 1) := by decide +kernel
theorem dX11_init_119 : decode cX11_init 119 = .ok (.new 55, 3) := by decide +kernel
theorem dX11_init_122 : decode cX11_init 122 = .ok (.dup, 1) := by decide +kernel
theorem dX11_init_123 : decode cX11_init 123 = .ok (.aload_n 0, 1) := by decide +kernel
theorem dX11_init_124 : decode cX11_init 124 = .ok (.getfield 10, 3) := by decide +kernel
theorem dX11_init_127 : decode cX11_init 127 = .ok (.invokespecial 57, 3) := by decide +kernel
theorem dX11_init_130 : decode cX11_init 130 = .ok (.putfield 58, 3) := by decide +kernel
theorem dX11_init_133 : decode cX11_init 133 = .ok (.aload_n 0, 1) := by decide +kernel
theorem dX11_init_134 : decode cX11_init 134 = .ok (.new 62, 3) := by decide +kernel
theorem dX11_init_137 : decode cX11_init 137 = .ok (.dup, 1) := by decide +kernel
theorem dX11_init_138 : decode cX11_init 138 = .ok (.aload_n 0, 1) := by decide +kernel
theorem dX11_init_139 : decode cX11_init 139 = .ok (.getfield 10, 3) := by decide +kernel
theorem dX11_init_142 : decode cX11_init 142 = .ok (.invokespecial 64, 3) := by decide +kernel
theorem dX11_init_145 : decode cX11_init 145 = .ok (.putfield 65, 3) := by decide +kernel
theorem dX11_init_148 : decode cX11_init 148 = .ok (.aload_n 0, 1) := by decide +kernel
theorem dX11_init_149 : decode cX11_init 149 = .ok (.new 69, 3) := by decide +kernel
theorem dX11_init_152 : decode cX11_init 152 = .ok (.dup, 1) := by decide +kernel
theorem dX11_init_153 : decode cX11_init 153 = .ok (.aload_n 0, 1) := by decide +kernel
theorem dX11_init_154 : decode cX11_init 154 = .ok (.getfield 10, 3) := by decide +kernel
theorem dX11_init_157 : decode cX11_init 157 = .ok (.aload_n 0, 1) := by decide +kernel
theorem dX11_init_158 : decode cX11_init 158 = .ok (.getfield 21, 3) := by decide +kernel
theorem dX11_init_161 : decode cX11_init 161 = .ok (.invokespecial 71, 3) := by decide +kernel
theorem dX11_init_164 : decode cX11_init 164 = .ok (.putfield 74, 3) := by decide +kernel
theorem dX11_init_167 : decode cX11_init 167 = .ok (.aload_n 0, 1) := by decide +kernel
theorem dX11_init_168 : decode cX11_init 168 = .ok (.new 78, 3) := by decide +kernel
theorem dX11_init_171 : decode cX11_init 171 = .ok (.dup, 1) := by decide +kernel
theorem dX11_init_172 : decode cX11_init 172 = .ok (.aload_n 0, 1) := by decide +kernel
theorem dX11_init_173 : decode cX11_init 173 = .ok (.getfield 10, 3) := by decide +kernel
theorem dX11_init_176 : decode cX11_init 176 = .ok (.invokespecial 80, 3) := by decide +kernel
theorem dX11_init_179 : decode cX11_init 179 = .ok (.putfield 81, 3) := by decide +kernel
theorem dX11_init_182 : decode cX11_init 182 = .ok (.aload_n 0, 1) := by decide +kernel
theorem dX11_init_183 : decode cX11_init 183 = .ok (.new 85, 3) := by decide +kernel
theorem dX11_init_186 : decode cX11_init 186 = .ok (.dup, 1) := by decide +kernel
theorem dX11_init_187 : decode cX11_init 187 = .ok (.aload_n 0, 1) := by decide +kernel
theorem dX11_init_188 : decode cX11_init 188 = .ok (.getfield 10, 3) := by decide +kernel
theorem dX11_init_191 : decode cX11_init 191 = .ok (.invokespecial 87, 3) := by decide +kernel
theorem dX11_init_194 : decode cX11_init 194 = .ok (.putfield 88, 3) := by decide +kernel
theorem dX11_init_197 : decode cX11_init 197 = .ok (.aload_n 0, 1) := by decide +kernel
theorem dX11_init_198 : decode cX11_init 198 = .ok (.iconst 4, 1) := by decide +kernel
theorem dX11_init_199 : decode cX11_init 199 = .ok (.anewarray 92, 3) := by decide +kernel
theorem dX11_init_202 : decode cX11_init 202 = .ok (.putfield 94, 3) := by decide +kernel
theorem dX11_init_205 : decode cX11_init 205 = .ok (.iconst 0, 1) := by decide +kernel
theorem dX11_init_206 : decode cX11_init 206 = .ok (.istore_n 1, 1) := by decide +kernel
theorem dX11_init_207 : decode cX11_init 207 = .ok (.iload_n 1, 1) := by decide +kernel
theorem dX11_init_208 : decode cX11_init 208 = .ok (.iconst 4, 1) := by decide +kernel
theorem dX11_init_209 : decode cX11_init 209 = .ok (.if_icmp .ge 22, 3) := by decide +kernel
theorem dX11_init_212 : decode cX11_init 212 = .ok (.aload_n 0, 1) := by decide +kernel
theorem dX11_init_213 : decode cX11_init 213 = .ok (.getfield 94, 3) := by decide +kernel
theorem dX11_init_216 : decode cX11_init 216 = .ok (.iload_n 1, 1) := by decide +kernel
theorem dX11_init_217 : decode cX11_init 217 = .ok (.new 92, 3) := by decide +kernel
theorem dX11_init_220 : decode cX11_init 220 = .ok (.dup, 1) := by decide +kernel
theorem dX11_init_221 : decode cX11_init 221 = .ok (.invokespecial 98, 3) := by decide +kernel
theorem dX11_init_224 : decode cX11_init 224 = .ok (.aastore, 1) := by decide +kernel
theorem dX11_init_225 : decode cX11_init 225 = .ok (.iinc 1 1, 3) := by decide +kernel
theorem dX11_init_228 : decode cX11_init 228 = .ok (.goto (-21), 3) := by decide +kernel
theorem dX11_init_231 : decode cX11_init 231 = .ok (.return_, 1) := by decide +kernel
theorem dX11_road_0 : decode cX11_road 0 = .ok (.iload_n 1, 1) := by decide +kernel
theorem dX11_road_1 : decode cX11_road 1 = .ok (.invokestatic 99, 3) := by decide +kernel
theorem dX11_road_4 : decode cX11_road 4 = .ok (.ifCond .eq 26, 3) := by decide +kernel
theorem dX11_road_7 : decode cX11_road 7 = .ok (.iload_n 2, 1) := by decide +kernel
theorem dX11_road_8 : decode cX11_road 8 = .ok (.invokestatic 99, 3) := by decide +kernel
theorem dX11_road_11 : decode cX11_road 11 = .ok (.ifCond .eq 19, 3) := by decide +kernel
theorem dX11_road_14 : decode cX11_road 14 = .ok (.iload_n 1, 1) := by decide +kernel
theorem dX11_road_15 : decode cX11_road 15 = .ok (.iload_n 2, 1) := by decide +kernel
theorem dX11_road_16 : decode cX11_road 16 = .ok (.if_icmp .eq 14, 3) := by decide +kernel
theorem dX11_road_19 : decode cX11_road 19 = .ok (.iload_n 3, 1) := by decide +kernel
theorem dX11_road_20 : decode cX11_road 20 = .ok (.iconst 0, 1) := by decide +kernel
theorem dX11_road_21 : decode cX11_road 21 = .ok (.sipush 400, 3) := by decide +kernel
theorem dX11_road_24 : decode cX11_road 24 = .ok (.invokestatic 103, 3) := by decide +kernel
theorem dX11_road_27 : decode cX11_road 27 = .ok (.ifCond .ne 10, 3) := by decide +kernel
theorem dX11_road_30 : decode cX11_road 30 = .ok (.aload_n 0, 1) := by decide +kernel
theorem dX11_road_31 : decode cX11_road 31 = .ok (.ldc 107, 2) := by decide +kernel
theorem dX11_road_33 : decode cX11_road 33 = .ok (.invokevirtual 108, 3) := by decide +kernel
theorem dX11_road_36 : decode cX11_road 36 = .ok (.ireturn, 1) := by decide +kernel
theorem dX11_road_37 : decode cX11_road 37 = .ok (.aload_n 0, 1) := by decide +kernel
theorem dX11_road_38 : decode cX11_road 38 = .ok (.getfield 21, 3) := by decide +kernel
theorem dX11_road_41 : decode cX11_road 41 = .ok (.iload_n 1, 1) := by decide +kernel
theorem dX11_road_42 : decode cX11_road 42 = .ok (.iload_n 2, 1) := by decide +kernel
theorem dX11_road_43 : decode cX11_road 43 = .ok (.iload_n 3, 1) := by decide +kernel
theorem dX11_road_44 : decode cX11_road 44 = .ok (.invokevirtual 112, 3) := by decide +kernel
theorem dX11_road_47 : decode cX11_road 47 = .ok (.ireturn, 1) := by decide +kernel
theorem dX11_far_0 : decode cX11_far 0 = .ok (.iload_n 1, 1) := by decide +kernel
theorem dX11_far_1 : decode cX11_far 1 = .ok (.invokestatic 99, 3) := by decide +kernel
theorem dX11_far_4 : decode cX11_far 4 = .ok (.ifCond .eq 10, 3) := by decide +kernel
theorem dX11_far_7 : decode cX11_far 7 = .ok (.iload_n 2, 1) := by decide +kernel
theorem dX11_far_8 : decode cX11_far 8 = .ok (.invokestatic 99, 3) := by decide +kernel
theorem dX11_far_11 : decode cX11_far 11 = .ok (.ifCond .ne 10, 3) := by decide +kernel
theorem dX11_far_14 : decode cX11_far 14 = .ok (.aload_n 0, 1) := by decide +kernel
theorem dX11_far_15 : decode cX11_far 15 = .ok (.ldc 107, 2) := by decide +kernel
theorem dX11_far_17 : decode cX11_far 17 = .ok (.invokevirtual 108, 3) := by decide +kernel
theorem dX11_far_20 : decode cX11_far 20 = .ok (.ireturn, 1) := by decide +kernel
theorem dX11_far_21 : decode cX11_far 21 = .ok (.aload_n 0, 1) := by decide +kernel
theorem dX11_far_22 : decode cX11_far 22 = .ok (.getfield 21, 3) := by decide +kernel
theorem dX11_far_25 : decode cX11_far 25 = .ok (.invokevirtual 116, 3) := by decide +kernel
theorem dX11_far_28 : decode cX11_far 28 = .ok (.aload_n 0, 1) := by decide +kernel
theorem dX11_far_29 : decode cX11_far 29 = .ok (.getfield 21, 3) := by decide +kernel
theorem dX11_far_32 : decode cX11_far 32 = .ok (.iload_n 1, 1) := by decide +kernel
theorem dX11_far_33 : decode cX11_far 33 = .ok (.iload_n 2, 1) := by decide +kernel
theorem dX11_far_34 : decode cX11_far 34 = .ok (.invokevirtual 119, 3) := by decide +kernel
theorem dX11_far_37 : decode cX11_far 37 = .ok (.istore_n 3, 1) := by decide +kernel
theorem dX11_far_38 : decode cX11_far 38 = .ok (.aload_n 0, 1) := by decide +kernel
theorem dX11_far_39 : decode cX11_far 39 = .ok (.iload_n 3, 1) := by decide +kernel
theorem dX11_far_40 : decode cX11_far 40 = .ok (.ldc 123, 2) := by decide +kernel
theorem dX11_far_42 : decode cX11_far 42 = .ok (.if_icmp .ne 8, 3) := by decide +kernel
theorem dX11_far_45 : decode cX11_far 45 = .ok (.ldc 124, 2) := by decide +kernel
theorem dX11_far_47 : decode cX11_far 47 = .ok (.goto 4, 3) := by decide +kernel
theorem dX11_far_50 : decode cX11_far 50 = .ok (.iload_n 3, 1) := by decide +kernel
theorem dX11_far_51 : decode cX11_far 51 = .ok (.invokevirtual 108, 3) := by decide +kernel
theorem dX11_far_54 : decode cX11_far 54 = .ok (.ireturn, 1) := by decide +kernel
theorem dX11_lorry_0 : decode cX11_lorry 0 = .ok (.iload_n 1, 1) := by decide +kernel
theorem dX11_lorry_1 : decode cX11_lorry 1 = .ok (.iconst 0, 1) := by decide +kernel
theorem dX11_lorry_2 : decode cX11_lorry 2 = .ok (.iconst 3, 1) := by decide +kernel
theorem dX11_lorry_3 : decode cX11_lorry 3 = .ok (.invokestatic 103, 3) := by decide +kernel
theorem dX11_lorry_6 : decode cX11_lorry 6 = .ok (.ifCond .eq 74, 3) := by decide +kernel
theorem dX11_lorry_9 : decode cX11_lorry 9 = .ok (.iload_n 2, 1) := by decide +kernel
theorem dX11_lorry_10 : decode cX11_lorry 10 = .ok (.invokestatic 99, 3) := by decide +kernel
theorem dX11_lorry_13 : decode cX11_lorry 13 = .ok (.ifCond .eq 67, 3) := by decide +kernel
theorem dX11_lorry_16 : decode cX11_lorry 16 = .ok (.iload_n 3, 1) := by decide +kernel
theorem dX11_lorry_17 : decode cX11_lorry 17 = .ok (.iconst 0, 1) := by decide +kernel
theorem dX11_lorry_18 : decode cX11_lorry 18 = .ok (.sipush 2000, 3) := by decide +kernel
theorem dX11_lorry_21 : decode cX11_lorry 21 = .ok (.invokestatic 103, 3) := by decide +kernel
theorem dX11_lorry_24 : decode cX11_lorry 24 = .ok (.ifCond .eq 56, 3) := by decide +kernel
theorem dX11_lorry_27 : decode cX11_lorry 27 = .ok (.iload 4, 2) := by decide +kernel
theorem dX11_lorry_29 : decode cX11_lorry 29 = .ok (.ifCond .lt 51, 3) := by decide +kernel
theorem dX11_lorry_32 : decode cX11_lorry 32 = .ok (.iload 4, 2) := by decide +kernel
theorem dX11_lorry_34 : decode cX11_lorry 34 = .ok (.bipush 10, 2) := by decide +kernel
theorem dX11_lorry_36 : decode cX11_lorry 36 = .ok (.idiv, 1) := by decide +kernel
theorem dX11_lorry_37 : decode cX11_lorry 37 = .ok (.sipush 4000, 3) := by decide +kernel
theorem dX11_lorry_40 : decode cX11_lorry 40 = .ok (.if_icmp .gt 40, 3) := by decide +kernel
theorem dX11_lorry_43 : decode cX11_lorry 43 = .ok (.iload 4, 2) := by decide +kernel
theorem dX11_lorry_45 : decode cX11_lorry 45 = .ok (.bipush 10, 2) := by decide +kernel
theorem dX11_lorry_47 : decode cX11_lorry 47 = .ok (.irem, 1) := by decide +kernel
theorem dX11_lorry_48 : decode cX11_lorry 48 = .ok (.invokestatic 99, 3) := by decide +kernel
theorem dX11_lorry_51 : decode cX11_lorry 51 = .ok (.ifCond .eq 29, 3) := by decide +kernel
theorem dX11_lorry_54 : decode cX11_lorry 54 = .ok (.iload 5, 2) := by decide +kernel
theorem dX11_lorry_56 : decode cX11_lorry 56 = .ok (.iconst 1, 1) := by decide +kernel
theorem dX11_lorry_57 : decode cX11_lorry 57 = .ok (.bipush 40, 2) := by decide +kernel
theorem dX11_lorry_59 : decode cX11_lorry 59 = .ok (.invokestatic 103, 3) := by decide +kernel
theorem dX11_lorry_62 : decode cX11_lorry 62 = .ok (.ifCond .eq 18, 3) := by decide +kernel
theorem dX11_lorry_65 : decode cX11_lorry 65 = .ok (.iload 6, 2) := by decide +kernel
theorem dX11_lorry_67 : decode cX11_lorry 67 = .ok (.iconst 1, 1) := by decide +kernel
theorem dX11_lorry_68 : decode cX11_lorry 68 = .ok (.bipush 40, 2) := by decide +kernel
theorem dX11_lorry_70 : decode cX11_lorry 70 = .ok (.invokestatic 103, 3) := by decide +kernel
theorem dX11_lorry_73 : decode cX11_lorry 73 = .ok (.ifCond .eq 7, 3) := by decide +kernel
theorem dX11_lorry_76 : decode cX11_lorry 76 = .ok (.iconst 1, 1) := by decide +kernel
theorem dX11_lorry_77 : decode cX11_lorry 77 = .ok (.goto 4, 3) := by decide +kernel
theorem dX11_lorry_80 : decode cX11_lorry 80 = .ok (.iconst 0, 1) := by decide +kernel
theorem dX11_lorry_81 : decode cX11_lorry 81 = .ok (.istore 7, 2) := by decide +kernel
theorem dX11_lorry_83 : decode cX11_lorry 83 = .ok (.iload 7, 2) := by decide +kernel
theorem dX11_lorry_85 : decode cX11_lorry 85 = .ok (.ifCond .ne 10, 3) := by decide +kernel
theorem dX11_lorry_88 : decode cX11_lorry 88 = .ok (.aload_n 0, 1) := by decide +kernel
theorem dX11_lorry_89 : decode cX11_lorry 89 = .ok (.ldc 107, 2) := by decide +kernel
theorem dX11_lorry_91 : decode cX11_lorry 91 = .ok (.invokevirtual 108, 3) := by decide +kernel
theorem dX11_lorry_94 : decode cX11_lorry 94 = .ok (.ireturn, 1) := by decide +kernel
theorem dX11_lorry_95 : decode cX11_lorry 95 = .ok (.iload_n 1, 1) := by decide +kernel
theorem dX11_lorry_96 : decode cX11_lorry 96 = .ok (.iconst 2, 1) := by decide +kernel
theorem dX11_lorry_97 : decode cX11_lorry 97 = .ok (.if_icmp .ne 10, 3) := by decide +kernel
theorem dX11_lorry_100 : decode cX11_lorry 100 = .ok (.iload 5, 2) := by decide +kernel
theorem dX11_lorry_102 : decode cX11_lorry 102 = .ok (.iconst 2, 1) := by decide +kernel
theorem dX11_lorry_103 : decode cX11_lorry 103 = .ok (.idiv, 1) := by decide +kernel
theorem dX11_lorry_104 : decode cX11_lorry 104 = .ok (.goto 5, 3) := by decide +kernel
theorem dX11_lorry_107 : decode cX11_lorry 107 = .ok (.iload 5, 2) := by decide +kernel
theorem dX11_lorry_109 : decode cX11_lorry 109 = .ok (.istore 8, 2) := by decide +kernel
theorem dX11_lorry_111 : decode cX11_lorry 111 = .ok (.bipush 7, 2) := by decide +kernel
theorem dX11_lorry_113 : decode cX11_lorry 113 = .ok (.newarray .int, 2) := by decide +kernel
theorem dX11_lorry_115 : decode cX11_lorry 115 = .ok (.dup, 1) := by decide +kernel
theorem dX11_lorry_116 : decode cX11_lorry 116 = .ok (.iconst 0, 1) := by decide +kernel
theorem dX11_lorry_117 : decode cX11_lorry 117 = .ok (.iload_n 1, 1) := by decide +kernel
theorem dX11_lorry_118 : decode cX11_lorry 118 = .ok (.iastore, 1) := by decide +kernel
theorem dX11_lorry_119 : decode cX11_lorry 119 = .ok (.dup, 1) := by decide +kernel
theorem dX11_lorry_120 : decode cX11_lorry 120 = .ok (.iconst 1, 1) := by decide +kernel
theorem dX11_lorry_121 : decode cX11_lorry 121 = .ok (.iload_n 2, 1) := by decide +kernel
theorem dX11_lorry_122 : decode cX11_lorry 122 = .ok (.iastore, 1) := by decide +kernel
theorem dX11_lorry_123 : decode cX11_lorry 123 = .ok (.dup, 1) := by decide +kernel
theorem dX11_lorry_124 : decode cX11_lorry 124 = .ok (.iconst 2, 1) := by decide +kernel
theorem dX11_lorry_125 : decode cX11_lorry 125 = .ok (.iload_n 3, 1) := by decide +kernel
theorem dX11_lorry_126 : decode cX11_lorry 126 = .ok (.iastore, 1) := by decide +kernel
theorem dX11_lorry_127 : decode cX11_lorry 127 = .ok (.dup, 1) := by decide +kernel
theorem dX11_lorry_128 : decode cX11_lorry 128 = .ok (.iconst 3, 1) := by decide +kernel
theorem dX11_lorry_129 : decode cX11_lorry 129 = .ok (.iload 4, 2) := by decide +kernel
theorem dX11_lorry_131 : decode cX11_lorry 131 = .ok (.bipush 10, 2) := by decide +kernel
theorem dX11_lorry_133 : decode cX11_lorry 133 = .ok (.irem, 1) := by decide +kernel
theorem dX11_lorry_134 : decode cX11_lorry 134 = .ok (.iastore, 1) := by decide +kernel
theorem dX11_lorry_135 : decode cX11_lorry 135 = .ok (.dup, 1) := by decide +kernel
theorem dX11_lorry_136 : decode cX11_lorry 136 = .ok (.iconst 4, 1) := by decide +kernel
theorem dX11_lorry_137 : decode cX11_lorry 137 = .ok (.iload 4, 2) := by decide +kernel
theorem dX11_lorry_139 : decode cX11_lorry 139 = .ok (.bipush 10, 2) := by decide +kernel
theorem dX11_lorry_141 : decode cX11_lorry 141 = .ok (.idiv, 1) := by decide +kernel
theorem dX11_lorry_142 : decode cX11_lorry 142 = .ok (.iastore, 1) := by decide +kernel
theorem dX11_lorry_143 : decode cX11_lorry 143 = .ok (.dup, 1) := by decide +kernel
theorem dX11_lorry_144 : decode cX11_lorry 144 = .ok (.iconst 5, 1) := by decide +kernel
theorem dX11_lorry_145 : decode cX11_lorry 145 = .ok (.iload 8, 2) := by decide +kernel
theorem dX11_lorry_147 : decode cX11_lorry 147 = .ok (.iastore, 1) := by decide +kernel
theorem dX11_lorry_148 : decode cX11_lorry 148 = .ok (.dup, 1) := by decide +kernel
theorem dX11_lorry_149 : decode cX11_lorry 149 = .ok (.bipush 6, 2) := by decide +kernel
theorem dX11_lorry_151 : decode cX11_lorry 151 = .ok (.iload 6, 2) := by decide +kernel
theorem dX11_lorry_153 : decode cX11_lorry 153 = .ok (.iastore, 1) := by decide +kernel
theorem dX11_lorry_154 : decode cX11_lorry 154 = .ok (.astore 9, 2) := by decide +kernel
theorem dX11_lorry_156 : decode cX11_lorry 156 = .ok (.aload_n 0, 1) := by decide +kernel
theorem dX11_lorry_157 : decode cX11_lorry 157 = .ok (.aload_n 0, 1) := by decide +kernel
theorem dX11_lorry_158 : decode cX11_lorry 158 = .ok (.getfield 30, 3) := by decide +kernel
theorem dX11_lorry_161 : decode cX11_lorry 161 = .ok (.aload 9, 2) := by decide +kernel
theorem dX11_lorry_163 : decode cX11_lorry 163 = .ok (.invokevirtual 125, 3) := by decide +kernel
theorem dX11_lorry_166 : decode cX11_lorry 166 = .ok (.invokevirtual 108, 3) := by decide +kernel
theorem dX11_lorry_169 : decode cX11_lorry 169 = .ok (.ireturn, 1) := by decide +kernel
theorem dX11_as_0 : decode cX11_as 0 = .ok (.aload_n 0, 1) := by decide +kernel
theorem dX11_as_1 : decode cX11_as 1 = .ok (.getfield 30, 3) := by decide +kernel
theorem dX11_as_4 : decode cX11_as 4 = .ok (.iload_n 1, 1) := by decide +kernel
theorem dX11_as_5 : decode cX11_as 5 = .ok (.invokevirtual 129, 3) := by decide +kernel
theorem dX11_as_8 : decode cX11_as 8 = .ok (.ifCond .eq 12, 3) := by decide +kernel
theorem dX11_as_11 : decode cX11_as 11 = .ok (.iload_n 2, 1) := by decide +kernel
theorem dX11_as_12 : decode cX11_as 12 = .ok (.iconst 0, 1) := by decide +kernel
theorem dX11_as_13 : decode cX11_as 13 = .ok (.iconst 3, 1) := by decide +kernel
theorem dX11_as_14 : decode cX11_as 14 = .ok (.invokestatic 103, 3) := by decide +kernel
theorem dX11_as_17 : decode cX11_as 17 = .ok (.ifCond .ne 10, 3) := by decide +kernel
theorem dX11_as_20 : decode cX11_as 20 = .ok (.aload_n 0, 1) := by decide +kernel
theorem dX11_as_21 : decode cX11_as 21 = .ok (.ldc 107, 2) := by decide +kernel
theorem dX11_as_23 : decode cX11_as 23 = .ok (.invokevirtual 108, 3) := by decide +kernel
theorem dX11_as_26 : decode cX11_as 26 = .ok (.ireturn, 1) := by decide +kernel
theorem dX11_as_27 : decode cX11_as 27 = .ok (.iload_n 2, 1) := by decide +kernel
theorem dX11_as_28 : decode cX11_as 28 = .ok (.ifCond .eq 16, 3) := by decide +kernel
theorem dX11_as_31 : decode cX11_as 31 = .ok (.iload_n 2, 1) := by decide +kernel
theorem dX11_as_32 : decode cX11_as 32 = .ok (.aload_n 0, 1) := by decide +kernel
theorem dX11_as_33 : decode cX11_as 33 = .ok (.getfield 30, 3) := by decide +kernel
theorem dX11_as_36 : decode cX11_as 36 = .ok (.iload_n 1, 1) := by decide +kernel
theorem dX11_as_37 : decode cX11_as 37 = .ok (.iconst 0, 1) := by decide +kernel
theorem dX11_as_38 : decode cX11_as 38 = .ok (.invokevirtual 132, 3) := by decide +kernel
theorem dX11_as_41 : decode cX11_as 41 = .ok (.if_icmp .ne 7, 3) := by decide +kernel
theorem dX11_as_44 : decode cX11_as 44 = .ok (.iconst 1, 1) := by decide +kernel
theorem dX11_as_45 : decode cX11_as 45 = .ok (.goto 4, 3) := by decide +kernel
theorem dX11_as_48 : decode cX11_as 48 = .ok (.iconst 0, 1) := by decide +kernel
theorem dX11_as_49 : decode cX11_as 49 = .ok (.istore_n 3, 1) := by decide +kernel
theorem dX11_as_50 : decode cX11_as 50 = .ok (.aload_n 0, 1) := by decide +kernel
theorem dX11_as_51 : decode cX11_as 51 = .ok (.iload_n 3, 1) := by decide +kernel
theorem dX11_as_52 : decode cX11_as 52 = .ok (.ifCond .eq 7, 3) := by decide +kernel
theorem dX11_as_55 : decode cX11_as 55 = .ok (.iload_n 1, 1) := by decide +kernel
theorem dX11_as_56 : decode cX11_as 56 = .ok (.goto 5, 3) := by decide +kernel
theorem dX11_as_59 : decode cX11_as 59 = .ok (.ldc 135, 2) := by decide +kernel
theorem dX11_as_61 : decode cX11_as 61 = .ok (.invokevirtual 108, 3) := by decide +kernel
theorem dX11_as_64 : decode cX11_as 64 = .ok (.ireturn, 1) := by decide +kernel
theorem dX11_lorryIs_0 : decode cX11_lorryIs 0 = .ok (.aload_n 0, 1) := by decide +kernel
theorem dX11_lorryIs_1 : decode cX11_lorryIs 1 = .ok (.getfield 30, 3) := by decide +kernel
theorem dX11_lorryIs_4 : decode cX11_lorryIs 4 = .ok (.iload_n 1, 1) := by decide +kernel
theorem dX11_lorryIs_5 : decode cX11_lorryIs 5 = .ok (.invokevirtual 129, 3) := by decide +kernel
theorem dX11_lorryIs_8 : decode cX11_lorryIs 8 = .ok (.ifCond .eq 13, 3) := by decide +kernel
theorem dX11_lorryIs_11 : decode cX11_lorryIs 11 = .ok (.iload_n 2, 1) := by decide +kernel
theorem dX11_lorryIs_12 : decode cX11_lorryIs 12 = .ok (.iconst 0, 1) := by decide +kernel
theorem dX11_lorryIs_13 : decode cX11_lorryIs 13 = .ok (.bipush 7, 2) := by decide +kernel
theorem dX11_lorryIs_15 : decode cX11_lorryIs 15 = .ok (.invokestatic 103, 3) := by decide +kernel
theorem dX11_lorryIs_18 : decode cX11_lorryIs 18 = .ok (.ifCond .ne 10, 3) := by decide +kernel
theorem dX11_lorryIs_21 : decode cX11_lorryIs 21 = .ok (.aload_n 0, 1) := by decide +kernel
theorem dX11_lorryIs_22 : decode cX11_lorryIs 22 = .ok (.ldc 107, 2) := by decide +kernel
theorem dX11_lorryIs_24 : decode cX11_lorryIs 24 = .ok (.invokevirtual 108, 3) := by decide +kernel
theorem dX11_lorryIs_27 : decode cX11_lorryIs 27 = .ok (.ireturn, 1) := by decide +kernel
theorem dX11_lorryIs_28 : decode cX11_lorryIs 28 = .ok (.iload_n 2, 1) := by decide +kernel
theorem dX11_lorryIs_29 : decode cX11_lorryIs 29 = .ok (.bipush 7, 2) := by decide +kernel
theorem dX11_lorryIs_31 : decode cX11_lorryIs 31 = .ok (.if_icmp .ne 11, 3) := by decide +kernel
theorem dX11_lorryIs_34 : decode cX11_lorryIs 34 = .ok (.aload_n 0, 1) := by decide +kernel
theorem dX11_lorryIs_35 : decode cX11_lorryIs 35 = .ok (.iload_n 1, 1) := by decide +kernel
theorem dX11_lorryIs_36 : decode cX11_lorryIs 36 = .ok (.invokevirtual 136, 3) := by decide +kernel
theorem dX11_lorryIs_39 : decode cX11_lorryIs 39 = .ok (.goto 12, 3) := by decide +kernel
theorem dX11_lorryIs_42 : decode cX11_lorryIs 42 = .ok (.aload_n 0, 1) := by decide +kernel
theorem dX11_lorryIs_43 : decode cX11_lorryIs 43 = .ok (.getfield 30, 3) := by decide +kernel
theorem dX11_lorryIs_46 : decode cX11_lorryIs 46 = .ok (.iload_n 1, 1) := by decide +kernel
theorem dX11_lorryIs_47 : decode cX11_lorryIs 47 = .ok (.iload_n 2, 1) := by decide +kernel
theorem dX11_lorryIs_48 : decode cX11_lorryIs 48 = .ok (.invokevirtual 132, 3) := by decide +kernel
theorem dX11_lorryIs_51 : decode cX11_lorryIs 51 = .ok (.ireturn, 1) := by decide +kernel
theorem dX11_load_0 : decode cX11_load 0 = .ok (.iload_n 1, 1) := by decide +kernel
theorem dX11_load_1 : decode cX11_load 1 = .ok (.invokestatic 139, 3) := by decide +kernel
theorem dX11_load_4 : decode cX11_load 4 = .ok (.ifCond .eq 49, 3) := by decide +kernel
theorem dX11_load_7 : decode cX11_load 7 = .ok (.iload_n 2, 1) := by decide +kernel
theorem dX11_load_8 : decode cX11_load 8 = .ok (.iconst 0, 1) := by decide +kernel
theorem dX11_load_9 : decode cX11_load 9 = .ok (.iconst 2, 1) := by decide +kernel
theorem dX11_load_10 : decode cX11_load 10 = .ok (.invokestatic 103, 3) := by decide +kernel
theorem dX11_load_13 : decode cX11_load 13 = .ok (.ifCond .eq 40, 3) := by decide +kernel
theorem dX11_load_16 : decode cX11_load 16 = .ok (.iload_n 3, 1) := by decide +kernel
theorem dX11_load_17 : decode cX11_load 17 = .ok (.iconst 1, 1) := by decide +kernel
theorem dX11_load_18 : decode cX11_load 18 = .ok (.bipush 40, 2) := by decide +kernel
theorem dX11_load_20 : decode cX11_load 20 = .ok (.invokestatic 103, 3) := by decide +kernel
theorem dX11_load_23 : decode cX11_load 23 = .ok (.ifCond .eq 30, 3) := by decide +kernel
theorem dX11_load_26 : decode cX11_load 26 = .ok (.iload 4, 2) := by decide +kernel
theorem dX11_load_28 : decode cX11_load 28 = .ok (.iconst 1, 1) := by decide +kernel
theorem dX11_load_29 : decode cX11_load 29 = .ok (.bipush 40, 2) := by decide +kernel
theorem dX11_load_31 : decode cX11_load 31 = .ok (.invokestatic 103, 3) := by decide +kernel
theorem dX11_load_34 : decode cX11_load 34 = .ok (.ifCond .eq 19, 3) := by decide +kernel
theorem dX11_load_37 : decode cX11_load 37 = .ok (.iload 5, 2) := by decide +kernel
theorem dX11_load_39 : decode cX11_load 39 = .ok (.iconst 0, 1) := by decide +kernel
theorem dX11_load_40 : decode cX11_load 40 = .ok (.sipush 9999, 3) := by decide +kernel
theorem dX11_load_43 : decode cX11_load 43 = .ok (.invokestatic 103, 3) := by decide +kernel
theorem dX11_load_46 : decode cX11_load 46 = .ok (.ifCond .eq 7, 3) := by decide +kernel
theorem dX11_load_49 : decode cX11_load 49 = .ok (.iconst 1, 1) := by decide +kernel
theorem dX11_load_50 : decode cX11_load 50 = .ok (.goto 4, 3) := by decide +kernel
theorem dX11_load_53 : decode cX11_load 53 = .ok (.iconst 0, 1) := by decide +kernel
theorem dX11_load_54 : decode cX11_load 54 = .ok (.istore 6, 2) := by decide +kernel
theorem dX11_load_56 : decode cX11_load 56 = .ok (.iload 6, 2) := by decide +kernel
theorem dX11_load_58 : decode cX11_load 58 = .ok (.ifCond .ne 10, 3) := by decide +kernel
theorem dX11_load_61 : decode cX11_load 61 = .ok (.aload_n 0, 1) := by decide +kernel
theorem dX11_load_62 : decode cX11_load 62 = .ok (.ldc 107, 2) := by decide +kernel
theorem dX11_load_64 : decode cX11_load 64 = .ok (.invokevirtual 108, 3) := by decide +kernel
theorem dX11_load_67 : decode cX11_load 67 = .ok (.ireturn, 1) := by decide +kernel
theorem dX11_load_68 : decode cX11_load 68 = .ok (.iload_n 1, 1) := by decide +kernel
theorem dX11_load_69 : decode cX11_load 69 = .ok (.bipush 10, 2) := by decide +kernel
theorem dX11_load_71 : decode cX11_load 71 = .ok (.idiv, 1) := by decide +kernel
theorem dX11_load_72 : decode cX11_load 72 = .ok (.iload_n 1, 1) := by decide +kernel
theorem dX11_load_73 : decode cX11_load 73 = .ok (.bipush 10, 2) := by decide +kernel
theorem dX11_load_75 : decode cX11_load 75 = .ok (.irem, 1) := by decide +kernel
theorem dX11_load_76 : decode cX11_load 76 = .ok (.if_icmp .ne 10, 3) := by decide +kernel
theorem dX11_load_79 : decode cX11_load 79 = .ok (.aload_n 0, 1) := by decide +kernel
theorem dX11_load_80 : decode cX11_load 80 = .ok (.ldc 142, 2) := by decide +kernel
theorem dX11_load_82 : decode cX11_load 82 = .ok (.invokevirtual 108, 3) := by decide +kernel
theorem dX11_load_85 : decode cX11_load 85 = .ok (.ireturn, 1) := by decide +kernel
theorem dX11_load_86 : decode cX11_load 86 = .ok (.bipush 11, 2) := by decide +kernel
theorem dX11_load_88 : decode cX11_load 88 = .ok (.newarray .int, 2) := by decide +kernel
theorem dX11_load_90 : decode cX11_load 90 = .ok (.dup, 1) := by decide +kernel
theorem dX11_load_91 : decode cX11_load 91 = .ok (.iconst 0, 1) := by decide +kernel
theorem dX11_load_92 : decode cX11_load 92 = .ok (.iload_n 1, 1) := by decide +kernel
theorem dX11_load_93 : decode cX11_load 93 = .ok (.bipush 10, 2) := by decide +kernel
theorem dX11_load_95 : decode cX11_load 95 = .ok (.idiv, 1) := by decide +kernel
theorem dX11_load_96 : decode cX11_load 96 = .ok (.iastore, 1) := by decide +kernel
theorem dX11_load_97 : decode cX11_load 97 = .ok (.dup, 1) := by decide +kernel
theorem dX11_load_98 : decode cX11_load 98 = .ok (.iconst 1, 1) := by decide +kernel
theorem dX11_load_99 : decode cX11_load 99 = .ok (.iload_n 1, 1) := by decide +kernel
theorem dX11_load_100 : decode cX11_load 100 = .ok (.bipush 10, 2) := by decide +kernel
theorem dX11_load_102 : decode cX11_load 102 = .ok (.irem, 1) := by decide +kernel
theorem dX11_load_103 : decode cX11_load 103 = .ok (.iastore, 1) := by decide +kernel
theorem dX11_load_104 : decode cX11_load 104 = .ok (.dup, 1) := by decide +kernel
theorem dX11_load_105 : decode cX11_load 105 = .ok (.iconst 2, 1) := by decide +kernel
theorem dX11_load_106 : decode cX11_load 106 = .ok (.iload_n 2, 1) := by decide +kernel
theorem dX11_load_107 : decode cX11_load 107 = .ok (.iastore, 1) := by decide +kernel
theorem dX11_load_108 : decode cX11_load 108 = .ok (.dup, 1) := by decide +kernel
theorem dX11_load_109 : decode cX11_load 109 = .ok (.iconst 3, 1) := by decide +kernel
theorem dX11_load_110 : decode cX11_load 110 = .ok (.iload_n 3, 1) := by decide +kernel
theorem dX11_load_111 : decode cX11_load 111 = .ok (.iastore, 1) := by decide +kernel
theorem dX11_load_112 : decode cX11_load 112 = .ok (.dup, 1) := by decide +kernel
theorem dX11_load_113 : decode cX11_load 113 = .ok (.iconst 4, 1) := by decide +kernel
theorem dX11_load_114 : decode cX11_load 114 = .ok (.iload 4, 2) := by decide +kernel
theorem dX11_load_116 : decode cX11_load 116 = .ok (.iastore, 1) := by decide +kernel
theorem dX11_load_117 : decode cX11_load 117 = .ok (.dup, 1) := by decide +kernel
theorem dX11_load_118 : decode cX11_load 118 = .ok (.iconst 5, 1) := by decide +kernel
theorem dX11_load_119 : decode cX11_load 119 = .ok (.iload 5, 2) := by decide +kernel
theorem dX11_load_121 : decode cX11_load 121 = .ok (.iastore, 1) := by decide +kernel
theorem dX11_load_122 : decode cX11_load 122 = .ok (.dup, 1) := by decide +kernel
theorem dX11_load_123 : decode cX11_load 123 = .ok (.bipush 6, 2) := by decide +kernel
theorem dX11_load_125 : decode cX11_load 125 = .ok (.iconst 0, 1) := by decide +kernel
