theorem dX11_load_126 : decode cX11_load 126 = .ok (.iastore, 1) := by decide +kernel
theorem dX11_load_127 : decode cX11_load 127 = .ok (.dup, 1) := by decide +kernel
theorem dX11_load_128 : decode cX11_load 128 = .ok (.bipush 7, 2) := by decide +kernel
theorem dX11_load_130 : decode cX11_load 130 = .ok (.sipush 4000, 3) := by decide +kernel
theorem dX11_load_133 : decode cX11_load 133 = .ok (.iastore, 1) := by decide +kernel
theorem dX11_load_134 : decode cX11_load 134 = .ok (.dup, 1) := by decide +kernel
theorem dX11_load_135 : decode cX11_load 135 = .ok (.bipush 8, 2) := by decide +kernel
theorem dX11_load_137 : decode cX11_load 137 = .ok (.iconst 0, 1) := by decide +kernel
theorem dX11_load_138 : decode cX11_load 138 = .ok (.iastore, 1) := by decide +kernel
theorem dX11_load_139 : decode cX11_load 139 = .ok (.dup, 1) := by decide +kernel
theorem dX11_load_140 : decode cX11_load 140 = .ok (.bipush 9, 2) := by decide +kernel
theorem dX11_load_142 : decode cX11_load 142 = .ok (.sipush 4000, 3) := by decide +kernel
theorem dX11_load_145 : decode cX11_load 145 = .ok (.iastore, 1) := by decide +kernel
theorem dX11_load_146 : decode cX11_load 146 = .ok (.dup, 1) := by decide +kernel
theorem dX11_load_147 : decode cX11_load 147 = .ok (.bipush 10, 2) := by decide +kernel
theorem dX11_load_149 : decode cX11_load 149 = .ok (.iconst (-1), 1) := by decide +kernel
theorem dX11_load_150 : decode cX11_load 150 = .ok (.iastore, 1) := by decide +kernel
theorem dX11_load_151 : decode cX11_load 151 = .ok (.astore 7, 2) := by decide +kernel
theorem dX11_load_153 : decode cX11_load 153 = .ok (.aload_n 0, 1) := by decide +kernel
theorem dX11_load_154 : decode cX11_load 154 = .ok (.aload_n 0, 1) := by decide +kernel
theorem dX11_load_155 : decode cX11_load 155 = .ok (.getfield 34, 3) := by decide +kernel
theorem dX11_load_158 : decode cX11_load 158 = .ok (.aload 7, 2) := by decide +kernel
theorem dX11_load_160 : decode cX11_load 160 = .ok (.invokevirtual 125, 3) := by decide +kernel
theorem dX11_load_163 : decode cX11_load 163 = .ok (.invokevirtual 108, 3) := by decide +kernel
theorem dX11_load_166 : decode cX11_load 166 = .ok (.ireturn, 1) := by decide +kernel
theorem dX11_window_0 : decode cX11_window 0 = .ok (.aload_n 0, 1) := by decide +kernel
theorem dX11_window_1 : decode cX11_window 1 = .ok (.getfield 34, 3) := by decide +kernel
theorem dX11_window_4 : decode cX11_window 4 = .ok (.iload_n 1, 1) := by decide +kernel
theorem dX11_window_5 : decode cX11_window 5 = .ok (.invokevirtual 129, 3) := by decide +kernel
theorem dX11_window_8 : decode cX11_window 8 = .ok (.ifCond .eq 26, 3) := by decide +kernel
theorem dX11_window_11 : decode cX11_window 11 = .ok (.iload_n 3, 1) := by decide +kernel
theorem dX11_window_12 : decode cX11_window 12 = .ok (.iconst 0, 1) := by decide +kernel
theorem dX11_window_13 : decode cX11_window 13 = .ok (.sipush 4000, 3) := by decide +kernel
theorem dX11_window_16 : decode cX11_window 16 = .ok (.invokestatic 103, 3) := by decide +kernel
theorem dX11_window_19 : decode cX11_window 19 = .ok (.ifCond .eq 15, 3) := by decide +kernel
theorem dX11_window_22 : decode cX11_window 22 = .ok (.iload 4, 2) := by decide +kernel
theorem dX11_window_24 : decode cX11_window 24 = .ok (.iconst 0, 1) := by decide +kernel
theorem dX11_window_25 : decode cX11_window 25 = .ok (.sipush 4000, 3) := by decide +kernel
theorem dX11_window_28 : decode cX11_window 28 = .ok (.invokestatic 103, 3) := by decide +kernel
theorem dX11_window_31 : decode cX11_window 31 = .ok (.ifCond .ne 10, 3) := by decide +kernel
theorem dX11_window_34 : decode cX11_window 34 = .ok (.aload_n 0, 1) := by decide +kernel
theorem dX11_window_35 : decode cX11_window 35 = .ok (.ldc 107, 2) := by decide +kernel
theorem dX11_window_37 : decode cX11_window 37 = .ok (.invokevirtual 108, 3) := by decide +kernel
theorem dX11_window_40 : decode cX11_window 40 = .ok (.ireturn, 1) := by decide +kernel
theorem dX11_window_41 : decode cX11_window 41 = .ok (.iload_n 3, 1) := by decide +kernel
theorem dX11_window_42 : decode cX11_window 42 = .ok (.iload 4, 2) := by decide +kernel
theorem dX11_window_44 : decode cX11_window 44 = .ok (.if_icmp .le 10, 3) := by decide +kernel
theorem dX11_window_47 : decode cX11_window 47 = .ok (.aload_n 0, 1) := by decide +kernel
theorem dX11_window_48 : decode cX11_window 48 = .ok (.ldc 142, 2) := by decide +kernel
theorem dX11_window_50 : decode cX11_window 50 = .ok (.invokevirtual 108, 3) := by decide +kernel
theorem dX11_window_53 : decode cX11_window 53 = .ok (.ireturn, 1) := by decide +kernel
theorem dX11_window_54 : decode cX11_window 54 = .ok (.aload_n 0, 1) := by decide +kernel
theorem dX11_window_55 : decode cX11_window 55 = .ok (.getfield 34, 3) := by decide +kernel
theorem dX11_window_58 : decode cX11_window 58 = .ok (.iload_n 1, 1) := by decide +kernel
theorem dX11_window_59 : decode cX11_window 59 = .ok (.iload_n 2, 1) := by decide +kernel
theorem dX11_window_60 : decode cX11_window 60 = .ok (.ifCond .eq 8, 3) := by decide +kernel
theorem dX11_window_63 : decode cX11_window 63 = .ok (.bipush 8, 2) := by decide +kernel
theorem dX11_window_65 : decode cX11_window 65 = .ok (.goto 5, 3) := by decide +kernel
theorem dX11_window_68 : decode cX11_window 68 = .ok (.bipush 6, 2) := by decide +kernel
theorem dX11_window_70 : decode cX11_window 70 = .ok (.iload_n 3, 1) := by decide +kernel
theorem dX11_window_71 : decode cX11_window 71 = .ok (.iload 4, 2) := by decide +kernel
theorem dX11_window_73 : decode cX11_window 73 = .ok (.invokevirtual 143, 3) := by decide +kernel
theorem dX11_window_76 : decode cX11_window 76 = .ok (.iconst 1, 1) := by decide +kernel
theorem dX11_window_77 : decode cX11_window 77 = .ok (.ireturn, 1) := by decide +kernel
theorem dX11_loadIs_0 : decode cX11_loadIs 0 = .ok (.aload_n 0, 1) := by decide +kernel
theorem dX11_loadIs_1 : decode cX11_loadIs 1 = .ok (.getfield 34, 3) := by decide +kernel
theorem dX11_loadIs_4 : decode cX11_loadIs 4 = .ok (.iload_n 1, 1) := by decide +kernel
theorem dX11_loadIs_5 : decode cX11_loadIs 5 = .ok (.invokevirtual 129, 3) := by decide +kernel
theorem dX11_loadIs_8 : decode cX11_loadIs 8 = .ok (.ifCond .eq 13, 3) := by decide +kernel
theorem dX11_loadIs_11 : decode cX11_loadIs 11 = .ok (.iload_n 2, 1) := by decide +kernel
theorem dX11_loadIs_12 : decode cX11_loadIs 12 = .ok (.iconst 0, 1) := by decide +kernel
theorem dX11_loadIs_13 : decode cX11_loadIs 13 = .ok (.bipush 10, 2) := by decide +kernel
theorem dX11_loadIs_15 : decode cX11_loadIs 15 = .ok (.invokestatic 103, 3) := by decide +kernel
theorem dX11_loadIs_18 : decode cX11_loadIs 18 = .ok (.ifCond .ne 10, 3) := by decide +kernel
theorem dX11_loadIs_21 : decode cX11_loadIs 21 = .ok (.aload_n 0, 1) := by decide +kernel
theorem dX11_loadIs_22 : decode cX11_loadIs 22 = .ok (.ldc 107, 2) := by decide +kernel
theorem dX11_loadIs_24 : decode cX11_loadIs 24 = .ok (.invokevirtual 108, 3) := by decide +kernel
theorem dX11_loadIs_27 : decode cX11_loadIs 27 = .ok (.ireturn, 1) := by decide +kernel
theorem dX11_loadIs_28 : decode cX11_loadIs 28 = .ok (.aload_n 0, 1) := by decide +kernel
theorem dX11_loadIs_29 : decode cX11_loadIs 29 = .ok (.getfield 34, 3) := by decide +kernel
theorem dX11_loadIs_32 : decode cX11_loadIs 32 = .ok (.iload_n 1, 1) := by decide +kernel
theorem dX11_loadIs_33 : decode cX11_loadIs 33 = .ok (.iload_n 2, 1) := by decide +kernel
theorem dX11_loadIs_34 : decode cX11_loadIs 34 = .ok (.invokevirtual 132, 3) := by decide +kernel
theorem dX11_loadIs_37 : decode cX11_loadIs 37 = .ok (.ireturn, 1) := by decide +kernel
theorem dX11_pay_0 : decode cX11_pay 0 = .ok (.aload_n 0, 1) := by decide +kernel
theorem dX11_pay_1 : decode cX11_pay 1 = .ok (.getfield 34, 3) := by decide +kernel
theorem dX11_pay_4 : decode cX11_pay 4 = .ok (.iload_n 1, 1) := by decide +kernel
theorem dX11_pay_5 : decode cX11_pay 5 = .ok (.invokevirtual 129, 3) := by decide +kernel
theorem dX11_pay_8 : decode cX11_pay 8 = .ok (.ifCond .eq 14, 3) := by decide +kernel
theorem dX11_pay_11 : decode cX11_pay 11 = .ok (.iload_n 2, 1) := by decide +kernel
theorem dX11_pay_12 : decode cX11_pay 12 = .ok (.iconst 0, 1) := by decide +kernel
theorem dX11_pay_13 : decode cX11_pay 13 = .ok (.sipush 9999, 3) := by decide +kernel
theorem dX11_pay_16 : decode cX11_pay 16 = .ok (.invokestatic 103, 3) := by decide +kernel
theorem dX11_pay_19 : decode cX11_pay 19 = .ok (.ifCond .ne 10, 3) := by decide +kernel
theorem dX11_pay_22 : decode cX11_pay 22 = .ok (.aload_n 0, 1) := by decide +kernel
theorem dX11_pay_23 : decode cX11_pay 23 = .ok (.ldc 107, 2) := by decide +kernel
theorem dX11_pay_25 : decode cX11_pay 25 = .ok (.invokevirtual 108, 3) := by decide +kernel
theorem dX11_pay_28 : decode cX11_pay 28 = .ok (.ireturn, 1) := by decide +kernel
theorem dX11_pay_29 : decode cX11_pay 29 = .ok (.aload_n 0, 1) := by decide +kernel
theorem dX11_pay_30 : decode cX11_pay 30 = .ok (.getfield 34, 3) := by decide +kernel
theorem dX11_pay_33 : decode cX11_pay 33 = .ok (.iload_n 1, 1) := by decide +kernel
theorem dX11_pay_34 : decode cX11_pay 34 = .ok (.iconst 5, 1) := by decide +kernel
theorem dX11_pay_35 : decode cX11_pay 35 = .ok (.iload_n 2, 1) := by decide +kernel
theorem dX11_pay_36 : decode cX11_pay 36 = .ok (.invokevirtual 147, 3) := by decide +kernel
theorem dX11_pay_39 : decode cX11_pay 39 = .ok (.ireturn, 1) := by decide +kernel
theorem dX11_give_0 : decode cX11_give 0 = .ok (.aload_n 0, 1) := by decide +kernel
theorem dX11_give_1 : decode cX11_give 1 = .ok (.getfield 34, 3) := by decide +kernel
theorem dX11_give_4 : decode cX11_give 4 = .ok (.iload_n 1, 1) := by decide +kernel
theorem dX11_give_5 : decode cX11_give 5 = .ok (.invokevirtual 129, 3) := by decide +kernel
theorem dX11_give_8 : decode cX11_give 8 = .ok (.ifCond .eq 19, 3) := by decide +kernel
theorem dX11_give_11 : decode cX11_give 11 = .ok (.iload_n 2, 1) := by decide +kernel
theorem dX11_give_12 : decode cX11_give 12 = .ok (.iconst (-1), 1) := by decide +kernel
theorem dX11_give_13 : decode cX11_give 13 = .ok (.if_icmp .eq 21, 3) := by decide +kernel
theorem dX11_give_16 : decode cX11_give 16 = .ok (.aload_n 0, 1) := by decide +kernel
theorem dX11_give_17 : decode cX11_give 17 = .ok (.getfield 30, 3) := by decide +kernel
theorem dX11_give_20 : decode cX11_give 20 = .ok (.iload_n 2, 1) := by decide +kernel
theorem dX11_give_21 : decode cX11_give 21 = .ok (.invokevirtual 129, 3) := by decide +kernel
theorem dX11_give_24 : decode cX11_give 24 = .ok (.ifCond .ne 10, 3) := by decide +kernel
theorem dX11_give_27 : decode cX11_give 27 = .ok (.aload_n 0, 1) := by decide +kernel
theorem dX11_give_28 : decode cX11_give 28 = .ok (.ldc 107, 2) := by decide +kernel
theorem dX11_give_30 : decode cX11_give 30 = .ok (.invokevirtual 108, 3) := by decide +kernel
theorem dX11_give_33 : decode cX11_give 33 = .ok (.ireturn, 1) := by decide +kernel
theorem dX11_give_34 : decode cX11_give 34 = .ok (.iload_n 2, 1) := by decide +kernel
theorem dX11_give_35 : decode cX11_give 35 = .ok (.iconst (-1), 1) := by decide +kernel
theorem dX11_give_36 : decode cX11_give 36 = .ok (.if_icmp .eq 22, 3) := by decide +kernel
theorem dX11_give_39 : decode cX11_give 39 = .ok (.aload_n 0, 1) := by decide +kernel
theorem dX11_give_40 : decode cX11_give 40 = .ok (.getfield 42, 3) := by decide +kernel
theorem dX11_give_43 : decode cX11_give 43 = .ok (.iload_n 2, 1) := by decide +kernel
theorem dX11_give_44 : decode cX11_give 44 = .ok (.iload_n 1, 1) := by decide +kernel
theorem dX11_give_45 : decode cX11_give 45 = .ok (.invokevirtual 150, 3) := by decide +kernel
theorem dX11_give_48 : decode cX11_give 48 = .ok (.ifCond .ne 10, 3) := by decide +kernel
theorem dX11_give_51 : decode cX11_give 51 = .ok (.aload_n 0, 1) := by decide +kernel
theorem dX11_give_52 : decode cX11_give 52 = .ok (.ldc 135, 2) := by decide +kernel
theorem dX11_give_54 : decode cX11_give 54 = .ok (.invokevirtual 108, 3) := by decide +kernel
theorem dX11_give_57 : decode cX11_give 57 = .ok (.ireturn, 1) := by decide +kernel
theorem dX11_give_58 : decode cX11_give 58 = .ok (.aload_n 0, 1) := by decide +kernel
theorem dX11_give_59 : decode cX11_give 59 = .ok (.getfield 34, 3) := by decide +kernel
theorem dX11_give_62 : decode cX11_give 62 = .ok (.iload_n 1, 1) := by decide +kernel
theorem dX11_give_63 : decode cX11_give 63 = .ok (.bipush 10, 2) := by decide +kernel
theorem dX11_give_65 : decode cX11_give 65 = .ok (.iload_n 2, 1) := by decide +kernel
theorem dX11_give_66 : decode cX11_give 66 = .ok (.invokevirtual 147, 3) := by decide +kernel
theorem dX11_give_69 : decode cX11_give 69 = .ok (.ireturn, 1) := by decide +kernel
theorem dX11_why_0 : decode cX11_why 0 = .ok (.aload_n 0, 1) := by decide +kernel
theorem dX11_why_1 : decode cX11_why 1 = .ok (.iload_n 1, 1) := by decide +kernel
theorem dX11_why_2 : decode cX11_why 2 = .ok (.iload_n 2, 1) := by decide +kernel
theorem dX11_why_3 : decode cX11_why 3 = .ok (.iload_n 3, 1) := by decide +kernel
theorem dX11_why_4 : decode cX11_why 4 = .ok (.invokevirtual 154, 3) := by decide +kernel
theorem dX11_why_7 : decode cX11_why 7 = .ok (.istore 4, 2) := by decide +kernel
theorem dX11_why_9 : decode cX11_why 9 = .ok (.aload_n 0, 1) := by decide +kernel
theorem dX11_why_10 : decode cX11_why 10 = .ok (.iload 4, 2) := by decide +kernel
theorem dX11_why_12 : decode cX11_why 12 = .ok (.ifCond .eq 8, 3) := by decide +kernel
theorem dX11_why_15 : decode cX11_why 15 = .ok (.iload 4, 2) := by decide +kernel
theorem dX11_why_17 : decode cX11_why 17 = .ok (.goto 13, 3) := by decide +kernel
theorem dX11_why_20 : decode cX11_why 20 = .ok (.aload_n 0, 1) := by decide +kernel
theorem dX11_why_21 : decode cX11_why 21 = .ok (.getfield 42, 3) := by decide +kernel
theorem dX11_why_24 : decode cX11_why 24 = .ok (.iload_n 1, 1) := by decide +kernel
theorem dX11_why_25 : decode cX11_why 25 = .ok (.iload_n 2, 1) := by decide +kernel
theorem dX11_why_26 : decode cX11_why 26 = .ok (.iload_n 3, 1) := by decide +kernel
theorem dX11_why_27 : decode cX11_why 27 = .ok (.invokevirtual 157, 3) := by decide +kernel
theorem dX11_why_30 : decode cX11_why 30 = .ok (.invokevirtual 108, 3) := by decide +kernel
theorem dX11_why_33 : decode cX11_why 33 = .ok (.ireturn, 1) := by decide +kernel
theorem dX11_drive_0 : decode cX11_drive 0 = .ok (.aload_n 0, 1) := by decide +kernel
theorem dX11_drive_1 : decode cX11_drive 1 = .ok (.iload_n 1, 1) := by decide +kernel
theorem dX11_drive_2 : decode cX11_drive 2 = .ok (.iload_n 2, 1) := by decide +kernel
theorem dX11_drive_3 : decode cX11_drive 3 = .ok (.iload_n 3, 1) := by decide +kernel
theorem dX11_drive_4 : decode cX11_drive 4 = .ok (.invokevirtual 154, 3) := by decide +kernel
theorem dX11_drive_7 : decode cX11_drive 7 = .ok (.istore 5, 2) := by decide +kernel
theorem dX11_drive_9 : decode cX11_drive 9 = .ok (.iload 5, 2) := by decide +kernel
theorem dX11_drive_11 : decode cX11_drive 11 = .ok (.ifCond .eq 10, 3) := by decide +kernel
theorem dX11_drive_14 : decode cX11_drive 14 = .ok (.aload_n 0, 1) := by decide +kernel
theorem dX11_drive_15 : decode cX11_drive 15 = .ok (.iload 5, 2) := by decide +kernel
theorem dX11_drive_17 : decode cX11_drive 17 = .ok (.invokevirtual 108, 3) := by decide +kernel
theorem dX11_drive_20 : decode cX11_drive 20 = .ok (.ireturn, 1) := by decide +kernel
theorem dX11_drive_21 : decode cX11_drive 21 = .ok (.iload 4, 2) := by decide +kernel
theorem dX11_drive_23 : decode cX11_drive 23 = .ok (.iconst 0, 1) := by decide +kernel
theorem dX11_drive_24 : decode cX11_drive 24 = .ok (.iconst 5, 1) := by decide +kernel
theorem dX11_drive_25 : decode cX11_drive 25 = .ok (.invokestatic 103, 3) := by decide +kernel
theorem dX11_drive_28 : decode cX11_drive 28 = .ok (.ifCond .ne 10, 3) := by decide +kernel
theorem dX11_drive_31 : decode cX11_drive 31 = .ok (.aload_n 0, 1) := by decide +kernel
theorem dX11_drive_32 : decode cX11_drive 32 = .ok (.ldc 107, 2) := by decide +kernel
theorem dX11_drive_34 : decode cX11_drive 34 = .ok (.invokevirtual 108, 3) := by decide +kernel
theorem dX11_drive_37 : decode cX11_drive 37 = .ok (.ireturn, 1) := by decide +kernel
theorem dX11_drive_38 : decode cX11_drive 38 = .ok (.aload_n 0, 1) := by decide +kernel
theorem dX11_drive_39 : decode cX11_drive 39 = .ok (.getfield 42, 3) := by decide +kernel
theorem dX11_drive_42 : decode cX11_drive 42 = .ok (.iload_n 1, 1) := by decide +kernel
theorem dX11_drive_43 : decode cX11_drive 43 = .ok (.iload_n 2, 1) := by decide +kernel
theorem dX11_drive_44 : decode cX11_drive 44 = .ok (.iload_n 3, 1) := by decide +kernel
theorem dX11_drive_45 : decode cX11_drive 45 = .ok (.invokevirtual 157, 3) := by decide +kernel
theorem dX11_drive_48 : decode cX11_drive 48 = .ok (.ifCond .ne 7, 3) := by decide +kernel
theorem dX11_drive_51 : decode cX11_drive 51 = .ok (.iconst 1, 1) := by decide +kernel
theorem dX11_drive_52 : decode cX11_drive 52 = .ok (.goto 4, 3) := by decide +kernel
theorem dX11_drive_55 : decode cX11_drive 55 = .ok (.iconst 0, 1) := by decide +kernel
theorem dX11_drive_56 : decode cX11_drive 56 = .ok (.istore 6, 2) := by decide +kernel
theorem dX11_drive_58 : decode cX11_drive 58 = .ok (.aload_n 0, 1) := by decide +kernel
theorem dX11_drive_59 : decode cX11_drive 59 = .ok (.iload 6, 2) := by decide +kernel
theorem dX11_drive_61 : decode cX11_drive 61 = .ok (.ifCond .eq 15, 3) := by decide +kernel
theorem dX11_drive_64 : decode cX11_drive 64 = .ok (.aload_n 0, 1) := by decide +kernel
theorem dX11_drive_65 : decode cX11_drive 65 = .ok (.getfield 42, 3) := by decide +kernel
theorem dX11_drive_68 : decode cX11_drive 68 = .ok (.iload 4, 2) := by decide +kernel
theorem dX11_drive_70 : decode cX11_drive 70 = .ok (.invokevirtual 160, 3) := by decide +kernel
theorem dX11_drive_73 : decode cX11_drive 73 = .ok (.goto 5, 3) := by decide +kernel
theorem dX11_drive_76 : decode cX11_drive 76 = .ok (.ldc 124, 2) := by decide +kernel
theorem dX11_drive_78 : decode cX11_drive 78 = .ok (.invokevirtual 108, 3) := by decide +kernel
theorem dX11_drive_81 : decode cX11_drive 81 = .ok (.ireturn, 1) := by decide +kernel
theorem dX11_best_0 : decode cX11_best 0 = .ok (.aload_n 0, 1) := by decide +kernel
theorem dX11_best_1 : decode cX11_best 1 = .ok (.getfield 51, 3) := by decide +kernel
theorem dX11_best_4 : decode cX11_best 4 = .ok (.invokevirtual 163, 3) := by decide +kernel
theorem dX11_best_7 : decode cX11_best 7 = .ok (.aload_n 0, 1) := by decide +kernel
theorem dX11_best_8 : decode cX11_best 8 = .ok (.getfield 51, 3) := by decide +kernel
theorem dX11_best_11 : decode cX11_best 11 = .ok (.invokevirtual 166, 3) := by decide +kernel
theorem dX11_best_14 : decode cX11_best 14 = .ok (.ireturn, 1) := by decide +kernel
theorem dX11_gets_0 : decode cX11_gets 0 = .ok (.aload_n 0, 1) := by decide +kernel
theorem dX11_gets_1 : decode cX11_gets 1 = .ok (.getfield 30, 3) := by decide +kernel
theorem dX11_gets_4 : decode cX11_gets 4 = .ok (.iload_n 1, 1) := by decide +kernel
theorem dX11_gets_5 : decode cX11_gets 5 = .ok (.invokevirtual 129, 3) := by decide +kernel
theorem dX11_gets_8 : decode cX11_gets 8 = .ok (.ifCond .eq 12, 3) := by decide +kernel
theorem dX11_gets_11 : decode cX11_gets 11 = .ok (.iload_n 2, 1) := by decide +kernel
theorem dX11_gets_12 : decode cX11_gets 12 = .ok (.iconst 0, 1) := by decide +kernel
theorem dX11_gets_13 : decode cX11_gets 13 = .ok (.iconst 1, 1) := by decide +kernel
theorem dX11_gets_14 : decode cX11_gets 14 = .ok (.invokestatic 103, 3) := by decide +kernel
theorem dX11_gets_17 : decode cX11_gets 17 = .ok (.ifCond .ne 10, 3) := by decide +kernel
theorem dX11_gets_20 : decode cX11_gets 20 = .ok (.aload_n 0, 1) := by decide +kernel
theorem dX11_gets_21 : decode cX11_gets 21 = .ok (.ldc 107, 2) := by decide +kernel
theorem dX11_gets_23 : decode cX11_gets 23 = .ok (.invokevirtual 108, 3) := by decide +kernel
theorem dX11_gets_26 : decode cX11_gets 26 = .ok (.ireturn, 1) := by decide +kernel
theorem dX11_gets_27 : decode cX11_gets 27 = .ok (.aload_n 0, 1) := by decide +kernel
theorem dX11_gets_28 : decode cX11_gets 28 = .ok (.getfield 51, 3) := by decide +kernel
theorem dX11_gets_31 : decode cX11_gets 31 = .ok (.invokevirtual 163, 3) := by decide +kernel
theorem dX11_gets_34 : decode cX11_gets 34 = .ok (.aload_n 0, 1) := by decide +kernel
theorem dX11_gets_35 : decode cX11_gets 35 = .ok (.getfield 51, 3) := by decide +kernel
theorem dX11_gets_38 : decode cX11_gets 38 = .ok (.iload_n 1, 1) := by decide +kernel
theorem dX11_gets_39 : decode cX11_gets 39 = .ok (.invokevirtual 170, 3) := by decide +kernel
theorem dX11_gets_42 : decode cX11_gets 42 = .ok (.istore_n 3, 1) := by decide +kernel
theorem dX11_gets_43 : decode cX11_gets 43 = .ok (.iload_n 2, 1) := by decide +kernel
theorem dX11_gets_44 : decode cX11_gets 44 = .ok (.ifCond .ne 10, 3) := by decide +kernel
theorem dX11_gets_47 : decode cX11_gets 47 = .ok (.iload_n 3, 1) := by decide +kernel
theorem dX11_gets_48 : decode cX11_gets 48 = .ok (.invokestatic 173, 3) := by decide +kernel
theorem dX11_gets_51 : decode cX11_gets 51 = .ok (.goto 7, 3) := by decide +kernel
theorem dX11_gets_54 : decode cX11_gets 54 = .ok (.iload_n 3, 1) := by decide +kernel
theorem dX11_gets_55 : decode cX11_gets 55 = .ok (.invokestatic 176, 3) := by decide +kernel
theorem dX11_gets_58 : decode cX11_gets 58 = .ok (.istore 4, 2) := by decide +kernel
theorem dX11_gets_60 : decode cX11_gets 60 = .ok (.aload_n 0, 1) := by decide +kernel
theorem dX11_gets_61 : decode cX11_gets 61 = .ok (.iload 4, 2) := by decide +kernel
theorem dX11_gets_63 : decode cX11_gets 63 = .ok (.iconst (-1), 1) := by decide +kernel
theorem dX11_gets_64 : decode cX11_gets 64 = .ok (.if_icmp .ne 8, 3) := by decide +kernel
theorem dX11_gets_67 : decode cX11_gets 67 = .ok (.ldc 124, 2) := by decide +kernel
theorem dX11_gets_69 : decode cX11_gets 69 = .ok (.goto 5, 3) := by decide +kernel
theorem dX11_gets_72 : decode cX11_gets 72 = .ok (.iload 4, 2) := by decide +kernel
theorem dX11_gets_74 : decode cX11_gets 74 = .ok (.invokevirtual 108, 3) := by decide +kernel
theorem dX11_gets_77 : decode cX11_gets 77 = .ok (.ireturn, 1) := by decide +kernel
theorem dX11_empty_0 : decode cX11_empty 0 = .ok (.aload_n 0, 1) := by decide +kernel
theorem dX11_empty_1 : decode cX11_empty 1 = .ok (.getfield 51, 3) := by decide +kernel
theorem dX11_empty_4 : decode cX11_empty 4 = .ok (.invokevirtual 163, 3) := by decide +kernel
theorem dX11_empty_7 : decode cX11_empty 7 = .ok (.iconst 0, 1) := by decide +kernel
theorem dX11_empty_8 : decode cX11_empty 8 = .ok (.istore_n 2, 1) := by decide +kernel
theorem dX11_empty_9 : decode cX11_empty 9 = .ok (.iconst 0, 1) := by decide +kernel
theorem dX11_empty_10 : decode cX11_empty 10 = .ok (.istore_n 3, 1) := by decide +kernel
theorem dX11_empty_11 : decode cX11_empty 11 = .ok (.iload_n 3, 1) := by decide +kernel
theorem dX11_empty_12 : decode cX11_empty 12 = .ok (.aload_n 0, 1) := by decide +kernel
theorem dX11_empty_13 : decode cX11_empty 13 = .ok (.getfield 30, 3) := by decide +kernel
theorem dX11_empty_16 : decode cX11_empty 16 = .ok (.invokevirtual 179, 3) := by decide +kernel
theorem dX11_empty_19 : decode cX11_empty 19 = .ok (.if_icmp .ge 36, 3) := by decide +kernel
theorem dX11_empty_22 : decode cX11_empty 22 = .ok (.iload_n 2, 1) := by decide +kernel
theorem dX11_empty_23 : decode cX11_empty 23 = .ok (.aload_n 0, 1) := by decide +kernel
theorem dX11_empty_24 : decode cX11_empty 24 = .ok (.getfield 51, 3) := by decide +kernel
theorem dX11_empty_27 : decode cX11_empty 27 = .ok (.iload_n 3, 1) := by decide +kernel
theorem dX11_empty_28 : decode cX11_empty 28 = .ok (.iload_n 1, 1) := by decide +kernel
theorem dX11_empty_29 : decode cX11_empty 29 = .ok (.ifCond .eq 7, 3) := by decide +kernel
theorem dX11_empty_32 : decode cX11_empty 32 = .ok (.iconst 0, 1) := by decide +kernel
theorem dX11_empty_33 : decode cX11_empty 33 = .ok (.goto 11, 3) := by decide +kernel
theorem dX11_empty_36 : decode cX11_empty 36 = .ok (.aload_n 0, 1) := by decide +kernel
theorem dX11_empty_37 : decode cX11_empty 37 = .ok (.getfield 51, 3) := by decide +kernel
theorem dX11_empty_40 : decode cX11_empty 40 = .ok (.iload_n 3, 1) := by decide +kernel
theorem dX11_empty_41 : decode cX11_empty 41 = .ok (.invokevirtual 170, 3) := by decide +kernel
theorem dX11_empty_44 : decode cX11_empty 44 = .ok (.invokevirtual 182, 3) := by decide +kernel
theorem dX11_empty_47 : decode cX11_empty 47 = .ok (.iadd, 1) := by decide +kernel
theorem dX11_empty_48 : decode cX11_empty 48 = .ok (.istore_n 2, 1) := by decide +kernel
theorem dX11_empty_49 : decode cX11_empty 49 = .ok (.iinc 3 1, 3) := by decide +kernel
theorem dX11_empty_52 : decode cX11_empty 52 = .ok (.goto (-41), 3) := by decide +kernel
theorem dX11_empty_55 : decode cX11_empty 55 = .ok (.iload_n 2, 1) := by decide +kernel
theorem dX11_empty_56 : decode cX11_empty 56 = .ok (.ireturn, 1) := by decide +kernel
theorem dX11_worth_0 : decode cX11_worth 0 = .ok (.aload_n 0, 1) := by decide +kernel
theorem dX11_worth_1 : decode cX11_worth 1 = .ok (.getfield 34, 3) := by decide +kernel
theorem dX11_worth_4 : decode cX11_worth 4 = .ok (.iload_n 1, 1) := by decide +kernel
theorem dX11_worth_5 : decode cX11_worth 5 = .ok (.invokevirtual 129, 3) := by decide +kernel
theorem dX11_worth_8 : decode cX11_worth 8 = .ok (.ifCond .ne 10, 3) := by decide +kernel
theorem dX11_worth_11 : decode cX11_worth 11 = .ok (.aload_n 0, 1) := by decide +kernel
theorem dX11_worth_12 : decode cX11_worth 12 = .ok (.ldc 107, 2) := by decide +kernel
theorem dX11_worth_14 : decode cX11_worth 14 = .ok (.invokevirtual 108, 3) := by decide +kernel
theorem dX11_worth_17 : decode cX11_worth 17 = .ok (.ireturn, 1) := by decide +kernel
theorem dX11_worth_18 : decode cX11_worth 18 = .ok (.aload_n 0, 1) := by decide +kernel
theorem dX11_worth_19 : decode cX11_worth 19 = .ok (.getfield 51, 3) := by decide +kernel
theorem dX11_worth_22 : decode cX11_worth 22 = .ok (.invokevirtual 163, 3) := by decide +kernel
theorem dX11_worth_25 : decode cX11_worth 25 = .ok (.aload_n 0, 1) := by decide +kernel
theorem dX11_worth_26 : decode cX11_worth 26 = .ok (.getfield 51, 3) := by decide +kernel
theorem dX11_worth_29 : decode cX11_worth 29 = .ok (.invokevirtual 166, 3) := by decide +kernel
theorem dX11_worth_32 : decode cX11_worth 32 = .ok (.aload_n 0, 1) := by decide +kernel
theorem dX11_worth_33 : decode cX11_worth 33 = .ok (.getfield 51, 3) := by decide +kernel
theorem dX11_worth_36 : decode cX11_worth 36 = .ok (.iload_n 1, 1) := by decide +kernel
theorem dX11_worth_37 : decode cX11_worth 37 = .ok (.invokevirtual 185, 3) := by decide +kernel
theorem dX11_worth_40 : decode cX11_worth 40 = .ok (.isub, 1) := by decide +kernel
theorem dX11_worth_41 : decode cX11_worth 41 = .ok (.ireturn, 1) := by decide +kernel
theorem dX11_paid_0 : decode cX11_paid 0 = .ok (.iload_n 1, 1) := by decide +kernel
theorem dX11_paid_1 : decode cX11_paid 1 = .ok (.invokestatic 139, 3) := by decide +kernel
theorem dX11_paid_4 : decode cX11_paid 4 = .ok (.ifCond .eq 25, 3) := by decide +kernel
theorem dX11_paid_7 : decode cX11_paid 7 = .ok (.iload_n 2, 1) := by decide +kernel
theorem dX11_paid_8 : decode cX11_paid 8 = .ok (.iconst 0, 1) := by decide +kernel
theorem dX11_paid_9 : decode cX11_paid 9 = .ok (.sipush 365, 3) := by decide +kernel
theorem dX11_paid_12 : decode cX11_paid 12 = .ok (.invokestatic 103, 3) := by decide +kernel
theorem dX11_paid_15 : decode cX11_paid 15 = .ok (.ifCond .eq 14, 3) := by decide +kernel
theorem dX11_paid_18 : decode cX11_paid 18 = .ok (.iload_n 3, 1) := by decide +kernel
theorem dX11_paid_19 : decode cX11_paid 19 = .ok (.iconst 0, 1) := by decide +kernel
theorem dX11_paid_20 : decode cX11_paid 20 = .ok (.sipush 9999, 3) := by decide +kernel
theorem dX11_paid_23 : decode cX11_paid 23 = .ok (.invokestatic 103, 3) := by decide +kernel
theorem dX11_paid_26 : decode cX11_paid 26 = .ok (.ifCond .ne 10, 3) := by decide +kernel
theorem dX11_paid_29 : decode cX11_paid 29 = .ok (.aload_n 0, 1) := by decide +kernel
theorem dX11_paid_30 : decode cX11_paid 30 = .ok (.ldc 107, 2) := by decide +kernel
theorem dX11_paid_32 : decode cX11_paid 32 = .ok (.invokevirtual 108, 3) := by decide +kernel
theorem dX11_paid_35 : decode cX11_paid 35 = .ok (.ireturn, 1) := by decide +kernel
theorem dX11_paid_36 : decode cX11_paid 36 = .ok (.aload_n 0, 1) := by decide +kernel
theorem dX11_paid_37 : decode cX11_paid 37 = .ok (.aload_n 0, 1) := by decide +kernel
theorem dX11_paid_38 : decode cX11_paid 38 = .ok (.getfield 58, 3) := by decide +kernel
theorem dX11_paid_41 : decode cX11_paid 41 = .ok (.iload_n 1, 1) := by decide +kernel
theorem dX11_paid_42 : decode cX11_paid 42 = .ok (.iload_n 2, 1) := by decide +kernel
theorem dX11_paid_43 : decode cX11_paid 43 = .ok (.iload_n 3, 1) := by decide +kernel
theorem dX11_paid_44 : decode cX11_paid 44 = .ok (.invokevirtual 188, 3) := by decide +kernel
theorem dX11_paid_47 : decode cX11_paid 47 = .ok (.invokevirtual 108, 3) := by decide +kernel
theorem dX11_paid_50 : decode cX11_paid 50 = .ok (.ireturn, 1) := by decide +kernel
theorem dX11_span_0 : decode cX11_span 0 = .ok (.iload_n 1, 1) := by decide +kernel
theorem dX11_span_1 : decode cX11_span 1 = .ok (.invokestatic 139, 3) := by decide +kernel
theorem dX11_span_4 : decode cX11_span 4 = .ok (.ifCond .eq 23, 3) := by decide +kernel
theorem dX11_span_7 : decode cX11_span 7 = .ok (.iload_n 2, 1) := by decide +kernel
theorem dX11_span_8 : decode cX11_span 8 = .ok (.iconst 0, 1) := by decide +kernel
theorem dX11_span_9 : decode cX11_span 9 = .ok (.sipush 365, 3) := by decide +kernel
theorem dX11_span_12 : decode cX11_span 12 = .ok (.invokestatic 103, 3) := by decide +kernel
theorem dX11_span_15 : decode cX11_span 15 = .ok (.ifCond .eq 12, 3) := by decide +kernel
theorem dX11_span_18 : decode cX11_span 18 = .ok (.iload_n 3, 1) := by decide +kernel
theorem dX11_span_19 : decode cX11_span 19 = .ok (.iconst 0, 1) := by decide +kernel
theorem dX11_span_20 : decode cX11_span 20 = .ok (.iconst 3, 1) := by decide +kernel
theorem dX11_span_21 : decode cX11_span 21 = .ok (.invokestatic 103, 3) := by decide +kernel
theorem dX11_span_24 : decode cX11_span 24 = .ok (.ifCond .ne 10, 3) := by decide +kernel
theorem dX11_span_27 : decode cX11_span 27 = .ok (.aload_n 0, 1) := by decide +kernel
theorem dX11_span_28 : decode cX11_span 28 = .ok (.ldc 107, 2) := by decide +kernel
theorem dX11_span_30 : decode cX11_span 30 = .ok (.invokevirtual 108, 3) := by decide +kernel
theorem dX11_span_33 : decode cX11_span 33 = .ok (.ireturn, 1) := by decide +kernel
theorem dX11_span_34 : decode cX11_span 34 = .ok (.aload_n 0, 1) := by decide +kernel
theorem dX11_span_35 : decode cX11_span 35 = .ok (.aload_n 0, 1) := by decide +kernel
theorem dX11_span_36 : decode cX11_span 36 = .ok (.getfield 58, 3) := by decide +kernel
theorem dX11_span_39 : decode cX11_span 39 = .ok (.iload_n 1, 1) := by decide +kernel
theorem dX11_span_40 : decode cX11_span 40 = .ok (.iload_n 2, 1) := by decide +kernel
theorem dX11_span_41 : decode cX11_span 41 = .ok (.iload_n 3, 1) := by decide +kernel
theorem dX11_span_42 : decode cX11_span 42 = .ok (.invokevirtual 191, 3) := by decide +kernel
theorem dX11_span_45 : decode cX11_span 45 = .ok (.invokevirtual 108, 3) := by decide +kernel
theorem dX11_span_48 : decode cX11_span 48 = .ok (.ireturn, 1) := by decide +kernel
theorem dX11_contract_0 : decode cX11_contract 0 = .ok (.aload_n 0, 1) := by decide +kernel
theorem dX11_contract_1 : decode cX11_contract 1 = .ok (.getfield 34, 3) := by decide +kernel
theorem dX11_contract_4 : decode cX11_contract 4 = .ok (.iload_n 1, 1) := by decide +kernel
theorem dX11_contract_5 : decode cX11_contract 5 = .ok (.invokevirtual 129, 3) := by decide +kernel
theorem dX11_contract_8 : decode cX11_contract 8 = .ok (.ifCond .eq 17, 3) := by decide +kernel
theorem dX11_contract_11 : decode cX11_contract 11 = .ok (.iload_n 2, 1) := by decide +kernel
theorem dX11_contract_12 : decode cX11_contract 12 = .ok (.invokestatic 193, 3) := by decide +kernel
theorem dX11_contract_15 : decode cX11_contract 15 = .ok (.ifCond .eq 10, 3) := by decide +kernel
theorem dX11_contract_18 : decode cX11_contract 18 = .ok (.iload_n 3, 1) := by decide +kernel
theorem dX11_contract_19 : decode cX11_contract 19 = .ok (.invokestatic 193, 3) := by decide +kernel
theorem dX11_contract_22 : decode cX11_contract 22 = .ok (.ifCond .ne 10, 3) := by decide +kernel
theorem dX11_contract_25 : decode cX11_contract 25 = .ok (.aload_n 0, 1) := by decide +kernel
theorem dX11_contract_26 : decode cX11_contract 26 = .ok (.ldc 107, 2) := by decide +kernel
theorem dX11_contract_28 : decode cX11_contract 28 = .ok (.invokevirtual 108, 3) := by decide +kernel
theorem dX11_contract_31 : decode cX11_contract 31 = .ok (.ireturn, 1) := by decide +kernel
theorem dX11_contract_32 : decode cX11_contract 32 = .ok (.iload_n 2, 1) := by decide +kernel
theorem dX11_contract_33 : decode cX11_contract 33 = .ok (.iload_n 3, 1) := by decide +kernel
theorem dX11_contract_34 : decode cX11_contract 34 = .ok (.if_icmp .ne 10, 3) := by decide +kernel
theorem dX11_contract_37 : decode cX11_contract 37 = .ok (.aload_n 0, 1) := by decide +kernel
theorem dX11_contract_38 : decode cX11_contract 38 = .ok (.ldc 142, 2) := by decide +kernel
theorem dX11_contract_40 : decode cX11_contract 40 = .ok (.invokevirtual 108, 3) := by decide +kernel
theorem dX11_contract_43 : decode cX11_contract 43 = .ok (.ireturn, 1) := by decide +kernel
theorem dX11_contract_44 : decode cX11_contract 44 = .ok (.aload_n 0, 1) := by decide +kernel
theorem dX11_contract_45 : decode cX11_contract 45 = .ok (.aload_n 0, 1) := by decide +kernel
theorem dX11_contract_46 : decode cX11_contract 46 = .ok (.getfield 65, 3) := by decide +kernel
theorem dX11_contract_49 : decode cX11_contract 49 = .ok (.iload_n 1, 1) := by decide +kernel
theorem dX11_contract_50 : decode cX11_contract 50 = .ok (.iload_n 2, 1) := by decide +kernel
theorem dX11_contract_51 : decode cX11_contract 51 = .ok (.iload_n 3, 1) := by decide +kernel
theorem dX11_contract_52 : decode cX11_contract 52 = .ok (.invokevirtual 196, 3) := by decide +kernel
theorem dX11_contract_55 : decode cX11_contract 55 = .ok (.invokevirtual 108, 3) := by decide +kernel
theorem dX11_contract_58 : decode cX11_contract 58 = .ok (.ireturn, 1) := by decide +kernel
theorem dX11_chain_0 : decode cX11_chain 0 = .ok (.aload_n 0, 1) := by decide +kernel
theorem dX11_chain_1 : decode cX11_chain 1 = .ok (.getfield 34, 3) := by decide +kernel
theorem dX11_chain_4 : decode cX11_chain 4 = .ok (.iload_n 1, 1) := by decide +kernel
theorem dX11_chain_5 : decode cX11_chain 5 = .ok (.invokevirtual 129, 3) := by decide +kernel
theorem dX11_chain_8 : decode cX11_chain 8 = .ok (.ifCond .eq 10, 3) := by decide +kernel
theorem dX11_chain_11 : decode cX11_chain 11 = .ok (.iload_n 2, 1) := by decide +kernel
theorem dX11_chain_12 : decode cX11_chain 12 = .ok (.invokestatic 193, 3) := by decide +kernel
theorem dX11_chain_15 : decode cX11_chain 15 = .ok (.ifCond .ne 10, 3) := by decide +kernel
theorem dX11_chain_18 : decode cX11_chain 18 = .ok (.aload_n 0, 1) := by decide +kernel
theorem dX11_chain_19 : decode cX11_chain 19 = .ok (.ldc 107, 2) := by decide +kernel
theorem dX11_chain_21 : decode cX11_chain 21 = .ok (.invokevirtual 108, 3) := by decide +kernel
theorem dX11_chain_24 : decode cX11_chain 24 = .ok (.ireturn, 1) := by decide +kernel
theorem dX11_chain_25 : decode cX11_chain 25 = .ok (.aload_n 0, 1) := by decide +kernel
theorem dX11_chain_26 : decode cX11_chain 26 = .ok (.getfield 65, 3) := by decide +kernel
theorem dX11_chain_29 : decode cX11_chain 29 = .ok (.iload_n 1, 1) := by decide +kernel
theorem dX11_chain_30 : decode cX11_chain 30 = .ok (.iload_n 2, 1) := by decide +kernel
theorem dX11_chain_31 : decode cX11_chain 31 = .ok (.invokevirtual 199, 3) := by decide +kernel
theorem dX11_chain_34 : decode cX11_chain 34 = .ok (.iload_n 3, 1) := by decide +kernel
theorem dX11_chain_35 : decode cX11_chain 35 = .ok (.ifCond .eq 13, 3) := by decide +kernel
theorem dX11_chain_38 : decode cX11_chain 38 = .ok (.aload_n 0, 1) := by decide +kernel
theorem dX11_chain_39 : decode cX11_chain 39 = .ok (.getfield 65, 3) := by decide +kernel
theorem dX11_chain_42 : decode cX11_chain 42 = .ok (.invokevirtual 203, 3) := by decide +kernel
theorem dX11_chain_45 : decode cX11_chain 45 = .ok (.goto 10, 3) := by decide +kernel
theorem dX11_chain_48 : decode cX11_chain 48 = .ok (.aload_n 0, 1) := by decide +kernel
theorem dX11_chain_49 : decode cX11_chain 49 = .ok (.getfield 65, 3) := by decide +kernel
theorem dX11_chain_52 : decode cX11_chain 52 = .ok (.invokevirtual 206, 3) := by decide +kernel
theorem dX11_chain_55 : decode cX11_chain 55 = .ok (.ireturn, 1) := by decide +kernel
theorem dX11_doubles_0 : decode cX11_doubles 0 = .ok (.aload_n 0, 1) := by decide +kernel
theorem dX11_doubles_1 : decode cX11_doubles 1 = .ok (.getfield 34, 3) := by decide +kernel
theorem dX11_doubles_4 : decode cX11_doubles 4 = .ok (.iload_n 1, 1) := by decide +kernel
theorem dX11_doubles_5 : decode cX11_doubles 5 = .ok (.invokevirtual 129, 3) := by decide +kernel
theorem dX11_doubles_8 : decode cX11_doubles 8 = .ok (.ifCond .ne 10, 3) := by decide +kernel
theorem dX11_doubles_11 : decode cX11_doubles 11 = .ok (.aload_n 0, 1) := by decide +kernel
theorem dX11_doubles_12 : decode cX11_doubles 12 = .ok (.ldc 107, 2) := by decide +kernel
theorem dX11_doubles_14 : decode cX11_doubles 14 = .ok (.invokevirtual 108, 3) := by decide +kernel
theorem dX11_doubles_17 : decode cX11_doubles 17 = .ok (.ireturn, 1) := by decide +kernel
theorem dX11_doubles_18 : decode cX11_doubles 18 = .ok (.aload_n 0, 1) := by decide +kernel
theorem dX11_doubles_19 : decode cX11_doubles 19 = .ok (.getfield 65, 3) := by decide +kernel
theorem dX11_doubles_22 : decode cX11_doubles 22 = .ok (.iload_n 1, 1) := by decide +kernel
theorem dX11_doubles_23 : decode cX11_doubles 23 = .ok (.invokevirtual 209, 3) := by decide +kernel
theorem dX11_doubles_26 : decode cX11_doubles 26 = .ok (.ireturn, 1) := by decide +kernel
theorem dX11_report_0 : decode cX11_report 0 = .ok (.aload_n 0, 1) := by decide +kernel
theorem dX11_report_1 : decode cX11_report 1 = .ok (.getfield 30, 3) := by decide +kernel
theorem dX11_report_4 : decode cX11_report 4 = .ok (.iload_n 1, 1) := by decide +kernel
theorem dX11_report_5 : decode cX11_report 5 = .ok (.invokevirtual 129, 3) := by decide +kernel
theorem dX11_report_8 : decode cX11_report 8 = .ok (.ifCond .eq 21, 3) := by decide +kernel
theorem dX11_report_11 : decode cX11_report 11 = .ok (.iload_n 2, 1) := by decide +kernel
theorem dX11_report_12 : decode cX11_report 12 = .ok (.invokestatic 99, 3) := by decide +kernel
theorem dX11_report_15 : decode cX11_report 15 = .ok (.ifCond .eq 14, 3) := by decide +kernel
theorem dX11_report_18 : decode cX11_report 18 = .ok (.iload_n 3, 1) := by decide +kernel
theorem dX11_report_19 : decode cX11_report 19 = .ok (.iconst 0, 1) := by decide +kernel
theorem dX11_report_20 : decode cX11_report 20 = .ok (.sipush 4000, 3) := by decide +kernel
theorem dX11_report_23 : decode cX11_report 23 = .ok (.invokestatic 103, 3) := by decide +kernel
theorem dX11_report_26 : decode cX11_report 26 = .ok (.ifCond .ne 10, 3) := by decide +kernel
theorem dX11_report_29 : decode cX11_report 29 = .ok (.aload_n 0, 1) := by decide +kernel
theorem dX11_report_30 : decode cX11_report 30 = .ok (.ldc 107, 2) := by decide +kernel
theorem dX11_report_32 : decode cX11_report 32 = .ok (.invokevirtual 108, 3) := by decide +kernel
theorem dX11_report_35 : decode cX11_report 35 = .ok (.ireturn, 1) := by decide +kernel
theorem dX11_report_36 : decode cX11_report 36 = .ok (.aload_n 0, 1) := by decide +kernel
theorem dX11_report_37 : decode cX11_report 37 = .ok (.aload_n 0, 1) := by decide +kernel
theorem dX11_report_38 : decode cX11_report 38 = .ok (.getfield 74, 3) := by decide +kernel
theorem dX11_report_41 : decode cX11_report 41 = .ok (.iload_n 1, 1) := by decide +kernel
theorem dX11_report_42 : decode cX11_report 42 = .ok (.iload_n 2, 1) := by decide +kernel
theorem dX11_report_43 : decode cX11_report 43 = .ok (.iload_n 3, 1) := by decide +kernel
theorem dX11_report_44 : decode cX11_report 44 = .ok (.invokevirtual 212, 3) := by decide +kernel
theorem dX11_report_47 : decode cX11_report 47 = .ok (.invokevirtual 108, 3) := by decide +kernel
theorem dX11_report_50 : decode cX11_report 50 = .ok (.ireturn, 1) := by decide +kernel
theorem dX11_cannot_0 : decode cX11_cannot 0 = .ok (.aload_n 0, 1) := by decide +kernel
theorem dX11_cannot_1 : decode cX11_cannot 1 = .ok (.getfield 30, 3) := by decide +kernel
theorem dX11_cannot_4 : decode cX11_cannot 4 = .ok (.iload_n 1, 1) := by decide +kernel
theorem dX11_cannot_5 : decode cX11_cannot 5 = .ok (.invokevirtual 129, 3) := by decide +kernel
theorem dX11_cannot_8 : decode cX11_cannot 8 = .ok (.ifCond .ne 10, 3) := by decide +kernel
theorem dX11_cannot_11 : decode cX11_cannot 11 = .ok (.aload_n 0, 1) := by decide +kernel
theorem dX11_cannot_12 : decode cX11_cannot 12 = .ok (.ldc 107, 2) := by decide +kernel
theorem dX11_cannot_14 : decode cX11_cannot 14 = .ok (.invokevirtual 108, 3) := by decide +kernel
theorem dX11_cannot_17 : decode cX11_cannot 17 = .ok (.ireturn, 1) := by decide +kernel
theorem dX11_cannot_18 : decode cX11_cannot 18 = .ok (.aload_n 0, 1) := by decide +kernel
theorem dX11_cannot_19 : decode cX11_cannot 19 = .ok (.getfield 74, 3) := by decide +kernel
theorem dX11_cannot_22 : decode cX11_cannot 22 = .ok (.iload_n 1, 1) := by decide +kernel
theorem dX11_cannot_23 : decode cX11_cannot 23 = .ok (.invokevirtual 213, 3) := by decide +kernel
theorem dX11_cannot_26 : decode cX11_cannot 26 = .ok (.aload_n 0, 1) := by decide +kernel
theorem dX11_cannot_27 : decode cX11_cannot 27 = .ok (.iload_n 2, 1) := by decide +kernel
theorem dX11_cannot_28 : decode cX11_cannot 28 = .ok (.ifCond .eq 13, 3) := by decide +kernel
theorem dX11_cannot_31 : decode cX11_cannot 31 = .ok (.aload_n 0, 1) := by decide +kernel
theorem dX11_cannot_32 : decode cX11_cannot 32 = .ok (.getfield 74, 3) := by decide +kernel
theorem dX11_cannot_35 : decode cX11_cannot 35 = .ok (.invokevirtual 217, 3) := by decide +kernel
theorem dX11_cannot_38 : decode cX11_cannot 38 = .ok (.goto 10, 3) := by decide +kernel
theorem dX11_cannot_41 : decode cX11_cannot 41 = .ok (.aload_n 0, 1) := by decide +kernel
theorem dX11_cannot_42 : decode cX11_cannot 42 = .ok (.getfield 74, 3) := by decide +kernel
theorem dX11_cannot_45 : decode cX11_cannot 45 = .ok (.invokevirtual 220, 3) := by decide +kernel
theorem dX11_cannot_48 : decode cX11_cannot 48 = .ok (.invokevirtual 108, 3) := by decide +kernel
theorem dX11_cannot_51 : decode cX11_cannot 51 = .ok (.ireturn, 1) := by decide +kernel
theorem dX11_trusts_0 : decode cX11_trusts 0 = .ok (.iload_n 1, 1) := by decide +kernel
theorem dX11_trusts_1 : decode cX11_trusts 1 = .ok (.invokestatic 193, 3) := by decide +kernel
theorem dX11_trusts_4 : decode cX11_trusts 4 = .ok (.ifCond .ne 10, 3) := by decide +kernel
theorem dX11_trusts_7 : decode cX11_trusts 7 = .ok (.aload_n 0, 1) := by decide +kernel
theorem dX11_trusts_8 : decode cX11_trusts 8 = .ok (.ldc 107, 2) := by decide +kernel
theorem dX11_trusts_10 : decode cX11_trusts 10 = .ok (.invokevirtual 108, 3) := by decide +kernel
theorem dX11_trusts_13 : decode cX11_trusts 13 = .ok (.ireturn, 1) := by decide +kernel
theorem dX11_trusts_14 : decode cX11_trusts 14 = .ok (.aload_n 0, 1) := by decide +kernel
theorem dX11_trusts_15 : decode cX11_trusts 15 = .ok (.aload_n 0, 1) := by decide +kernel
theorem dX11_trusts_16 : decode cX11_trusts 16 = .ok (.getfield 65, 3) := by decide +kernel
theorem dX11_trusts_19 : decode cX11_trusts 19 = .ok (.iload_n 1, 1) := by decide +kernel
theorem dX11_trusts_20 : decode cX11_trusts 20 = .ok (.iload_n 2, 1) := by decide +kernel
theorem dX11_trusts_21 : decode cX11_trusts 21 = .ok (.invokevirtual 223, 3) := by decide +kernel
theorem dX11_trusts_24 : decode cX11_trusts 24 = .ok (.invokevirtual 108, 3) := by decide +kernel
theorem dX11_trusts_27 : decode cX11_trusts 27 = .ok (.ireturn, 1) := by decide +kernel
theorem dX11_trust_0 : decode cX11_trust 0 = .ok (.iload_n 1, 1) := by decide +kernel
theorem dX11_trust_1 : decode cX11_trust 1 = .ok (.invokestatic 193, 3) := by decide +kernel
theorem dX11_trust_4 : decode cX11_trust 4 = .ok (.ifCond .ne 10, 3) := by decide +kernel
theorem dX11_trust_7 : decode cX11_trust 7 = .ok (.aload_n 0, 1) := by decide +kernel
theorem dX11_trust_8 : decode cX11_trust 8 = .ok (.ldc 107, 2) := by decide +kernel
theorem dX11_trust_10 : decode cX11_trust 10 = .ok (.invokevirtual 108, 3) := by decide +kernel
theorem dX11_trust_13 : decode cX11_trust 13 = .ok (.ireturn, 1) := by decide +kernel
theorem dX11_trust_14 : decode cX11_trust 14 = .ok (.iload_n 2, 1) := by decide +kernel
theorem dX11_trust_15 : decode cX11_trust 15 = .ok (.ifCond .eq 14, 3) := by decide +kernel
theorem dX11_trust_18 : decode cX11_trust 18 = .ok (.aload_n 0, 1) := by decide +kernel
theorem dX11_trust_19 : decode cX11_trust 19 = .ok (.getfield 65, 3) := by decide +kernel
theorem dX11_trust_22 : decode cX11_trust 22 = .ok (.iload_n 1, 1) := by decide +kernel
theorem dX11_trust_23 : decode cX11_trust 23 = .ok (.invokevirtual 227, 3) := by decide +kernel
theorem dX11_trust_26 : decode cX11_trust 26 = .ok (.goto 11, 3) := by decide +kernel
theorem dX11_trust_29 : decode cX11_trust 29 = .ok (.aload_n 0, 1) := by decide +kernel
theorem dX11_trust_30 : decode cX11_trust 30 = .ok (.getfield 65, 3) := by decide +kernel
theorem dX11_trust_33 : decode cX11_trust 33 = .ok (.iload_n 1, 1) := by decide +kernel
theorem dX11_trust_34 : decode cX11_trust 34 = .ok (.invokevirtual 230, 3) := by decide +kernel
theorem dX11_trust_37 : decode cX11_trust 37 = .ok (.ireturn, 1) := by decide +kernel
theorem dX11_owe_0 : decode cX11_owe 0 = .ok (.iload_n 1, 1) := by decide +kernel
theorem dX11_owe_1 : decode cX11_owe 1 = .ok (.invokestatic 193, 3) := by decide +kernel
theorem dX11_owe_4 : decode cX11_owe 4 = .ok (.ifCond .eq 21, 3) := by decide +kernel
theorem dX11_owe_7 : decode cX11_owe 7 = .ok (.iload_n 2, 1) := by decide +kernel
theorem dX11_owe_8 : decode cX11_owe 8 = .ok (.invokestatic 193, 3) := by decide +kernel
theorem dX11_owe_11 : decode cX11_owe 11 = .ok (.ifCond .eq 14, 3) := by decide +kernel
theorem dX11_owe_14 : decode cX11_owe 14 = .ok (.iload_n 3, 1) := by decide +kernel
theorem dX11_owe_15 : decode cX11_owe 15 = .ok (.bipush (-99), 2) := by decide +kernel
theorem dX11_owe_17 : decode cX11_owe 17 = .ok (.bipush 99, 2) := by decide +kernel
theorem dX11_owe_19 : decode cX11_owe 19 = .ok (.invokestatic 103, 3) := by decide +kernel
theorem dX11_owe_22 : decode cX11_owe 22 = .ok (.ifCond .ne 10, 3) := by decide +kernel
theorem dX11_owe_25 : decode cX11_owe 25 = .ok (.aload_n 0, 1) := by decide +kernel
theorem dX11_owe_26 : decode cX11_owe 26 = .ok (.ldc 107, 2) := by decide +kernel
theorem dX11_owe_28 : decode cX11_owe 28 = .ok (.invokevirtual 108, 3) := by decide +kernel
theorem dX11_owe_31 : decode cX11_owe 31 = .ok (.ireturn, 1) := by decide +kernel
theorem dX11_owe_32 : decode cX11_owe 32 = .ok (.iload_n 1, 1) := by decide +kernel
theorem dX11_owe_33 : decode cX11_owe 33 = .ok (.iload_n 2, 1) := by decide +kernel
theorem dX11_owe_34 : decode cX11_owe 34 = .ok (.if_icmp .ne 10, 3) := by decide +kernel
theorem dX11_owe_37 : decode cX11_owe 37 = .ok (.aload_n 0, 1) := by decide +kernel
theorem dX11_owe_38 : decode cX11_owe 38 = .ok (.ldc 142, 2) := by decide +kernel
theorem dX11_owe_40 : decode cX11_owe 40 = .ok (.invokevirtual 108, 3) := by decide +kernel
theorem dX11_owe_43 : decode cX11_owe 43 = .ok (.ireturn, 1) := by decide +kernel
theorem dX11_owe_44 : decode cX11_owe 44 = .ok (.aload_n 0, 1) := by decide +kernel
theorem dX11_owe_45 : decode cX11_owe 45 = .ok (.aload_n 0, 1) := by decide +kernel
theorem dX11_owe_46 : decode cX11_owe 46 = .ok (.getfield 81, 3) := by decide +kernel
theorem dX11_owe_49 : decode cX11_owe 49 = .ok (.iload_n 1, 1) := by decide +kernel
theorem dX11_owe_50 : decode cX11_owe 50 = .ok (.iload_n 2, 1) := by decide +kernel
theorem dX11_owe_51 : decode cX11_owe 51 = .ok (.iload_n 3, 1) := by decide +kernel
theorem dX11_owe_52 : decode cX11_owe 52 = .ok (.invokevirtual 233, 3) := by decide +kernel
theorem dX11_owe_55 : decode cX11_owe 55 = .ok (.invokevirtual 108, 3) := by decide +kernel
theorem dX11_owe_58 : decode cX11_owe 58 = .ok (.ireturn, 1) := by decide +kernel
theorem dX11_net_0 : decode cX11_net 0 = .ok (.iload_n 1, 1) := by decide +kernel
theorem dX11_net_1 : decode cX11_net 1 = .ok (.invokestatic 193, 3) := by decide +kernel
theorem dX11_net_4 : decode cX11_net 4 = .ok (.ifCond .ne 10, 3) := by decide +kernel
theorem dX11_net_7 : decode cX11_net 7 = .ok (.aload_n 0, 1) := by decide +kernel
theorem dX11_net_8 : decode cX11_net 8 = .ok (.ldc 107, 2) := by decide +kernel
theorem dX11_net_10 : decode cX11_net 10 = .ok (.invokevirtual 108, 3) := by decide +kernel
theorem dX11_net_13 : decode cX11_net 13 = .ok (.ireturn, 1) := by decide +kernel
theorem dX11_net_14 : decode cX11_net 14 = .ok (.aload_n 0, 1) := by decide +kernel
theorem dX11_net_15 : decode cX11_net 15 = .ok (.getfield 81, 3) := by decide +kernel
theorem dX11_net_18 : decode cX11_net 18 = .ok (.iload_n 1, 1) := by decide +kernel
theorem dX11_net_19 : decode cX11_net 19 = .ok (.invokevirtual 236, 3) := by decide +kernel
theorem dX11_net_22 : decode cX11_net 22 = .ok (.ireturn, 1) := by decide +kernel
theorem dX11_clearing_0 : decode cX11_clearing 0 = .ok (.iload_n 1, 1) := by decide +kernel
theorem dX11_clearing_1 : decode cX11_clearing 1 = .ok (.iconst (-1), 1) := by decide +kernel
theorem dX11_clearing_2 : decode cX11_clearing 2 = .ok (.if_icmp .ge 10, 3) := by decide +kernel
theorem dX11_clearing_5 : decode cX11_clearing 5 = .ok (.aload_n 0, 1) := by decide +kernel
theorem dX11_clearing_6 : decode cX11_clearing 6 = .ok (.ldc 107, 2) := by decide +kernel
theorem dX11_clearing_8 : decode cX11_clearing 8 = .ok (.invokevirtual 108, 3) := by decide +kernel
theorem dX11_clearing_11 : decode cX11_clearing 11 = .ok (.ireturn, 1) := by decide +kernel
theorem dX11_clearing_12 : decode cX11_clearing 12 = .ok (.aload_n 0, 1) := by decide +kernel
theorem dX11_clearing_13 : decode cX11_clearing 13 = .ok (.getfield 81, 3) := by decide +kernel
theorem dX11_clearing_16 : decode cX11_clearing 16 = .ok (.invokevirtual 239, 3) := by decide +kernel
theorem dX11_clearing_19 : decode cX11_clearing 19 = .ok (.istore_n 2, 1) := by decide +kernel
theorem dX11_clearing_20 : decode cX11_clearing 20 = .ok (.aload_n 0, 1) := by decide +kernel
theorem dX11_clearing_21 : decode cX11_clearing 21 = .ok (.iload_n 1, 1) := by decide +kernel
theorem dX11_clearing_22 : decode cX11_clearing 22 = .ok (.iconst (-1), 1) := by decide +kernel
theorem dX11_clearing_23 : decode cX11_clearing 23 = .ok (.if_icmp .ne 7, 3) := by decide +kernel
theorem dX11_clearing_26 : decode cX11_clearing 26 = .ok (.iload_n 2, 1) := by decide +kernel
theorem dX11_clearing_27 : decode cX11_clearing 27 = .ok (.goto 11, 3) := by decide +kernel
theorem dX11_clearing_30 : decode cX11_clearing 30 = .ok (.aload_n 0, 1) := by decide +kernel
theorem dX11_clearing_31 : decode cX11_clearing 31 = .ok (.getfield 81, 3) := by decide +kernel
theorem dX11_clearing_34 : decode cX11_clearing 34 = .ok (.iload_n 1, 1) := by decide +kernel
theorem dX11_clearing_35 : decode cX11_clearing 35 = .ok (.invokevirtual 242, 3) := by decide +kernel
theorem dX11_clearing_38 : decode cX11_clearing 38 = .ok (.invokevirtual 108, 3) := by decide +kernel
theorem dX11_clearing_41 : decode cX11_clearing 41 = .ok (.ireturn, 1) := by decide +kernel
theorem dX11_clear_0 : decode cX11_clear 0 = .ok (.aload_n 0, 1) := by decide +kernel
theorem dX11_clear_1 : decode cX11_clear 1 = .ok (.getfield 81, 3) := by decide +kernel
theorem dX11_clear_4 : decode cX11_clear 4 = .ok (.invokevirtual 239, 3) := by decide +kernel
theorem dX11_clear_7 : decode cX11_clear 7 = .ok (.istore_n 1, 1) := by decide +kernel
theorem dX11_clear_8 : decode cX11_clear 8 = .ok (.aload_n 0, 1) := by decide +kernel
theorem dX11_clear_9 : decode cX11_clear 9 = .ok (.getfield 81, 3) := by decide +kernel
theorem dX11_clear_12 : decode cX11_clear 12 = .ok (.invokevirtual 245, 3) := by decide +kernel
theorem dX11_clear_15 : decode cX11_clear 15 = .ok (.iload_n 1, 1) := by decide +kernel
theorem dX11_clear_16 : decode cX11_clear 16 = .ok (.ireturn, 1) := by decide +kernel
theorem dX11_text_0 : decode cX11_text 0 = .ok (.iload_n 1, 1) := by decide +kernel
theorem dX11_text_1 : decode cX11_text 1 = .ok (.invokestatic 248, 3) := by decide +kernel
theorem dX11_text_4 : decode cX11_text 4 = .ok (.ifCond .ne 10, 3) := by decide +kernel
theorem dX11_text_7 : decode cX11_text 7 = .ok (.aload_n 0, 1) := by decide +kernel
theorem dX11_text_8 : decode cX11_text 8 = .ok (.ldc 107, 2) := by decide +kernel
theorem dX11_text_10 : decode cX11_text 10 = .ok (.invokevirtual 108, 3) := by decide +kernel
theorem dX11_text_13 : decode cX11_text 13 = .ok (.ireturn, 1) := by decide +kernel
theorem dX11_text_14 : decode cX11_text 14 = .ok (.aload_n 0, 1) := by decide +kernel
theorem dX11_text_15 : decode cX11_text 15 = .ok (.getfield 94, 3) := by decide +kernel
theorem dX11_text_18 : decode cX11_text 18 = .ok (.iload_n 1, 1) := by decide +kernel
theorem dX11_text_19 : decode cX11_text 19 = .ok (.aaload, 1) := by decide +kernel
theorem dX11_text_20 : decode cX11_text 20 = .ok (.invokevirtual 251, 3) := by decide +kernel
theorem dX11_text_23 : decode cX11_text 23 = .ok (.ifCond .eq 10, 3) := by decide +kernel
theorem dX11_text_26 : decode cX11_text 26 = .ok (.aload_n 0, 1) := by decide +kernel
theorem dX11_text_27 : decode cX11_text 27 = .ok (.ldc 255, 2) := by decide +kernel
theorem dX11_text_29 : decode cX11_text 29 = .ok (.invokevirtual 108, 3) := by decide +kernel
theorem dX11_text_32 : decode cX11_text 32 = .ok (.ireturn, 1) := by decide +kernel
theorem dX11_text_33 : decode cX11_text 33 = .ok (.aload_n 0, 1) := by decide +kernel
theorem dX11_text_34 : decode cX11_text 34 = .ok (.aload_n 0, 1) := by decide +kernel
theorem dX11_text_35 : decode cX11_text 35 = .ok (.getfield 88, 3) := by decide +kernel
theorem dX11_text_38 : decode cX11_text 38 = .ok (.aload_n 0, 1) := by decide +kernel
theorem dX11_text_39 : decode cX11_text 39 = .ok (.getfield 94, 3) := by decide +kernel
theorem dX11_text_42 : decode cX11_text 42 = .ok (.iload_n 1, 1) := by decide +kernel
theorem dX11_text_43 : decode cX11_text 43 = .ok (.aaload, 1) := by decide +kernel
theorem dX11_text_44 : decode cX11_text 44 = .ok (.invokevirtual 256, 3) := by decide +kernel
theorem dX11_text_47 : decode cX11_text 47 = .ok (.invokevirtual 108, 3) := by decide +kernel
theorem dX11_text_50 : decode cX11_text 50 = .ok (.ireturn, 1) := by decide +kernel
theorem dX11_wrong_0 : decode cX11_wrong 0 = .ok (.aload_n 0, 1) := by decide +kernel
theorem dX11_wrong_1 : decode cX11_wrong 1 = .ok (.getfield 88, 3) := by decide +kernel
theorem dX11_wrong_4 : decode cX11_wrong 4 = .ok (.invokevirtual 260, 3) := by decide +kernel
theorem dX11_wrong_7 : decode cX11_wrong 7 = .ok (.ireturn, 1) := by decide +kernel
theorem dX11_claim_0 : decode cX11_claim 0 = .ok (.aload_n 0, 1) := by decide +kernel
theorem dX11_claim_1 : decode cX11_claim 1 = .ok (.getfield 34, 3) := by decide +kernel
theorem dX11_claim_4 : decode cX11_claim 4 = .ok (.iload_n 1, 1) := by decide +kernel
theorem dX11_claim_5 : decode cX11_claim 5 = .ok (.invokevirtual 129, 3) := by decide +kernel
theorem dX11_claim_8 : decode cX11_claim 8 = .ok (.ifCond .eq 21, 3) := by decide +kernel
theorem dX11_claim_11 : decode cX11_claim 11 = .ok (.iload_n 2, 1) := by decide +kernel
theorem dX11_claim_12 : decode cX11_claim 12 = .ok (.iconst 0, 1) := by decide +kernel
theorem dX11_claim_13 : decode cX11_claim 13 = .ok (.sipush 4000, 3) := by decide +kernel
theorem dX11_claim_16 : decode cX11_claim 16 = .ok (.invokestatic 103, 3) := by decide +kernel
theorem dX11_claim_19 : decode cX11_claim 19 = .ok (.ifCond .eq 10, 3) := by decide +kernel
theorem dX11_claim_22 : decode cX11_claim 22 = .ok (.iload_n 3, 1) := by decide +kernel
theorem dX11_claim_23 : decode cX11_claim 23 = .ok (.invokestatic 193, 3) := by decide +kernel
theorem dX11_claim_26 : decode cX11_claim 26 = .ok (.ifCond .ne 10, 3) := by decide +kernel
theorem dX11_claim_29 : decode cX11_claim 29 = .ok (.aload_n 0, 1) := by decide +kernel
theorem dX11_claim_30 : decode cX11_claim 30 = .ok (.ldc 107, 2) := by decide +kernel
theorem dX11_claim_32 : decode cX11_claim 32 = .ok (.invokevirtual 108, 3) := by decide +kernel
theorem dX11_claim_35 : decode cX11_claim 35 = .ok (.ireturn, 1) := by decide +kernel
theorem dX11_claim_36 : decode cX11_claim 36 = .ok (.aload_n 0, 1) := by decide +kernel
theorem dX11_claim_37 : decode cX11_claim 37 = .ok (.getfield 88, 3) := by decide +kernel
theorem dX11_claim_40 : decode cX11_claim 40 = .ok (.invokevirtual 260, 3) := by decide +kernel
theorem dX11_claim_43 : decode cX11_claim 43 = .ok (.iconst (-1), 1) := by decide +kernel
theorem dX11_claim_44 : decode cX11_claim 44 = .ok (.if_icmp .eq 11, 3) := by decide +kernel
theorem dX11_claim_47 : decode cX11_claim 47 = .ok (.aload_n 0, 1) := by decide +kernel
theorem dX11_claim_48 : decode cX11_claim 48 = .ok (.ldc_w 263, 3) := by decide +kernel
theorem dX11_claim_51 : decode cX11_claim 51 = .ok (.invokevirtual 108, 3) := by decide +kernel
theorem dX11_claim_54 : decode cX11_claim 54 = .ok (.ireturn, 1) := by decide +kernel
theorem dX11_claim_55 : decode cX11_claim 55 = .ok (.aload_n 0, 1) := by decide +kernel
theorem dX11_claim_56 : decode cX11_claim 56 = .ok (.getfield 65, 3) := by decide +kernel
theorem dX11_claim_59 : decode cX11_claim 59 = .ok (.iload_n 1, 1) := by decide +kernel
theorem dX11_claim_60 : decode cX11_claim 60 = .ok (.iload_n 3, 1) := by decide +kernel
theorem dX11_claim_61 : decode cX11_claim 61 = .ok (.invokevirtual 199, 3) := by decide +kernel
theorem dX11_claim_64 : decode cX11_claim 64 = .ok (.aload_n 0, 1) := by decide +kernel
theorem dX11_claim_65 : decode cX11_claim 65 = .ok (.getfield 88, 3) := by decide +kernel
theorem dX11_claim_68 : decode cX11_claim 68 = .ok (.iconst 1, 1) := by decide +kernel
theorem dX11_claim_69 : decode cX11_claim 69 = .ok (.aload_n 0, 1) := by decide +kernel
theorem dX11_claim_70 : decode cX11_claim 70 = .ok (.getfield 34, 3) := by decide +kernel
theorem dX11_claim_73 : decode cX11_claim 73 = .ok (.iload_n 1, 1) := by decide +kernel
theorem dX11_claim_74 : decode cX11_claim 74 = .ok (.iconst 5, 1) := by decide +kernel
theorem dX11_claim_75 : decode cX11_claim 75 = .ok (.invokevirtual 132, 3) := by decide +kernel
theorem dX11_claim_78 : decode cX11_claim 78 = .ok (.invokevirtual 264, 3) := by decide +kernel
theorem dX11_claim_81 : decode cX11_claim 81 = .ok (.aload_n 0, 1) := by decide +kernel
theorem dX11_claim_82 : decode cX11_claim 82 = .ok (.getfield 88, 3) := by decide +kernel
theorem dX11_claim_85 : decode cX11_claim 85 = .ok (.iconst 2, 1) := by decide +kernel
theorem dX11_claim_86 : decode cX11_claim 86 = .ok (.iload_n 2, 1) := by decide +kernel
theorem dX11_claim_87 : decode cX11_claim 87 = .ok (.invokevirtual 264, 3) := by decide +kernel
theorem dX11_claim_90 : decode cX11_claim 90 = .ok (.aload_n 0, 1) := by decide +kernel
theorem dX11_claim_91 : decode cX11_claim 91 = .ok (.getfield 88, 3) := by decide +kernel
theorem dX11_claim_94 : decode cX11_claim 94 = .ok (.iconst 3, 1) := by decide +kernel
theorem dX11_claim_95 : decode cX11_claim 95 = .ok (.aload_n 0, 1) := by decide +kernel
theorem dX11_claim_96 : decode cX11_claim 96 = .ok (.getfield 34, 3) := by decide +kernel
theorem dX11_claim_99 : decode cX11_claim 99 = .ok (.iload_n 1, 1) := by decide +kernel
theorem dX11_claim_100 : decode cX11_claim 100 = .ok (.iconst 4, 1) := by decide +kernel
theorem dX11_claim_101 : decode cX11_claim 101 = .ok (.invokevirtual 132, 3) := by decide +kernel
theorem dX11_claim_104 : decode cX11_claim 104 = .ok (.invokevirtual 264, 3) := by decide +kernel
theorem dX11_claim_107 : decode cX11_claim 107 = .ok (.aload_n 0, 1) := by decide +kernel
theorem dX11_claim_108 : decode cX11_claim 108 = .ok (.getfield 88, 3) := by decide +kernel
theorem dX11_claim_111 : decode cX11_claim 111 = .ok (.iconst 4, 1) := by decide +kernel
theorem dX11_claim_112 : decode cX11_claim 112 = .ok (.aload_n 0, 1) := by decide +kernel
theorem dX11_claim_113 : decode cX11_claim 113 = .ok (.getfield 34, 3) := by decide +kernel
theorem dX11_claim_116 : decode cX11_claim 116 = .ok (.iload_n 1, 1) := by decide +kernel
theorem dX11_claim_117 : decode cX11_claim 117 = .ok (.iconst 2, 1) := by decide +kernel
theorem dX11_claim_118 : decode cX11_claim 118 = .ok (.invokevirtual 132, 3) := by decide +kernel
theorem dX11_claim_121 : decode cX11_claim 121 = .ok (.invokevirtual 264, 3) := by decide +kernel
theorem dX11_claim_124 : decode cX11_claim 124 = .ok (.aload_n 0, 1) := by decide +kernel
theorem dX11_claim_125 : decode cX11_claim 125 = .ok (.getfield 88, 3) := by decide +kernel
theorem dX11_claim_128 : decode cX11_claim 128 = .ok (.iconst 5, 1) := by decide +kernel
theorem dX11_claim_129 : decode cX11_claim 129 = .ok (.aload_n 0, 1) := by decide +kernel
theorem dX11_claim_130 : decode cX11_claim 130 = .ok (.getfield 65, 3) := by decide +kernel
theorem dX11_claim_133 : decode cX11_claim 133 = .ok (.iload_n 1, 1) := by decide +kernel
theorem dX11_claim_134 : decode cX11_claim 134 = .ok (.invokevirtual 267, 3) := by decide +kernel
theorem dX11_claim_137 : decode cX11_claim 137 = .ok (.invokevirtual 264, 3) := by decide +kernel
theorem dX11_claim_140 : decode cX11_claim 140 = .ok (.aload_n 0, 1) := by decide +kernel
theorem dX11_claim_141 : decode cX11_claim 141 = .ok (.getfield 88, 3) := by decide +kernel
theorem dX11_claim_144 : decode cX11_claim 144 = .ok (.bipush 6, 2) := by decide +kernel
theorem dX11_claim_146 : decode cX11_claim 146 = .ok (.aload_n 0, 1) := by decide +kernel
theorem dX11_claim_147 : decode cX11_claim 147 = .ok (.getfield 65, 3) := by decide +kernel
theorem dX11_claim_150 : decode cX11_claim 150 = .ok (.aload_n 0, 1) := by decide +kernel
theorem dX11_claim_151 : decode cX11_claim 151 = .ok (.getfield 65, 3) := by decide +kernel
theorem dX11_claim_154 : decode cX11_claim 154 = .ok (.invokevirtual 203, 3) := by decide +kernel
theorem dX11_claim_157 : decode cX11_claim 157 = .ok (.invokevirtual 230, 3) := by decide +kernel
theorem dX11_claim_160 : decode cX11_claim 160 = .ok (.invokevirtual 264, 3) := by decide +kernel
theorem dX11_claim_163 : decode cX11_claim 163 = .ok (.aload_n 0, 1) := by decide +kernel
theorem dX11_claim_164 : decode cX11_claim 164 = .ok (.getfield 88, 3) := by decide +kernel
theorem dX11_claim_167 : decode cX11_claim 167 = .ok (.invokevirtual 270, 3) := by decide +kernel
theorem dX11_claim_170 : decode cX11_claim 170 = .ok (.ldc_w 273, 3) := by decide +kernel
theorem dX11_claim_173 : decode cX11_claim 173 = .ok (.invokestatic 274, 3) := by decide +kernel
theorem dX11_claim_176 : decode cX11_claim 176 = .ok (.ireturn, 1) := by decide +kernel
theorem dX11_proves_0 : decode cX11_proves 0 = .ok (.iload_n 1, 1) := by decide +kernel
theorem dX11_proves_1 : decode cX11_proves 1 = .ok (.invokestatic 248, 3) := by decide +kernel
theorem dX11_proves_4 : decode cX11_proves 4 = .ok (.ifCond .ne 10, 3) := by decide +kernel
theorem dX11_proves_7 : decode cX11_proves 7 = .ok (.aload_n 0, 1) := by decide +kernel
theorem dX11_proves_8 : decode cX11_proves 8 = .ok (.ldc 107, 2) := by decide +kernel
theorem dX11_proves_10 : decode cX11_proves 10 = .ok (.invokevirtual 108, 3) := by decide +kernel
theorem dX11_proves_13 : decode cX11_proves 13 = .ok (.ireturn, 1) := by decide +kernel
theorem dX11_proves_14 : decode cX11_proves 14 = .ok (.aload_n 0, 1) := by decide +kernel
theorem dX11_proves_15 : decode cX11_proves 15 = .ok (.getfield 94, 3) := by decide +kernel
theorem dX11_proves_18 : decode cX11_proves 18 = .ok (.iload_n 1, 1) := by decide +kernel
theorem dX11_proves_19 : decode cX11_proves 19 = .ok (.aaload, 1) := by decide +kernel
theorem dX11_proves_20 : decode cX11_proves 20 = .ok (.invokevirtual 251, 3) := by decide +kernel
theorem dX11_proves_23 : decode cX11_proves 23 = .ok (.ifCond .eq 10, 3) := by decide +kernel
theorem dX11_proves_26 : decode cX11_proves 26 = .ok (.aload_n 0, 1) := by decide +kernel
theorem dX11_proves_27 : decode cX11_proves 27 = .ok (.ldc 255, 2) := by decide +kernel
theorem dX11_proves_29 : decode cX11_proves 29 = .ok (.invokevirtual 108, 3) := by decide +kernel
theorem dX11_proves_32 : decode cX11_proves 32 = .ok (.ireturn, 1) := by decide +kernel
theorem dX11_proves_33 : decode cX11_proves 33 = .ok (.aload_n 0, 1) := by decide +kernel
theorem dX11_proves_34 : decode cX11_proves 34 = .ok (.getfield 94, 3) := by decide +kernel
theorem dX11_proves_37 : decode cX11_proves 37 = .ok (.iload_n 1, 1) := by decide +kernel
theorem dX11_proves_38 : decode cX11_proves 38 = .ok (.aaload, 1) := by decide +kernel
theorem dX11_proves_39 : decode cX11_proves 39 = .ok (.invokevirtual 279, 3) := by decide +kernel
theorem dX11_proves_42 : decode cX11_proves 42 = .ok (.aload_n 0, 1) := by decide +kernel
theorem dX11_proves_43 : decode cX11_proves 43 = .ok (.getfield 30, 3) := by decide +kernel
theorem dX11_proves_46 : decode cX11_proves 46 = .ok (.invokevirtual 179, 3) := by decide +kernel
theorem dX11_proves_49 : decode cX11_proves 49 = .ok (.if_icmp .eq 10, 3) := by decide +kernel
theorem dX11_proves_52 : decode cX11_proves 52 = .ok (.aload_n 0, 1) := by decide +kernel
theorem dX11_proves_53 : decode cX11_proves 53 = .ok (.ldc 142, 2) := by decide +kernel
theorem dX11_proves_55 : decode cX11_proves 55 = .ok (.invokevirtual 108, 3) := by decide +kernel
theorem dX11_proves_58 : decode cX11_proves 58 = .ok (.ireturn, 1) := by decide +kernel
theorem dX11_proves_59 : decode cX11_proves 59 = .ok (.aload_n 0, 1) := by decide +kernel
theorem dX11_proves_60 : decode cX11_proves 60 = .ok (.getfield 51, 3) := by decide +kernel
theorem dX11_proves_63 : decode cX11_proves 63 = .ok (.invokevirtual 163, 3) := by decide +kernel
theorem dX11_proves_66 : decode cX11_proves 66 = .ok (.aload_n 0, 1) := by decide +kernel
theorem dX11_proves_67 : decode cX11_proves 67 = .ok (.getfield 51, 3) := by decide +kernel
theorem dX11_proves_70 : decode cX11_proves 70 = .ok (.aload_n 0, 1) := by decide +kernel
theorem dX11_proves_71 : decode cX11_proves 71 = .ok (.getfield 94, 3) := by decide +kernel
theorem dX11_proves_74 : decode cX11_proves 74 = .ok (.iload_n 1, 1) := by decide +kernel
theorem dX11_proves_75 : decode cX11_proves 75 = .ok (.aaload, 1) := by decide +kernel
theorem dX11_proves_76 : decode cX11_proves 76 = .ok (.invokevirtual 280, 3) := by decide +kernel
theorem dX11_proves_79 : decode cX11_proves 79 = .ok (.ireturn, 1) := by decide +kernel
theorem dX11_sheet_0 : decode cX11_sheet 0 = .ok (.iload_n 1, 1) := by decide +kernel
theorem dX11_sheet_1 : decode cX11_sheet 1 = .ok (.invokestatic 248, 3) := by decide +kernel
theorem dX11_sheet_4 : decode cX11_sheet 4 = .ok (.ifCond .eq 29, 3) := by decide +kernel
theorem dX11_sheet_7 : decode cX11_sheet 7 = .ok (.iload_n 2, 1) := by decide +kernel
theorem dX11_sheet_8 : decode cX11_sheet 8 = .ok (.ifCond .eq 21, 3) := by decide +kernel
theorem dX11_sheet_11 : decode cX11_sheet 11 = .ok (.iload_n 2, 1) := by decide +kernel
theorem dX11_sheet_12 : decode cX11_sheet 12 = .ok (.bipush 8, 2) := by decide +kernel
theorem dX11_sheet_14 : decode cX11_sheet 14 = .ok (.if_icmp .eq 15, 3) := by decide +kernel
theorem dX11_sheet_17 : decode cX11_sheet 17 = .ok (.iload_n 2, 1) := by decide +kernel
theorem dX11_sheet_18 : decode cX11_sheet 18 = .ok (.bipush 16, 2) := by decide +kernel
theorem dX11_sheet_20 : decode cX11_sheet 20 = .ok (.if_icmp .eq 9, 3) := by decide +kernel
theorem dX11_sheet_23 : decode cX11_sheet 23 = .ok (.iload_n 2, 1) := by decide +kernel
theorem dX11_sheet_24 : decode cX11_sheet 24 = .ok (.bipush 32, 2) := by decide +kernel
theorem dX11_sheet_26 : decode cX11_sheet 26 = .ok (.if_icmp .ne 7, 3) := by decide +kernel
theorem dX11_sheet_29 : decode cX11_sheet 29 = .ok (.iconst 1, 1) := by decide +kernel
theorem dX11_sheet_30 : decode cX11_sheet 30 = .ok (.goto 4, 3) := by decide +kernel
theorem dX11_sheet_33 : decode cX11_sheet 33 = .ok (.iconst 0, 1) := by decide +kernel
theorem dX11_sheet_34 : decode cX11_sheet 34 = .ok (.istore 4, 2) := by decide +kernel
theorem dX11_sheet_36 : decode cX11_sheet 36 = .ok (.iload 4, 2) := by decide +kernel
theorem dX11_sheet_38 : decode cX11_sheet 38 = .ok (.ifCond .ne 10, 3) := by decide +kernel
theorem dX11_sheet_41 : decode cX11_sheet 41 = .ok (.aload_n 0, 1) := by decide +kernel
theorem dX11_sheet_42 : decode cX11_sheet 42 = .ok (.ldc 107, 2) := by decide +kernel
theorem dX11_sheet_44 : decode cX11_sheet 44 = .ok (.invokevirtual 108, 3) := by decide +kernel
theorem dX11_sheet_47 : decode cX11_sheet 47 = .ok (.ireturn, 1) := by decide +kernel
theorem dX11_sheet_48 : decode cX11_sheet 48 = .ok (.iload_n 3, 1) := by decide +kernel
theorem dX11_sheet_49 : decode cX11_sheet 49 = .ok (.ifCond .ge 10, 3) := by decide +kernel
theorem dX11_sheet_52 : decode cX11_sheet 52 = .ok (.aload_n 0, 1) := by decide +kernel
theorem dX11_sheet_53 : decode cX11_sheet 53 = .ok (.ldc 142, 2) := by decide +kernel
theorem dX11_sheet_55 : decode cX11_sheet 55 = .ok (.invokevirtual 108, 3) := by decide +kernel
theorem dX11_sheet_58 : decode cX11_sheet 58 = .ok (.ireturn, 1) := by decide +kernel
theorem dX11_sheet_59 : decode cX11_sheet 59 = .ok (.iload_n 3, 1) := by decide +kernel
theorem dX11_sheet_60 : decode cX11_sheet 60 = .ok (.bipush 20, 2) := by decide +kernel
theorem dX11_sheet_62 : decode cX11_sheet 62 = .ok (.if_icmp .le 10, 3) := by decide +kernel
theorem dX11_sheet_65 : decode cX11_sheet 65 = .ok (.aload_n 0, 1) := by decide +kernel
theorem dX11_sheet_66 : decode cX11_sheet 66 = .ok (.ldc 107, 2) := by decide +kernel
theorem dX11_sheet_68 : decode cX11_sheet 68 = .ok (.invokevirtual 108, 3) := by decide +kernel
theorem dX11_sheet_71 : decode cX11_sheet 71 = .ok (.ireturn, 1) := by decide +kernel
theorem dX11_sheet_72 : decode cX11_sheet 72 = .ok (.iload_n 2, 1) := by decide +kernel
theorem dX11_sheet_73 : decode cX11_sheet 73 = .ok (.ifCond .ne 7, 3) := by decide +kernel
theorem dX11_sheet_76 : decode cX11_sheet 76 = .ok (.iconst 0, 1) := by decide +kernel
theorem dX11_sheet_77 : decode cX11_sheet 77 = .ok (.goto 4, 3) := by decide +kernel
theorem dX11_sheet_80 : decode cX11_sheet 80 = .ok (.iload_n 3, 1) := by decide +kernel
theorem dX11_sheet_81 : decode cX11_sheet 81 = .ok (.istore 5, 2) := by decide +kernel
theorem dX11_sheet_83 : decode cX11_sheet 83 = .ok (.aload_n 0, 1) := by decide +kernel
theorem dX11_sheet_84 : decode cX11_sheet 84 = .ok (.getfield 94, 3) := by decide +kernel
theorem dX11_sheet_87 : decode cX11_sheet 87 = .ok (.iload_n 1, 1) := by decide +kernel
theorem dX11_sheet_88 : decode cX11_sheet 88 = .ok (.aaload, 1) := by decide +kernel
theorem dX11_sheet_89 : decode cX11_sheet 89 = .ok (.iload_n 2, 1) := by decide +kernel
theorem dX11_sheet_90 : decode cX11_sheet 90 = .ok (.iload 5, 2) := by decide +kernel
theorem dX11_sheet_92 : decode cX11_sheet 92 = .ok (.invokevirtual 283, 3) := by decide +kernel
theorem dX11_sheet_95 : decode cX11_sheet 95 = .ok (.iload 5, 2) := by decide +kernel
theorem dX11_sheet_97 : decode cX11_sheet 97 = .ok (.ireturn, 1) := by decide +kernel
theorem dX11_put_0 : decode cX11_put 0 = .ok (.iload_n 1, 1) := by decide +kernel
theorem dX11_put_1 : decode cX11_put 1 = .ok (.invokestatic 248, 3) := by decide +kernel
theorem dX11_put_4 : decode cX11_put 4 = .ok (.ifCond .ne 10, 3) := by decide +kernel
theorem dX11_put_7 : decode cX11_put 7 = .ok (.aload_n 0, 1) := by decide +kernel
theorem dX11_put_8 : decode cX11_put 8 = .ok (.ldc 107, 2) := by decide +kernel
theorem dX11_put_10 : decode cX11_put 10 = .ok (.invokevirtual 108, 3) := by decide +kernel
theorem dX11_put_13 : decode cX11_put 13 = .ok (.ireturn, 1) := by decide +kernel
theorem dX11_put_14 : decode cX11_put 14 = .ok (.aload_n 0, 1) := by decide +kernel
theorem dX11_put_15 : decode cX11_put 15 = .ok (.getfield 94, 3) := by decide +kernel
theorem dX11_put_18 : decode cX11_put 18 = .ok (.iload_n 1, 1) := by decide +kernel
theorem dX11_put_19 : decode cX11_put 19 = .ok (.aaload, 1) := by decide +kernel
theorem dX11_put_20 : decode cX11_put 20 = .ok (.invokevirtual 251, 3) := by decide +kernel
theorem dX11_put_23 : decode cX11_put 23 = .ok (.ifCond .eq 10, 3) := by decide +kernel
theorem dX11_put_26 : decode cX11_put 26 = .ok (.aload_n 0, 1) := by decide +kernel
theorem dX11_put_27 : decode cX11_put 27 = .ok (.ldc 255, 2) := by decide +kernel
theorem dX11_put_29 : decode cX11_put 29 = .ok (.invokevirtual 108, 3) := by decide +kernel
theorem dX11_put_32 : decode cX11_put 32 = .ok (.ireturn, 1) := by decide +kernel
theorem dX11_put_33 : decode cX11_put 33 = .ok (.aload_n 0, 1) := by decide +kernel
theorem dX11_put_34 : decode cX11_put 34 = .ok (.getfield 94, 3) := by decide +kernel
theorem dX11_put_37 : decode cX11_put 37 = .ok (.iload_n 1, 1) := by decide +kernel
theorem dX11_put_38 : decode cX11_put 38 = .ok (.aaload, 1) := by decide +kernel
theorem dX11_put_39 : decode cX11_put 39 = .ok (.iload_n 2, 1) := by decide +kernel
theorem dX11_put_40 : decode cX11_put 40 = .ok (.iconst 1, 1) := by decide +kernel
theorem dX11_put_41 : decode cX11_put 41 = .ok (.invokevirtual 286, 3) := by decide +kernel
theorem dX11_put_44 : decode cX11_put 44 = .ok (.ifCond .ne 10, 3) := by decide +kernel
theorem dX11_put_47 : decode cX11_put 47 = .ok (.aload_n 0, 1) := by decide +kernel
theorem dX11_put_48 : decode cX11_put 48 = .ok (.ldc 107, 2) := by decide +kernel
theorem dX11_put_50 : decode cX11_put 50 = .ok (.invokevirtual 108, 3) := by decide +kernel
theorem dX11_put_53 : decode cX11_put 53 = .ok (.ireturn, 1) := by decide +kernel
theorem dX11_put_54 : decode cX11_put 54 = .ok (.aload_n 0, 1) := by decide +kernel
theorem dX11_put_55 : decode cX11_put 55 = .ok (.getfield 94, 3) := by decide +kernel
theorem dX11_put_58 : decode cX11_put 58 = .ok (.iload_n 1, 1) := by decide +kernel
theorem dX11_put_59 : decode cX11_put 59 = .ok (.aaload, 1) := by decide +kernel
theorem dX11_put_60 : decode cX11_put 60 = .ok (.iload_n 2, 1) := by decide +kernel
theorem dX11_put_61 : decode cX11_put 61 = .ok (.iload_n 3, 1) := by decide +kernel
theorem dX11_put_62 : decode cX11_put 62 = .ok (.invokevirtual 289, 3) := by decide +kernel
theorem dX11_put_65 : decode cX11_put 65 = .ok (.iconst 0, 1) := by decide +kernel
theorem dX11_put_66 : decode cX11_put 66 = .ok (.ireturn, 1) := by decide +kernel
theorem dX11_copy_0 : decode cX11_copy 0 = .ok (.iload_n 1, 1) := by decide +kernel
theorem dX11_copy_1 : decode cX11_copy 1 = .ok (.invokestatic 248, 3) := by decide +kernel
theorem dX11_copy_4 : decode cX11_copy 4 = .ok (.ifCond .eq 10, 3) := by decide +kernel
theorem dX11_copy_7 : decode cX11_copy 7 = .ok (.iload_n 3, 1) := by decide +kernel
theorem dX11_copy_8 : decode cX11_copy 8 = .ok (.invokestatic 248, 3) := by decide +kernel
theorem dX11_copy_11 : decode cX11_copy 11 = .ok (.ifCond .ne 10, 3) := by decide +kernel
theorem dX11_copy_14 : decode cX11_copy 14 = .ok (.aload_n 0, 1) := by decide +kernel
theorem dX11_copy_15 : decode cX11_copy 15 = .ok (.ldc 107, 2) := by decide +kernel
theorem dX11_copy_17 : decode cX11_copy 17 = .ok (.invokevirtual 108, 3) := by decide +kernel
theorem dX11_copy_20 : decode cX11_copy 20 = .ok (.ireturn, 1) := by decide +kernel
theorem dX11_copy_21 : decode cX11_copy 21 = .ok (.aload_n 0, 1) := by decide +kernel
theorem dX11_copy_22 : decode cX11_copy 22 = .ok (.getfield 94, 3) := by decide +kernel
theorem dX11_copy_25 : decode cX11_copy 25 = .ok (.iload_n 1, 1) := by decide +kernel
theorem dX11_copy_26 : decode cX11_copy 26 = .ok (.aaload, 1) := by decide +kernel
theorem dX11_copy_27 : decode cX11_copy 27 = .ok (.invokevirtual 251, 3) := by decide +kernel
theorem dX11_copy_30 : decode cX11_copy 30 = .ok (.ifCond .ne 15, 3) := by decide +kernel
theorem dX11_copy_33 : decode cX11_copy 33 = .ok (.aload_n 0, 1) := by decide +kernel
theorem dX11_copy_34 : decode cX11_copy 34 = .ok (.getfield 94, 3) := by decide +kernel
theorem dX11_copy_37 : decode cX11_copy 37 = .ok (.iload_n 3, 1) := by decide +kernel
theorem dX11_copy_38 : decode cX11_copy 38 = .ok (.aaload, 1) := by decide +kernel
theorem dX11_copy_39 : decode cX11_copy 39 = .ok (.invokevirtual 251, 3) := by decide +kernel
theorem dX11_copy_42 : decode cX11_copy 42 = .ok (.ifCond .eq 10, 3) := by decide +kernel
theorem dX11_copy_45 : decode cX11_copy 45 = .ok (.aload_n 0, 1) := by decide +kernel
theorem dX11_copy_46 : decode cX11_copy 46 = .ok (.ldc 255, 2) := by decide +kernel
theorem dX11_copy_48 : decode cX11_copy 48 = .ok (.invokevirtual 108, 3) := by decide +kernel
theorem dX11_copy_51 : decode cX11_copy 51 = .ok (.ireturn, 1) := by decide +kernel
theorem dX11_copy_52 : decode cX11_copy 52 = .ok (.aload_n 0, 1) := by decide +kernel
theorem dX11_copy_53 : decode cX11_copy 53 = .ok (.getfield 94, 3) := by decide +kernel
theorem dX11_copy_56 : decode cX11_copy 56 = .ok (.iload_n 1, 1) := by decide +kernel
theorem dX11_copy_57 : decode cX11_copy 57 = .ok (.aaload, 1) := by decide +kernel
theorem dX11_copy_58 : decode cX11_copy 58 = .ok (.aload_n 0, 1) := by decide +kernel
theorem dX11_copy_59 : decode cX11_copy 59 = .ok (.getfield 94, 3) := by decide +kernel
theorem dX11_copy_62 : decode cX11_copy 62 = .ok (.iload_n 3, 1) := by decide +kernel
theorem dX11_copy_63 : decode cX11_copy 63 = .ok (.aaload, 1) := by decide +kernel
theorem dX11_copy_64 : decode cX11_copy 64 = .ok (.invokevirtual 292, 3) := by decide +kernel
theorem dX11_copy_67 : decode cX11_copy 67 = .ok (.ifCond .ne 10, 3) := by decide +kernel
theorem dX11_copy_70 : decode cX11_copy 70 = .ok (.aload_n 0, 1) := by decide +kernel
theorem dX11_copy_71 : decode cX11_copy 71 = .ok (.ldc 135, 2) := by decide +kernel
theorem dX11_copy_73 : decode cX11_copy 73 = .ok (.invokevirtual 108, 3) := by decide +kernel
theorem dX11_copy_76 : decode cX11_copy 76 = .ok (.ireturn, 1) := by decide +kernel
theorem dX11_copy_77 : decode cX11_copy 77 = .ok (.aload_n 0, 1) := by decide +kernel
theorem dX11_copy_78 : decode cX11_copy 78 = .ok (.getfield 94, 3) := by decide +kernel
theorem dX11_copy_81 : decode cX11_copy 81 = .ok (.iload_n 1, 1) := by decide +kernel
theorem dX11_copy_82 : decode cX11_copy 82 = .ok (.aaload, 1) := by decide +kernel
theorem dX11_copy_83 : decode cX11_copy 83 = .ok (.iload_n 2, 1) := by decide +kernel
theorem dX11_copy_84 : decode cX11_copy 84 = .ok (.iload 5, 2) := by decide +kernel
theorem dX11_copy_86 : decode cX11_copy 86 = .ok (.invokevirtual 286, 3) := by decide +kernel
theorem dX11_copy_89 : decode cX11_copy 89 = .ok (.ifCond .eq 19, 3) := by decide +kernel
theorem dX11_copy_92 : decode cX11_copy 92 = .ok (.aload_n 0, 1) := by decide +kernel
theorem dX11_copy_93 : decode cX11_copy 93 = .ok (.getfield 94, 3) := by decide +kernel
theorem dX11_copy_96 : decode cX11_copy 96 = .ok (.iload_n 3, 1) := by decide +kernel
theorem dX11_copy_97 : decode cX11_copy 97 = .ok (.aaload, 1) := by decide +kernel
theorem dX11_copy_98 : decode cX11_copy 98 = .ok (.iload 4, 2) := by decide +kernel
theorem dX11_copy_100 : decode cX11_copy 100 = .ok (.iload 5, 2) := by decide +kernel
theorem dX11_copy_102 : decode cX11_copy 102 = .ok (.invokevirtual 286, 3) := by decide +kernel
theorem dX11_copy_105 : decode cX11_copy 105 = .ok (.ifCond .ne 10, 3) := by decide +kernel
theorem dX11_copy_108 : decode cX11_copy 108 = .ok (.aload_n 0, 1) := by decide +kernel
theorem dX11_copy_109 : decode cX11_copy 109 = .ok (.ldc 107, 2) := by decide +kernel
theorem dX11_copy_111 : decode cX11_copy 111 = .ok (.invokevirtual 108, 3) := by decide +kernel
theorem dX11_copy_114 : decode cX11_copy 114 = .ok (.ireturn, 1) := by decide +kernel
theorem dX11_copy_115 : decode cX11_copy 115 = .ok (.aload_n 0, 1) := by decide +kernel
theorem dX11_copy_116 : decode cX11_copy 116 = .ok (.getfield 94, 3) := by decide +kernel
theorem dX11_copy_119 : decode cX11_copy 119 = .ok (.iload_n 3, 1) := by decide +kernel
theorem dX11_copy_120 : decode cX11_copy 120 = .ok (.aaload, 1) := by decide +kernel
theorem dX11_copy_121 : decode cX11_copy 121 = .ok (.aload_n 0, 1) := by decide +kernel
theorem dX11_copy_122 : decode cX11_copy 122 = .ok (.getfield 94, 3) := by decide +kernel
theorem dX11_copy_125 : decode cX11_copy 125 = .ok (.iload_n 1, 1) := by decide +kernel
theorem dX11_copy_126 : decode cX11_copy 126 = .ok (.aaload, 1) := by decide +kernel
theorem dX11_copy_127 : decode cX11_copy 127 = .ok (.iload_n 2, 1) := by decide +kernel
theorem dX11_copy_128 : decode cX11_copy 128 = .ok (.iload 4, 2) := by decide +kernel
theorem dX11_copy_130 : decode cX11_copy 130 = .ok (.iload 5, 2) := by decide +kernel
theorem dX11_copy_132 : decode cX11_copy 132 = .ok (.invokevirtual 296, 3) := by decide +kernel
theorem dX11_copy_135 : decode cX11_copy 135 = .ok (.iload 5, 2) := by decide +kernel
theorem dX11_copy_137 : decode cX11_copy 137 = .ok (.ireturn, 1) := by decide +kernel
theorem dX11_undo_0 : decode cX11_undo 0 = .ok (.aload_n 0, 1) := by decide +kernel
theorem dX11_undo_1 : decode cX11_undo 1 = .ok (.aload_n 0, 1) := by decide +kernel
theorem dX11_undo_2 : decode cX11_undo 2 = .ok (.getfield 10, 3) := by decide +kernel
theorem dX11_undo_5 : decode cX11_undo 5 = .ok (.invokevirtual 300, 3) := by decide +kernel
theorem dX11_undo_8 : decode cX11_undo 8 = .ok (.invokevirtual 108, 3) := by decide +kernel
theorem dX11_undo_11 : decode cX11_undo 11 = .ok (.ireturn, 1) := by decide +kernel
theorem dX11_all_0 : decode cX11_all 0 = .ok (.iload_n 1, 1) := by decide +kernel
theorem dX11_all_1 : decode cX11_all 1 = .ok (.tableswitch 84 0 5 #[39, 47, 55, 63, 71, 79], 39) := by decide +kernel
theorem dX11_all_40 : decode cX11_all 40 = .ok (.aload_n 0, 1) := by decide +kernel
theorem dX11_all_41 : decode cX11_all 41 = .ok (.getfield 30, 3) := by decide +kernel
theorem dX11_all_44 : decode cX11_all 44 = .ok (.invokevirtual 179, 3) := by decide +kernel
theorem dX11_all_47 : decode cX11_all 47 = .ok (.ireturn, 1) := by decide +kernel
theorem dX11_all_48 : decode cX11_all 48 = .ok (.aload_n 0, 1) := by decide +kernel
theorem dX11_all_49 : decode cX11_all 49 = .ok (.getfield 34, 3) := by decide +kernel
theorem dX11_all_52 : decode cX11_all 52 = .ok (.invokevirtual 179, 3) := by decide +kernel
theorem dX11_all_55 : decode cX11_all 55 = .ok (.ireturn, 1) := by decide +kernel
theorem dX11_all_56 : decode cX11_all 56 = .ok (.aload_n 0, 1) := by decide +kernel
theorem dX11_all_57 : decode cX11_all 57 = .ok (.getfield 58, 3) := by decide +kernel
theorem dX11_all_60 : decode cX11_all 60 = .ok (.invokevirtual 303, 3) := by decide +kernel
theorem dX11_all_63 : decode cX11_all 63 = .ok (.ireturn, 1) := by decide +kernel
theorem dX11_all_64 : decode cX11_all 64 = .ok (.aload_n 0, 1) := by decide +kernel
theorem dX11_all_65 : decode cX11_all 65 = .ok (.getfield 65, 3) := by decide +kernel
theorem dX11_all_68 : decode cX11_all 68 = .ok (.invokevirtual 304, 3) := by decide +kernel
theorem dX11_all_71 : decode cX11_all 71 = .ok (.ireturn, 1) := by decide +kernel
theorem dX11_all_72 : decode cX11_all 72 = .ok (.aload_n 0, 1) := by decide +kernel
theorem dX11_all_73 : decode cX11_all 73 = .ok (.getfield 74, 3) := by decide +kernel
theorem dX11_all_76 : decode cX11_all 76 = .ok (.invokevirtual 307, 3) := by decide +kernel
theorem dX11_all_79 : decode cX11_all 79 = .ok (.ireturn, 1) := by decide +kernel
theorem dX11_all_80 : decode cX11_all 80 = .ok (.aload_n 0, 1) := by decide +kernel
theorem dX11_all_81 : decode cX11_all 81 = .ok (.getfield 308, 3) := by decide +kernel
theorem dX11_all_84 : decode cX11_all 84 = .ok (.ireturn, 1) := by decide +kernel
theorem dX11_all_85 : decode cX11_all 85 = .ok (.aload_n 0, 1) := by decide +kernel
theorem dX11_all_86 : decode cX11_all 86 = .ok (.ldc 107, 2) := by decide +kernel
theorem dX11_all_88 : decode cX11_all 88 = .ok (.invokevirtual 108, 3) := by decide +kernel
theorem dX11_all_91 : decode cX11_all 91 = .ok (.ireturn, 1) := by decide +kernel
theorem dX11_told_0 : decode cX11_told 0 = .ok (.iload_n 1, 1) := by decide +kernel
theorem dX11_told_1 : decode cX11_told 1 = .ok (.ldc_w 273, 3) := by decide +kernel
theorem dX11_told_4 : decode cX11_told 4 = .ok (.if_icmp .ge 13, 3) := by decide +kernel
theorem dX11_told_7 : decode cX11_told 7 = .ok (.aload_n 0, 1) := by decide +kernel
theorem dX11_told_8 : decode cX11_told 8 = .ok (.dup, 1) := by decide +kernel
theorem dX11_told_9 : decode cX11_told 9 = .ok (.getfield 308, 3) := by decide +kernel
theorem dX11_told_12 : decode cX11_told 12 = .ok (.iconst 1, 1) := by decide +kernel
theorem dX11_told_13 : decode cX11_told 13 = .ok (.iadd, 1) := by decide +kernel
theorem dX11_told_14 : decode cX11_told 14 = .ok (.putfield 308, 3) := by decide +kernel
theorem dX11_told_17 : decode cX11_told 17 = .ok (.iload_n 1, 1) := by decide +kernel
theorem dX11_told_18 : decode cX11_told 18 = .ok (.ireturn, 1) := by decide +kernel
theorem dX11_findingOfRow_0 : decode cX11_findingOfRow 0 = .ok (.aload_n 0, 1) := by decide +kernel
theorem dX11_findingOfRow_1 : decode cX11_findingOfRow 1 = .ok (.getfield 30, 3) := by decide +kernel
theorem dX11_findingOfRow_4 : decode cX11_findingOfRow 4 = .ok (.iload_n 1, 1) := by decide +kernel
theorem dX11_findingOfRow_5 : decode cX11_findingOfRow 5 = .ok (.invokevirtual 129, 3) := by decide +kernel
theorem dX11_findingOfRow_8 : decode cX11_findingOfRow 8 = .ok (.ifCond .eq 19, 3) := by decide +kernel
theorem dX11_findingOfRow_11 : decode cX11_findingOfRow 11 = .ok (.aload_n 0, 1) := by decide +kernel
theorem dX11_findingOfRow_12 : decode cX11_findingOfRow 12 = .ok (.iload_n 2, 1) := by decide +kernel
theorem dX11_findingOfRow_13 : decode cX11_findingOfRow 13 = .ok (.invokevirtual 312, 3) := by decide +kernel
theorem dX11_findingOfRow_16 : decode cX11_findingOfRow 16 = .ok (.ifCond .eq 11, 3) := by decide +kernel
theorem dX11_findingOfRow_19 : decode cX11_findingOfRow 19 = .ok (.aload_n 0, 1) := by decide +kernel
theorem dX11_findingOfRow_20 : decode cX11_findingOfRow 20 = .ok (.iload_n 3, 1) := by decide +kernel
theorem dX11_findingOfRow_21 : decode cX11_findingOfRow 21 = .ok (.invokevirtual 312, 3) := by decide +kernel
theorem dX11_findingOfRow_24 : decode cX11_findingOfRow 24 = .ok (.ifCond .ne 6, 3) := by decide +kernel
theorem dX11_findingOfRow_27 : decode cX11_findingOfRow 27 = .ok (.ldc 107, 2) := by decide +kernel
theorem dX11_findingOfRow_29 : decode cX11_findingOfRow 29 = .ok (.ireturn, 1) := by decide +kernel
theorem dX11_findingOfRow_30 : decode cX11_findingOfRow 30 = .ok (.iload_n 2, 1) := by decide +kernel
theorem dX11_findingOfRow_31 : decode cX11_findingOfRow 31 = .ok (.iconst (-1), 1) := by decide +kernel
theorem dX11_findingOfRow_32 : decode cX11_findingOfRow 32 = .ok (.if_icmp .ne 11, 3) := by decide +kernel
theorem dX11_findingOfRow_35 : decode cX11_findingOfRow 35 = .ok (.iload_n 3, 1) := by decide +kernel
theorem dX11_findingOfRow_36 : decode cX11_findingOfRow 36 = .ok (.iconst (-1), 1) := by decide +kernel
theorem dX11_findingOfRow_37 : decode cX11_findingOfRow 37 = .ok (.if_icmp .eq 14, 3) := by decide +kernel
theorem dX11_findingOfRow_40 : decode cX11_findingOfRow 40 = .ok (.goto 8, 3) := by decide +kernel
theorem dX11_findingOfRow_43 : decode cX11_findingOfRow 43 = .ok (.iload_n 2, 1) := by decide +kernel
theorem dX11_findingOfRow_44 : decode cX11_findingOfRow 44 = .ok (.iload_n 3, 1) := by decide +kernel
theorem dX11_findingOfRow_45 : decode cX11_findingOfRow 45 = .ok (.if_icmp .ne 6, 3) := by decide +kernel
theorem dX11_findingOfRow_48 : decode cX11_findingOfRow 48 = .ok (.ldc 107, 2) := by decide +kernel
theorem dX11_findingOfRow_50 : decode cX11_findingOfRow 50 = .ok (.ireturn, 1) := by decide +kernel
theorem dX11_findingOfRow_51 : decode cX11_findingOfRow 51 = .ok (.aload_n 0, 1) := by decide +kernel
theorem dX11_findingOfRow_52 : decode cX11_findingOfRow 52 = .ok (.getfield 42, 3) := by decide +kernel
theorem dX11_findingOfRow_55 : decode cX11_findingOfRow 55 = .ok (.iload_n 1, 1) := by decide +kernel
theorem dX11_findingOfRow_56 : decode cX11_findingOfRow 56 = .ok (.iload_n 2, 1) := by decide +kernel
theorem dX11_findingOfRow_57 : decode cX11_findingOfRow 57 = .ok (.invokevirtual 150, 3) := by decide +kernel
theorem dX11_findingOfRow_60 : decode cX11_findingOfRow 60 = .ok (.ifCond .eq 19, 3) := by decide +kernel
theorem dX11_findingOfRow_63 : decode cX11_findingOfRow 63 = .ok (.aload_n 0, 1) := by decide +kernel
theorem dX11_findingOfRow_64 : decode cX11_findingOfRow 64 = .ok (.getfield 42, 3) := by decide +kernel
theorem dX11_findingOfRow_67 : decode cX11_findingOfRow 67 = .ok (.iload_n 1, 1) := by decide +kernel
theorem dX11_findingOfRow_68 : decode cX11_findingOfRow 68 = .ok (.iload_n 3, 1) := by decide +kernel
theorem dX11_findingOfRow_69 : decode cX11_findingOfRow 69 = .ok (.invokevirtual 150, 3) := by decide +kernel
theorem dX11_findingOfRow_72 : decode cX11_findingOfRow 72 = .ok (.ifCond .eq 7, 3) := by decide +kernel
theorem dX11_findingOfRow_75 : decode cX11_findingOfRow 75 = .ok (.iconst 0, 1) := by decide +kernel
theorem dX11_findingOfRow_76 : decode cX11_findingOfRow 76 = .ok (.goto 5, 3) := by decide +kernel
theorem dX11_findingOfRow_79 : decode cX11_findingOfRow 79 = .ok (.ldc 135, 2) := by decide +kernel
theorem dX11_findingOfRow_81 : decode cX11_findingOfRow 81 = .ok (.ireturn, 1) := by decide +kernel
theorem dX11_givenTo_0 : decode cX11_givenTo 0 = .ok (.iconst 0, 1) := by decide +kernel
theorem dX11_givenTo_1 : decode cX11_givenTo 1 = .ok (.istore_n 2, 1) := by decide +kernel
theorem dX11_givenTo_2 : decode cX11_givenTo 2 = .ok (.iconst 0, 1) := by decide +kernel
theorem dX11_givenTo_3 : decode cX11_givenTo 3 = .ok (.istore_n 3, 1) := by decide +kernel
theorem dX11_givenTo_4 : decode cX11_givenTo 4 = .ok (.iload_n 3, 1) := by decide +kernel
theorem dX11_givenTo_5 : decode cX11_givenTo 5 = .ok (.aload_n 0, 1) := by decide +kernel
theorem dX11_givenTo_6 : decode cX11_givenTo 6 = .ok (.getfield 34, 3) := by decide +kernel
theorem dX11_givenTo_9 : decode cX11_givenTo 9 = .ok (.invokevirtual 179, 3) := by decide +kernel
theorem dX11_givenTo_12 : decode cX11_givenTo 12 = .ok (.if_icmp .ge 29, 3) := by decide +kernel
theorem dX11_givenTo_15 : decode cX11_givenTo 15 = .ok (.aload_n 0, 1) := by decide +kernel
theorem dX11_givenTo_16 : decode cX11_givenTo 16 = .ok (.getfield 34, 3) := by decide +kernel
theorem dX11_givenTo_19 : decode cX11_givenTo 19 = .ok (.iload_n 3, 1) := by decide +kernel
theorem dX11_givenTo_20 : decode cX11_givenTo 20 = .ok (.bipush 10, 2) := by decide +kernel
theorem dX11_givenTo_22 : decode cX11_givenTo 22 = .ok (.invokevirtual 132, 3) := by decide +kernel
theorem dX11_givenTo_25 : decode cX11_givenTo 25 = .ok (.iload_n 1, 1) := by decide +kernel
theorem dX11_givenTo_26 : decode cX11_givenTo 26 = .ok (.if_icmp .ne 9, 3) := by decide +kernel
theorem dX11_givenTo_29 : decode cX11_givenTo 29 = .ok (.iload_n 2, 1) := by decide +kernel
theorem dX11_givenTo_30 : decode cX11_givenTo 30 = .ok (.iconst 1, 1) := by decide +kernel
theorem dX11_givenTo_31 : decode cX11_givenTo 31 = .ok (.iload_n 3, 1) := by decide +kernel
theorem dX11_givenTo_32 : decode cX11_givenTo 32 = .ok (.ishl, 1) := by decide +kernel
theorem dX11_givenTo_33 : decode cX11_givenTo 33 = .ok (.ior, 1) := by decide +kernel
theorem dX11_givenTo_34 : decode cX11_givenTo 34 = .ok (.istore_n 2, 1) := by decide +kernel
theorem dX11_givenTo_35 : decode cX11_givenTo 35 = .ok (.iinc 3 1, 3) := by decide +kernel
theorem dX11_givenTo_38 : decode cX11_givenTo 38 = .ok (.goto (-34), 3) := by decide +kernel
theorem dX11_givenTo_41 : decode cX11_givenTo 41 = .ok (.iload_n 2, 1) := by decide +kernel
theorem dX11_givenTo_42 : decode cX11_givenTo 42 = .ok (.ireturn, 1) := by decide +kernel
theorem dX11_isLoadOrNone_0 : decode cX11_isLoadOrNone 0 = .ok (.iload_n 1, 1) := by decide +kernel
theorem dX11_isLoadOrNone_1 : decode cX11_isLoadOrNone 1 = .ok (.iconst (-1), 1) := by decide +kernel
theorem dX11_isLoadOrNone_2 : decode cX11_isLoadOrNone 2 = .ok (.if_icmp .eq 14, 3) := by decide +kernel
theorem dX11_isLoadOrNone_5 : decode cX11_isLoadOrNone 5 = .ok (.aload_n 0, 1) := by decide +kernel
theorem dX11_isLoadOrNone_6 : decode cX11_isLoadOrNone 6 = .ok (.getfield 34, 3) := by decide +kernel
theorem dX11_isLoadOrNone_9 : decode cX11_isLoadOrNone 9 = .ok (.iload_n 1, 1) := by decide +kernel
theorem dX11_isLoadOrNone_10 : decode cX11_isLoadOrNone 10 = .ok (.invokevirtual 129, 3) := by decide +kernel
theorem dX11_isLoadOrNone_13 : decode cX11_isLoadOrNone 13 = .ok (.ifCond .eq 7, 3) := by decide +kernel
theorem dX11_isLoadOrNone_16 : decode cX11_isLoadOrNone 16 = .ok (.iconst 1, 1) := by decide +kernel
theorem dX11_isLoadOrNone_17 : decode cX11_isLoadOrNone 17 = .ok (.goto 4, 3) := by decide +kernel
theorem dX11_isLoadOrNone_20 : decode cX11_isLoadOrNone 20 = .ok (.iconst 0, 1) := by decide +kernel
theorem dX11_isLoadOrNone_21 : decode cX11_isLoadOrNone 21 = .ok (.ireturn, 1) := by decide +kernel
theorem dX11_within_0 : decode cX11_within 0 = .ok (.iload_n 0, 1) := by decide +kernel
theorem dX11_within_1 : decode cX11_within 1 = .ok (.iload_n 1, 1) := by decide +kernel
theorem dX11_within_2 : decode cX11_within 2 = .ok (.if_icmp .lt 12, 3) := by decide +kernel
theorem dX11_within_5 : decode cX11_within 5 = .ok (.iload_n 0, 1) := by decide +kernel
theorem dX11_within_6 : decode cX11_within 6 = .ok (.iload_n 2, 1) := by decide +kernel
theorem dX11_within_7 : decode cX11_within 7 = .ok (.if_icmp .gt 7, 3) := by decide +kernel
theorem dX11_within_10 : decode cX11_within 10 = .ok (.iconst 1, 1) := by decide +kernel
theorem dX11_within_11 : decode cX11_within 11 = .ok (.goto 4, 3) := by decide +kernel
theorem dX11_within_14 : decode cX11_within 14 = .ok (.iconst 0, 1) := by decide +kernel
theorem dX11_within_15 : decode cX11_within 15 = .ok (.ireturn, 1) := by decide +kernel
theorem dX11_isTown_0 : decode cX11_isTown 0 = .ok (.iload_n 0, 1) := by decide +kernel
theorem dX11_isTown_1 : decode cX11_isTown 1 = .ok (.iconst 0, 1) := by decide +kernel
theorem dX11_isTown_2 : decode cX11_isTown 2 = .ok (.bipush 7, 2) := by decide +kernel
theorem dX11_isTown_4 : decode cX11_isTown 4 = .ok (.invokestatic 103, 3) := by decide +kernel
theorem dX11_isTown_7 : decode cX11_isTown 7 = .ok (.ireturn, 1) := by decide +kernel
theorem dX11_isLane_0 : decode cX11_isLane 0 = .ok (.iload_n 0, 1) := by decide +kernel
theorem dX11_isLane_1 : decode cX11_isLane 1 = .ok (.ifCond .lt 27, 3) := by decide +kernel
theorem dX11_isLane_4 : decode cX11_isLane 4 = .ok (.iload_n 0, 1) := by decide +kernel
theorem dX11_isLane_5 : decode cX11_isLane 5 = .ok (.bipush 10, 2) := by decide +kernel
theorem dX11_isLane_7 : decode cX11_isLane 7 = .ok (.idiv, 1) := by decide +kernel
theorem dX11_isLane_8 : decode cX11_isLane 8 = .ok (.invokestatic 99, 3) := by decide +kernel
theorem dX11_isLane_11 : decode cX11_isLane 11 = .ok (.ifCond .eq 17, 3) := by decide +kernel
theorem dX11_isLane_14 : decode cX11_isLane 14 = .ok (.iload_n 0, 1) := by decide +kernel
theorem dX11_isLane_15 : decode cX11_isLane 15 = .ok (.bipush 10, 2) := by decide +kernel
theorem dX11_isLane_17 : decode cX11_isLane 17 = .ok (.irem, 1) := by decide +kernel
theorem dX11_isLane_18 : decode cX11_isLane 18 = .ok (.invokestatic 99, 3) := by decide +kernel
theorem dX11_isLane_21 : decode cX11_isLane 21 = .ok (.ifCond .eq 7, 3) := by decide +kernel
theorem dX11_isLane_24 : decode cX11_isLane 24 = .ok (.iconst 1, 1) := by decide +kernel
theorem dX11_isLane_25 : decode cX11_isLane 25 = .ok (.goto 4, 3) := by decide +kernel
theorem dX11_isLane_28 : decode cX11_isLane 28 = .ok (.iconst 0, 1) := by decide +kernel
theorem dX11_isLane_29 : decode cX11_isLane 29 = .ok (.ireturn, 1) := by decide +kernel
theorem dX11_isFirm_0 : decode cX11_isFirm 0 = .ok (.iload_n 0, 1) := by decide +kernel
theorem dX11_isFirm_1 : decode cX11_isFirm 1 = .ok (.iconst 0, 1) := by decide +kernel
theorem dX11_isFirm_2 : decode cX11_isFirm 2 = .ok (.bipush 9, 2) := by decide +kernel
theorem dX11_isFirm_4 : decode cX11_isFirm 4 = .ok (.invokestatic 103, 3) := by decide +kernel
theorem dX11_isFirm_7 : decode cX11_isFirm 7 = .ok (.ireturn, 1) := by decide +kernel
theorem dX11_isSheet_0 : decode cX11_isSheet 0 = .ok (.iload_n 0, 1) := by decide +kernel
theorem dX11_isSheet_1 : decode cX11_isSheet 1 = .ok (.iconst 0, 1) := by decide +kernel
theorem dX11_isSheet_2 : decode cX11_isSheet 2 = .ok (.iconst 3, 1) := by decide +kernel
theorem dX11_isSheet_3 : decode cX11_isSheet 3 = .ok (.invokestatic 103, 3) := by decide +kernel
theorem dX11_isSheet_6 : decode cX11_isSheet 6 = .ok (.ireturn, 1) := by decide +kernel
theorem dX12_init_0 : decode cX12_init 0 = .ok (.aload_n 0, 1) := by decide +kernel
theorem dX12_init_1 : decode cX12_init 1 = .ok (.invokespecial 1, 3) := by decide +kernel
theorem dX12_init_4 : decode cX12_init 4 = .ok (.aload_n 0, 1) := by decide +kernel
theorem dX12_init_5 : decode cX12_init 5 = .ok (.sipush 424, 3) := by decide +kernel
theorem dX12_init_8 : decode cX12_init 8 = .ok (.newarray .int, 2) := by decide +kernel
theorem dX12_init_10 : decode cX12_init 10 = .ok (.putfield 9, 3) := by decide +kernel
theorem dX12_init_13 : decode cX12_init 13 = .ok (.aload_n 0, 1) := by decide +kernel
theorem dX12_init_14 : decode cX12_init 14 = .ok (.sipush 6784, 3) := by decide +kernel
theorem dX12_init_17 : decode cX12_init 17 = .ok (.newarray .int, 2) := by decide +kernel
theorem dX12_init_19 : decode cX12_init 19 = .ok (.putfield 13, 3) := by decide +kernel
theorem dX12_init_22 : decode cX12_init 22 = .ok (.aload_n 0, 1) := by decide +kernel
theorem dX12_init_23 : decode cX12_init 23 = .ok (.iconst 4, 1) := by decide +kernel
theorem dX12_init_24 : decode cX12_init 24 = .ok (.newarray .int, 2) := by decide +kernel
theorem dX12_init_26 : decode cX12_init 26 = .ok (.putfield 16, 3) := by decide +kernel
theorem dX12_init_29 : decode cX12_init 29 = .ok (.aload_n 0, 1) := by decide +kernel
theorem dX12_init_30 : decode cX12_init 30 = .ok (.iconst 4, 1) := by decide +kernel
theorem dX12_init_31 : decode cX12_init 31 = .ok (.newarray .int, 2) := by decide +kernel
theorem dX12_init_33 : decode cX12_init 33 = .ok (.putfield 19, 3) := by decide +kernel
theorem dX12_init_36 : decode cX12_init 36 = .ok (.aload_n 0, 1) := by decide +kernel
theorem dX12_init_37 : decode cX12_init 37 = .ok (.bipush 80, 2) := by decide +kernel
theorem dX12_init_39 : decode cX12_init 39 = .ok (.newarray .int, 2) := by decide +kernel
theorem dX12_init_41 : decode cX12_init 41 = .ok (.putfield 22, 3) := by decide +kernel
theorem dX12_init_44 : decode cX12_init 44 = .ok (.aload_n 0, 1) := by decide +kernel
theorem dX12_init_45 : decode cX12_init 45 = .ok (.bipush 64, 2) := by decide +kernel
theorem dX12_init_47 : decode cX12_init 47 = .ok (.newarray .int, 2) := by decide +kernel
theorem dX12_init_49 : decode cX12_init 49 = .ok (.putfield 25, 3) := by decide +kernel
theorem dX12_init_52 : decode cX12_init 52 = .ok (.aload_n 0, 1) := by decide +kernel
theorem dX12_init_53 : decode cX12_init 53 = .ok (.sipush 486, 3) := by decide +kernel
theorem dX12_init_56 : decode cX12_init 56 = .ok (.newarray .boolean, 2) := by decide +kernel
theorem dX12_init_58 : decode cX12_init 58 = .ok (.putfield 28, 3) := by decide +kernel
theorem dX12_init_61 : decode cX12_init 61 = .ok (.aload_n 0, 1) := by decide +kernel
theorem dX12_init_62 : decode cX12_init 62 = .ok (.sipush 486, 3) := by decide +kernel
theorem dX12_init_65 : decode cX12_init 65 = .ok (.newarray .int, 2) := by decide +kernel
theorem dX12_init_67 : decode cX12_init 67 = .ok (.putfield 32, 3) := by decide +kernel
theorem dX12_init_70 : decode cX12_init 70 = .ok (.aload_n 0, 1) := by decide +kernel
theorem dX12_init_71 : decode cX12_init 71 = .ok (.sipush 486, 3) := by decide +kernel
theorem dX12_init_74 : decode cX12_init 74 = .ok (.newarray .int, 2) := by decide +kernel
theorem dX12_init_76 : decode cX12_init 76 = .ok (.putfield 35, 3) := by decide +kernel
theorem dX12_init_79 : decode cX12_init 79 = .ok (.aload_n 0, 1) := by decide +kernel
theorem dX12_init_80 : decode cX12_init 80 = .ok (.sipush 1792, 3) := by decide +kernel
theorem dX12_init_83 : decode cX12_init 83 = .ok (.newarray .int, 2) := by decide +kernel
theorem dX12_init_85 : decode cX12_init 85 = .ok (.putfield 38, 3) := by decide +kernel
theorem dX12_init_88 : decode cX12_init 88 = .ok (.aload_n 0, 1) := by decide +kernel
theorem dX12_init_89 : decode cX12_init 89 = .ok (.bipush 6, 2) := by decide +kernel
theorem dX12_init_91 : decode cX12_init 91 = .ok (.newarray .int, 2) := by decide +kernel
theorem dX12_init_93 : decode cX12_init 93 = .ok (.putfield 41, 3) := by decide +kernel
theorem dX12_init_96 : decode cX12_init 96 = .ok (.aload_n 0, 1) := by decide +kernel
theorem dX12_init_97 : decode cX12_init 97 = .ok (.bipush 40, 2) := by decide +kernel
theorem dX12_init_99 : decode cX12_init 99 = .ok (.newarray .int, 2) := by decide +kernel
theorem dX12_init_101 : decode cX12_init 101 = .ok (.putfield 44, 3) := by decide +kernel
theorem dX12_init_104 : decode cX12_init 104 = .ok (.aload_n 0, 1) := by decide +kernel
theorem dX12_init_105 : decode cX12_init 105 = .ok (.bipush 10, 2) := by decide +kernel
theorem dX12_init_107 : decode cX12_init 107 = .ok (.newarray .int, 2) := by decide +kernel
theorem dX12_init_109 : decode cX12_init 109 = .ok (.putfield 47, 3) := by decide +kernel
theorem dX12_init_112 : decode cX12_init 112 = .ok (.aload_n 0, 1) := by decide +kernel
theorem dX12_init_113 : decode cX12_init 113 = .ok (.bipush 10, 2) := by decide +kernel
theorem dX12_init_115 : decode cX12_init 115 = .ok (.newarray .int, 2) := by decide +kernel
theorem dX12_init_117 : decode cX12_init 117 = .ok (.putfield 50, 3) := by decide +kernel
theorem dX12_init_120 : decode cX12_init 120 = .ok (.aload_n 0, 1) := by decide +kernel
theorem dX12_init_121 : decode cX12_init 121 = .ok (.iconst 5, 1) := by decide +kernel
theorem dX12_init_122 : decode cX12_init 122 = .ok (.newarray .int, 2) := by decide +kernel
theorem dX12_init_124 : decode cX12_init 124 = .ok (.putfield 53, 3) := by decide +kernel
theorem dX12_init_127 : decode cX12_init 127 = .ok (.aload_n 0, 1) := by decide +kernel
theorem dX12_init_128 : decode cX12_init 128 = .ok (.bipush 20, 2) := by decide +kernel
theorem dX12_init_130 : decode cX12_init 130 = .ok (.newarray .int, 2) := by decide +kernel
theorem dX12_init_132 : decode cX12_init 132 = .ok (.putfield 56, 3) := by decide +kernel
theorem dX12_init_135 : decode cX12_init 135 = .ok (.return_, 1) := by decide +kernel
theorem dX12_finding_0 : decode cX12_finding 0 = .ok (.aload_n 0, 1) := by decide +kernel
theorem dX12_finding_1 : decode cX12_finding 1 = .ok (.dup, 1) := by decide +kernel
theorem dX12_finding_2 : decode cX12_finding 2 = .ok (.getfield 59, 3) := by decide +kernel
theorem dX12_finding_5 : decode cX12_finding 5 = .ok (.iconst 1, 1) := by decide +kernel
theorem dX12_finding_6 : decode cX12_finding 6 = .ok (.iadd, 1) := by decide +kernel
theorem dX12_finding_7 : decode cX12_finding 7 = .ok (.putfield 59, 3) := by decide +kernel
theorem dX12_finding_10 : decode cX12_finding 10 = .ok (.iload_n 1, 1) := by decide +kernel
theorem dX12_finding_11 : decode cX12_finding 11 = .ok (.ireturn, 1) := by decide +kernel
theorem dX12_within_0 : decode cX12_within 0 = .ok (.iload_n 0, 1) := by decide +kernel
theorem dX12_within_1 : decode cX12_within 1 = .ok (.iload_n 1, 1) := by decide +kernel
theorem dX12_within_2 : decode cX12_within 2 = .ok (.if_icmp .lt 12, 3) := by decide +kernel
theorem dX12_within_5 : decode cX12_within 5 = .ok (.iload_n 0, 1) := by decide +kernel
theorem dX12_within_6 : decode cX12_within 6 = .ok (.iload_n 2, 1) := by decide +kernel
theorem dX12_within_7 : decode cX12_within 7 = .ok (.if_icmp .gt 7, 3) := by decide +kernel
theorem dX12_within_10 : decode cX12_within 10 = .ok (.iconst 1, 1) := by decide +kernel
theorem dX12_within_11 : decode cX12_within 11 = .ok (.goto 4, 3) := by decide +kernel
theorem dX12_within_14 : decode cX12_within 14 = .ok (.iconst 0, 1) := by decide +kernel
theorem dX12_within_15 : decode cX12_within 15 = .ok (.ireturn, 1) := by decide +kernel
theorem dX12_isTown_0 : decode cX12_isTown 0 = .ok (.iload_n 0, 1) := by decide +kernel
theorem dX12_isTown_1 : decode cX12_isTown 1 = .ok (.iconst 0, 1) := by decide +kernel
theorem dX12_isTown_2 : decode cX12_isTown 2 = .ok (.bipush 7, 2) := by decide +kernel
theorem dX12_isTown_4 : decode cX12_isTown 4 = .ok (.invokestatic 63, 3) := by decide +kernel
theorem dX12_isTown_7 : decode cX12_isTown 7 = .ok (.ireturn, 1) := by decide +kernel
theorem dX12_isFirm_0 : decode cX12_isFirm 0 = .ok (.iload_n 0, 1) := by decide +kernel
theorem dX12_isFirm_1 : decode cX12_isFirm 1 = .ok (.iconst 0, 1) := by decide +kernel
theorem dX12_isFirm_2 : decode cX12_isFirm 2 = .ok (.bipush 9, 2) := by decide +kernel
theorem dX12_isFirm_4 : decode cX12_isFirm 4 = .ok (.invokestatic 63, 3) := by decide +kernel
theorem dX12_isFirm_7 : decode cX12_isFirm 7 = .ok (.ireturn, 1) := by decide +kernel
theorem dX12_isLorry_0 : decode cX12_isLorry 0 = .ok (.iload_n 1, 1) := by decide +kernel
theorem dX12_isLorry_1 : decode cX12_isLorry 1 = .ok (.iconst 0, 1) := by decide +kernel
theorem dX12_isLorry_2 : decode cX12_isLorry 2 = .ok (.aload_n 0, 1) := by decide +kernel
theorem dX12_isLorry_3 : decode cX12_isLorry 3 = .ok (.getfield 9, 3) := by decide +kernel
theorem dX12_isLorry_6 : decode cX12_isLorry 6 = .ok (.bipush 64, 2) := by decide +kernel
theorem dX12_isLorry_8 : decode cX12_isLorry 8 = .ok (.iaload, 1) := by decide +kernel
theorem dX12_isLorry_9 : decode cX12_isLorry 9 = .ok (.iconst 1, 1) := by decide +kernel
theorem dX12_isLorry_10 : decode cX12_isLorry 10 = .ok (.isub, 1) := by decide +kernel
theorem dX12_isLorry_11 : decode cX12_isLorry 11 = .ok (.invokestatic 63, 3) := by decide +kernel
theorem dX12_isLorry_14 : decode cX12_isLorry 14 = .ok (.ireturn, 1) := by decide +kernel
theorem dX12_isLoad_0 : decode cX12_isLoad 0 = .ok (.iload_n 1, 1) := by decide +kernel
theorem dX12_isLoad_1 : decode cX12_isLoad 1 = .ok (.iconst 0, 1) := by decide +kernel
theorem dX12_isLoad_2 : decode cX12_isLoad 2 = .ok (.aload_n 0, 1) := by decide +kernel
theorem dX12_isLoad_3 : decode cX12_isLoad 3 = .ok (.getfield 9, 3) := by decide +kernel
theorem dX12_isLoad_6 : decode cX12_isLoad 6 = .ok (.bipush 65, 2) := by decide +kernel
theorem dX12_isLoad_8 : decode cX12_isLoad 8 = .ok (.iaload, 1) := by decide +kernel
theorem dX12_isLoad_9 : decode cX12_isLoad 9 = .ok (.iconst 1, 1) := by decide +kernel
theorem dX12_isLoad_10 : decode cX12_isLoad 10 = .ok (.isub, 1) := by decide +kernel
theorem dX12_isLoad_11 : decode cX12_isLoad 11 = .ok (.invokestatic 63, 3) := by decide +kernel
theorem dX12_isLoad_14 : decode cX12_isLoad 14 = .ok (.ireturn, 1) := by decide +kernel
theorem dX12_keep_0 : decode cX12_keep 0 = .ok (.aload_n 0, 1) := by decide +kernel
theorem dX12_keep_1 : decode cX12_keep 1 = .ok (.getfield 67, 3) := by decide +kernel
theorem dX12_keep_4 : decode cX12_keep 4 = .ok (.bipush 16, 2) := by decide +kernel
theorem dX12_keep_6 : decode cX12_keep 6 = .ok (.if_icmp .ne 44, 3) := by decide +kernel
theorem dX12_keep_9 : decode cX12_keep 9 = .ok (.iconst 0, 1) := by decide +kernel
theorem dX12_keep_10 : decode cX12_keep 10 = .ok (.istore_n 1, 1) := by decide +kernel
theorem dX12_keep_11 : decode cX12_keep 11 = .ok (.iload_n 1, 1) := by decide +kernel
theorem dX12_keep_12 : decode cX12_keep 12 = .ok (.sipush 6360, 3) := by decide +kernel
theorem dX12_keep_15 : decode cX12_keep 15 = .ok (.if_icmp .ge 25, 3) := by decide +kernel
theorem dX12_keep_18 : decode cX12_keep 18 = .ok (.aload_n 0, 1) := by decide +kernel
theorem dX12_keep_19 : decode cX12_keep 19 = .ok (.getfield 13, 3) := by decide +kernel
theorem dX12_keep_22 : decode cX12_keep 22 = .ok (.iload_n 1, 1) := by decide +kernel
theorem dX12_keep_23 : decode cX12_keep 23 = .ok (.aload_n 0, 1) := by decide +kernel
theorem dX12_keep_24 : decode cX12_keep 24 = .ok (.getfield 13, 3) := by decide +kernel
theorem dX12_keep_27 : decode cX12_keep 27 = .ok (.iload_n 1, 1) := by decide +kernel
theorem dX12_keep_28 : decode cX12_keep 28 = .ok (.sipush 424, 3) := by decide +kernel
theorem dX12_keep_31 : decode cX12_keep 31 = .ok (.iadd, 1) := by decide +kernel
theorem dX12_keep_32 : decode cX12_keep 32 = .ok (.iaload, 1) := by decide +kernel
theorem dX12_keep_33 : decode cX12_keep 33 = .ok (.iastore, 1) := by decide +kernel
theorem dX12_keep_34 : decode cX12_keep 34 = .ok (.iinc 1 1, 3) := by decide +kernel
theorem dX12_keep_37 : decode cX12_keep 37 = .ok (.goto (-26), 3) := by decide +kernel
theorem dX12_keep_40 : decode cX12_keep 40 = .ok (.aload_n 0, 1) := by decide +kernel
theorem dX12_keep_41 : decode cX12_keep 41 = .ok (.dup, 1) := by decide +kernel
theorem dX12_keep_42 : decode cX12_keep 42 = .ok (.getfield 67, 3) := by decide +kernel
theorem dX12_keep_45 : decode cX12_keep 45 = .ok (.iconst 1, 1) := by decide +kernel
theorem dX12_keep_46 : decode cX12_keep 46 = .ok (.isub, 1) := by decide +kernel
theorem dX12_keep_47 : decode cX12_keep 47 = .ok (.putfield 67, 3) := by decide +kernel
theorem dX12_keep_50 : decode cX12_keep 50 = .ok (.iconst 0, 1) := by decide +kernel
theorem dX12_keep_51 : decode cX12_keep 51 = .ok (.istore_n 1, 1) := by decide +kernel
theorem dX12_keep_52 : decode cX12_keep 52 = .ok (.iload_n 1, 1) := by decide +kernel
theorem dX12_keep_53 : decode cX12_keep 53 = .ok (.sipush 424, 3) := by decide +kernel
theorem dX12_keep_56 : decode cX12_keep 56 = .ok (.if_icmp .ge 30, 3) := by decide +kernel
theorem dX12_keep_59 : decode cX12_keep 59 = .ok (.aload_n 0, 1) := by decide +kernel
theorem dX12_keep_60 : decode cX12_keep 60 = .ok (.getfield 13, 3) := by decide +kernel
theorem dX12_keep_63 : decode cX12_keep 63 = .ok (.aload_n 0, 1) := by decide +kernel
theorem dX12_keep_64 : decode cX12_keep 64 = .ok (.getfield 67, 3) := by decide +kernel
theorem dX12_keep_67 : decode cX12_keep 67 = .ok (.sipush 424, 3) := by decide +kernel
theorem dX12_keep_70 : decode cX12_keep 70 = .ok (.imul, 1) := by decide +kernel
theorem dX12_keep_71 : decode cX12_keep 71 = .ok (.iload_n 1, 1) := by decide +kernel
theorem dX12_keep_72 : decode cX12_keep 72 = .ok (.iadd, 1) := by decide +kernel
theorem dX12_keep_73 : decode cX12_keep 73 = .ok (.aload_n 0, 1) := by decide +kernel
theorem dX12_keep_74 : decode cX12_keep 74 = .ok (.getfield 9, 3) := by decide +kernel
theorem dX12_keep_77 : decode cX12_keep 77 = .ok (.iload_n 1, 1) := by decide +kernel
theorem dX12_keep_78 : decode cX12_keep 78 = .ok (.iaload, 1) := by decide +kernel
theorem dX12_keep_79 : decode cX12_keep 79 = .ok (.iastore, 1) := by decide +kernel
theorem dX12_keep_80 : decode cX12_keep 80 = .ok (.iinc 1 1, 3) := by decide +kernel
theorem dX12_keep_83 : decode cX12_keep 83 = .ok (.goto (-31), 3) := by decide +kernel
theorem dX12_keep_86 : decode cX12_keep 86 = .ok (.aload_n 0, 1) := by decide +kernel
theorem dX12_keep_87 : decode cX12_keep 87 = .ok (.dup, 1) := by decide +kernel
theorem dX12_keep_88 : decode cX12_keep 88 = .ok (.getfield 67, 3) := by decide +kernel
theorem dX12_keep_91 : decode cX12_keep 91 = .ok (.iconst 1, 1) := by decide +kernel
theorem dX12_keep_92 : decode cX12_keep 92 = .ok (.iadd, 1) := by decide +kernel
theorem dX12_keep_93 : decode cX12_keep 93 = .ok (.putfield 67, 3) := by decide +kernel
theorem dX12_keep_96 : decode cX12_keep 96 = .ok (.return_, 1) := by decide +kernel
theorem dX12_undo_0 : decode cX12_undo 0 = .ok (.aload_n 0, 1) := by decide +kernel
theorem dX12_undo_1 : decode cX12_undo 1 = .ok (.getfield 67, 3) := by decide +kernel
theorem dX12_undo_4 : decode cX12_undo 4 = .ok (.ifCond .ne 10, 3) := by decide +kernel
theorem dX12_undo_7 : decode cX12_undo 7 = .ok (.aload_n 0, 1) := by decide +kernel
theorem dX12_undo_8 : decode cX12_undo 8 = .ok (.ldc 70, 2) := by decide +kernel
theorem dX12_undo_10 : decode cX12_undo 10 = .ok (.invokevirtual 71, 3) := by decide +kernel
theorem dX12_undo_13 : decode cX12_undo 13 = .ok (.ireturn, 1) := by decide +kernel
theorem dX12_undo_14 : decode cX12_undo 14 = .ok (.aload_n 0, 1) := by decide +kernel
theorem dX12_undo_15 : decode cX12_undo 15 = .ok (.dup, 1) := by decide +kernel
theorem dX12_undo_16 : decode cX12_undo 16 = .ok (.getfield 67, 3) := by decide +kernel
theorem dX12_undo_19 : decode cX12_undo 19 = .ok (.iconst 1, 1) := by decide +kernel
theorem dX12_undo_20 : decode cX12_undo 20 = .ok (.isub, 1) := by decide +kernel
theorem dX12_undo_21 : decode cX12_undo 21 = .ok (.putfield 67, 3) := by decide +kernel
theorem dX12_undo_24 : decode cX12_undo 24 = .ok (.iconst 0, 1) := by decide +kernel
theorem dX12_undo_25 : decode cX12_undo 25 = .ok (.istore_n 1, 1) := by decide +kernel
theorem dX12_undo_26 : decode cX12_undo 26 = .ok (.iload_n 1, 1) := by decide +kernel
theorem dX12_undo_27 : decode cX12_undo 27 = .ok (.sipush 424, 3) := by decide +kernel
theorem dX12_undo_30 : decode cX12_undo 30 = .ok (.if_icmp .ge 30, 3) := by decide +kernel
theorem dX12_undo_33 : decode cX12_undo 33 = .ok (.aload_n 0, 1) := by decide +kernel
theorem dX12_undo_34 : decode cX12_undo 34 = .ok (.getfield 9, 3) := by decide +kernel
theorem dX12_undo_37 : decode cX12_undo 37 = .ok (.iload_n 1, 1) := by decide +kernel
theorem dX12_undo_38 : decode cX12_undo 38 = .ok (.aload_n 0, 1) := by decide +kernel
theorem dX12_undo_39 : decode cX12_undo 39 = .ok (.getfield 13, 3) := by decide +kernel
theorem dX12_undo_42 : decode cX12_undo 42 = .ok (.aload_n 0, 1) := by decide +kernel
theorem dX12_undo_43 : decode cX12_undo 43 = .ok (.getfield 67, 3) := by decide +kernel
theorem dX12_undo_46 : decode cX12_undo 46 = .ok (.sipush 424, 3) := by decide +kernel
theorem dX12_undo_49 : decode cX12_undo 49 = .ok (.imul, 1) := by decide +kernel
theorem dX12_undo_50 : decode cX12_undo 50 = .ok (.iload_n 1, 1) := by decide +kernel
theorem dX12_undo_51 : decode cX12_undo 51 = .ok (.iadd, 1) := by decide +kernel
theorem dX12_undo_52 : decode cX12_undo 52 = .ok (.iaload, 1) := by decide +kernel
theorem dX12_undo_53 : decode cX12_undo 53 = .ok (.iastore, 1) := by decide +kernel
theorem dX12_undo_54 : decode cX12_undo 54 = .ok (.iinc 1 1, 3) := by decide +kernel
theorem dX12_undo_57 : decode cX12_undo 57 = .ok (.goto (-31), 3) := by decide +kernel
theorem dX12_undo_60 : decode cX12_undo 60 = .ok (.aload_n 0, 1) := by decide +kernel
theorem dX12_undo_61 : decode cX12_undo 61 = .ok (.getfield 67, 3) := by decide +kernel
theorem dX12_undo_64 : decode cX12_undo 64 = .ok (.ireturn, 1) := by decide +kernel
theorem dX12_road_0 : decode cX12_road 0 = .ok (.iload_n 1, 1) := by decide +kernel
theorem dX12_road_1 : decode cX12_road 1 = .ok (.invokestatic 75, 3) := by decide +kernel
theorem dX12_road_4 : decode cX12_road 4 = .ok (.ifCond .eq 26, 3) := by decide +kernel
theorem dX12_road_7 : decode cX12_road 7 = .ok (.iload_n 2, 1) := by decide +kernel
theorem dX12_road_8 : decode cX12_road 8 = .ok (.invokestatic 75, 3) := by decide +kernel
theorem dX12_road_11 : decode cX12_road 11 = .ok (.ifCond .eq 19, 3) := by decide +kernel
theorem dX12_road_14 : decode cX12_road 14 = .ok (.iload_n 1, 1) := by decide +kernel
theorem dX12_road_15 : decode cX12_road 15 = .ok (.iload_n 2, 1) := by decide +kernel
theorem dX12_road_16 : decode cX12_road 16 = .ok (.if_icmp .eq 14, 3) := by decide +kernel
theorem dX12_road_19 : decode cX12_road 19 = .ok (.iload_n 3, 1) := by decide +kernel
theorem dX12_road_20 : decode cX12_road 20 = .ok (.iconst 0, 1) := by decide +kernel
theorem dX12_road_21 : decode cX12_road 21 = .ok (.sipush 400, 3) := by decide +kernel
theorem dX12_road_24 : decode cX12_road 24 = .ok (.invokestatic 63, 3) := by decide +kernel
theorem dX12_road_27 : decode cX12_road 27 = .ok (.ifCond .ne 10, 3) := by decide +kernel
theorem dX12_road_30 : decode cX12_road 30 = .ok (.aload_n 0, 1) := by decide +kernel
theorem dX12_road_31 : decode cX12_road 31 = .ok (.ldc 79, 2) := by decide +kernel
theorem dX12_road_33 : decode cX12_road 33 = .ok (.invokevirtual 71, 3) := by decide +kernel
theorem dX12_road_36 : decode cX12_road 36 = .ok (.ireturn, 1) := by decide +kernel
theorem dX12_road_37 : decode cX12_road 37 = .ok (.aload_n 0, 1) := by decide +kernel
theorem dX12_road_38 : decode cX12_road 38 = .ok (.invokevirtual 80, 3) := by decide +kernel
theorem dX12_road_41 : decode cX12_road 41 = .ok (.aload_n 0, 1) := by decide +kernel
theorem dX12_road_42 : decode cX12_road 42 = .ok (.getfield 9, 3) := by decide +kernel
theorem dX12_road_45 : decode cX12_road 45 = .ok (.iconst 0, 1) := by decide +kernel
theorem dX12_road_46 : decode cX12_road 46 = .ok (.bipush 8, 2) := by decide +kernel
theorem dX12_road_48 : decode cX12_road 48 = .ok (.iload_n 1, 1) := by decide +kernel
theorem dX12_road_49 : decode cX12_road 49 = .ok (.imul, 1) := by decide +kernel
theorem dX12_road_50 : decode cX12_road 50 = .ok (.iadd, 1) := by decide +kernel
theorem dX12_road_51 : decode cX12_road 51 = .ok (.iload_n 2, 1) := by decide +kernel
theorem dX12_road_52 : decode cX12_road 52 = .ok (.iadd, 1) := by decide +kernel
theorem dX12_road_53 : decode cX12_road 53 = .ok (.iaload, 1) := by decide +kernel
theorem dX12_road_54 : decode cX12_road 54 = .ok (.istore 4, 2) := by decide +kernel
theorem dX12_road_56 : decode cX12_road 56 = .ok (.aload_n 0, 1) := by decide +kernel
theorem dX12_road_57 : decode cX12_road 57 = .ok (.getfield 9, 3) := by decide +kernel
theorem dX12_road_60 : decode cX12_road 60 = .ok (.iconst 0, 1) := by decide +kernel
theorem dX12_road_61 : decode cX12_road 61 = .ok (.bipush 8, 2) := by decide +kernel
theorem dX12_road_63 : decode cX12_road 63 = .ok (.iload_n 1, 1) := by decide +kernel
theorem dX12_road_64 : decode cX12_road 64 = .ok (.imul, 1) := by decide +kernel
theorem dX12_road_65 : decode cX12_road 65 = .ok (.iadd, 1) := by decide +kernel
theorem dX12_road_66 : decode cX12_road 66 = .ok (.iload_n 2, 1) := by decide +kernel
theorem dX12_road_67 : decode cX12_road 67 = .ok (.iadd, 1) := by decide +kernel
theorem dX12_road_68 : decode cX12_road 68 = .ok (.iload_n 3, 1) := by decide +kernel
theorem dX12_road_69 : decode cX12_road 69 = .ok (.iastore, 1) := by decide +kernel
theorem dX12_road_70 : decode cX12_road 70 = .ok (.aload_n 0, 1) := by decide +kernel
theorem dX12_road_71 : decode cX12_road 71 = .ok (.getfield 9, 3) := by decide +kernel
theorem dX12_road_74 : decode cX12_road 74 = .ok (.iconst 0, 1) := by decide +kernel
theorem dX12_road_75 : decode cX12_road 75 = .ok (.bipush 8, 2) := by decide +kernel
theorem dX12_road_77 : decode cX12_road 77 = .ok (.iload_n 2, 1) := by decide +kernel
theorem dX12_road_78 : decode cX12_road 78 = .ok (.imul, 1) := by decide +kernel
theorem dX12_road_79 : decode cX12_road 79 = .ok (.iadd, 1) := by decide +kernel
theorem dX12_road_80 : decode cX12_road 80 = .ok (.iload_n 1, 1) := by decide +kernel
theorem dX12_road_81 : decode cX12_road 81 = .ok (.iadd, 1) := by decide +kernel
theorem dX12_road_82 : decode cX12_road 82 = .ok (.iload_n 3, 1) := by decide +kernel
theorem dX12_road_83 : decode cX12_road 83 = .ok (.iastore, 1) := by decide +kernel
theorem dX12_road_84 : decode cX12_road 84 = .ok (.iload 4, 2) := by decide +kernel
theorem dX12_road_86 : decode cX12_road 86 = .ok (.ireturn, 1) := by decide +kernel
theorem dX12_findFar_0 : decode cX12_findFar 0 = .ok (.iconst 0, 1) := by decide +kernel
theorem dX12_findFar_1 : decode cX12_findFar 1 = .ok (.istore_n 1, 1) := by decide +kernel
theorem dX12_findFar_2 : decode cX12_findFar 2 = .ok (.iload_n 1, 1) := by decide +kernel
theorem dX12_findFar_3 : decode cX12_findFar 3 = .ok (.bipush 64, 2) := by decide +kernel
theorem dX12_findFar_5 : decode cX12_findFar 5 = .ok (.if_icmp .ge 54, 3) := by decide +kernel
theorem dX12_findFar_8 : decode cX12_findFar 8 = .ok (.aload_n 0, 1) := by decide +kernel
theorem dX12_findFar_9 : decode cX12_findFar 9 = .ok (.getfield 25, 3) := by decide +kernel
theorem dX12_findFar_12 : decode cX12_findFar 12 = .ok (.iload_n 1, 1) := by decide +kernel
theorem dX12_findFar_13 : decode cX12_findFar 13 = .ok (.iload_n 1, 1) := by decide +kernel
theorem dX12_findFar_14 : decode cX12_findFar 14 = .ok (.bipush 8, 2) := by decide +kernel
theorem dX12_findFar_16 : decode cX12_findFar 16 = .ok (.idiv, 1) := by decide +kernel
theorem dX12_findFar_17 : decode cX12_findFar 17 = .ok (.iload_n 1, 1) := by decide +kernel
theorem dX12_findFar_18 : decode cX12_findFar 18 = .ok (.bipush 8, 2) := by decide +kernel
theorem dX12_findFar_20 : decode cX12_findFar 20 = .ok (.irem, 1) := by decide +kernel
theorem dX12_findFar_21 : decode cX12_findFar 21 = .ok (.if_icmp .ne 7, 3) := by decide +kernel
theorem dX12_findFar_24 : decode cX12_findFar 24 = .ok (.iconst 0, 1) := by decide +kernel
theorem dX12_findFar_25 : decode cX12_findFar 25 = .ok (.goto 27, 3) := by decide +kernel
theorem dX12_findFar_28 : decode cX12_findFar 28 = .ok (.aload_n 0, 1) := by decide +kernel
theorem dX12_findFar_29 : decode cX12_findFar 29 = .ok (.getfield 9, 3) := by decide +kernel
theorem dX12_findFar_32 : decode cX12_findFar 32 = .ok (.iconst 0, 1) := by decide +kernel
theorem dX12_findFar_33 : decode cX12_findFar 33 = .ok (.iload_n 1, 1) := by decide +kernel
theorem dX12_findFar_34 : decode cX12_findFar 34 = .ok (.iadd, 1) := by decide +kernel
theorem dX12_findFar_35 : decode cX12_findFar 35 = .ok (.iaload, 1) := by decide +kernel
theorem dX12_findFar_36 : decode cX12_findFar 36 = .ok (.ifCond .ne 8, 3) := by decide +kernel
theorem dX12_findFar_39 : decode cX12_findFar 39 = .ok (.ldc 83, 2) := by decide +kernel
theorem dX12_findFar_41 : decode cX12_findFar 41 = .ok (.goto 11, 3) := by decide +kernel
theorem dX12_findFar_44 : decode cX12_findFar 44 = .ok (.aload_n 0, 1) := by decide +kernel
theorem dX12_findFar_45 : decode cX12_findFar 45 = .ok (.getfield 9, 3) := by decide +kernel
theorem dX12_findFar_48 : decode cX12_findFar 48 = .ok (.iconst 0, 1) := by decide +kernel
theorem dX12_findFar_49 : decode cX12_findFar 49 = .ok (.iload_n 1, 1) := by decide +kernel
theorem dX12_findFar_50 : decode cX12_findFar 50 = .ok (.iadd, 1) := by decide +kernel
theorem dX12_findFar_51 : decode cX12_findFar 51 = .ok (.iaload, 1) := by decide +kernel
theorem dX12_findFar_52 : decode cX12_findFar 52 = .ok (.iastore, 1) := by decide +kernel
theorem dX12_findFar_53 : decode cX12_findFar 53 = .ok (.iinc 1 1, 3) := by decide +kernel
theorem dX12_findFar_56 : decode cX12_findFar 56 = .ok (.goto (-54), 3) := by decide +kernel
theorem dX12_findFar_59 : decode cX12_findFar 59 = .ok (.iconst 0, 1) := by decide +kernel
theorem dX12_findFar_60 : decode cX12_findFar 60 = .ok (.istore_n 1, 1) := by decide +kernel
theorem dX12_findFar_61 : decode cX12_findFar 61 = .ok (.iload_n 1, 1) := by decide +kernel
theorem dX12_findFar_62 : decode cX12_findFar 62 = .ok (.bipush 8, 2) := by decide +kernel
theorem dX12_findFar_64 : decode cX12_findFar 64 = .ok (.if_icmp .ge 67, 3) := by decide +kernel
theorem dX12_findFar_67 : decode cX12_findFar 67 = .ok (.iconst 0, 1) := by decide +kernel
theorem dX12_findFar_68 : decode cX12_findFar 68 = .ok (.istore_n 2, 1) := by decide +kernel
theorem dX12_findFar_69 : decode cX12_findFar 69 = .ok (.iload_n 2, 1) := by decide +kernel
theorem dX12_findFar_70 : decode cX12_findFar 70 = .ok (.bipush 64, 2) := by decide +kernel
theorem dX12_findFar_72 : decode cX12_findFar 72 = .ok (.if_icmp .ge 53, 3) := by decide +kernel
theorem dX12_findFar_75 : decode cX12_findFar 75 = .ok (.aload_n 0, 1) := by decide +kernel
theorem dX12_findFar_76 : decode cX12_findFar 76 = .ok (.getfield 25, 3) := by decide +kernel
theorem dX12_findFar_79 : decode cX12_findFar 79 = .ok (.iload_n 2, 1) := by decide +kernel
theorem dX12_findFar_80 : decode cX12_findFar 80 = .ok (.aload_n 0, 1) := by decide +kernel
theorem dX12_findFar_81 : decode cX12_findFar 81 = .ok (.getfield 25, 3) := by decide +kernel
theorem dX12_findFar_84 : decode cX12_findFar 84 = .ok (.iload_n 2, 1) := by decide +kernel
theorem dX12_findFar_85 : decode cX12_findFar 85 = .ok (.iaload, 1) := by decide +kernel
theorem dX12_findFar_86 : decode cX12_findFar 86 = .ok (.aload_n 0, 1) := by decide +kernel
theorem dX12_findFar_87 : decode cX12_findFar 87 = .ok (.getfield 25, 3) := by decide +kernel
theorem dX12_findFar_90 : decode cX12_findFar 90 = .ok (.iload_n 2, 1) := by decide +kernel
theorem dX12_findFar_91 : decode cX12_findFar 91 = .ok (.bipush 8, 2) := by decide +kernel
theorem dX12_findFar_93 : decode cX12_findFar 93 = .ok (.idiv, 1) := by decide +kernel
theorem dX12_findFar_94 : decode cX12_findFar 94 = .ok (.bipush 8, 2) := by decide +kernel
theorem dX12_findFar_96 : decode cX12_findFar 96 = .ok (.imul, 1) := by decide +kernel
theorem dX12_findFar_97 : decode cX12_findFar 97 = .ok (.iload_n 1, 1) := by decide +kernel
theorem dX12_findFar_98 : decode cX12_findFar 98 = .ok (.iadd, 1) := by decide +kernel
theorem dX12_findFar_99 : decode cX12_findFar 99 = .ok (.iaload, 1) := by decide +kernel
theorem dX12_findFar_100 : decode cX12_findFar 100 = .ok (.aload_n 0, 1) := by decide +kernel
theorem dX12_findFar_101 : decode cX12_findFar 101 = .ok (.getfield 25, 3) := by decide +kernel
theorem dX12_findFar_104 : decode cX12_findFar 104 = .ok (.bipush 8, 2) := by decide +kernel
theorem dX12_findFar_106 : decode cX12_findFar 106 = .ok (.iload_n 1, 1) := by decide +kernel
theorem dX12_findFar_107 : decode cX12_findFar 107 = .ok (.imul, 1) := by decide +kernel
theorem dX12_findFar_108 : decode cX12_findFar 108 = .ok (.iload_n 2, 1) := by decide +kernel
theorem dX12_findFar_109 : decode cX12_findFar 109 = .ok (.bipush 8, 2) := by decide +kernel
theorem dX12_findFar_111 : decode cX12_findFar 111 = .ok (.irem, 1) := by decide +kernel
theorem dX12_findFar_112 : decode cX12_findFar 112 = .ok (.iadd, 1) := by decide +kernel
theorem dX12_findFar_113 : decode cX12_findFar 113 = .ok (.iaload, 1) := by decide +kernel
theorem dX12_findFar_114 : decode cX12_findFar 114 = .ok (.iadd, 1) := by decide +kernel
theorem dX12_findFar_115 : decode cX12_findFar 115 = .ok (.invokestatic 84, 3) := by decide +kernel
theorem dX12_findFar_118 : decode cX12_findFar 118 = .ok (.iastore, 1) := by decide +kernel
theorem dX12_findFar_119 : decode cX12_findFar 119 = .ok (.iinc 2 1, 3) := by decide +kernel
theorem dX12_findFar_122 : decode cX12_findFar 122 = .ok (.goto (-53), 3) := by decide +kernel
theorem dX12_findFar_125 : decode cX12_findFar 125 = .ok (.iinc 1 1, 3) := by decide +kernel
theorem dX12_findFar_128 : decode cX12_findFar 128 = .ok (.goto (-67), 3) := by decide +kernel
theorem dX12_findFar_131 : decode cX12_findFar 131 = .ok (.return_, 1) := by decide +kernel
theorem dX12_isApart_0 : decode cX12_isApart 0 = .ok (.aload_n 0, 1) := by decide +kernel
theorem dX12_isApart_1 : decode cX12_isApart 1 = .ok (.getfield 25, 3) := by decide +kernel
theorem dX12_isApart_4 : decode cX12_isApart 4 = .ok (.bipush 8, 2) := by decide +kernel
theorem dX12_isApart_6 : decode cX12_isApart 6 = .ok (.iload_n 1, 1) := by decide +kernel
theorem dX12_isApart_7 : decode cX12_isApart 7 = .ok (.imul, 1) := by decide +kernel
theorem dX12_isApart_8 : decode cX12_isApart 8 = .ok (.iload_n 2, 1) := by decide +kernel
theorem dX12_isApart_9 : decode cX12_isApart 9 = .ok (.iadd, 1) := by decide +kernel
theorem dX12_isApart_10 : decode cX12_isApart 10 = .ok (.iaload, 1) := by decide +kernel
theorem dX12_isApart_11 : decode cX12_isApart 11 = .ok (.ldc 83, 2) := by decide +kernel
theorem dX12_isApart_13 : decode cX12_isApart 13 = .ok (.if_icmp .lt 7, 3) := by decide +kernel
theorem dX12_isApart_16 : decode cX12_isApart 16 = .ok (.iconst 1, 1) := by decide +kernel
theorem dX12_isApart_17 : decode cX12_isApart 17 = .ok (.goto 4, 3) := by decide +kernel
theorem dX12_isApart_20 : decode cX12_isApart 20 = .ok (.iconst 0, 1) := by decide +kernel
theorem dX12_isApart_21 : decode cX12_isApart 21 = .ok (.ireturn, 1) := by decide +kernel
theorem dX12_far_0 : decode cX12_far 0 = .ok (.iload_n 1, 1) := by decide +kernel
theorem dX12_far_1 : decode cX12_far 1 = .ok (.invokestatic 75, 3) := by decide +kernel
theorem dX12_far_4 : decode cX12_far 4 = .ok (.ifCond .eq 10, 3) := by decide +kernel
theorem dX12_far_7 : decode cX12_far 7 = .ok (.iload_n 2, 1) := by decide +kernel
theorem dX12_far_8 : decode cX12_far 8 = .ok (.invokestatic 75, 3) := by decide +kernel
theorem dX12_far_11 : decode cX12_far 11 = .ok (.ifCond .ne 10, 3) := by decide +kernel
theorem dX12_far_14 : decode cX12_far 14 = .ok (.aload_n 0, 1) := by decide +kernel
theorem dX12_far_15 : decode cX12_far 15 = .ok (.ldc 79, 2) := by decide +kernel
theorem dX12_far_17 : decode cX12_far 17 = .ok (.invokevirtual 71, 3) := by decide +kernel
theorem dX12_far_20 : decode cX12_far 20 = .ok (.ireturn, 1) := by decide +kernel
theorem dX12_far_21 : decode cX12_far 21 = .ok (.aload_n 0, 1) := by decide +kernel
theorem dX12_far_22 : decode cX12_far 22 = .ok (.invokevirtual 90, 3) := by decide +kernel
theorem dX12_far_25 : decode cX12_far 25 = .ok (.aload_n 0, 1) := by decide +kernel
theorem dX12_far_26 : decode cX12_far 26 = .ok (.iload_n 1, 1) := by decide +kernel
theorem dX12_far_27 : decode cX12_far 27 = .ok (.iload_n 2, 1) := by decide +kernel
theorem dX12_far_28 : decode cX12_far 28 = .ok (.invokevirtual 93, 3) := by decide +kernel
theorem dX12_far_31 : decode cX12_far 31 = .ok (.ifCond .eq 12, 3) := by decide +kernel
theorem dX12_far_34 : decode cX12_far 34 = .ok (.aload_n 0, 1) := by decide +kernel
theorem dX12_far_35 : decode cX12_far 35 = .ok (.ldc 70, 2) := by decide +kernel
theorem dX12_far_37 : decode cX12_far 37 = .ok (.invokevirtual 71, 3) := by decide +kernel
theorem dX12_far_40 : decode cX12_far 40 = .ok (.goto 14, 3) := by decide +kernel
theorem dX12_far_43 : decode cX12_far 43 = .ok (.aload_n 0, 1) := by decide +kernel
theorem dX12_far_44 : decode cX12_far 44 = .ok (.getfield 25, 3) := by decide +kernel
theorem dX12_far_47 : decode cX12_far 47 = .ok (.bipush 8, 2) := by decide +kernel
theorem dX12_far_49 : decode cX12_far 49 = .ok (.iload_n 1, 1) := by decide +kernel
theorem dX12_far_50 : decode cX12_far 50 = .ok (.imul, 1) := by decide +kernel
theorem dX12_far_51 : decode cX12_far 51 = .ok (.iload_n 2, 1) := by decide +kernel
theorem dX12_far_52 : decode cX12_far 52 = .ok (.iadd, 1) := by decide +kernel
theorem dX12_far_53 : decode cX12_far 53 = .ok (.iaload, 1) := by decide +kernel
theorem dX12_far_54 : decode cX12_far 54 = .ok (.ireturn, 1) := by decide +kernel
theorem dX12_ofLorry_0 : decode cX12_ofLorry 0 = .ok (.bipush 70, 2) := by decide +kernel
theorem dX12_ofLorry_2 : decode cX12_ofLorry 2 = .ok (.bipush 7, 2) := by decide +kernel
theorem dX12_ofLorry_4 : decode cX12_ofLorry 4 = .ok (.iload_n 0, 1) := by decide +kernel
theorem dX12_ofLorry_5 : decode cX12_ofLorry 5 = .ok (.imul, 1) := by decide +kernel
theorem dX12_ofLorry_6 : decode cX12_ofLorry 6 = .ok (.iadd, 1) := by decide +kernel
theorem dX12_ofLorry_7 : decode cX12_ofLorry 7 = .ok (.iload_n 1, 1) := by decide +kernel
theorem dX12_ofLorry_8 : decode cX12_ofLorry 8 = .ok (.iadd, 1) := by decide +kernel
theorem dX12_ofLorry_9 : decode cX12_ofLorry 9 = .ok (.ireturn, 1) := by decide +kernel
theorem dX12_ofLoad_0 : decode cX12_ofLoad 0 = .ok (.bipush 112, 2) := by decide +kernel
theorem dX12_ofLoad_2 : decode cX12_ofLoad 2 = .ok (.bipush 11, 2) := by decide +kernel
theorem dX12_ofLoad_4 : decode cX12_ofLoad 4 = .ok (.iload_n 0, 1) := by decide +kernel
theorem dX12_ofLoad_5 : decode cX12_ofLoad 5 = .ok (.imul, 1) := by decide +kernel
theorem dX12_ofLoad_6 : decode cX12_ofLoad 6 = .ok (.iadd, 1) := by decide +kernel
theorem dX12_ofLoad_7 : decode cX12_ofLoad 7 = .ok (.iload_n 1, 1) := by decide +kernel
theorem dX12_ofLoad_8 : decode cX12_ofLoad 8 = .ok (.iadd, 1) := by decide +kernel
theorem dX12_ofLoad_9 : decode cX12_ofLoad 9 = .ok (.ireturn, 1) := by decide +kernel
theorem dX12_lorry_0 : decode cX12_lorry 0 = .ok (.iload_n 1, 1) := by decide +kernel
theorem dX12_lorry_1 : decode cX12_lorry 1 = .ok (.iconst 0, 1) := by decide +kernel
theorem dX12_lorry_2 : decode cX12_lorry 2 = .ok (.iconst 3, 1) := by decide +kernel
theorem dX12_lorry_3 : decode cX12_lorry 3 = .ok (.invokestatic 63, 3) := by decide +kernel
theorem dX12_lorry_6 : decode cX12_lorry 6 = .ok (.ifCond .eq 70, 3) := by decide +kernel
theorem dX12_lorry_9 : decode cX12_lorry 9 = .ok (.iload_n 2, 1) := by decide +kernel
theorem dX12_lorry_10 : decode cX12_lorry 10 = .ok (.invokestatic 75, 3) := by decide +kernel
theorem dX12_lorry_13 : decode cX12_lorry 13 = .ok (.ifCond .eq 63, 3) := by decide +kernel
theorem dX12_lorry_16 : decode cX12_lorry 16 = .ok (.iload_n 3, 1) := by decide +kernel
theorem dX12_lorry_17 : decode cX12_lorry 17 = .ok (.iconst 0, 1) := by decide +kernel
theorem dX12_lorry_18 : decode cX12_lorry 18 = .ok (.sipush 2000, 3) := by decide +kernel
theorem dX12_lorry_21 : decode cX12_lorry 21 = .ok (.invokestatic 63, 3) := by decide +kernel
theorem dX12_lorry_24 : decode cX12_lorry 24 = .ok (.ifCond .eq 52, 3) := by decide +kernel
theorem dX12_lorry_27 : decode cX12_lorry 27 = .ok (.iload 4, 2) := by decide +kernel
theorem dX12_lorry_29 : decode cX12_lorry 29 = .ok (.ifCond .lt 47, 3) := by decide +kernel
theorem dX12_lorry_32 : decode cX12_lorry 32 = .ok (.iload 4, 2) := by decide +kernel
theorem dX12_lorry_34 : decode cX12_lorry 34 = .ok (.bipush 10, 2) := by decide +kernel
theorem dX12_lorry_36 : decode cX12_lorry 36 = .ok (.idiv, 1) := by decide +kernel
theorem dX12_lorry_37 : decode cX12_lorry 37 = .ok (.sipush 4000, 3) := by decide +kernel
theorem dX12_lorry_40 : decode cX12_lorry 40 = .ok (.if_icmp .gt 36, 3) := by decide +kernel
theorem dX12_lorry_43 : decode cX12_lorry 43 = .ok (.iload 4, 2) := by decide +kernel
theorem dX12_lorry_45 : decode cX12_lorry 45 = .ok (.bipush 10, 2) := by decide +kernel
theorem dX12_lorry_47 : decode cX12_lorry 47 = .ok (.irem, 1) := by decide +kernel
theorem dX12_lorry_48 : decode cX12_lorry 48 = .ok (.invokestatic 75, 3) := by decide +kernel
theorem dX12_lorry_51 : decode cX12_lorry 51 = .ok (.ifCond .eq 25, 3) := by decide +kernel
theorem dX12_lorry_54 : decode cX12_lorry 54 = .ok (.iload 5, 2) := by decide +kernel
theorem dX12_lorry_56 : decode cX12_lorry 56 = .ok (.iconst 1, 1) := by decide +kernel
theorem dX12_lorry_57 : decode cX12_lorry 57 = .ok (.bipush 40, 2) := by decide +kernel
theorem dX12_lorry_59 : decode cX12_lorry 59 = .ok (.invokestatic 63, 3) := by decide +kernel
theorem dX12_lorry_62 : decode cX12_lorry 62 = .ok (.ifCond .eq 14, 3) := by decide +kernel
theorem dX12_lorry_65 : decode cX12_lorry 65 = .ok (.iload 6, 2) := by decide +kernel
theorem dX12_lorry_67 : decode cX12_lorry 67 = .ok (.iconst 1, 1) := by decide +kernel
theorem dX12_lorry_68 : decode cX12_lorry 68 = .ok (.bipush 40, 2) := by decide +kernel
theorem dX12_lorry_70 : decode cX12_lorry 70 = .ok (.invokestatic 63, 3) := by decide +kernel
theorem dX12_lorry_73 : decode cX12_lorry 73 = .ok (.ifCond .ne 10, 3) := by decide +kernel
theorem dX12_lorry_76 : decode cX12_lorry 76 = .ok (.aload_n 0, 1) := by decide +kernel
theorem dX12_lorry_77 : decode cX12_lorry 77 = .ok (.ldc 79, 2) := by decide +kernel
theorem dX12_lorry_79 : decode cX12_lorry 79 = .ok (.invokevirtual 71, 3) := by decide +kernel
theorem dX12_lorry_82 : decode cX12_lorry 82 = .ok (.ireturn, 1) := by decide +kernel
theorem dX12_lorry_83 : decode cX12_lorry 83 = .ok (.aload_n 0, 1) := by decide +kernel
theorem dX12_lorry_84 : decode cX12_lorry 84 = .ok (.getfield 9, 3) := by decide +kernel
theorem dX12_lorry_87 : decode cX12_lorry 87 = .ok (.bipush 64, 2) := by decide +kernel
theorem dX12_lorry_89 : decode cX12_lorry 89 = .ok (.iaload, 1) := by decide +kernel
theorem dX12_lorry_90 : decode cX12_lorry 90 = .ok (.istore 7, 2) := by decide +kernel
theorem dX12_lorry_92 : decode cX12_lorry 92 = .ok (.iload 7, 2) := by decide +kernel
theorem dX12_lorry_94 : decode cX12_lorry 94 = .ok (.bipush 6, 2) := by decide +kernel
theorem dX12_lorry_96 : decode cX12_lorry 96 = .ok (.if_icmp .ne 10, 3) := by decide +kernel
theorem dX12_lorry_99 : decode cX12_lorry 99 = .ok (.aload_n 0, 1) := by decide +kernel
theorem dX12_lorry_100 : decode cX12_lorry 100 = .ok (.ldc 97, 2) := by decide +kernel
theorem dX12_lorry_102 : decode cX12_lorry 102 = .ok (.invokevirtual 71, 3) := by decide +kernel
theorem dX12_lorry_105 : decode cX12_lorry 105 = .ok (.ireturn, 1) := by decide +kernel
theorem dX12_lorry_106 : decode cX12_lorry 106 = .ok (.aload_n 0, 1) := by decide +kernel
theorem dX12_lorry_107 : decode cX12_lorry 107 = .ok (.invokevirtual 80, 3) := by decide +kernel
theorem dX12_lorry_110 : decode cX12_lorry 110 = .ok (.aload_n 0, 1) := by decide +kernel
theorem dX12_lorry_111 : decode cX12_lorry 111 = .ok (.getfield 9, 3) := by decide +kernel
theorem dX12_lorry_114 : decode cX12_lorry 114 = .ok (.iload 7, 2) := by decide +kernel
theorem dX12_lorry_116 : decode cX12_lorry 116 = .ok (.iconst 0, 1) := by decide +kernel
theorem dX12_lorry_117 : decode cX12_lorry 117 = .ok (.invokestatic 98, 3) := by decide +kernel
theorem dX12_lorry_120 : decode cX12_lorry 120 = .ok (.iload_n 1, 1) := by decide +kernel
theorem dX12_lorry_121 : decode cX12_lorry 121 = .ok (.iastore, 1) := by decide +kernel
theorem dX12_lorry_122 : decode cX12_lorry 122 = .ok (.aload_n 0, 1) := by decide +kernel
theorem dX12_lorry_123 : decode cX12_lorry 123 = .ok (.getfield 9, 3) := by decide +kernel
theorem dX12_lorry_126 : decode cX12_lorry 126 = .ok (.iload 7, 2) := by decide +kernel
theorem dX12_lorry_128 : decode cX12_lorry 128 = .ok (.iconst 1, 1) := by decide +kernel
theorem dX12_lorry_129 : decode cX12_lorry 129 = .ok (.invokestatic 98, 3) := by decide +kernel
theorem dX12_lorry_132 : decode cX12_lorry 132 = .ok (.iload_n 2, 1) := by decide +kernel
theorem dX12_lorry_133 : decode cX12_lorry 133 = .ok (.iastore, 1) := by decide +kernel
theorem dX12_lorry_134 : decode cX12_lorry 134 = .ok (.aload_n 0, 1) := by decide +kernel
theorem dX12_lorry_135 : decode cX12_lorry 135 = .ok (.getfield 9, 3) := by decide +kernel
theorem dX12_lorry_138 : decode cX12_lorry 138 = .ok (.iload 7, 2) := by decide +kernel
theorem dX12_lorry_140 : decode cX12_lorry 140 = .ok (.iconst 2, 1) := by decide +kernel
theorem dX12_lorry_141 : decode cX12_lorry 141 = .ok (.invokestatic 98, 3) := by decide +kernel
theorem dX12_lorry_144 : decode cX12_lorry 144 = .ok (.iload_n 3, 1) := by decide +kernel
theorem dX12_lorry_145 : decode cX12_lorry 145 = .ok (.iastore, 1) := by decide +kernel
theorem dX12_lorry_146 : decode cX12_lorry 146 = .ok (.aload_n 0, 1) := by decide +kernel
theorem dX12_lorry_147 : decode cX12_lorry 147 = .ok (.getfield 9, 3) := by decide +kernel
theorem dX12_lorry_150 : decode cX12_lorry 150 = .ok (.iload 7, 2) := by decide +kernel
theorem dX12_lorry_152 : decode cX12_lorry 152 = .ok (.iconst 3, 1) := by decide +kernel
theorem dX12_lorry_153 : decode cX12_lorry 153 = .ok (.invokestatic 98, 3) := by decide +kernel
theorem dX12_lorry_156 : decode cX12_lorry 156 = .ok (.iload 4, 2) := by decide +kernel
theorem dX12_lorry_158 : decode cX12_lorry 158 = .ok (.bipush 10, 2) := by decide +kernel
theorem dX12_lorry_160 : decode cX12_lorry 160 = .ok (.irem, 1) := by decide +kernel
theorem dX12_lorry_161 : decode cX12_lorry 161 = .ok (.iastore, 1) := by decide +kernel
theorem dX12_lorry_162 : decode cX12_lorry 162 = .ok (.aload_n 0, 1) := by decide +kernel
theorem dX12_lorry_163 : decode cX12_lorry 163 = .ok (.getfield 9, 3) := by decide +kernel
theorem dX12_lorry_166 : decode cX12_lorry 166 = .ok (.iload 7, 2) := by decide +kernel
theorem dX12_lorry_168 : decode cX12_lorry 168 = .ok (.iconst 4, 1) := by decide +kernel
theorem dX12_lorry_169 : decode cX12_lorry 169 = .ok (.invokestatic 98, 3) := by decide +kernel
theorem dX12_lorry_172 : decode cX12_lorry 172 = .ok (.iload 4, 2) := by decide +kernel
theorem dX12_lorry_174 : decode cX12_lorry 174 = .ok (.bipush 10, 2) := by decide +kernel
theorem dX12_lorry_176 : decode cX12_lorry 176 = .ok (.idiv, 1) := by decide +kernel
theorem dX12_lorry_177 : decode cX12_lorry 177 = .ok (.iastore, 1) := by decide +kernel
theorem dX12_lorry_178 : decode cX12_lorry 178 = .ok (.aload_n 0, 1) := by decide +kernel
theorem dX12_lorry_179 : decode cX12_lorry 179 = .ok (.getfield 9, 3) := by decide +kernel
theorem dX12_lorry_182 : decode cX12_lorry 182 = .ok (.iload 7, 2) := by decide +kernel
theorem dX12_lorry_184 : decode cX12_lorry 184 = .ok (.iconst 5, 1) := by decide +kernel
theorem dX12_lorry_185 : decode cX12_lorry 185 = .ok (.invokestatic 98, 3) := by decide +kernel
theorem dX12_lorry_188 : decode cX12_lorry 188 = .ok (.iload_n 1, 1) := by decide +kernel
theorem dX12_lorry_189 : decode cX12_lorry 189 = .ok (.iconst 2, 1) := by decide +kernel
theorem dX12_lorry_190 : decode cX12_lorry 190 = .ok (.if_icmp .ne 10, 3) := by decide +kernel
theorem dX12_lorry_193 : decode cX12_lorry 193 = .ok (.iload 5, 2) := by decide +kernel
theorem dX12_lorry_195 : decode cX12_lorry 195 = .ok (.iconst 2, 1) := by decide +kernel
theorem dX12_lorry_196 : decode cX12_lorry 196 = .ok (.idiv, 1) := by decide +kernel
theorem dX12_lorry_197 : decode cX12_lorry 197 = .ok (.goto 5, 3) := by decide +kernel
theorem dX12_lorry_200 : decode cX12_lorry 200 = .ok (.iload 5, 2) := by decide +kernel
theorem dX12_lorry_202 : decode cX12_lorry 202 = .ok (.iastore, 1) := by decide +kernel
theorem dX12_lorry_203 : decode cX12_lorry 203 = .ok (.aload_n 0, 1) := by decide +kernel
theorem dX12_lorry_204 : decode cX12_lorry 204 = .ok (.getfield 9, 3) := by decide +kernel
theorem dX12_lorry_207 : decode cX12_lorry 207 = .ok (.iload 7, 2) := by decide +kernel
theorem dX12_lorry_209 : decode cX12_lorry 209 = .ok (.bipush 6, 2) := by decide +kernel
theorem dX12_lorry_211 : decode cX12_lorry 211 = .ok (.invokestatic 98, 3) := by decide +kernel
theorem dX12_lorry_214 : decode cX12_lorry 214 = .ok (.iload 6, 2) := by decide +kernel
theorem dX12_lorry_216 : decode cX12_lorry 216 = .ok (.iastore, 1) := by decide +kernel
theorem dX12_lorry_217 : decode cX12_lorry 217 = .ok (.aload_n 0, 1) := by decide +kernel
theorem dX12_lorry_218 : decode cX12_lorry 218 = .ok (.getfield 9, 3) := by decide +kernel
theorem dX12_lorry_221 : decode cX12_lorry 221 = .ok (.bipush 64, 2) := by decide +kernel
theorem dX12_lorry_223 : decode cX12_lorry 223 = .ok (.dup2, 1) := by decide +kernel
theorem dX12_lorry_224 : decode cX12_lorry 224 = .ok (.iaload, 1) := by decide +kernel
theorem dX12_lorry_225 : decode cX12_lorry 225 = .ok (.iconst 1, 1) := by decide +kernel
theorem dX12_lorry_226 : decode cX12_lorry 226 = .ok (.iadd, 1) := by decide +kernel
theorem dX12_lorry_227 : decode cX12_lorry 227 = .ok (.iastore, 1) := by decide +kernel
theorem dX12_lorry_228 : decode cX12_lorry 228 = .ok (.iload 7, 2) := by decide +kernel
theorem dX12_lorry_230 : decode cX12_lorry 230 = .ok (.ireturn, 1) := by decide +kernel
