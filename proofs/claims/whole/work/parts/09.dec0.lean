theorem dX0_init_0 : decode cX0_init 0 = .ok (.aload_n 0, 1) := by decide +kernel
theorem dX0_init_1 : decode cX0_init 1 = .ok (.invokespecial 3, 3) := by decide +kernel
theorem dX0_init_4 : decode cX0_init 4 = .ok (.aload_n 0, 1) := by decide +kernel
theorem dX0_init_5 : decode cX0_init 5 = .ok (.aload_n 1, 1) := by decide +kernel
theorem dX0_init_6 : decode cX0_init 6 = .ok (.putfield 9, 3) := by decide +kernel
theorem dX0_init_9 : decode cX0_init 9 = .ok (.aload_n 0, 1) := by decide +kernel
theorem dX0_init_10 : decode cX0_init 10 = .ok (.aload_n 2, 1) := by decide +kernel
theorem dX0_init_11 : decode cX0_init 11 = .ok (.putfield 15, 3) := by decide +kernel
theorem dX0_init_14 : decode cX0_init 14 = .ok (.aload_n 0, 1) := by decide +kernel
theorem dX0_init_15 : decode cX0_init 15 = .ok (.aload_n 3, 1) := by decide +kernel
theorem dX0_init_16 : decode cX0_init 16 = .ok (.putfield 19, 3) := by decide +kernel
theorem dX0_init_19 : decode cX0_init 19 = .ok (.return_, 1) := by decide +kernel
theorem dX0_fits_0 : decode cX0_fits 0 = .ok (.iload_n 2, 1) := by decide +kernel
theorem dX0_fits_1 : decode cX0_fits 1 = .ok (.iconst (-1), 1) := by decide +kernel
theorem dX0_fits_2 : decode cX0_fits 2 = .ok (.if_icmp .ne 5, 3) := by decide +kernel
theorem dX0_fits_5 : decode cX0_fits 5 = .ok (.iconst 1, 1) := by decide +kernel
theorem dX0_fits_6 : decode cX0_fits 6 = .ok (.ireturn, 1) := by decide +kernel
theorem dX0_fits_7 : decode cX0_fits 7 = .ok (.aload_n 0, 1) := by decide +kernel
theorem dX0_fits_8 : decode cX0_fits 8 = .ok (.getfield 15, 3) := by decide +kernel
theorem dX0_fits_11 : decode cX0_fits 11 = .ok (.iload_n 1, 1) := by decide +kernel
theorem dX0_fits_12 : decode cX0_fits 12 = .ok (.iconst 0, 1) := by decide +kernel
theorem dX0_fits_13 : decode cX0_fits 13 = .ok (.invokevirtual 22, 3) := by decide +kernel
theorem dX0_fits_16 : decode cX0_fits 16 = .ok (.aload_n 0, 1) := by decide +kernel
theorem dX0_fits_17 : decode cX0_fits 17 = .ok (.getfield 19, 3) := by decide +kernel
theorem dX0_fits_20 : decode cX0_fits 20 = .ok (.iload_n 2, 1) := by decide +kernel
theorem dX0_fits_21 : decode cX0_fits 21 = .ok (.iconst 2, 1) := by decide +kernel
theorem dX0_fits_22 : decode cX0_fits 22 = .ok (.invokevirtual 22, 3) := by decide +kernel
theorem dX0_fits_25 : decode cX0_fits 25 = .ok (.invokestatic 28, 3) := by decide +kernel
theorem dX0_fits_28 : decode cX0_fits 28 = .ok (.ifCond .eq 50, 3) := by decide +kernel
theorem dX0_fits_31 : decode cX0_fits 31 = .ok (.aload_n 0, 1) := by decide +kernel
theorem dX0_fits_32 : decode cX0_fits 32 = .ok (.getfield 15, 3) := by decide +kernel
theorem dX0_fits_35 : decode cX0_fits 35 = .ok (.iload_n 1, 1) := by decide +kernel
theorem dX0_fits_36 : decode cX0_fits 36 = .ok (.iconst 5, 1) := by decide +kernel
theorem dX0_fits_37 : decode cX0_fits 37 = .ok (.invokevirtual 22, 3) := by decide +kernel
theorem dX0_fits_40 : decode cX0_fits 40 = .ok (.aload_n 0, 1) := by decide +kernel
theorem dX0_fits_41 : decode cX0_fits 41 = .ok (.getfield 19, 3) := by decide +kernel
theorem dX0_fits_44 : decode cX0_fits 44 = .ok (.iload_n 2, 1) := by decide +kernel
theorem dX0_fits_45 : decode cX0_fits 45 = .ok (.iconst 3, 1) := by decide +kernel
theorem dX0_fits_46 : decode cX0_fits 46 = .ok (.invokevirtual 22, 3) := by decide +kernel
theorem dX0_fits_49 : decode cX0_fits 49 = .ok (.if_icmp .lt 29, 3) := by decide +kernel
theorem dX0_fits_52 : decode cX0_fits 52 = .ok (.aload_n 0, 1) := by decide +kernel
theorem dX0_fits_53 : decode cX0_fits 53 = .ok (.getfield 15, 3) := by decide +kernel
theorem dX0_fits_56 : decode cX0_fits 56 = .ok (.iload_n 1, 1) := by decide +kernel
theorem dX0_fits_57 : decode cX0_fits 57 = .ok (.bipush 6, 2) := by decide +kernel
theorem dX0_fits_59 : decode cX0_fits 59 = .ok (.invokevirtual 22, 3) := by decide +kernel
theorem dX0_fits_62 : decode cX0_fits 62 = .ok (.aload_n 0, 1) := by decide +kernel
theorem dX0_fits_63 : decode cX0_fits 63 = .ok (.getfield 19, 3) := by decide +kernel
theorem dX0_fits_66 : decode cX0_fits 66 = .ok (.iload_n 2, 1) := by decide +kernel
theorem dX0_fits_67 : decode cX0_fits 67 = .ok (.iconst 4, 1) := by decide +kernel
theorem dX0_fits_68 : decode cX0_fits 68 = .ok (.invokevirtual 22, 3) := by decide +kernel
theorem dX0_fits_71 : decode cX0_fits 71 = .ok (.if_icmp .lt 7, 3) := by decide +kernel
theorem dX0_fits_74 : decode cX0_fits 74 = .ok (.iconst 1, 1) := by decide +kernel
theorem dX0_fits_75 : decode cX0_fits 75 = .ok (.goto 4, 3) := by decide +kernel
theorem dX0_fits_78 : decode cX0_fits 78 = .ok (.iconst 0, 1) := by decide +kernel
theorem dX0_fits_79 : decode cX0_fits 79 = .ok (.ireturn, 1) := by decide +kernel
theorem dX0_takes_0 : decode cX0_takes 0 = .ok (.iload_n 1, 1) := by decide +kernel
theorem dX0_takes_1 : decode cX0_takes 1 = .ok (.lookupswitch 49 #[(1, 27), (2, 38)], 27) := by decide +kernel
theorem dX0_takes_28 : decode cX0_takes 28 = .ok (.iload_n 0, 1) := by decide +kernel
theorem dX0_takes_29 : decode cX0_takes 29 = .ok (.iconst 1, 1) := by decide +kernel
theorem dX0_takes_30 : decode cX0_takes 30 = .ok (.if_icmp .ne 7, 3) := by decide +kernel
theorem dX0_takes_33 : decode cX0_takes 33 = .ok (.iconst 1, 1) := by decide +kernel
theorem dX0_takes_34 : decode cX0_takes 34 = .ok (.goto 4, 3) := by decide +kernel
theorem dX0_takes_37 : decode cX0_takes 37 = .ok (.iconst 0, 1) := by decide +kernel
theorem dX0_takes_38 : decode cX0_takes 38 = .ok (.ireturn, 1) := by decide +kernel
theorem dX0_takes_39 : decode cX0_takes 39 = .ok (.iload_n 0, 1) := by decide +kernel
theorem dX0_takes_40 : decode cX0_takes 40 = .ok (.iconst 3, 1) := by decide +kernel
theorem dX0_takes_41 : decode cX0_takes 41 = .ok (.if_icmp .ne 7, 3) := by decide +kernel
theorem dX0_takes_44 : decode cX0_takes 44 = .ok (.iconst 1, 1) := by decide +kernel
theorem dX0_takes_45 : decode cX0_takes 45 = .ok (.goto 4, 3) := by decide +kernel
theorem dX0_takes_48 : decode cX0_takes 48 = .ok (.iconst 0, 1) := by decide +kernel
theorem dX0_takes_49 : decode cX0_takes 49 = .ok (.ireturn, 1) := by decide +kernel
theorem dX0_takes_50 : decode cX0_takes 50 = .ok (.iload_n 0, 1) := by decide +kernel
theorem dX0_takes_51 : decode cX0_takes 51 = .ok (.iconst 3, 1) := by decide +kernel
theorem dX0_takes_52 : decode cX0_takes 52 = .ok (.if_icmp .eq 7, 3) := by decide +kernel
theorem dX0_takes_55 : decode cX0_takes 55 = .ok (.iconst 1, 1) := by decide +kernel
theorem dX0_takes_56 : decode cX0_takes 56 = .ok (.goto 4, 3) := by decide +kernel
theorem dX0_takes_59 : decode cX0_takes 59 = .ok (.iconst 0, 1) := by decide +kernel
theorem dX0_takes_60 : decode cX0_takes 60 = .ok (.ireturn, 1) := by decide +kernel
theorem dX0_run_0 : decode cX0_run 0 = .ok (.aload_n 0, 1) := by decide +kernel
theorem dX0_run_1 : decode cX0_run 1 = .ok (.getfield 9, 3) := by decide +kernel
theorem dX0_run_4 : decode cX0_run 4 = .ok (.invokevirtual 32, 3) := by decide +kernel
theorem dX0_run_7 : decode cX0_run 7 = .ok (.aload_n 0, 1) := by decide +kernel
theorem dX0_run_8 : decode cX0_run 8 = .ok (.aload_n 0, 1) := by decide +kernel
theorem dX0_run_9 : decode cX0_run 9 = .ok (.getfield 15, 3) := by decide +kernel
theorem dX0_run_12 : decode cX0_run 12 = .ok (.iload_n 1, 1) := by decide +kernel
theorem dX0_run_13 : decode cX0_run 13 = .ok (.iconst 1, 1) := by decide +kernel
theorem dX0_run_14 : decode cX0_run 14 = .ok (.invokevirtual 22, 3) := by decide +kernel
theorem dX0_run_17 : decode cX0_run 17 = .ok (.putfield 37, 3) := by decide +kernel
theorem dX0_run_20 : decode cX0_run 20 = .ok (.aload_n 0, 1) := by decide +kernel
theorem dX0_run_21 : decode cX0_run 21 = .ok (.aload_n 0, 1) := by decide +kernel
theorem dX0_run_22 : decode cX0_run 22 = .ok (.getfield 15, 3) := by decide +kernel
theorem dX0_run_25 : decode cX0_run 25 = .ok (.iload_n 1, 1) := by decide +kernel
theorem dX0_run_26 : decode cX0_run 26 = .ok (.iconst 2, 1) := by decide +kernel
theorem dX0_run_27 : decode cX0_run 27 = .ok (.invokevirtual 22, 3) := by decide +kernel
theorem dX0_run_30 : decode cX0_run 30 = .ok (.putfield 41, 3) := by decide +kernel
theorem dX0_run_33 : decode cX0_run 33 = .ok (.aload_n 0, 1) := by decide +kernel
theorem dX0_run_34 : decode cX0_run 34 = .ok (.iconst 0, 1) := by decide +kernel
theorem dX0_run_35 : decode cX0_run 35 = .ok (.putfield 44, 3) := by decide +kernel
theorem dX0_run_38 : decode cX0_run 38 = .ok (.aload_n 0, 1) := by decide +kernel
theorem dX0_run_39 : decode cX0_run 39 = .ok (.iconst 0, 1) := by decide +kernel
theorem dX0_run_40 : decode cX0_run 40 = .ok (.putfield 47, 3) := by decide +kernel
theorem dX0_run_43 : decode cX0_run 43 = .ok (.aload_n 0, 1) := by decide +kernel
theorem dX0_run_44 : decode cX0_run 44 = .ok (.iconst 0, 1) := by decide +kernel
theorem dX0_run_45 : decode cX0_run 45 = .ok (.putfield 50, 3) := by decide +kernel
theorem dX0_run_48 : decode cX0_run 48 = .ok (.aload_n 0, 1) := by decide +kernel
theorem dX0_run_49 : decode cX0_run 49 = .ok (.iconst 0, 1) := by decide +kernel
theorem dX0_run_50 : decode cX0_run 50 = .ok (.putfield 53, 3) := by decide +kernel
theorem dX0_run_53 : decode cX0_run 53 = .ok (.aload_n 0, 1) := by decide +kernel
theorem dX0_run_54 : decode cX0_run 54 = .ok (.iconst 0, 1) := by decide +kernel
theorem dX0_run_55 : decode cX0_run 55 = .ok (.putfield 56, 3) := by decide +kernel
theorem dX0_run_58 : decode cX0_run 58 = .ok (.aload_n 0, 1) := by decide +kernel
theorem dX0_run_59 : decode cX0_run 59 = .ok (.iconst 0, 1) := by decide +kernel
theorem dX0_run_60 : decode cX0_run 60 = .ok (.putfield 59, 3) := by decide +kernel
theorem dX0_run_63 : decode cX0_run 63 = .ok (.aload_n 0, 1) := by decide +kernel
theorem dX0_run_64 : decode cX0_run 64 = .ok (.iconst 0, 1) := by decide +kernel
theorem dX0_run_65 : decode cX0_run 65 = .ok (.putfield 62, 3) := by decide +kernel
theorem dX0_run_68 : decode cX0_run 68 = .ok (.aload_n 0, 1) := by decide +kernel
theorem dX0_run_69 : decode cX0_run 69 = .ok (.iload_n 2, 1) := by decide +kernel
theorem dX0_run_70 : decode cX0_run 70 = .ok (.invokevirtual 65, 3) := by decide +kernel
theorem dX0_run_73 : decode cX0_run 73 = .ok (.aload_n 0, 1) := by decide +kernel
theorem dX0_run_74 : decode cX0_run 74 = .ok (.iload_n 3, 1) := by decide +kernel
theorem dX0_run_75 : decode cX0_run 75 = .ok (.invokevirtual 65, 3) := by decide +kernel
theorem dX0_run_78 : decode cX0_run 78 = .ok (.aload_n 0, 1) := by decide +kernel
theorem dX0_run_79 : decode cX0_run 79 = .ok (.aload_n 0, 1) := by decide +kernel
theorem dX0_run_80 : decode cX0_run 80 = .ok (.getfield 15, 3) := by decide +kernel
theorem dX0_run_83 : decode cX0_run 83 = .ok (.iload_n 1, 1) := by decide +kernel
theorem dX0_run_84 : decode cX0_run 84 = .ok (.iconst 3, 1) := by decide +kernel
theorem dX0_run_85 : decode cX0_run 85 = .ok (.invokevirtual 22, 3) := by decide +kernel
theorem dX0_run_88 : decode cX0_run 88 = .ok (.iconst 1, 1) := by decide +kernel
theorem dX0_run_89 : decode cX0_run 89 = .ok (.invokevirtual 69, 3) := by decide +kernel
theorem dX0_run_92 : decode cX0_run 92 = .ok (.aload_n 0, 1) := by decide +kernel
theorem dX0_run_93 : decode cX0_run 93 = .ok (.getfield 62, 3) := by decide +kernel
theorem dX0_run_96 : decode cX0_run 96 = .ok (.ifCond .ne 24, 3) := by decide +kernel
theorem dX0_run_99 : decode cX0_run 99 = .ok (.aload_n 0, 1) := by decide +kernel
theorem dX0_run_100 : decode cX0_run 100 = .ok (.getfield 41, 3) := by decide +kernel
theorem dX0_run_103 : decode cX0_run 103 = .ok (.aload_n 0, 1) := by decide +kernel
theorem dX0_run_104 : decode cX0_run 104 = .ok (.getfield 15, 3) := by decide +kernel
theorem dX0_run_107 : decode cX0_run 107 = .ok (.iload_n 1, 1) := by decide +kernel
theorem dX0_run_108 : decode cX0_run 108 = .ok (.iconst 4, 1) := by decide +kernel
theorem dX0_run_109 : decode cX0_run 109 = .ok (.invokevirtual 22, 3) := by decide +kernel
theorem dX0_run_112 : decode cX0_run 112 = .ok (.if_icmp .le 8, 3) := by decide +kernel
theorem dX0_run_115 : decode cX0_run 115 = .ok (.aload_n 0, 1) := by decide +kernel
theorem dX0_run_116 : decode cX0_run 116 = .ok (.iconst 4, 1) := by decide +kernel
theorem dX0_run_117 : decode cX0_run 117 = .ok (.putfield 62, 3) := by decide +kernel
theorem dX0_run_120 : decode cX0_run 120 = .ok (.aload_n 0, 1) := by decide +kernel
theorem dX0_run_121 : decode cX0_run 121 = .ok (.getfield 62, 3) := by decide +kernel
theorem dX0_run_124 : decode cX0_run 124 = .ok (.ireturn, 1) := by decide +kernel
theorem dX0_value_0 : decode cX0_value 0 = .ok (.aload_n 0, 1) := by decide +kernel
theorem dX0_value_1 : decode cX0_value 1 = .ok (.getfield 59, 3) := by decide +kernel
theorem dX0_value_4 : decode cX0_value 4 = .ok (.aload_n 0, 1) := by decide +kernel
theorem dX0_value_5 : decode cX0_value 5 = .ok (.getfield 50, 3) := by decide +kernel
theorem dX0_value_8 : decode cX0_value 8 = .ok (.isub, 1) := by decide +kernel
theorem dX0_value_9 : decode cX0_value 9 = .ok (.ireturn, 1) := by decide +kernel
theorem dX0_tells_0 : decode cX0_tells 0 = .ok (.iload_n 1, 1) := by decide +kernel
theorem dX0_tells_1 : decode cX0_tells 1 = .ok (.tableswitch 60 0 4 #[35, 40, 45, 50, 55], 35) := by decide +kernel
theorem dX0_tells_36 : decode cX0_tells 36 = .ok (.aload_n 0, 1) := by decide +kernel
theorem dX0_tells_37 : decode cX0_tells 37 = .ok (.getfield 41, 3) := by decide +kernel
theorem dX0_tells_40 : decode cX0_tells 40 = .ok (.ireturn, 1) := by decide +kernel
theorem dX0_tells_41 : decode cX0_tells 41 = .ok (.aload_n 0, 1) := by decide +kernel
theorem dX0_tells_42 : decode cX0_tells 42 = .ok (.getfield 47, 3) := by decide +kernel
theorem dX0_tells_45 : decode cX0_tells 45 = .ok (.ireturn, 1) := by decide +kernel
theorem dX0_tells_46 : decode cX0_tells 46 = .ok (.aload_n 0, 1) := by decide +kernel
theorem dX0_tells_47 : decode cX0_tells 47 = .ok (.getfield 50, 3) := by decide +kernel
theorem dX0_tells_50 : decode cX0_tells 50 = .ok (.ireturn, 1) := by decide +kernel
theorem dX0_tells_51 : decode cX0_tells 51 = .ok (.aload_n 0, 1) := by decide +kernel
theorem dX0_tells_52 : decode cX0_tells 52 = .ok (.getfield 53, 3) := by decide +kernel
theorem dX0_tells_55 : decode cX0_tells 55 = .ok (.ireturn, 1) := by decide +kernel
theorem dX0_tells_56 : decode cX0_tells 56 = .ok (.aload_n 0, 1) := by decide +kernel
theorem dX0_tells_57 : decode cX0_tells 57 = .ok (.invokevirtual 73, 3) := by decide +kernel
theorem dX0_tells_60 : decode cX0_tells 60 = .ok (.ireturn, 1) := by decide +kernel
theorem dX0_tells_61 : decode cX0_tells 61 = .ok (.aload_n 0, 1) := by decide +kernel
theorem dX0_tells_62 : decode cX0_tells 62 = .ok (.getfield 56, 3) := by decide +kernel
theorem dX0_tells_65 : decode cX0_tells 65 = .ok (.ireturn, 1) := by decide +kernel
theorem dX0_emptyMinutes_0 : decode cX0_emptyMinutes 0 = .ok (.aload_n 0, 1) := by decide +kernel
theorem dX0_emptyMinutes_1 : decode cX0_emptyMinutes 1 = .ok (.getfield 50, 3) := by decide +kernel
theorem dX0_emptyMinutes_4 : decode cX0_emptyMinutes 4 = .ok (.ireturn, 1) := by decide +kernel
theorem dX0_carry_0 : decode cX0_carry 0 = .ok (.iload_n 1, 1) := by decide +kernel
theorem dX0_carry_1 : decode cX0_carry 1 = .ok (.iconst (-1), 1) := by decide +kernel
theorem dX0_carry_2 : decode cX0_carry 2 = .ok (.if_icmp .ne 4, 3) := by decide +kernel
theorem dX0_carry_5 : decode cX0_carry 5 = .ok (.return_, 1) := by decide +kernel
theorem dX0_carry_6 : decode cX0_carry 6 = .ok (.aload_n 0, 1) := by decide +kernel
theorem dX0_carry_7 : decode cX0_carry 7 = .ok (.dup, 1) := by decide +kernel
theorem dX0_carry_8 : decode cX0_carry 8 = .ok (.getfield 59, 3) := by decide +kernel
theorem dX0_carry_11 : decode cX0_carry 11 = .ok (.aload_n 0, 1) := by decide +kernel
theorem dX0_carry_12 : decode cX0_carry 12 = .ok (.getfield 19, 3) := by decide +kernel
theorem dX0_carry_15 : decode cX0_carry 15 = .ok (.iload_n 1, 1) := by decide +kernel
theorem dX0_carry_16 : decode cX0_carry 16 = .ok (.iconst 5, 1) := by decide +kernel
theorem dX0_carry_17 : decode cX0_carry 17 = .ok (.invokevirtual 22, 3) := by decide +kernel
theorem dX0_carry_20 : decode cX0_carry 20 = .ok (.iadd, 1) := by decide +kernel
theorem dX0_carry_21 : decode cX0_carry 21 = .ok (.putfield 59, 3) := by decide +kernel
theorem dX0_carry_24 : decode cX0_carry 24 = .ok (.aload_n 0, 1) := by decide +kernel
theorem dX0_carry_25 : decode cX0_carry 25 = .ok (.aload_n 0, 1) := by decide +kernel
theorem dX0_carry_26 : decode cX0_carry 26 = .ok (.getfield 19, 3) := by decide +kernel
theorem dX0_carry_29 : decode cX0_carry 29 = .ok (.iload_n 1, 1) := by decide +kernel
theorem dX0_carry_30 : decode cX0_carry 30 = .ok (.iconst 0, 1) := by decide +kernel
theorem dX0_carry_31 : decode cX0_carry 31 = .ok (.invokevirtual 22, 3) := by decide +kernel
theorem dX0_carry_34 : decode cX0_carry 34 = .ok (.iconst 1, 1) := by decide +kernel
theorem dX0_carry_35 : decode cX0_carry 35 = .ok (.invokevirtual 69, 3) := by decide +kernel
theorem dX0_carry_38 : decode cX0_carry 38 = .ok (.aload_n 0, 1) := by decide +kernel
theorem dX0_carry_39 : decode cX0_carry 39 = .ok (.aload_n 0, 1) := by decide +kernel
theorem dX0_carry_40 : decode cX0_carry 40 = .ok (.getfield 19, 3) := by decide +kernel
theorem dX0_carry_43 : decode cX0_carry 43 = .ok (.iload_n 1, 1) := by decide +kernel
theorem dX0_carry_44 : decode cX0_carry 44 = .ok (.bipush 6, 2) := by decide +kernel
theorem dX0_carry_46 : decode cX0_carry 46 = .ok (.invokevirtual 22, 3) := by decide +kernel
theorem dX0_carry_49 : decode cX0_carry 49 = .ok (.aload_n 0, 1) := by decide +kernel
theorem dX0_carry_50 : decode cX0_carry 50 = .ok (.getfield 19, 3) := by decide +kernel
theorem dX0_carry_53 : decode cX0_carry 53 = .ok (.iload_n 1, 1) := by decide +kernel
theorem dX0_carry_54 : decode cX0_carry 54 = .ok (.bipush 7, 2) := by decide +kernel
theorem dX0_carry_56 : decode cX0_carry 56 = .ok (.invokevirtual 22, 3) := by decide +kernel
theorem dX0_carry_59 : decode cX0_carry 59 = .ok (.invokevirtual 77, 3) := by decide +kernel
theorem dX0_carry_62 : decode cX0_carry 62 = .ok (.aload_n 0, 1) := by decide +kernel
theorem dX0_carry_63 : decode cX0_carry 63 = .ok (.aload_n 0, 1) := by decide +kernel
theorem dX0_carry_64 : decode cX0_carry 64 = .ok (.getfield 19, 3) := by decide +kernel
theorem dX0_carry_67 : decode cX0_carry 67 = .ok (.iload_n 1, 1) := by decide +kernel
theorem dX0_carry_68 : decode cX0_carry 68 = .ok (.iconst 1, 1) := by decide +kernel
theorem dX0_carry_69 : decode cX0_carry 69 = .ok (.invokevirtual 22, 3) := by decide +kernel
theorem dX0_carry_72 : decode cX0_carry 72 = .ok (.iconst 0, 1) := by decide +kernel
theorem dX0_carry_73 : decode cX0_carry 73 = .ok (.invokevirtual 69, 3) := by decide +kernel
theorem dX0_carry_76 : decode cX0_carry 76 = .ok (.aload_n 0, 1) := by decide +kernel
theorem dX0_carry_77 : decode cX0_carry 77 = .ok (.aload_n 0, 1) := by decide +kernel
theorem dX0_carry_78 : decode cX0_carry 78 = .ok (.getfield 19, 3) := by decide +kernel
theorem dX0_carry_81 : decode cX0_carry 81 = .ok (.iload_n 1, 1) := by decide +kernel
theorem dX0_carry_82 : decode cX0_carry 82 = .ok (.bipush 8, 2) := by decide +kernel
theorem dX0_carry_84 : decode cX0_carry 84 = .ok (.invokevirtual 22, 3) := by decide +kernel
theorem dX0_carry_87 : decode cX0_carry 87 = .ok (.aload_n 0, 1) := by decide +kernel
theorem dX0_carry_88 : decode cX0_carry 88 = .ok (.getfield 19, 3) := by decide +kernel
theorem dX0_carry_91 : decode cX0_carry 91 = .ok (.iload_n 1, 1) := by decide +kernel
theorem dX0_carry_92 : decode cX0_carry 92 = .ok (.bipush 9, 2) := by decide +kernel
theorem dX0_carry_94 : decode cX0_carry 94 = .ok (.invokevirtual 22, 3) := by decide +kernel
theorem dX0_carry_97 : decode cX0_carry 97 = .ok (.invokevirtual 77, 3) := by decide +kernel
theorem dX0_carry_100 : decode cX0_carry 100 = .ok (.return_, 1) := by decide +kernel
theorem dX0_go_0 : decode cX0_go 0 = .ok (.aload_n 0, 1) := by decide +kernel
theorem dX0_go_1 : decode cX0_go 1 = .ok (.getfield 62, 3) := by decide +kernel
theorem dX0_go_4 : decode cX0_go 4 = .ok (.ifCond .eq 4, 3) := by decide +kernel
theorem dX0_go_7 : decode cX0_go 7 = .ok (.return_, 1) := by decide +kernel
theorem dX0_go_8 : decode cX0_go 8 = .ok (.aload_n 0, 1) := by decide +kernel
theorem dX0_go_9 : decode cX0_go 9 = .ok (.getfield 9, 3) := by decide +kernel
theorem dX0_go_12 : decode cX0_go 12 = .ok (.aload_n 0, 1) := by decide +kernel
theorem dX0_go_13 : decode cX0_go 13 = .ok (.getfield 37, 3) := by decide +kernel
theorem dX0_go_16 : decode cX0_go 16 = .ok (.iload_n 1, 1) := by decide +kernel
theorem dX0_go_17 : decode cX0_go 17 = .ok (.invokevirtual 81, 3) := by decide +kernel
theorem dX0_go_20 : decode cX0_go 20 = .ok (.istore_n 3, 1) := by decide +kernel
theorem dX0_go_21 : decode cX0_go 21 = .ok (.iload_n 3, 1) := by decide +kernel
theorem dX0_go_22 : decode cX0_go 22 = .ok (.ldc 84, 2) := by decide +kernel
theorem dX0_go_24 : decode cX0_go 24 = .ok (.if_icmp .ne 9, 3) := by decide +kernel
theorem dX0_go_27 : decode cX0_go 27 = .ok (.aload_n 0, 1) := by decide +kernel
theorem dX0_go_28 : decode cX0_go 28 = .ok (.iconst 1, 1) := by decide +kernel
theorem dX0_go_29 : decode cX0_go 29 = .ok (.putfield 62, 3) := by decide +kernel
theorem dX0_go_32 : decode cX0_go 32 = .ok (.return_, 1) := by decide +kernel
theorem dX0_go_33 : decode cX0_go 33 = .ok (.aload_n 0, 1) := by decide +kernel
theorem dX0_go_34 : decode cX0_go 34 = .ok (.getfield 47, 3) := by decide +kernel
theorem dX0_go_37 : decode cX0_go 37 = .ok (.iload_n 3, 1) := by decide +kernel
theorem dX0_go_38 : decode cX0_go 38 = .ok (.iadd, 1) := by decide +kernel
theorem dX0_go_39 : decode cX0_go 39 = .ok (.sipush 540, 3) := by decide +kernel
theorem dX0_go_42 : decode cX0_go 42 = .ok (.if_icmp .le 9, 3) := by decide +kernel
theorem dX0_go_45 : decode cX0_go 45 = .ok (.aload_n 0, 1) := by decide +kernel
theorem dX0_go_46 : decode cX0_go 46 = .ok (.iconst 2, 1) := by decide +kernel
theorem dX0_go_47 : decode cX0_go 47 = .ok (.putfield 62, 3) := by decide +kernel
theorem dX0_go_50 : decode cX0_go 50 = .ok (.return_, 1) := by decide +kernel
theorem dX0_go_51 : decode cX0_go 51 = .ok (.aload_n 0, 1) := by decide +kernel
theorem dX0_go_52 : decode cX0_go 52 = .ok (.iload_n 3, 1) := by decide +kernel
theorem dX0_go_53 : decode cX0_go 53 = .ok (.invokevirtual 85, 3) := by decide +kernel
theorem dX0_go_56 : decode cX0_go 56 = .ok (.aload_n 0, 1) := by decide +kernel
theorem dX0_go_57 : decode cX0_go 57 = .ok (.dup, 1) := by decide +kernel
theorem dX0_go_58 : decode cX0_go 58 = .ok (.getfield 47, 3) := by decide +kernel
theorem dX0_go_61 : decode cX0_go 61 = .ok (.iload_n 3, 1) := by decide +kernel
theorem dX0_go_62 : decode cX0_go 62 = .ok (.iadd, 1) := by decide +kernel
theorem dX0_go_63 : decode cX0_go 63 = .ok (.putfield 47, 3) := by decide +kernel
theorem dX0_go_66 : decode cX0_go 66 = .ok (.iload_n 2, 1) := by decide +kernel
theorem dX0_go_67 : decode cX0_go 67 = .ok (.ifCond .eq 13, 3) := by decide +kernel
theorem dX0_go_70 : decode cX0_go 70 = .ok (.aload_n 0, 1) := by decide +kernel
theorem dX0_go_71 : decode cX0_go 71 = .ok (.dup, 1) := by decide +kernel
theorem dX0_go_72 : decode cX0_go 72 = .ok (.getfield 50, 3) := by decide +kernel
theorem dX0_go_75 : decode cX0_go 75 = .ok (.iload_n 3, 1) := by decide +kernel
theorem dX0_go_76 : decode cX0_go 76 = .ok (.iadd, 1) := by decide +kernel
theorem dX0_go_77 : decode cX0_go 77 = .ok (.putfield 50, 3) := by decide +kernel
theorem dX0_go_80 : decode cX0_go 80 = .ok (.aload_n 0, 1) := by decide +kernel
theorem dX0_go_81 : decode cX0_go 81 = .ok (.iload_n 1, 1) := by decide +kernel
theorem dX0_go_82 : decode cX0_go 82 = .ok (.putfield 37, 3) := by decide +kernel
theorem dX0_go_85 : decode cX0_go 85 = .ok (.return_, 1) := by decide +kernel
theorem dX0_roll_0 : decode cX0_roll 0 = .ok (.iload_n 1, 1) := by decide +kernel
theorem dX0_roll_1 : decode cX0_roll 1 = .ok (.istore_n 2, 1) := by decide +kernel
theorem dX0_roll_2 : decode cX0_roll 2 = .ok (.iconst 0, 1) := by decide +kernel
theorem dX0_roll_3 : decode cX0_roll 3 = .ok (.istore_n 3, 1) := by decide +kernel
theorem dX0_roll_4 : decode cX0_roll 4 = .ok (.iload_n 3, 1) := by decide +kernel
theorem dX0_roll_5 : decode cX0_roll 5 = .ok (.iconst 2, 1) := by decide +kernel
theorem dX0_roll_6 : decode cX0_roll 6 = .ok (.if_icmp .gt 65, 3) := by decide +kernel
theorem dX0_roll_9 : decode cX0_roll 9 = .ok (.aload_n 0, 1) := by decide +kernel
theorem dX0_roll_10 : decode cX0_roll 10 = .ok (.getfield 44, 3) := by decide +kernel
theorem dX0_roll_13 : decode cX0_roll 13 = .ok (.iload_n 2, 1) := by decide +kernel
theorem dX0_roll_14 : decode cX0_roll 14 = .ok (.iadd, 1) := by decide +kernel
theorem dX0_roll_15 : decode cX0_roll 15 = .ok (.sipush 270, 3) := by decide +kernel
theorem dX0_roll_18 : decode cX0_roll 18 = .ok (.if_icmp .le 53, 3) := by decide +kernel
theorem dX0_roll_21 : decode cX0_roll 21 = .ok (.sipush 270, 3) := by decide +kernel
theorem dX0_roll_24 : decode cX0_roll 24 = .ok (.aload_n 0, 1) := by decide +kernel
theorem dX0_roll_25 : decode cX0_roll 25 = .ok (.getfield 44, 3) := by decide +kernel
theorem dX0_roll_28 : decode cX0_roll 28 = .ok (.isub, 1) := by decide +kernel
theorem dX0_roll_29 : decode cX0_roll 29 = .ok (.istore 4, 2) := by decide +kernel
theorem dX0_roll_31 : decode cX0_roll 31 = .ok (.iload_n 2, 1) := by decide +kernel
theorem dX0_roll_32 : decode cX0_roll 32 = .ok (.iload 4, 2) := by decide +kernel
theorem dX0_roll_34 : decode cX0_roll 34 = .ok (.isub, 1) := by decide +kernel
theorem dX0_roll_35 : decode cX0_roll 35 = .ok (.istore_n 2, 1) := by decide +kernel
theorem dX0_roll_36 : decode cX0_roll 36 = .ok (.aload_n 0, 1) := by decide +kernel
theorem dX0_roll_37 : decode cX0_roll 37 = .ok (.dup, 1) := by decide +kernel
theorem dX0_roll_38 : decode cX0_roll 38 = .ok (.getfield 41, 3) := by decide +kernel
theorem dX0_roll_41 : decode cX0_roll 41 = .ok (.iload 4, 2) := by decide +kernel
theorem dX0_roll_43 : decode cX0_roll 43 = .ok (.bipush 45, 2) := by decide +kernel
theorem dX0_roll_45 : decode cX0_roll 45 = .ok (.iadd, 1) := by decide +kernel
theorem dX0_roll_46 : decode cX0_roll 46 = .ok (.iadd, 1) := by decide +kernel
theorem dX0_roll_47 : decode cX0_roll 47 = .ok (.putfield 41, 3) := by decide +kernel
theorem dX0_roll_50 : decode cX0_roll 50 = .ok (.aload_n 0, 1) := by decide +kernel
theorem dX0_roll_51 : decode cX0_roll 51 = .ok (.iconst 0, 1) := by decide +kernel
theorem dX0_roll_52 : decode cX0_roll 52 = .ok (.putfield 44, 3) := by decide +kernel
theorem dX0_roll_55 : decode cX0_roll 55 = .ok (.aload_n 0, 1) := by decide +kernel
theorem dX0_roll_56 : decode cX0_roll 56 = .ok (.dup, 1) := by decide +kernel
theorem dX0_roll_57 : decode cX0_roll 57 = .ok (.getfield 53, 3) := by decide +kernel
theorem dX0_roll_60 : decode cX0_roll 60 = .ok (.iconst 1, 1) := by decide +kernel
theorem dX0_roll_61 : decode cX0_roll 61 = .ok (.iadd, 1) := by decide +kernel
theorem dX0_roll_62 : decode cX0_roll 62 = .ok (.putfield 53, 3) := by decide +kernel
theorem dX0_roll_65 : decode cX0_roll 65 = .ok (.iinc 3 1, 3) := by decide +kernel
theorem dX0_roll_68 : decode cX0_roll 68 = .ok (.goto (-64), 3) := by decide +kernel
theorem dX0_roll_71 : decode cX0_roll 71 = .ok (.aload_n 0, 1) := by decide +kernel
theorem dX0_roll_72 : decode cX0_roll 72 = .ok (.dup, 1) := by decide +kernel
theorem dX0_roll_73 : decode cX0_roll 73 = .ok (.getfield 41, 3) := by decide +kernel
theorem dX0_roll_76 : decode cX0_roll 76 = .ok (.iload_n 2, 1) := by decide +kernel
theorem dX0_roll_77 : decode cX0_roll 77 = .ok (.iadd, 1) := by decide +kernel
theorem dX0_roll_78 : decode cX0_roll 78 = .ok (.putfield 41, 3) := by decide +kernel
theorem dX0_roll_81 : decode cX0_roll 81 = .ok (.aload_n 0, 1) := by decide +kernel
theorem dX0_roll_82 : decode cX0_roll 82 = .ok (.dup, 1) := by decide +kernel
theorem dX0_roll_83 : decode cX0_roll 83 = .ok (.getfield 44, 3) := by decide +kernel
theorem dX0_roll_86 : decode cX0_roll 86 = .ok (.iload_n 2, 1) := by decide +kernel
theorem dX0_roll_87 : decode cX0_roll 87 = .ok (.iadd, 1) := by decide +kernel
theorem dX0_roll_88 : decode cX0_roll 88 = .ok (.putfield 44, 3) := by decide +kernel
theorem dX0_roll_91 : decode cX0_roll 91 = .ok (.return_, 1) := by decide +kernel
theorem dX0_dock_0 : decode cX0_dock 0 = .ok (.aload_n 0, 1) := by decide +kernel
theorem dX0_dock_1 : decode cX0_dock 1 = .ok (.getfield 62, 3) := by decide +kernel
theorem dX0_dock_4 : decode cX0_dock 4 = .ok (.ifCond .eq 4, 3) := by decide +kernel
theorem dX0_dock_7 : decode cX0_dock 7 = .ok (.return_, 1) := by decide +kernel
theorem dX0_dock_8 : decode cX0_dock 8 = .ok (.aload_n 0, 1) := by decide +kernel
theorem dX0_dock_9 : decode cX0_dock 9 = .ok (.getfield 41, 3) := by decide +kernel
theorem dX0_dock_12 : decode cX0_dock 12 = .ok (.iload_n 2, 1) := by decide +kernel
theorem dX0_dock_13 : decode cX0_dock 13 = .ok (.if_icmp .le 9, 3) := by decide +kernel
theorem dX0_dock_16 : decode cX0_dock 16 = .ok (.aload_n 0, 1) := by decide +kernel
theorem dX0_dock_17 : decode cX0_dock 17 = .ok (.iconst 3, 1) := by decide +kernel
theorem dX0_dock_18 : decode cX0_dock 18 = .ok (.putfield 62, 3) := by decide +kernel
theorem dX0_dock_21 : decode cX0_dock 21 = .ok (.return_, 1) := by decide +kernel
theorem dX0_dock_22 : decode cX0_dock 22 = .ok (.iload_n 1, 1) := by decide +kernel
theorem dX0_dock_23 : decode cX0_dock 23 = .ok (.aload_n 0, 1) := by decide +kernel
theorem dX0_dock_24 : decode cX0_dock 24 = .ok (.getfield 41, 3) := by decide +kernel
theorem dX0_dock_27 : decode cX0_dock 27 = .ok (.isub, 1) := by decide +kernel
theorem dX0_dock_28 : decode cX0_dock 28 = .ok (.iconst 0, 1) := by decide +kernel
theorem dX0_dock_29 : decode cX0_dock 29 = .ok (.invokestatic 88, 3) := by decide +kernel
theorem dX0_dock_32 : decode cX0_dock 32 = .ok (.istore_n 3, 1) := by decide +kernel
theorem dX0_dock_33 : decode cX0_dock 33 = .ok (.iload_n 3, 1) := by decide +kernel
theorem dX0_dock_34 : decode cX0_dock 34 = .ok (.bipush 45, 2) := by decide +kernel
theorem dX0_dock_36 : decode cX0_dock 36 = .ok (.if_icmp .lt 8, 3) := by decide +kernel
theorem dX0_dock_39 : decode cX0_dock 39 = .ok (.aload_n 0, 1) := by decide +kernel
theorem dX0_dock_40 : decode cX0_dock 40 = .ok (.iconst 0, 1) := by decide +kernel
theorem dX0_dock_41 : decode cX0_dock 41 = .ok (.putfield 44, 3) := by decide +kernel
theorem dX0_dock_44 : decode cX0_dock 44 = .ok (.aload_n 0, 1) := by decide +kernel
theorem dX0_dock_45 : decode cX0_dock 45 = .ok (.dup, 1) := by decide +kernel
theorem dX0_dock_46 : decode cX0_dock 46 = .ok (.getfield 56, 3) := by decide +kernel
theorem dX0_dock_49 : decode cX0_dock 49 = .ok (.iload_n 3, 1) := by decide +kernel
theorem dX0_dock_50 : decode cX0_dock 50 = .ok (.iadd, 1) := by decide +kernel
theorem dX0_dock_51 : decode cX0_dock 51 = .ok (.putfield 56, 3) := by decide +kernel
theorem dX0_dock_54 : decode cX0_dock 54 = .ok (.aload_n 0, 1) := by decide +kernel
theorem dX0_dock_55 : decode cX0_dock 55 = .ok (.dup, 1) := by decide +kernel
theorem dX0_dock_56 : decode cX0_dock 56 = .ok (.getfield 41, 3) := by decide +kernel
theorem dX0_dock_59 : decode cX0_dock 59 = .ok (.iload_n 3, 1) := by decide +kernel
theorem dX0_dock_60 : decode cX0_dock 60 = .ok (.bipush 30, 2) := by decide +kernel
theorem dX0_dock_62 : decode cX0_dock 62 = .ok (.iadd, 1) := by decide +kernel
theorem dX0_dock_63 : decode cX0_dock 63 = .ok (.iadd, 1) := by decide +kernel
theorem dX0_dock_64 : decode cX0_dock 64 = .ok (.putfield 41, 3) := by decide +kernel
theorem dX0_dock_67 : decode cX0_dock 67 = .ok (.return_, 1) := by decide +kernel
theorem dX1_init_0 : decode cX1_init 0 = .ok (.aload_n 0, 1) := by decide +kernel
theorem dX1_init_1 : decode cX1_init 1 = .ok (.invokespecial 3, 3) := by decide +kernel
theorem dX1_init_4 : decode cX1_init 4 = .ok (.aload_n 0, 1) := by decide +kernel
theorem dX1_init_5 : decode cX1_init 5 = .ok (.bipush 20, 2) := by decide +kernel
theorem dX1_init_7 : decode cX1_init 7 = .ok (.newarray .int, 2) := by decide +kernel
theorem dX1_init_9 : decode cX1_init 9 = .ok (.putfield 9, 3) := by decide +kernel
theorem dX1_init_12 : decode cX1_init 12 = .ok (.aload_n 0, 1) := by decide +kernel
theorem dX1_init_13 : decode cX1_init 13 = .ok (.aload_n 1, 1) := by decide +kernel
theorem dX1_init_14 : decode cX1_init 14 = .ok (.putfield 15, 3) := by decide +kernel
theorem dX1_init_17 : decode cX1_init 17 = .ok (.aload_n 0, 1) := by decide +kernel
theorem dX1_init_18 : decode cX1_init 18 = .ok (.new 19, 3) := by decide +kernel
theorem dX1_init_21 : decode cX1_init 21 = .ok (.dup, 1) := by decide +kernel
theorem dX1_init_22 : decode cX1_init 22 = .ok (.aload_n 1, 1) := by decide +kernel
theorem dX1_init_23 : decode cX1_init 23 = .ok (.iconst 3, 1) := by decide +kernel
theorem dX1_init_24 : decode cX1_init 24 = .ok (.bipush 20, 2) := by decide +kernel
theorem dX1_init_26 : decode cX1_init 26 = .ok (.invokespecial 21, 3) := by decide +kernel
theorem dX1_init_29 : decode cX1_init 29 = .ok (.putfield 24, 3) := by decide +kernel
theorem dX1_init_32 : decode cX1_init 32 = .ok (.return_, 1) := by decide +kernel
theorem dX1_contracts_0 : decode cX1_contracts 0 = .ok (.aload_n 0, 1) := by decide +kernel
theorem dX1_contracts_1 : decode cX1_contracts 1 = .ok (.getfield 24, 3) := by decide +kernel
theorem dX1_contracts_4 : decode cX1_contracts 4 = .ok (.invokevirtual 28, 3) := by decide +kernel
theorem dX1_contracts_7 : decode cX1_contracts 7 = .ok (.ireturn, 1) := by decide +kernel
theorem dX1_handOn_0 : decode cX1_handOn 0 = .ok (.iconst 3, 1) := by decide +kernel
theorem dX1_handOn_1 : decode cX1_handOn 1 = .ok (.newarray .int, 2) := by decide +kernel
theorem dX1_handOn_3 : decode cX1_handOn 3 = .ok (.dup, 1) := by decide +kernel
theorem dX1_handOn_4 : decode cX1_handOn 4 = .ok (.iconst 0, 1) := by decide +kernel
theorem dX1_handOn_5 : decode cX1_handOn 5 = .ok (.iload_n 1, 1) := by decide +kernel
theorem dX1_handOn_6 : decode cX1_handOn 6 = .ok (.iastore, 1) := by decide +kernel
theorem dX1_handOn_7 : decode cX1_handOn 7 = .ok (.dup, 1) := by decide +kernel
theorem dX1_handOn_8 : decode cX1_handOn 8 = .ok (.iconst 1, 1) := by decide +kernel
theorem dX1_handOn_9 : decode cX1_handOn 9 = .ok (.iload_n 2, 1) := by decide +kernel
theorem dX1_handOn_10 : decode cX1_handOn 10 = .ok (.iastore, 1) := by decide +kernel
theorem dX1_handOn_11 : decode cX1_handOn 11 = .ok (.dup, 1) := by decide +kernel
theorem dX1_handOn_12 : decode cX1_handOn 12 = .ok (.iconst 2, 1) := by decide +kernel
theorem dX1_handOn_13 : decode cX1_handOn 13 = .ok (.iload_n 3, 1) := by decide +kernel
theorem dX1_handOn_14 : decode cX1_handOn 14 = .ok (.iastore, 1) := by decide +kernel
theorem dX1_handOn_15 : decode cX1_handOn 15 = .ok (.astore 4, 2) := by decide +kernel
theorem dX1_handOn_17 : decode cX1_handOn 17 = .ok (.aload_n 0, 1) := by decide +kernel
theorem dX1_handOn_18 : decode cX1_handOn 18 = .ok (.getfield 24, 3) := by decide +kernel
theorem dX1_handOn_21 : decode cX1_handOn 21 = .ok (.aload 4, 2) := by decide +kernel
theorem dX1_handOn_23 : decode cX1_handOn 23 = .ok (.invokevirtual 32, 3) := by decide +kernel
theorem dX1_handOn_26 : decode cX1_handOn 26 = .ok (.ireturn, 1) := by decide +kernel
theorem dX1_contractsOf_0 : decode cX1_contractsOf 0 = .ok (.iconst 0, 1) := by decide +kernel
theorem dX1_contractsOf_1 : decode cX1_contractsOf 1 = .ok (.istore_n 2, 1) := by decide +kernel
theorem dX1_contractsOf_2 : decode cX1_contractsOf 2 = .ok (.iconst 0, 1) := by decide +kernel
theorem dX1_contractsOf_3 : decode cX1_contractsOf 3 = .ok (.istore_n 3, 1) := by decide +kernel
theorem dX1_contractsOf_4 : decode cX1_contractsOf 4 = .ok (.iload_n 3, 1) := by decide +kernel
theorem dX1_contractsOf_5 : decode cX1_contractsOf 5 = .ok (.aload_n 0, 1) := by decide +kernel
theorem dX1_contractsOf_6 : decode cX1_contractsOf 6 = .ok (.getfield 24, 3) := by decide +kernel
theorem dX1_contractsOf_9 : decode cX1_contractsOf 9 = .ok (.invokevirtual 28, 3) := by decide +kernel
theorem dX1_contractsOf_12 : decode cX1_contractsOf 12 = .ok (.if_icmp .ge 25, 3) := by decide +kernel
theorem dX1_contractsOf_15 : decode cX1_contractsOf 15 = .ok (.aload_n 0, 1) := by decide +kernel
theorem dX1_contractsOf_16 : decode cX1_contractsOf 16 = .ok (.getfield 24, 3) := by decide +kernel
theorem dX1_contractsOf_19 : decode cX1_contractsOf 19 = .ok (.iload_n 3, 1) := by decide +kernel
theorem dX1_contractsOf_20 : decode cX1_contractsOf 20 = .ok (.iconst 0, 1) := by decide +kernel
theorem dX1_contractsOf_21 : decode cX1_contractsOf 21 = .ok (.invokevirtual 36, 3) := by decide +kernel
theorem dX1_contractsOf_24 : decode cX1_contractsOf 24 = .ok (.iload_n 1, 1) := by decide +kernel
theorem dX1_contractsOf_25 : decode cX1_contractsOf 25 = .ok (.if_icmp .ne 6, 3) := by decide +kernel
theorem dX1_contractsOf_28 : decode cX1_contractsOf 28 = .ok (.iinc 2 1, 3) := by decide +kernel
theorem dX1_contractsOf_31 : decode cX1_contractsOf 31 = .ok (.iinc 3 1, 3) := by decide +kernel
theorem dX1_contractsOf_34 : decode cX1_contractsOf 34 = .ok (.goto (-30), 3) := by decide +kernel
theorem dX1_contractsOf_37 : decode cX1_contractsOf 37 = .ok (.iload_n 2, 1) := by decide +kernel
theorem dX1_contractsOf_38 : decode cX1_contractsOf 38 = .ok (.ireturn, 1) := by decide +kernel
theorem dX1_follow_0 : decode cX1_follow 0 = .ok (.aload_n 0, 1) := by decide +kernel
theorem dX1_follow_1 : decode cX1_follow 1 = .ok (.iconst 0, 1) := by decide +kernel
theorem dX1_follow_2 : decode cX1_follow 2 = .ok (.putfield 40, 3) := by decide +kernel
theorem dX1_follow_5 : decode cX1_follow 5 = .ok (.aload_n 0, 1) := by decide +kernel
theorem dX1_follow_6 : decode cX1_follow 6 = .ok (.iload_n 2, 1) := by decide +kernel
theorem dX1_follow_7 : decode cX1_follow 7 = .ok (.putfield 44, 3) := by decide +kernel
theorem dX1_follow_10 : decode cX1_follow 10 = .ok (.iconst 0, 1) := by decide +kernel
theorem dX1_follow_11 : decode cX1_follow 11 = .ok (.istore_n 3, 1) := by decide +kernel
theorem dX1_follow_12 : decode cX1_follow 12 = .ok (.iconst 0, 1) := by decide +kernel
theorem dX1_follow_13 : decode cX1_follow 13 = .ok (.istore 4, 2) := by decide +kernel
theorem dX1_follow_15 : decode cX1_follow 15 = .ok (.iload 4, 2) := by decide +kernel
theorem dX1_follow_17 : decode cX1_follow 17 = .ok (.bipush 20, 2) := by decide +kernel
theorem dX1_follow_19 : decode cX1_follow 19 = .ok (.if_icmp .ge 58, 3) := by decide +kernel
theorem dX1_follow_22 : decode cX1_follow 22 = .ok (.aload_n 0, 1) := by decide +kernel
theorem dX1_follow_23 : decode cX1_follow 23 = .ok (.iload_n 1, 1) := by decide +kernel
theorem dX1_follow_24 : decode cX1_follow 24 = .ok (.aload_n 0, 1) := by decide +kernel
theorem dX1_follow_25 : decode cX1_follow 25 = .ok (.getfield 44, 3) := by decide +kernel
theorem dX1_follow_28 : decode cX1_follow 28 = .ok (.iload_n 3, 1) := by decide +kernel
theorem dX1_follow_29 : decode cX1_follow 29 = .ok (.invokevirtual 47, 3) := by decide +kernel
theorem dX1_follow_32 : decode cX1_follow 32 = .ok (.istore 5, 2) := by decide +kernel
theorem dX1_follow_34 : decode cX1_follow 34 = .ok (.iload 5, 2) := by decide +kernel
theorem dX1_follow_36 : decode cX1_follow 36 = .ok (.ifCond .ge 4, 3) := by decide +kernel
theorem dX1_follow_39 : decode cX1_follow 39 = .ok (.return_, 1) := by decide +kernel
theorem dX1_follow_40 : decode cX1_follow 40 = .ok (.iload_n 3, 1) := by decide +kernel
theorem dX1_follow_41 : decode cX1_follow 41 = .ok (.iconst 1, 1) := by decide +kernel
theorem dX1_follow_42 : decode cX1_follow 42 = .ok (.iload 5, 2) := by decide +kernel
theorem dX1_follow_44 : decode cX1_follow 44 = .ok (.ishl, 1) := by decide +kernel
theorem dX1_follow_45 : decode cX1_follow 45 = .ok (.ior, 1) := by decide +kernel
theorem dX1_follow_46 : decode cX1_follow 46 = .ok (.istore_n 3, 1) := by decide +kernel
theorem dX1_follow_47 : decode cX1_follow 47 = .ok (.aload_n 0, 1) := by decide +kernel
theorem dX1_follow_48 : decode cX1_follow 48 = .ok (.aload_n 0, 1) := by decide +kernel
theorem dX1_follow_49 : decode cX1_follow 49 = .ok (.getfield 24, 3) := by decide +kernel
theorem dX1_follow_52 : decode cX1_follow 52 = .ok (.iload 5, 2) := by decide +kernel
theorem dX1_follow_54 : decode cX1_follow 54 = .ok (.iconst 2, 1) := by decide +kernel
theorem dX1_follow_55 : decode cX1_follow 55 = .ok (.invokevirtual 36, 3) := by decide +kernel
theorem dX1_follow_58 : decode cX1_follow 58 = .ok (.putfield 44, 3) := by decide +kernel
theorem dX1_follow_61 : decode cX1_follow 61 = .ok (.aload_n 0, 1) := by decide +kernel
theorem dX1_follow_62 : decode cX1_follow 62 = .ok (.dup, 1) := by decide +kernel
theorem dX1_follow_63 : decode cX1_follow 63 = .ok (.getfield 40, 3) := by decide +kernel
theorem dX1_follow_66 : decode cX1_follow 66 = .ok (.iconst 1, 1) := by decide +kernel
theorem dX1_follow_67 : decode cX1_follow 67 = .ok (.iadd, 1) := by decide +kernel
theorem dX1_follow_68 : decode cX1_follow 68 = .ok (.putfield 40, 3) := by decide +kernel
theorem dX1_follow_71 : decode cX1_follow 71 = .ok (.iinc 4 1, 3) := by decide +kernel
theorem dX1_follow_74 : decode cX1_follow 74 = .ok (.goto (-59), 3) := by decide +kernel
theorem dX1_follow_77 : decode cX1_follow 77 = .ok (.return_, 1) := by decide +kernel
theorem dX1_links_0 : decode cX1_links 0 = .ok (.aload_n 0, 1) := by decide +kernel
theorem dX1_links_1 : decode cX1_links 1 = .ok (.getfield 40, 3) := by decide +kernel
theorem dX1_links_4 : decode cX1_links 4 = .ok (.ireturn, 1) := by decide +kernel
theorem dX1_carrier_0 : decode cX1_carrier 0 = .ok (.aload_n 0, 1) := by decide +kernel
theorem dX1_carrier_1 : decode cX1_carrier 1 = .ok (.getfield 44, 3) := by decide +kernel
theorem dX1_carrier_4 : decode cX1_carrier 4 = .ok (.ireturn, 1) := by decide +kernel
theorem dX1_firstUnused_0 : decode cX1_firstUnused 0 = .ok (.iconst 0, 1) := by decide +kernel
theorem dX1_firstUnused_1 : decode cX1_firstUnused 1 = .ok (.istore 4, 2) := by decide +kernel
theorem dX1_firstUnused_3 : decode cX1_firstUnused 3 = .ok (.iload 4, 2) := by decide +kernel
theorem dX1_firstUnused_5 : decode cX1_firstUnused 5 = .ok (.aload_n 0, 1) := by decide +kernel
theorem dX1_firstUnused_6 : decode cX1_firstUnused 6 = .ok (.getfield 24, 3) := by decide +kernel
theorem dX1_firstUnused_9 : decode cX1_firstUnused 9 = .ok (.invokevirtual 28, 3) := by decide +kernel
theorem dX1_firstUnused_12 : decode cX1_firstUnused 12 = .ok (.if_icmp .ge 49, 3) := by decide +kernel
theorem dX1_firstUnused_15 : decode cX1_firstUnused 15 = .ok (.aload_n 0, 1) := by decide +kernel
theorem dX1_firstUnused_16 : decode cX1_firstUnused 16 = .ok (.getfield 24, 3) := by decide +kernel
theorem dX1_firstUnused_19 : decode cX1_firstUnused 19 = .ok (.iload 4, 2) := by decide +kernel
theorem dX1_firstUnused_21 : decode cX1_firstUnused 21 = .ok (.iconst 0, 1) := by decide +kernel
theorem dX1_firstUnused_22 : decode cX1_firstUnused 22 = .ok (.invokevirtual 36, 3) := by decide +kernel
theorem dX1_firstUnused_25 : decode cX1_firstUnused 25 = .ok (.iload_n 1, 1) := by decide +kernel
theorem dX1_firstUnused_26 : decode cX1_firstUnused 26 = .ok (.if_icmp .ne 29, 3) := by decide +kernel
theorem dX1_firstUnused_29 : decode cX1_firstUnused 29 = .ok (.aload_n 0, 1) := by decide +kernel
theorem dX1_firstUnused_30 : decode cX1_firstUnused 30 = .ok (.getfield 24, 3) := by decide +kernel
theorem dX1_firstUnused_33 : decode cX1_firstUnused 33 = .ok (.iload 4, 2) := by decide +kernel
theorem dX1_firstUnused_35 : decode cX1_firstUnused 35 = .ok (.iconst 1, 1) := by decide +kernel
theorem dX1_firstUnused_36 : decode cX1_firstUnused 36 = .ok (.invokevirtual 36, 3) := by decide +kernel
theorem dX1_firstUnused_39 : decode cX1_firstUnused 39 = .ok (.iload_n 2, 1) := by decide +kernel
theorem dX1_firstUnused_40 : decode cX1_firstUnused 40 = .ok (.if_icmp .ne 15, 3) := by decide +kernel
theorem dX1_firstUnused_43 : decode cX1_firstUnused 43 = .ok (.iload_n 3, 1) := by decide +kernel
theorem dX1_firstUnused_44 : decode cX1_firstUnused 44 = .ok (.iconst 1, 1) := by decide +kernel
theorem dX1_firstUnused_45 : decode cX1_firstUnused 45 = .ok (.iload 4, 2) := by decide +kernel
theorem dX1_firstUnused_47 : decode cX1_firstUnused 47 = .ok (.ishl, 1) := by decide +kernel
theorem dX1_firstUnused_48 : decode cX1_firstUnused 48 = .ok (.iand, 1) := by decide +kernel
theorem dX1_firstUnused_49 : decode cX1_firstUnused 49 = .ok (.ifCond .ne 6, 3) := by decide +kernel
theorem dX1_firstUnused_52 : decode cX1_firstUnused 52 = .ok (.iload 4, 2) := by decide +kernel
theorem dX1_firstUnused_54 : decode cX1_firstUnused 54 = .ok (.ireturn, 1) := by decide +kernel
theorem dX1_firstUnused_55 : decode cX1_firstUnused 55 = .ok (.iinc 4 1, 3) := by decide +kernel
theorem dX1_firstUnused_58 : decode cX1_firstUnused 58 = .ok (.goto (-55), 3) := by decide +kernel
theorem dX1_firstUnused_61 : decode cX1_firstUnused 61 = .ok (.iconst (-1), 1) := by decide +kernel
theorem dX1_firstUnused_62 : decode cX1_firstUnused 62 = .ok (.ireturn, 1) := by decide +kernel
theorem dX1_doubleGivers_0 : decode cX1_doubleGivers 0 = .ok (.iconst 0, 1) := by decide +kernel
theorem dX1_doubleGivers_1 : decode cX1_doubleGivers 1 = .ok (.istore_n 2, 1) := by decide +kernel
theorem dX1_doubleGivers_2 : decode cX1_doubleGivers 2 = .ok (.iconst 0, 1) := by decide +kernel
theorem dX1_doubleGivers_3 : decode cX1_doubleGivers 3 = .ok (.istore_n 3, 1) := by decide +kernel
theorem dX1_doubleGivers_4 : decode cX1_doubleGivers 4 = .ok (.iload_n 3, 1) := by decide +kernel
theorem dX1_doubleGivers_5 : decode cX1_doubleGivers 5 = .ok (.bipush 10, 2) := by decide +kernel
theorem dX1_doubleGivers_7 : decode cX1_doubleGivers 7 = .ok (.if_icmp .ge 90, 3) := by decide +kernel
theorem dX1_doubleGivers_10 : decode cX1_doubleGivers 10 = .ok (.iconst 0, 1) := by decide +kernel
theorem dX1_doubleGivers_11 : decode cX1_doubleGivers 11 = .ok (.istore 4, 2) := by decide +kernel
theorem dX1_doubleGivers_13 : decode cX1_doubleGivers 13 = .ok (.iconst 0, 1) := by decide +kernel
theorem dX1_doubleGivers_14 : decode cX1_doubleGivers 14 = .ok (.istore 5, 2) := by decide +kernel
theorem dX1_doubleGivers_16 : decode cX1_doubleGivers 16 = .ok (.iload 5, 2) := by decide +kernel
theorem dX1_doubleGivers_18 : decode cX1_doubleGivers 18 = .ok (.aload_n 0, 1) := by decide +kernel
theorem dX1_doubleGivers_19 : decode cX1_doubleGivers 19 = .ok (.getfield 24, 3) := by decide +kernel
theorem dX1_doubleGivers_22 : decode cX1_doubleGivers 22 = .ok (.invokevirtual 28, 3) := by decide +kernel
theorem dX1_doubleGivers_25 : decode cX1_doubleGivers 25 = .ok (.if_icmp .ge 54, 3) := by decide +kernel
theorem dX1_doubleGivers_28 : decode cX1_doubleGivers 28 = .ok (.aload_n 0, 1) := by decide +kernel
theorem dX1_doubleGivers_29 : decode cX1_doubleGivers 29 = .ok (.getfield 24, 3) := by decide +kernel
theorem dX1_doubleGivers_32 : decode cX1_doubleGivers 32 = .ok (.iload 5, 2) := by decide +kernel
theorem dX1_doubleGivers_34 : decode cX1_doubleGivers 34 = .ok (.iconst 0, 1) := by decide +kernel
theorem dX1_doubleGivers_35 : decode cX1_doubleGivers 35 = .ok (.invokevirtual 36, 3) := by decide +kernel
theorem dX1_doubleGivers_38 : decode cX1_doubleGivers 38 = .ok (.iload_n 1, 1) := by decide +kernel
theorem dX1_doubleGivers_39 : decode cX1_doubleGivers 39 = .ok (.if_icmp .ne 34, 3) := by decide +kernel
theorem dX1_doubleGivers_42 : decode cX1_doubleGivers 42 = .ok (.aload_n 0, 1) := by decide +kernel
theorem dX1_doubleGivers_43 : decode cX1_doubleGivers 43 = .ok (.getfield 24, 3) := by decide +kernel
theorem dX1_doubleGivers_46 : decode cX1_doubleGivers 46 = .ok (.iload 5, 2) := by decide +kernel
theorem dX1_doubleGivers_48 : decode cX1_doubleGivers 48 = .ok (.iconst 1, 1) := by decide +kernel
theorem dX1_doubleGivers_49 : decode cX1_doubleGivers 49 = .ok (.invokevirtual 36, 3) := by decide +kernel
theorem dX1_doubleGivers_52 : decode cX1_doubleGivers 52 = .ok (.iload_n 3, 1) := by decide +kernel
theorem dX1_doubleGivers_53 : decode cX1_doubleGivers 53 = .ok (.if_icmp .ne 20, 3) := by decide +kernel
theorem dX1_doubleGivers_56 : decode cX1_doubleGivers 56 = .ok (.iload 4, 2) := by decide +kernel
theorem dX1_doubleGivers_58 : decode cX1_doubleGivers 58 = .ok (.iconst 1, 1) := by decide +kernel
theorem dX1_doubleGivers_59 : decode cX1_doubleGivers 59 = .ok (.aload_n 0, 1) := by decide +kernel
theorem dX1_doubleGivers_60 : decode cX1_doubleGivers 60 = .ok (.getfield 24, 3) := by decide +kernel
theorem dX1_doubleGivers_63 : decode cX1_doubleGivers 63 = .ok (.iload 5, 2) := by decide +kernel
theorem dX1_doubleGivers_65 : decode cX1_doubleGivers 65 = .ok (.iconst 2, 1) := by decide +kernel
theorem dX1_doubleGivers_66 : decode cX1_doubleGivers 66 = .ok (.invokevirtual 36, 3) := by decide +kernel
theorem dX1_doubleGivers_69 : decode cX1_doubleGivers 69 = .ok (.ishl, 1) := by decide +kernel
theorem dX1_doubleGivers_70 : decode cX1_doubleGivers 70 = .ok (.ior, 1) := by decide +kernel
theorem dX1_doubleGivers_71 : decode cX1_doubleGivers 71 = .ok (.istore 4, 2) := by decide +kernel
theorem dX1_doubleGivers_73 : decode cX1_doubleGivers 73 = .ok (.iinc 5 1, 3) := by decide +kernel
theorem dX1_doubleGivers_76 : decode cX1_doubleGivers 76 = .ok (.goto (-60), 3) := by decide +kernel
theorem dX1_doubleGivers_79 : decode cX1_doubleGivers 79 = .ok (.iload 4, 2) := by decide +kernel
theorem dX1_doubleGivers_81 : decode cX1_doubleGivers 81 = .ok (.invokestatic 51, 3) := by decide +kernel
theorem dX1_doubleGivers_84 : decode cX1_doubleGivers 84 = .ok (.iconst 1, 1) := by decide +kernel
theorem dX1_doubleGivers_85 : decode cX1_doubleGivers 85 = .ok (.if_icmp .le 6, 3) := by decide +kernel
theorem dX1_doubleGivers_88 : decode cX1_doubleGivers 88 = .ok (.iinc 2 1, 3) := by decide +kernel
theorem dX1_doubleGivers_91 : decode cX1_doubleGivers 91 = .ok (.iinc 3 1, 3) := by decide +kernel
theorem dX1_doubleGivers_94 : decode cX1_doubleGivers 94 = .ok (.goto (-90), 3) := by decide +kernel
theorem dX1_doubleGivers_97 : decode cX1_doubleGivers 97 = .ok (.iload_n 2, 1) := by decide +kernel
theorem dX1_doubleGivers_98 : decode cX1_doubleGivers 98 = .ok (.ireturn, 1) := by decide +kernel
theorem dX1_judge_0 : decode cX1_judge 0 = .ok (.iload_n 1, 1) := by decide +kernel
theorem dX1_judge_1 : decode cX1_judge 1 = .ok (.invokestatic 57, 3) := by decide +kernel
theorem dX1_judge_4 : decode cX1_judge 4 = .ok (.ifCond .ne 6, 3) := by decide +kernel
theorem dX1_judge_7 : decode cX1_judge 7 = .ok (.ldc 61, 2) := by decide +kernel
theorem dX1_judge_9 : decode cX1_judge 9 = .ok (.ireturn, 1) := by decide +kernel
theorem dX1_judge_10 : decode cX1_judge 10 = .ok (.aload_n 0, 1) := by decide +kernel
theorem dX1_judge_11 : decode cX1_judge 11 = .ok (.iload_n 1, 1) := by decide +kernel
theorem dX1_judge_12 : decode cX1_judge 12 = .ok (.invokevirtual 62, 3) := by decide +kernel
theorem dX1_judge_15 : decode cX1_judge 15 = .ok (.istore_n 3, 1) := by decide +kernel
theorem dX1_judge_16 : decode cX1_judge 16 = .ok (.iload_n 3, 1) := by decide +kernel
theorem dX1_judge_17 : decode cX1_judge 17 = .ok (.sipush 200, 3) := by decide +kernel
theorem dX1_judge_20 : decode cX1_judge 20 = .ok (.if_icmp .lt 6, 3) := by decide +kernel
theorem dX1_judge_23 : decode cX1_judge 23 = .ok (.ldc 65, 2) := by decide +kernel
theorem dX1_judge_25 : decode cX1_judge 25 = .ok (.ireturn, 1) := by decide +kernel
theorem dX1_judge_26 : decode cX1_judge 26 = .ok (.iload_n 2, 1) := by decide +kernel
theorem dX1_judge_27 : decode cX1_judge 27 = .ok (.ifCond .eq 9, 3) := by decide +kernel
theorem dX1_judge_30 : decode cX1_judge 30 = .ok (.iconst 2, 1) := by decide +kernel
theorem dX1_judge_31 : decode cX1_judge 31 = .ok (.iload_n 1, 1) := by decide +kernel
theorem dX1_judge_32 : decode cX1_judge 32 = .ok (.imul, 1) := by decide +kernel
theorem dX1_judge_33 : decode cX1_judge 33 = .ok (.goto 8, 3) := by decide +kernel
theorem dX1_judge_36 : decode cX1_judge 36 = .ok (.iconst 2, 1) := by decide +kernel
theorem dX1_judge_37 : decode cX1_judge 37 = .ok (.iload_n 1, 1) := by decide +kernel
theorem dX1_judge_38 : decode cX1_judge 38 = .ok (.imul, 1) := by decide +kernel
theorem dX1_judge_39 : decode cX1_judge 39 = .ok (.iconst 1, 1) := by decide +kernel
theorem dX1_judge_40 : decode cX1_judge 40 = .ok (.iadd, 1) := by decide +kernel
theorem dX1_judge_41 : decode cX1_judge 41 = .ok (.istore 4, 2) := by decide +kernel
theorem dX1_judge_43 : decode cX1_judge 43 = .ok (.aload_n 0, 1) := by decide +kernel
theorem dX1_judge_44 : decode cX1_judge 44 = .ok (.getfield 15, 3) := by decide +kernel
theorem dX1_judge_47 : decode cX1_judge 47 = .ok (.aload_n 0, 1) := by decide +kernel
theorem dX1_judge_48 : decode cX1_judge 48 = .ok (.getfield 9, 3) := by decide +kernel
theorem dX1_judge_51 : decode cX1_judge 51 = .ok (.iload 4, 2) := by decide +kernel
theorem dX1_judge_53 : decode cX1_judge 53 = .ok (.iconst 1, 1) := by decide +kernel
theorem dX1_judge_54 : decode cX1_judge 54 = .ok (.invokevirtual 66, 3) := by decide +kernel
theorem dX1_judge_57 : decode cX1_judge 57 = .ok (.aload_n 0, 1) := by decide +kernel
theorem dX1_judge_58 : decode cX1_judge 58 = .ok (.getfield 9, 3) := by decide +kernel
theorem dX1_judge_61 : decode cX1_judge 61 = .ok (.iload 4, 2) := by decide +kernel
theorem dX1_judge_63 : decode cX1_judge 63 = .ok (.dup2, 1) := by decide +kernel
theorem dX1_judge_64 : decode cX1_judge 64 = .ok (.iaload, 1) := by decide +kernel
theorem dX1_judge_65 : decode cX1_judge 65 = .ok (.iconst 1, 1) := by decide +kernel
theorem dX1_judge_66 : decode cX1_judge 66 = .ok (.iadd, 1) := by decide +kernel
theorem dX1_judge_67 : decode cX1_judge 67 = .ok (.iastore, 1) := by decide +kernel
theorem dX1_judge_68 : decode cX1_judge 68 = .ok (.iload_n 3, 1) := by decide +kernel
theorem dX1_judge_69 : decode cX1_judge 69 = .ok (.iconst 1, 1) := by decide +kernel
theorem dX1_judge_70 : decode cX1_judge 70 = .ok (.iadd, 1) := by decide +kernel
theorem dX1_judge_71 : decode cX1_judge 71 = .ok (.ireturn, 1) := by decide +kernel
theorem dX1_leastTrust_0 : decode cX1_leastTrust 0 = .ok (.bipush 100, 2) := by decide +kernel
theorem dX1_leastTrust_2 : decode cX1_leastTrust 2 = .ok (.aload_n 0, 1) := by decide +kernel
theorem dX1_leastTrust_3 : decode cX1_leastTrust 3 = .ok (.iload_n 1, 1) := by decide +kernel
theorem dX1_leastTrust_4 : decode cX1_leastTrust 4 = .ok (.invokevirtual 72, 3) := by decide +kernel
theorem dX1_leastTrust_7 : decode cX1_leastTrust 7 = .ok (.imul, 1) := by decide +kernel
theorem dX1_leastTrust_8 : decode cX1_leastTrust 8 = .ok (.aload_n 0, 1) := by decide +kernel
theorem dX1_leastTrust_9 : decode cX1_leastTrust 9 = .ok (.iload_n 1, 1) := by decide +kernel
theorem dX1_leastTrust_10 : decode cX1_leastTrust 10 = .ok (.invokevirtual 62, 3) := by decide +kernel
theorem dX1_leastTrust_13 : decode cX1_leastTrust 13 = .ok (.iconst 3, 1) := by decide +kernel
theorem dX1_leastTrust_14 : decode cX1_leastTrust 14 = .ok (.iadd, 1) := by decide +kernel
theorem dX1_leastTrust_15 : decode cX1_leastTrust 15 = .ok (.idiv, 1) := by decide +kernel
theorem dX1_leastTrust_16 : decode cX1_leastTrust 16 = .ok (.ireturn, 1) := by decide +kernel
theorem dX1_greatestTrust_0 : decode cX1_greatestTrust 0 = .ok (.bipush 100, 2) := by decide +kernel
theorem dX1_greatestTrust_2 : decode cX1_greatestTrust 2 = .ok (.aload_n 0, 1) := by decide +kernel
theorem dX1_greatestTrust_3 : decode cX1_greatestTrust 3 = .ok (.iload_n 1, 1) := by decide +kernel
theorem dX1_greatestTrust_4 : decode cX1_greatestTrust 4 = .ok (.invokevirtual 72, 3) := by decide +kernel
theorem dX1_greatestTrust_7 : decode cX1_greatestTrust 7 = .ok (.iconst 3, 1) := by decide +kernel
theorem dX1_greatestTrust_8 : decode cX1_greatestTrust 8 = .ok (.iadd, 1) := by decide +kernel
theorem dX1_greatestTrust_9 : decode cX1_greatestTrust 9 = .ok (.imul, 1) := by decide +kernel
theorem dX1_greatestTrust_10 : decode cX1_greatestTrust 10 = .ok (.aload_n 0, 1) := by decide +kernel
theorem dX1_greatestTrust_11 : decode cX1_greatestTrust 11 = .ok (.iload_n 1, 1) := by decide +kernel
theorem dX1_greatestTrust_12 : decode cX1_greatestTrust 12 = .ok (.invokevirtual 62, 3) := by decide +kernel
theorem dX1_greatestTrust_15 : decode cX1_greatestTrust 15 = .ok (.iconst 3, 1) := by decide +kernel
theorem dX1_greatestTrust_16 : decode cX1_greatestTrust 16 = .ok (.iadd, 1) := by decide +kernel
theorem dX1_greatestTrust_17 : decode cX1_greatestTrust 17 = .ok (.idiv, 1) := by decide +kernel
theorem dX1_greatestTrust_18 : decode cX1_greatestTrust 18 = .ok (.ireturn, 1) := by decide +kernel
theorem dX1_doneOf_0 : decode cX1_doneOf 0 = .ok (.iload_n 1, 1) := by decide +kernel
theorem dX1_doneOf_1 : decode cX1_doneOf 1 = .ok (.invokestatic 57, 3) := by decide +kernel
theorem dX1_doneOf_4 : decode cX1_doneOf 4 = .ok (.ifCond .eq 14, 3) := by decide +kernel
theorem dX1_doneOf_7 : decode cX1_doneOf 7 = .ok (.aload_n 0, 1) := by decide +kernel
theorem dX1_doneOf_8 : decode cX1_doneOf 8 = .ok (.getfield 9, 3) := by decide +kernel
theorem dX1_doneOf_11 : decode cX1_doneOf 11 = .ok (.iconst 2, 1) := by decide +kernel
theorem dX1_doneOf_12 : decode cX1_doneOf 12 = .ok (.iload_n 1, 1) := by decide +kernel
theorem dX1_doneOf_13 : decode cX1_doneOf 13 = .ok (.imul, 1) := by decide +kernel
theorem dX1_doneOf_14 : decode cX1_doneOf 14 = .ok (.iaload, 1) := by decide +kernel
theorem dX1_doneOf_15 : decode cX1_doneOf 15 = .ok (.goto 4, 3) := by decide +kernel
theorem dX1_doneOf_18 : decode cX1_doneOf 18 = .ok (.iconst 0, 1) := by decide +kernel
theorem dX1_doneOf_19 : decode cX1_doneOf 19 = .ok (.ireturn, 1) := by decide +kernel
theorem dX1_judgedOf_0 : decode cX1_judgedOf 0 = .ok (.iload_n 1, 1) := by decide +kernel
theorem dX1_judgedOf_1 : decode cX1_judgedOf 1 = .ok (.invokestatic 57, 3) := by decide +kernel
theorem dX1_judgedOf_4 : decode cX1_judgedOf 4 = .ok (.ifCond .eq 25, 3) := by decide +kernel
theorem dX1_judgedOf_7 : decode cX1_judgedOf 7 = .ok (.aload_n 0, 1) := by decide +kernel
theorem dX1_judgedOf_8 : decode cX1_judgedOf 8 = .ok (.getfield 9, 3) := by decide +kernel
theorem dX1_judgedOf_11 : decode cX1_judgedOf 11 = .ok (.iconst 2, 1) := by decide +kernel
theorem dX1_judgedOf_12 : decode cX1_judgedOf 12 = .ok (.iload_n 1, 1) := by decide +kernel
theorem dX1_judgedOf_13 : decode cX1_judgedOf 13 = .ok (.imul, 1) := by decide +kernel
theorem dX1_judgedOf_14 : decode cX1_judgedOf 14 = .ok (.iaload, 1) := by decide +kernel
theorem dX1_judgedOf_15 : decode cX1_judgedOf 15 = .ok (.aload_n 0, 1) := by decide +kernel
theorem dX1_judgedOf_16 : decode cX1_judgedOf 16 = .ok (.getfield 9, 3) := by decide +kernel
theorem dX1_judgedOf_19 : decode cX1_judgedOf 19 = .ok (.iconst 2, 1) := by decide +kernel
theorem dX1_judgedOf_20 : decode cX1_judgedOf 20 = .ok (.iload_n 1, 1) := by decide +kernel
theorem dX1_judgedOf_21 : decode cX1_judgedOf 21 = .ok (.imul, 1) := by decide +kernel
theorem dX1_judgedOf_22 : decode cX1_judgedOf 22 = .ok (.iconst 1, 1) := by decide +kernel
theorem dX1_judgedOf_23 : decode cX1_judgedOf 23 = .ok (.iadd, 1) := by decide +kernel
theorem dX1_judgedOf_24 : decode cX1_judgedOf 24 = .ok (.iaload, 1) := by decide +kernel
theorem dX1_judgedOf_25 : decode cX1_judgedOf 25 = .ok (.iadd, 1) := by decide +kernel
theorem dX1_judgedOf_26 : decode cX1_judgedOf 26 = .ok (.goto 4, 3) := by decide +kernel
theorem dX1_judgedOf_29 : decode cX1_judgedOf 29 = .ok (.iconst 0, 1) := by decide +kernel
theorem dX1_judgedOf_30 : decode cX1_judgedOf 30 = .ok (.ireturn, 1) := by decide +kernel
theorem dX2_init_0 : decode cX2_init 0 = .ok (.aload_n 0, 1) := by decide +kernel
theorem dX2_init_1 : decode cX2_init 1 = .ok (.invokespecial 3, 3) := by decide +kernel
theorem dX2_init_4 : decode cX2_init 4 = .ok (.aload_n 0, 1) := by decide +kernel
theorem dX2_init_5 : decode cX2_init 5 = .ok (.sipush 1792, 3) := by decide +kernel
theorem dX2_init_8 : decode cX2_init 8 = .ok (.newarray .int, 2) := by decide +kernel
theorem dX2_init_10 : decode cX2_init 10 = .ok (.putfield 11, 3) := by decide +kernel
theorem dX2_init_13 : decode cX2_init 13 = .ok (.aload_n 0, 1) := by decide +kernel
theorem dX2_init_14 : decode cX2_init 14 = .ok (.sipush 1536, 3) := by decide +kernel
theorem dX2_init_17 : decode cX2_init 17 = .ok (.newarray .int, 2) := by decide +kernel
theorem dX2_init_19 : decode cX2_init 19 = .ok (.putfield 15, 3) := by decide +kernel
theorem dX2_init_22 : decode cX2_init 22 = .ok (.aload_n 0, 1) := by decide +kernel
theorem dX2_init_23 : decode cX2_init 23 = .ok (.bipush 6, 2) := by decide +kernel
theorem dX2_init_25 : decode cX2_init 25 = .ok (.newarray .int, 2) := by decide +kernel
theorem dX2_init_27 : decode cX2_init 27 = .ok (.putfield 18, 3) := by decide +kernel
theorem dX2_init_30 : decode cX2_init 30 = .ok (.aload_n 0, 1) := by decide +kernel
theorem dX2_init_31 : decode cX2_init 31 = .ok (.bipush 65, 2) := by decide +kernel
theorem dX2_init_33 : decode cX2_init 33 = .ok (.newarray .int, 2) := by decide +kernel
theorem dX2_init_35 : decode cX2_init 35 = .ok (.putfield 21, 3) := by decide +kernel
theorem dX2_init_38 : decode cX2_init 38 = .ok (.aload_n 0, 1) := by decide +kernel
theorem dX2_init_39 : decode cX2_init 39 = .ok (.bipush 65, 2) := by decide +kernel
theorem dX2_init_41 : decode cX2_init 41 = .ok (.newarray .int, 2) := by decide +kernel
theorem dX2_init_43 : decode cX2_init 43 = .ok (.putfield 24, 3) := by decide +kernel
theorem dX2_init_46 : decode cX2_init 46 = .ok (.aload_n 0, 1) := by decide +kernel
theorem dX2_init_47 : decode cX2_init 47 = .ok (.bipush 65, 2) := by decide +kernel
theorem dX2_init_49 : decode cX2_init 49 = .ok (.newarray .int, 2) := by decide +kernel
theorem dX2_init_51 : decode cX2_init 51 = .ok (.putfield 27, 3) := by decide +kernel
theorem dX2_init_54 : decode cX2_init 54 = .ok (.aload_n 0, 1) := by decide +kernel
theorem dX2_init_55 : decode cX2_init 55 = .ok (.iconst (-1), 1) := by decide +kernel
theorem dX2_init_56 : decode cX2_init 56 = .ok (.putfield 30, 3) := by decide +kernel
theorem dX2_init_59 : decode cX2_init 59 = .ok (.aload_n 0, 1) := by decide +kernel
theorem dX2_init_60 : decode cX2_init 60 = .ok (.aload_n 1, 1) := by decide +kernel
theorem dX2_init_61 : decode cX2_init 61 = .ok (.putfield 34, 3) := by decide +kernel
theorem dX2_init_64 : decode cX2_init 64 = .ok (.aload_n 0, 1) := by decide +kernel
theorem dX2_init_65 : decode cX2_init 65 = .ok (.aload_n 2, 1) := by decide +kernel
theorem dX2_init_66 : decode cX2_init 66 = .ok (.putfield 38, 3) := by decide +kernel
theorem dX2_init_69 : decode cX2_init 69 = .ok (.aload_n 0, 1) := by decide +kernel
theorem dX2_init_70 : decode cX2_init 70 = .ok (.aload_n 3, 1) := by decide +kernel
theorem dX2_init_71 : decode cX2_init 71 = .ok (.putfield 42, 3) := by decide +kernel
theorem dX2_init_74 : decode cX2_init 74 = .ok (.aload_n 0, 1) := by decide +kernel
theorem dX2_init_75 : decode cX2_init 75 = .ok (.aload 4, 2) := by decide +kernel
theorem dX2_init_77 : decode cX2_init 77 = .ok (.putfield 45, 3) := by decide +kernel
theorem dX2_init_80 : decode cX2_init 80 = .ok (.return_, 1) := by decide +kernel
theorem dX2_firstOf_0 : decode cX2_firstOf 0 = .ok (.iload_n 0, 1) := by decide +kernel
theorem dX2_firstOf_1 : decode cX2_firstOf 1 = .ok (.bipush 100, 2) := by decide +kernel
theorem dX2_firstOf_3 : decode cX2_firstOf 3 = .ok (.idiv, 1) := by decide +kernel
theorem dX2_firstOf_4 : decode cX2_firstOf 4 = .ok (.iconst 1, 1) := by decide +kernel
theorem dX2_firstOf_5 : decode cX2_firstOf 5 = .ok (.isub, 1) := by decide +kernel
theorem dX2_firstOf_6 : decode cX2_firstOf 6 = .ok (.ireturn, 1) := by decide +kernel
theorem dX2_secondOf_0 : decode cX2_secondOf 0 = .ok (.iload_n 0, 1) := by decide +kernel
theorem dX2_secondOf_1 : decode cX2_secondOf 1 = .ok (.bipush 100, 2) := by decide +kernel
theorem dX2_secondOf_3 : decode cX2_secondOf 3 = .ok (.irem, 1) := by decide +kernel
theorem dX2_secondOf_4 : decode cX2_secondOf 4 = .ok (.iconst 1, 1) := by decide +kernel
theorem dX2_secondOf_5 : decode cX2_secondOf 5 = .ok (.isub, 1) := by decide +kernel
theorem dX2_secondOf_6 : decode cX2_secondOf 6 = .ok (.ireturn, 1) := by decide +kernel
theorem dX2_rowBy_0 : decode cX2_rowBy 0 = .ok (.bipush 100, 2) := by decide +kernel
theorem dX2_rowBy_2 : decode cX2_rowBy 2 = .ok (.iload_n 0, 1) := by decide +kernel
theorem dX2_rowBy_3 : decode cX2_rowBy 3 = .ok (.iconst 1, 1) := by decide +kernel
theorem dX2_rowBy_4 : decode cX2_rowBy 4 = .ok (.iadd, 1) := by decide +kernel
theorem dX2_rowBy_5 : decode cX2_rowBy 5 = .ok (.imul, 1) := by decide +kernel
theorem dX2_rowBy_6 : decode cX2_rowBy 6 = .ok (.iload_n 1, 1) := by decide +kernel
theorem dX2_rowBy_7 : decode cX2_rowBy 7 = .ok (.iadd, 1) := by decide +kernel
theorem dX2_rowBy_8 : decode cX2_rowBy 8 = .ok (.iconst 1, 1) := by decide +kernel
theorem dX2_rowBy_9 : decode cX2_rowBy 9 = .ok (.iadd, 1) := by decide +kernel
theorem dX2_rowBy_10 : decode cX2_rowBy 10 = .ok (.ireturn, 1) := by decide +kernel
theorem dX2_bitOf_0 : decode cX2_bitOf 0 = .ok (.iload_n 0, 1) := by decide +kernel
theorem dX2_bitOf_1 : decode cX2_bitOf 1 = .ok (.ifCond .lt 15, 3) := by decide +kernel
theorem dX2_bitOf_4 : decode cX2_bitOf 4 = .ok (.iload_n 0, 1) := by decide +kernel
theorem dX2_bitOf_5 : decode cX2_bitOf 5 = .ok (.bipush 8, 2) := by decide +kernel
theorem dX2_bitOf_7 : decode cX2_bitOf 7 = .ok (.if_icmp .ge 9, 3) := by decide +kernel
theorem dX2_bitOf_10 : decode cX2_bitOf 10 = .ok (.iconst 1, 1) := by decide +kernel
theorem dX2_bitOf_11 : decode cX2_bitOf 11 = .ok (.iload_n 0, 1) := by decide +kernel
theorem dX2_bitOf_12 : decode cX2_bitOf 12 = .ok (.ishl, 1) := by decide +kernel
theorem dX2_bitOf_13 : decode cX2_bitOf 13 = .ok (.goto 4, 3) := by decide +kernel
theorem dX2_bitOf_16 : decode cX2_bitOf 16 = .ok (.iconst 0, 1) := by decide +kernel
theorem dX2_bitOf_17 : decode cX2_bitOf 17 = .ok (.ireturn, 1) := by decide +kernel
theorem dX2_loadsOf_0 : decode cX2_loadsOf 0 = .ok (.iload_n 0, 1) := by decide +kernel
theorem dX2_loadsOf_1 : decode cX2_loadsOf 1 = .ok (.invokestatic 49, 3) := by decide +kernel
theorem dX2_loadsOf_4 : decode cX2_loadsOf 4 = .ok (.invokestatic 53, 3) := by decide +kernel
theorem dX2_loadsOf_7 : decode cX2_loadsOf 7 = .ok (.iload_n 0, 1) := by decide +kernel
theorem dX2_loadsOf_8 : decode cX2_loadsOf 8 = .ok (.invokestatic 56, 3) := by decide +kernel
theorem dX2_loadsOf_11 : decode cX2_loadsOf 11 = .ok (.invokestatic 53, 3) := by decide +kernel
theorem dX2_loadsOf_14 : decode cX2_loadsOf 14 = .ok (.ior, 1) := by decide +kernel
theorem dX2_loadsOf_15 : decode cX2_loadsOf 15 = .ok (.ireturn, 1) := by decide +kernel
theorem dX2_work_0 : decode cX2_work 0 = .ok (.aload_n 0, 1) := by decide +kernel
theorem dX2_work_1 : decode cX2_work 1 = .ok (.getfield 30, 3) := by decide +kernel
theorem dX2_work_4 : decode cX2_work 4 = .ok (.aload_n 0, 1) := by decide +kernel
theorem dX2_work_5 : decode cX2_work 5 = .ok (.getfield 34, 3) := by decide +kernel
theorem dX2_work_8 : decode cX2_work 8 = .ok (.invokevirtual 59, 3) := by decide +kernel
theorem dX2_work_11 : decode cX2_work 11 = .ok (.if_icmp .ne 4, 3) := by decide +kernel
theorem dX2_work_14 : decode cX2_work 14 = .ok (.return_, 1) := by decide +kernel
theorem dX2_work_15 : decode cX2_work 15 = .ok (.aload_n 0, 1) := by decide +kernel
theorem dX2_work_16 : decode cX2_work 16 = .ok (.aload_n 0, 1) := by decide +kernel
theorem dX2_work_17 : decode cX2_work 17 = .ok (.getfield 34, 3) := by decide +kernel
theorem dX2_work_20 : decode cX2_work 20 = .ok (.invokevirtual 59, 3) := by decide +kernel
theorem dX2_work_23 : decode cX2_work 23 = .ok (.putfield 30, 3) := by decide +kernel
theorem dX2_work_26 : decode cX2_work 26 = .ok (.aload_n 0, 1) := by decide +kernel
theorem dX2_work_27 : decode cX2_work 27 = .ok (.iconst 0, 1) := by decide +kernel
theorem dX2_work_28 : decode cX2_work 28 = .ok (.putfield 65, 3) := by decide +kernel
theorem dX2_work_31 : decode cX2_work 31 = .ok (.iconst 0, 1) := by decide +kernel
theorem dX2_work_32 : decode cX2_work 32 = .ok (.istore_n 1, 1) := by decide +kernel
theorem dX2_work_33 : decode cX2_work 33 = .ok (.iload_n 1, 1) := by decide +kernel
theorem dX2_work_34 : decode cX2_work 34 = .ok (.aload_n 0, 1) := by decide +kernel
theorem dX2_work_35 : decode cX2_work 35 = .ok (.getfield 42, 3) := by decide +kernel
theorem dX2_work_38 : decode cX2_work 38 = .ok (.invokevirtual 68, 3) := by decide +kernel
theorem dX2_work_41 : decode cX2_work 41 = .ok (.if_icmp .ge 36, 3) := by decide +kernel
theorem dX2_work_44 : decode cX2_work 44 = .ok (.aload_n 0, 1) := by decide +kernel
theorem dX2_work_45 : decode cX2_work 45 = .ok (.getfield 42, 3) := by decide +kernel
theorem dX2_work_48 : decode cX2_work 48 = .ok (.iload_n 1, 1) := by decide +kernel
theorem dX2_work_49 : decode cX2_work 49 = .ok (.bipush 10, 2) := by decide +kernel
theorem dX2_work_51 : decode cX2_work 51 = .ok (.invokevirtual 73, 3) := by decide +kernel
theorem dX2_work_54 : decode cX2_work 54 = .ok (.iconst (-1), 1) := by decide +kernel
theorem dX2_work_55 : decode cX2_work 55 = .ok (.if_icmp .ne 16, 3) := by decide +kernel
theorem dX2_work_58 : decode cX2_work 58 = .ok (.aload_n 0, 1) := by decide +kernel
theorem dX2_work_59 : decode cX2_work 59 = .ok (.dup, 1) := by decide +kernel
theorem dX2_work_60 : decode cX2_work 60 = .ok (.getfield 65, 3) := by decide +kernel
theorem dX2_work_63 : decode cX2_work 63 = .ok (.iload_n 1, 1) := by decide +kernel
theorem dX2_work_64 : decode cX2_work 64 = .ok (.invokestatic 53, 3) := by decide +kernel
theorem dX2_work_67 : decode cX2_work 67 = .ok (.ior, 1) := by decide +kernel
theorem dX2_work_68 : decode cX2_work 68 = .ok (.putfield 65, 3) := by decide +kernel
theorem dX2_work_71 : decode cX2_work 71 = .ok (.iinc 1 1, 3) := by decide +kernel
theorem dX2_work_74 : decode cX2_work 74 = .ok (.goto (-41), 3) := by decide +kernel
theorem dX2_work_77 : decode cX2_work 77 = .ok (.aload_n 0, 1) := by decide +kernel
theorem dX2_work_78 : decode cX2_work 78 = .ok (.getfield 38, 3) := by decide +kernel
theorem dX2_work_81 : decode cX2_work 81 = .ok (.invokevirtual 68, 3) := by decide +kernel
theorem dX2_work_84 : decode cX2_work 84 = .ok (.bipush 6, 2) := by decide +kernel
theorem dX2_work_86 : decode cX2_work 86 = .ok (.invokestatic 77, 3) := by decide +kernel
theorem dX2_work_89 : decode cX2_work 89 = .ok (.istore_n 1, 1) := by decide +kernel
theorem dX2_work_90 : decode cX2_work 90 = .ok (.iconst 0, 1) := by decide +kernel
theorem dX2_work_91 : decode cX2_work 91 = .ok (.istore_n 2, 1) := by decide +kernel
theorem dX2_work_92 : decode cX2_work 92 = .ok (.iload_n 2, 1) := by decide +kernel
theorem dX2_work_93 : decode cX2_work 93 = .ok (.sipush 256, 3) := by decide +kernel
theorem dX2_work_96 : decode cX2_work 96 = .ok (.if_icmp .ge 22, 3) := by decide +kernel
theorem dX2_work_99 : decode cX2_work 99 = .ok (.aload_n 0, 1) := by decide +kernel
theorem dX2_work_100 : decode cX2_work 100 = .ok (.getfield 11, 3) := by decide +kernel
theorem dX2_work_103 : decode cX2_work 103 = .ok (.iload_n 1, 1) := by decide +kernel
theorem dX2_work_104 : decode cX2_work 104 = .ok (.sipush 256, 3) := by decide +kernel
theorem dX2_work_107 : decode cX2_work 107 = .ok (.imul, 1) := by decide +kernel
theorem dX2_work_108 : decode cX2_work 108 = .ok (.iload_n 2, 1) := by decide +kernel
theorem dX2_work_109 : decode cX2_work 109 = .ok (.iadd, 1) := by decide +kernel
theorem dX2_work_110 : decode cX2_work 110 = .ok (.iconst 0, 1) := by decide +kernel
theorem dX2_work_111 : decode cX2_work 111 = .ok (.iastore, 1) := by decide +kernel
theorem dX2_work_112 : decode cX2_work 112 = .ok (.iinc 2 1, 3) := by decide +kernel
theorem dX2_work_115 : decode cX2_work 115 = .ok (.goto (-23), 3) := by decide +kernel
theorem dX2_work_118 : decode cX2_work 118 = .ok (.iload_n 1, 1) := by decide +kernel
theorem dX2_work_119 : decode cX2_work 119 = .ok (.iconst 1, 1) := by decide +kernel
theorem dX2_work_120 : decode cX2_work 120 = .ok (.isub, 1) := by decide +kernel
theorem dX2_work_121 : decode cX2_work 121 = .ok (.istore_n 2, 1) := by decide +kernel
theorem dX2_work_122 : decode cX2_work 122 = .ok (.iload_n 2, 1) := by decide +kernel
theorem dX2_work_123 : decode cX2_work 123 = .ok (.ifCond .lt 73, 3) := by decide +kernel
theorem dX2_work_126 : decode cX2_work 126 = .ok (.aload_n 0, 1) := by decide +kernel
theorem dX2_work_127 : decode cX2_work 127 = .ok (.iload_n 2, 1) := by decide +kernel
theorem dX2_work_128 : decode cX2_work 128 = .ok (.invokevirtual 82, 3) := by decide +kernel
theorem dX2_work_131 : decode cX2_work 131 = .ok (.iconst 2, 1) := by decide +kernel
theorem dX2_work_132 : decode cX2_work 132 = .ok (.iload_n 2, 1) := by decide +kernel
theorem dX2_work_133 : decode cX2_work 133 = .ok (.imul, 1) := by decide +kernel
theorem dX2_work_134 : decode cX2_work 134 = .ok (.iconst 1, 1) := by decide +kernel
theorem dX2_work_135 : decode cX2_work 135 = .ok (.iadd, 1) := by decide +kernel
theorem dX2_work_136 : decode cX2_work 136 = .ok (.istore_n 3, 1) := by decide +kernel
theorem dX2_work_137 : decode cX2_work 137 = .ok (.iconst 0, 1) := by decide +kernel
theorem dX2_work_138 : decode cX2_work 138 = .ok (.istore 4, 2) := by decide +kernel
theorem dX2_work_140 : decode cX2_work 140 = .ok (.iload 4, 2) := by decide +kernel
theorem dX2_work_142 : decode cX2_work 142 = .ok (.aload_n 0, 1) := by decide +kernel
theorem dX2_work_143 : decode cX2_work 143 = .ok (.getfield 65, 3) := by decide +kernel
theorem dX2_work_146 : decode cX2_work 146 = .ok (.if_icmp .gt 44, 3) := by decide +kernel
theorem dX2_work_149 : decode cX2_work 149 = .ok (.iload 4, 2) := by decide +kernel
theorem dX2_work_151 : decode cX2_work 151 = .ok (.aload_n 0, 1) := by decide +kernel
theorem dX2_work_152 : decode cX2_work 152 = .ok (.getfield 65, 3) := by decide +kernel
theorem dX2_work_155 : decode cX2_work 155 = .ok (.iconst (-1), 1) := by decide +kernel
theorem dX2_work_156 : decode cX2_work 156 = .ok (.ixor, 1) := by decide +kernel
theorem dX2_work_157 : decode cX2_work 157 = .ok (.iand, 1) := by decide +kernel
theorem dX2_work_158 : decode cX2_work 158 = .ok (.ifCond .ne 26, 3) := by decide +kernel
theorem dX2_work_161 : decode cX2_work 161 = .ok (.aload_n 0, 1) := by decide +kernel
theorem dX2_work_162 : decode cX2_work 162 = .ok (.getfield 65, 3) := by decide +kernel
theorem dX2_work_165 : decode cX2_work 165 = .ok (.iload 4, 2) := by decide +kernel
theorem dX2_work_167 : decode cX2_work 167 = .ok (.iconst (-1), 1) := by decide +kernel
theorem dX2_work_168 : decode cX2_work 168 = .ok (.ixor, 1) := by decide +kernel
theorem dX2_work_169 : decode cX2_work 169 = .ok (.iand, 1) := by decide +kernel
theorem dX2_work_170 : decode cX2_work 170 = .ok (.invokestatic 86, 3) := by decide +kernel
theorem dX2_work_173 : decode cX2_work 173 = .ok (.iload_n 3, 1) := by decide +kernel
theorem dX2_work_174 : decode cX2_work 174 = .ok (.if_icmp .gt 10, 3) := by decide +kernel
theorem dX2_work_177 : decode cX2_work 177 = .ok (.aload_n 0, 1) := by decide +kernel
theorem dX2_work_178 : decode cX2_work 178 = .ok (.iload_n 2, 1) := by decide +kernel
theorem dX2_work_179 : decode cX2_work 179 = .ok (.iload 4, 2) := by decide +kernel
theorem dX2_work_181 : decode cX2_work 181 = .ok (.invokevirtual 91, 3) := by decide +kernel
theorem dX2_work_184 : decode cX2_work 184 = .ok (.iinc 4 1, 3) := by decide +kernel
theorem dX2_work_187 : decode cX2_work 187 = .ok (.goto (-47), 3) := by decide +kernel
theorem dX2_work_190 : decode cX2_work 190 = .ok (.iinc 2 (-1), 3) := by decide +kernel
theorem dX2_work_193 : decode cX2_work 193 = .ok (.goto (-71), 3) := by decide +kernel
theorem dX2_work_196 : decode cX2_work 196 = .ok (.aload_n 0, 1) := by decide +kernel
theorem dX2_work_197 : decode cX2_work 197 = .ok (.iload_n 1, 1) := by decide +kernel
theorem dX2_work_198 : decode cX2_work 198 = .ok (.invokevirtual 95, 3) := by decide +kernel
theorem dX2_work_201 : decode cX2_work 201 = .ok (.return_, 1) := by decide +kernel
theorem dX2_gatherRows_0 : decode cX2_gatherRows 0 = .ok (.aload_n 0, 1) := by decide +kernel
theorem dX2_gatherRows_1 : decode cX2_gatherRows 1 = .ok (.iload_n 1, 1) := by decide +kernel
theorem dX2_gatherRows_2 : decode cX2_gatherRows 2 = .ok (.invokevirtual 98, 3) := by decide +kernel
theorem dX2_gatherRows_5 : decode cX2_gatherRows 5 = .ok (.istore_n 2, 1) := by decide +kernel
theorem dX2_gatherRows_6 : decode cX2_gatherRows 6 = .ok (.aload_n 0, 1) := by decide +kernel
theorem dX2_gatherRows_7 : decode cX2_gatherRows 7 = .ok (.getfield 45, 3) := by decide +kernel
theorem dX2_gatherRows_10 : decode cX2_gatherRows 10 = .ok (.iload_n 1, 1) := by decide +kernel
theorem dX2_gatherRows_11 : decode cX2_gatherRows 11 = .ok (.iconst (-1), 1) := by decide +kernel
theorem dX2_gatherRows_12 : decode cX2_gatherRows 12 = .ok (.iconst (-1), 1) := by decide +kernel
theorem dX2_gatherRows_13 : decode cX2_gatherRows 13 = .ok (.invokevirtual 101, 3) := by decide +kernel
theorem dX2_gatherRows_16 : decode cX2_gatherRows 16 = .ok (.ifCond .ne 13, 3) := by decide +kernel
theorem dX2_gatherRows_19 : decode cX2_gatherRows 19 = .ok (.aload_n 0, 1) := by decide +kernel
theorem dX2_gatherRows_20 : decode cX2_gatherRows 20 = .ok (.getfield 45, 3) := by decide +kernel
theorem dX2_gatherRows_23 : decode cX2_gatherRows 23 = .ok (.invokevirtual 107, 3) := by decide +kernel
theorem dX2_gatherRows_26 : decode cX2_gatherRows 26 = .ok (.goto 4, 3) := by decide +kernel
theorem dX2_gatherRows_29 : decode cX2_gatherRows 29 = .ok (.iconst 0, 1) := by decide +kernel
theorem dX2_gatherRows_30 : decode cX2_gatherRows 30 = .ok (.istore_n 3, 1) := by decide +kernel
theorem dX2_gatherRows_31 : decode cX2_gatherRows 31 = .ok (.aload_n 0, 1) := by decide +kernel
theorem dX2_gatherRows_32 : decode cX2_gatherRows 32 = .ok (.iconst 0, 1) := by decide +kernel
theorem dX2_gatherRows_33 : decode cX2_gatherRows 33 = .ok (.putfield 110, 3) := by decide +kernel
theorem dX2_gatherRows_36 : decode cX2_gatherRows 36 = .ok (.aload_n 0, 1) := by decide +kernel
theorem dX2_gatherRows_37 : decode cX2_gatherRows 37 = .ok (.iconst 0, 1) := by decide +kernel
theorem dX2_gatherRows_38 : decode cX2_gatherRows 38 = .ok (.iload_n 3, 1) := by decide +kernel
theorem dX2_gatherRows_39 : decode cX2_gatherRows 39 = .ok (.invokevirtual 113, 3) := by decide +kernel
theorem dX2_gatherRows_42 : decode cX2_gatherRows 42 = .ok (.iconst 0, 1) := by decide +kernel
theorem dX2_gatherRows_43 : decode cX2_gatherRows 43 = .ok (.istore 4, 2) := by decide +kernel
theorem dX2_gatherRows_45 : decode cX2_gatherRows 45 = .ok (.iload 4, 2) := by decide +kernel
theorem dX2_gatherRows_47 : decode cX2_gatherRows 47 = .ok (.aload_n 0, 1) := by decide +kernel
theorem dX2_gatherRows_48 : decode cX2_gatherRows 48 = .ok (.getfield 42, 3) := by decide +kernel
theorem dX2_gatherRows_51 : decode cX2_gatherRows 51 = .ok (.invokevirtual 68, 3) := by decide +kernel
theorem dX2_gatherRows_54 : decode cX2_gatherRows 54 = .ok (.if_icmp .ge 106, 3) := by decide +kernel
theorem dX2_gatherRows_57 : decode cX2_gatherRows 57 = .ok (.iconst (-1), 1) := by decide +kernel
theorem dX2_gatherRows_58 : decode cX2_gatherRows 58 = .ok (.istore 5, 2) := by decide +kernel
theorem dX2_gatherRows_60 : decode cX2_gatherRows 60 = .ok (.iload 5, 2) := by decide +kernel
theorem dX2_gatherRows_62 : decode cX2_gatherRows 62 = .ok (.aload_n 0, 1) := by decide +kernel
theorem dX2_gatherRows_63 : decode cX2_gatherRows 63 = .ok (.getfield 42, 3) := by decide +kernel
theorem dX2_gatherRows_66 : decode cX2_gatherRows 66 = .ok (.invokevirtual 68, 3) := by decide +kernel
theorem dX2_gatherRows_69 : decode cX2_gatherRows 69 = .ok (.if_icmp .ge 85, 3) := by decide +kernel
theorem dX2_gatherRows_72 : decode cX2_gatherRows 72 = .ok (.iload 4, 2) := by decide +kernel
theorem dX2_gatherRows_74 : decode cX2_gatherRows 74 = .ok (.iload 5, 2) := by decide +kernel
theorem dX2_gatherRows_76 : decode cX2_gatherRows 76 = .ok (.if_icmp .eq 72, 3) := by decide +kernel
theorem dX2_gatherRows_79 : decode cX2_gatherRows 79 = .ok (.iload 4, 2) := by decide +kernel
theorem dX2_gatherRows_81 : decode cX2_gatherRows 81 = .ok (.invokestatic 53, 3) := by decide +kernel
theorem dX2_gatherRows_84 : decode cX2_gatherRows 84 = .ok (.iload_n 2, 1) := by decide +kernel
theorem dX2_gatherRows_85 : decode cX2_gatherRows 85 = .ok (.iand, 1) := by decide +kernel
theorem dX2_gatherRows_86 : decode cX2_gatherRows 86 = .ok (.ifCond .eq 62, 3) := by decide +kernel
theorem dX2_gatherRows_89 : decode cX2_gatherRows 89 = .ok (.iload 5, 2) := by decide +kernel
theorem dX2_gatherRows_91 : decode cX2_gatherRows 91 = .ok (.invokestatic 53, 3) := by decide +kernel
theorem dX2_gatherRows_94 : decode cX2_gatherRows 94 = .ok (.iload_n 2, 1) := by decide +kernel
theorem dX2_gatherRows_95 : decode cX2_gatherRows 95 = .ok (.iconst (-1), 1) := by decide +kernel
theorem dX2_gatherRows_96 : decode cX2_gatherRows 96 = .ok (.ixor, 1) := by decide +kernel
theorem dX2_gatherRows_97 : decode cX2_gatherRows 97 = .ok (.iand, 1) := by decide +kernel
theorem dX2_gatherRows_98 : decode cX2_gatherRows 98 = .ok (.ifCond .eq 6, 3) := by decide +kernel
theorem dX2_gatherRows_101 : decode cX2_gatherRows 101 = .ok (.goto 47, 3) := by decide +kernel
theorem dX2_gatherRows_104 : decode cX2_gatherRows 104 = .ok (.aload_n 0, 1) := by decide +kernel
theorem dX2_gatherRows_105 : decode cX2_gatherRows 105 = .ok (.getfield 45, 3) := by decide +kernel
theorem dX2_gatherRows_108 : decode cX2_gatherRows 108 = .ok (.iload_n 1, 1) := by decide +kernel
theorem dX2_gatherRows_109 : decode cX2_gatherRows 109 = .ok (.iload 4, 2) := by decide +kernel
theorem dX2_gatherRows_111 : decode cX2_gatherRows 111 = .ok (.iload 5, 2) := by decide +kernel
theorem dX2_gatherRows_113 : decode cX2_gatherRows 113 = .ok (.invokevirtual 101, 3) := by decide +kernel
theorem dX2_gatherRows_116 : decode cX2_gatherRows 116 = .ok (.ifCond .ne 32, 3) := by decide +kernel
theorem dX2_gatherRows_119 : decode cX2_gatherRows 119 = .ok (.aload_n 0, 1) := by decide +kernel
theorem dX2_gatherRows_120 : decode cX2_gatherRows 120 = .ok (.getfield 45, 3) := by decide +kernel
theorem dX2_gatherRows_123 : decode cX2_gatherRows 123 = .ok (.invokevirtual 107, 3) := by decide +kernel
theorem dX2_gatherRows_126 : decode cX2_gatherRows 126 = .ok (.iload_n 3, 1) := by decide +kernel
theorem dX2_gatherRows_127 : decode cX2_gatherRows 127 = .ok (.if_icmp .le 21, 3) := by decide +kernel
theorem dX2_gatherRows_130 : decode cX2_gatherRows 130 = .ok (.aload_n 0, 1) := by decide +kernel
theorem dX2_gatherRows_131 : decode cX2_gatherRows 131 = .ok (.iload 4, 2) := by decide +kernel
theorem dX2_gatherRows_133 : decode cX2_gatherRows 133 = .ok (.iload 5, 2) := by decide +kernel
theorem dX2_gatherRows_135 : decode cX2_gatherRows 135 = .ok (.invokestatic 116, 3) := by decide +kernel
theorem dX2_gatherRows_138 : decode cX2_gatherRows 138 = .ok (.aload_n 0, 1) := by decide +kernel
theorem dX2_gatherRows_139 : decode cX2_gatherRows 139 = .ok (.getfield 45, 3) := by decide +kernel
theorem dX2_gatherRows_142 : decode cX2_gatherRows 142 = .ok (.invokevirtual 107, 3) := by decide +kernel
theorem dX2_gatherRows_145 : decode cX2_gatherRows 145 = .ok (.invokevirtual 113, 3) := by decide +kernel
theorem dX2_gatherRows_148 : decode cX2_gatherRows 148 = .ok (.iinc 5 1, 3) := by decide +kernel
theorem dX2_gatherRows_151 : decode cX2_gatherRows 151 = .ok (.goto (-91), 3) := by decide +kernel
theorem dX2_gatherRows_154 : decode cX2_gatherRows 154 = .ok (.iinc 4 1, 3) := by decide +kernel
theorem dX2_gatherRows_157 : decode cX2_gatherRows 157 = .ok (.goto (-112), 3) := by decide +kernel
theorem dX2_gatherRows_160 : decode cX2_gatherRows 160 = .ok (.return_, 1) := by decide +kernel
theorem dX2_fitting_0 : decode cX2_fitting 0 = .ok (.iconst 0, 1) := by decide +kernel
theorem dX2_fitting_1 : decode cX2_fitting 1 = .ok (.istore_n 2, 1) := by decide +kernel
theorem dX2_fitting_2 : decode cX2_fitting 2 = .ok (.iconst 0, 1) := by decide +kernel
theorem dX2_fitting_3 : decode cX2_fitting 3 = .ok (.istore_n 3, 1) := by decide +kernel
theorem dX2_fitting_4 : decode cX2_fitting 4 = .ok (.iload_n 3, 1) := by decide +kernel
theorem dX2_fitting_5 : decode cX2_fitting 5 = .ok (.aload_n 0, 1) := by decide +kernel
theorem dX2_fitting_6 : decode cX2_fitting 6 = .ok (.getfield 42, 3) := by decide +kernel
theorem dX2_fitting_9 : decode cX2_fitting 9 = .ok (.invokevirtual 68, 3) := by decide +kernel
theorem dX2_fitting_12 : decode cX2_fitting 12 = .ok (.if_icmp .ge 28, 3) := by decide +kernel
theorem dX2_fitting_15 : decode cX2_fitting 15 = .ok (.aload_n 0, 1) := by decide +kernel
theorem dX2_fitting_16 : decode cX2_fitting 16 = .ok (.getfield 45, 3) := by decide +kernel
theorem dX2_fitting_19 : decode cX2_fitting 19 = .ok (.iload_n 1, 1) := by decide +kernel
theorem dX2_fitting_20 : decode cX2_fitting 20 = .ok (.iload_n 3, 1) := by decide +kernel
theorem dX2_fitting_21 : decode cX2_fitting 21 = .ok (.invokevirtual 119, 3) := by decide +kernel
theorem dX2_fitting_24 : decode cX2_fitting 24 = .ok (.ifCond .eq 10, 3) := by decide +kernel
theorem dX2_fitting_27 : decode cX2_fitting 27 = .ok (.iload_n 2, 1) := by decide +kernel
theorem dX2_fitting_28 : decode cX2_fitting 28 = .ok (.iload_n 3, 1) := by decide +kernel
theorem dX2_fitting_29 : decode cX2_fitting 29 = .ok (.invokestatic 53, 3) := by decide +kernel
theorem dX2_fitting_32 : decode cX2_fitting 32 = .ok (.ior, 1) := by decide +kernel
theorem dX2_fitting_33 : decode cX2_fitting 33 = .ok (.istore_n 2, 1) := by decide +kernel
theorem dX2_fitting_34 : decode cX2_fitting 34 = .ok (.iinc 3 1, 3) := by decide +kernel
theorem dX2_fitting_37 : decode cX2_fitting 37 = .ok (.goto (-33), 3) := by decide +kernel
theorem dX2_fitting_40 : decode cX2_fitting 40 = .ok (.iload_n 2, 1) := by decide +kernel
theorem dX2_fitting_41 : decode cX2_fitting 41 = .ok (.aload_n 0, 1) := by decide +kernel
theorem dX2_fitting_42 : decode cX2_fitting 42 = .ok (.getfield 65, 3) := by decide +kernel
theorem dX2_fitting_45 : decode cX2_fitting 45 = .ok (.iand, 1) := by decide +kernel
theorem dX2_fitting_46 : decode cX2_fitting 46 = .ok (.ireturn, 1) := by decide +kernel
theorem dX2_addRow_0 : decode cX2_addRow 0 = .ok (.aload_n 0, 1) := by decide +kernel
theorem dX2_addRow_1 : decode cX2_addRow 1 = .ok (.getfield 110, 3) := by decide +kernel
theorem dX2_addRow_4 : decode cX2_addRow 4 = .ok (.bipush 65, 2) := by decide +kernel
theorem dX2_addRow_6 : decode cX2_addRow 6 = .ok (.if_icmp .ge 46, 3) := by decide +kernel
theorem dX2_addRow_9 : decode cX2_addRow 9 = .ok (.aload_n 0, 1) := by decide +kernel
theorem dX2_addRow_10 : decode cX2_addRow 10 = .ok (.getfield 21, 3) := by decide +kernel
theorem dX2_addRow_13 : decode cX2_addRow 13 = .ok (.aload_n 0, 1) := by decide +kernel
theorem dX2_addRow_14 : decode cX2_addRow 14 = .ok (.getfield 110, 3) := by decide +kernel
theorem dX2_addRow_17 : decode cX2_addRow 17 = .ok (.iload_n 1, 1) := by decide +kernel
theorem dX2_addRow_18 : decode cX2_addRow 18 = .ok (.iastore, 1) := by decide +kernel
theorem dX2_addRow_19 : decode cX2_addRow 19 = .ok (.aload_n 0, 1) := by decide +kernel
theorem dX2_addRow_20 : decode cX2_addRow 20 = .ok (.getfield 24, 3) := by decide +kernel
theorem dX2_addRow_23 : decode cX2_addRow 23 = .ok (.aload_n 0, 1) := by decide +kernel
theorem dX2_addRow_24 : decode cX2_addRow 24 = .ok (.getfield 110, 3) := by decide +kernel
theorem dX2_addRow_27 : decode cX2_addRow 27 = .ok (.iload_n 1, 1) := by decide +kernel
theorem dX2_addRow_28 : decode cX2_addRow 28 = .ok (.invokestatic 123, 3) := by decide +kernel
theorem dX2_addRow_31 : decode cX2_addRow 31 = .ok (.iastore, 1) := by decide +kernel
theorem dX2_addRow_32 : decode cX2_addRow 32 = .ok (.aload_n 0, 1) := by decide +kernel
theorem dX2_addRow_33 : decode cX2_addRow 33 = .ok (.getfield 27, 3) := by decide +kernel
theorem dX2_addRow_36 : decode cX2_addRow 36 = .ok (.aload_n 0, 1) := by decide +kernel
theorem dX2_addRow_37 : decode cX2_addRow 37 = .ok (.getfield 110, 3) := by decide +kernel
theorem dX2_addRow_40 : decode cX2_addRow 40 = .ok (.iload_n 2, 1) := by decide +kernel
theorem dX2_addRow_41 : decode cX2_addRow 41 = .ok (.iastore, 1) := by decide +kernel
theorem dX2_addRow_42 : decode cX2_addRow 42 = .ok (.aload_n 0, 1) := by decide +kernel
theorem dX2_addRow_43 : decode cX2_addRow 43 = .ok (.dup, 1) := by decide +kernel
theorem dX2_addRow_44 : decode cX2_addRow 44 = .ok (.getfield 110, 3) := by decide +kernel
theorem dX2_addRow_47 : decode cX2_addRow 47 = .ok (.iconst 1, 1) := by decide +kernel
theorem dX2_addRow_48 : decode cX2_addRow 48 = .ok (.iadd, 1) := by decide +kernel
theorem dX2_addRow_49 : decode cX2_addRow 49 = .ok (.putfield 110, 3) := by decide +kernel
theorem dX2_addRow_52 : decode cX2_addRow 52 = .ok (.return_, 1) := by decide +kernel
theorem dX2_choose_0 : decode cX2_choose 0 = .ok (.iload_n 1, 1) := by decide +kernel
theorem dX2_choose_1 : decode cX2_choose 1 = .ok (.iconst 1, 1) := by decide +kernel
theorem dX2_choose_2 : decode cX2_choose 2 = .ok (.iadd, 1) := by decide +kernel
theorem dX2_choose_3 : decode cX2_choose 3 = .ok (.sipush 256, 3) := by decide +kernel
theorem dX2_choose_6 : decode cX2_choose 6 = .ok (.imul, 1) := by decide +kernel
theorem dX2_choose_7 : decode cX2_choose 7 = .ok (.istore_n 3, 1) := by decide +kernel
theorem dX2_choose_8 : decode cX2_choose 8 = .ok (.aload_n 0, 1) := by decide +kernel
theorem dX2_choose_9 : decode cX2_choose 9 = .ok (.getfield 27, 3) := by decide +kernel
theorem dX2_choose_12 : decode cX2_choose 12 = .ok (.iconst 0, 1) := by decide +kernel
theorem dX2_choose_13 : decode cX2_choose 13 = .ok (.iaload, 1) := by decide +kernel
theorem dX2_choose_14 : decode cX2_choose 14 = .ok (.aload_n 0, 1) := by decide +kernel
theorem dX2_choose_15 : decode cX2_choose 15 = .ok (.getfield 11, 3) := by decide +kernel
theorem dX2_choose_18 : decode cX2_choose 18 = .ok (.iload_n 3, 1) := by decide +kernel
theorem dX2_choose_19 : decode cX2_choose 19 = .ok (.iload_n 2, 1) := by decide +kernel
theorem dX2_choose_20 : decode cX2_choose 20 = .ok (.iadd, 1) := by decide +kernel
theorem dX2_choose_21 : decode cX2_choose 21 = .ok (.iaload, 1) := by decide +kernel
theorem dX2_choose_22 : decode cX2_choose 22 = .ok (.iadd, 1) := by decide +kernel
theorem dX2_choose_23 : decode cX2_choose 23 = .ok (.istore 4, 2) := by decide +kernel
theorem dX2_choose_25 : decode cX2_choose 25 = .ok (.iconst 0, 1) := by decide +kernel
theorem dX2_choose_26 : decode cX2_choose 26 = .ok (.istore 5, 2) := by decide +kernel
theorem dX2_choose_28 : decode cX2_choose 28 = .ok (.iconst 1, 1) := by decide +kernel
theorem dX2_choose_29 : decode cX2_choose 29 = .ok (.istore 6, 2) := by decide +kernel
theorem dX2_choose_31 : decode cX2_choose 31 = .ok (.iload 6, 2) := by decide +kernel
theorem dX2_choose_33 : decode cX2_choose 33 = .ok (.aload_n 0, 1) := by decide +kernel
theorem dX2_choose_34 : decode cX2_choose 34 = .ok (.getfield 110, 3) := by decide +kernel
theorem dX2_choose_37 : decode cX2_choose 37 = .ok (.if_icmp .ge 71, 3) := by decide +kernel
theorem dX2_choose_40 : decode cX2_choose 40 = .ok (.aload_n 0, 1) := by decide +kernel
theorem dX2_choose_41 : decode cX2_choose 41 = .ok (.getfield 24, 3) := by decide +kernel
theorem dX2_choose_44 : decode cX2_choose 44 = .ok (.iload 6, 2) := by decide +kernel
theorem dX2_choose_46 : decode cX2_choose 46 = .ok (.iaload, 1) := by decide +kernel
theorem dX2_choose_47 : decode cX2_choose 47 = .ok (.iload_n 2, 1) := by decide +kernel
theorem dX2_choose_48 : decode cX2_choose 48 = .ok (.iconst (-1), 1) := by decide +kernel
theorem dX2_choose_49 : decode cX2_choose 49 = .ok (.ixor, 1) := by decide +kernel
theorem dX2_choose_50 : decode cX2_choose 50 = .ok (.iand, 1) := by decide +kernel
theorem dX2_choose_51 : decode cX2_choose 51 = .ok (.ifCond .ne 51, 3) := by decide +kernel
theorem dX2_choose_54 : decode cX2_choose 54 = .ok (.aload_n 0, 1) := by decide +kernel
theorem dX2_choose_55 : decode cX2_choose 55 = .ok (.getfield 27, 3) := by decide +kernel
theorem dX2_choose_58 : decode cX2_choose 58 = .ok (.iload 6, 2) := by decide +kernel
theorem dX2_choose_60 : decode cX2_choose 60 = .ok (.iaload, 1) := by decide +kernel
theorem dX2_choose_61 : decode cX2_choose 61 = .ok (.aload_n 0, 1) := by decide +kernel
theorem dX2_choose_62 : decode cX2_choose 62 = .ok (.getfield 11, 3) := by decide +kernel
theorem dX2_choose_65 : decode cX2_choose 65 = .ok (.iload_n 3, 1) := by decide +kernel
theorem dX2_choose_66 : decode cX2_choose 66 = .ok (.iload_n 2, 1) := by decide +kernel
theorem dX2_choose_67 : decode cX2_choose 67 = .ok (.aload_n 0, 1) := by decide +kernel
theorem dX2_choose_68 : decode cX2_choose 68 = .ok (.getfield 24, 3) := by decide +kernel
theorem dX2_choose_71 : decode cX2_choose 71 = .ok (.iload 6, 2) := by decide +kernel
theorem dX2_choose_73 : decode cX2_choose 73 = .ok (.iaload, 1) := by decide +kernel
theorem dX2_choose_74 : decode cX2_choose 74 = .ok (.iconst (-1), 1) := by decide +kernel
theorem dX2_choose_75 : decode cX2_choose 75 = .ok (.ixor, 1) := by decide +kernel
theorem dX2_choose_76 : decode cX2_choose 76 = .ok (.iand, 1) := by decide +kernel
theorem dX2_choose_77 : decode cX2_choose 77 = .ok (.iadd, 1) := by decide +kernel
theorem dX2_choose_78 : decode cX2_choose 78 = .ok (.iaload, 1) := by decide +kernel
theorem dX2_choose_79 : decode cX2_choose 79 = .ok (.iadd, 1) := by decide +kernel
theorem dX2_choose_80 : decode cX2_choose 80 = .ok (.istore 7, 2) := by decide +kernel
theorem dX2_choose_82 : decode cX2_choose 82 = .ok (.iload 7, 2) := by decide +kernel
theorem dX2_choose_84 : decode cX2_choose 84 = .ok (.iload 4, 2) := by decide +kernel
theorem dX2_choose_86 : decode cX2_choose 86 = .ok (.if_icmp .le 16, 3) := by decide +kernel
theorem dX2_choose_89 : decode cX2_choose 89 = .ok (.iload 7, 2) := by decide +kernel
theorem dX2_choose_91 : decode cX2_choose 91 = .ok (.istore 4, 2) := by decide +kernel
theorem dX2_choose_93 : decode cX2_choose 93 = .ok (.aload_n 0, 1) := by decide +kernel
theorem dX2_choose_94 : decode cX2_choose 94 = .ok (.getfield 21, 3) := by decide +kernel
theorem dX2_choose_97 : decode cX2_choose 97 = .ok (.iload 6, 2) := by decide +kernel
theorem dX2_choose_99 : decode cX2_choose 99 = .ok (.iaload, 1) := by decide +kernel
theorem dX2_choose_100 : decode cX2_choose 100 = .ok (.istore 5, 2) := by decide +kernel
theorem dX2_choose_102 : decode cX2_choose 102 = .ok (.iinc 6 1, 3) := by decide +kernel
theorem dX2_choose_105 : decode cX2_choose 105 = .ok (.goto (-74), 3) := by decide +kernel
theorem dX2_choose_108 : decode cX2_choose 108 = .ok (.aload_n 0, 1) := by decide +kernel
theorem dX2_choose_109 : decode cX2_choose 109 = .ok (.getfield 11, 3) := by decide +kernel
theorem dX2_choose_112 : decode cX2_choose 112 = .ok (.iload_n 1, 1) := by decide +kernel
theorem dX2_choose_113 : decode cX2_choose 113 = .ok (.sipush 256, 3) := by decide +kernel
theorem dX2_choose_116 : decode cX2_choose 116 = .ok (.imul, 1) := by decide +kernel
theorem dX2_choose_117 : decode cX2_choose 117 = .ok (.iload_n 2, 1) := by decide +kernel
theorem dX2_choose_118 : decode cX2_choose 118 = .ok (.iadd, 1) := by decide +kernel
theorem dX2_choose_119 : decode cX2_choose 119 = .ok (.iload 4, 2) := by decide +kernel
theorem dX2_choose_121 : decode cX2_choose 121 = .ok (.iastore, 1) := by decide +kernel
theorem dX2_choose_122 : decode cX2_choose 122 = .ok (.aload_n 0, 1) := by decide +kernel
theorem dX2_choose_123 : decode cX2_choose 123 = .ok (.getfield 15, 3) := by decide +kernel
theorem dX2_choose_126 : decode cX2_choose 126 = .ok (.iload_n 1, 1) := by decide +kernel
theorem dX2_choose_127 : decode cX2_choose 127 = .ok (.sipush 256, 3) := by decide +kernel
theorem dX2_choose_130 : decode cX2_choose 130 = .ok (.imul, 1) := by decide +kernel
theorem dX2_choose_131 : decode cX2_choose 131 = .ok (.iload_n 2, 1) := by decide +kernel
theorem dX2_choose_132 : decode cX2_choose 132 = .ok (.iadd, 1) := by decide +kernel
theorem dX2_choose_133 : decode cX2_choose 133 = .ok (.iload 5, 2) := by decide +kernel
theorem dX2_choose_135 : decode cX2_choose 135 = .ok (.iastore, 1) := by decide +kernel
theorem dX2_choose_136 : decode cX2_choose 136 = .ok (.return_, 1) := by decide +kernel
theorem dX2_handOut_0 : decode cX2_handOut 0 = .ok (.aload_n 0, 1) := by decide +kernel
theorem dX2_handOut_1 : decode cX2_handOut 1 = .ok (.getfield 65, 3) := by decide +kernel
theorem dX2_handOut_4 : decode cX2_handOut 4 = .ok (.istore_n 2, 1) := by decide +kernel
theorem dX2_handOut_5 : decode cX2_handOut 5 = .ok (.iconst 0, 1) := by decide +kernel
theorem dX2_handOut_6 : decode cX2_handOut 6 = .ok (.istore_n 3, 1) := by decide +kernel
theorem dX2_handOut_7 : decode cX2_handOut 7 = .ok (.iload_n 3, 1) := by decide +kernel
theorem dX2_handOut_8 : decode cX2_handOut 8 = .ok (.iload_n 1, 1) := by decide +kernel
theorem dX2_handOut_9 : decode cX2_handOut 9 = .ok (.if_icmp .ge 41, 3) := by decide +kernel
theorem dX2_handOut_12 : decode cX2_handOut 12 = .ok (.aload_n 0, 1) := by decide +kernel
theorem dX2_handOut_13 : decode cX2_handOut 13 = .ok (.getfield 18, 3) := by decide +kernel
theorem dX2_handOut_16 : decode cX2_handOut 16 = .ok (.iload_n 3, 1) := by decide +kernel
theorem dX2_handOut_17 : decode cX2_handOut 17 = .ok (.aload_n 0, 1) := by decide +kernel
theorem dX2_handOut_18 : decode cX2_handOut 18 = .ok (.getfield 15, 3) := by decide +kernel
theorem dX2_handOut_21 : decode cX2_handOut 21 = .ok (.iload_n 3, 1) := by decide +kernel
theorem dX2_handOut_22 : decode cX2_handOut 22 = .ok (.sipush 256, 3) := by decide +kernel
theorem dX2_handOut_25 : decode cX2_handOut 25 = .ok (.imul, 1) := by decide +kernel
theorem dX2_handOut_26 : decode cX2_handOut 26 = .ok (.iload_n 2, 1) := by decide +kernel
theorem dX2_handOut_27 : decode cX2_handOut 27 = .ok (.iadd, 1) := by decide +kernel
theorem dX2_handOut_28 : decode cX2_handOut 28 = .ok (.iaload, 1) := by decide +kernel
theorem dX2_handOut_29 : decode cX2_handOut 29 = .ok (.iastore, 1) := by decide +kernel
theorem dX2_handOut_30 : decode cX2_handOut 30 = .ok (.iload_n 2, 1) := by decide +kernel
theorem dX2_handOut_31 : decode cX2_handOut 31 = .ok (.aload_n 0, 1) := by decide +kernel
theorem dX2_handOut_32 : decode cX2_handOut 32 = .ok (.getfield 18, 3) := by decide +kernel
theorem dX2_handOut_35 : decode cX2_handOut 35 = .ok (.iload_n 3, 1) := by decide +kernel
theorem dX2_handOut_36 : decode cX2_handOut 36 = .ok (.iaload, 1) := by decide +kernel
theorem dX2_handOut_37 : decode cX2_handOut 37 = .ok (.invokestatic 123, 3) := by decide +kernel
theorem dX2_handOut_40 : decode cX2_handOut 40 = .ok (.iconst (-1), 1) := by decide +kernel
theorem dX2_handOut_41 : decode cX2_handOut 41 = .ok (.ixor, 1) := by decide +kernel
theorem dX2_handOut_42 : decode cX2_handOut 42 = .ok (.iand, 1) := by decide +kernel
theorem dX2_handOut_43 : decode cX2_handOut 43 = .ok (.istore_n 2, 1) := by decide +kernel
theorem dX2_handOut_44 : decode cX2_handOut 44 = .ok (.iinc 3 1, 3) := by decide +kernel
theorem dX2_handOut_47 : decode cX2_handOut 47 = .ok (.goto (-40), 3) := by decide +kernel
theorem dX2_handOut_50 : decode cX2_handOut 50 = .ok (.return_, 1) := by decide +kernel
theorem dX2_value_0 : decode cX2_value 0 = .ok (.aload_n 0, 1) := by decide +kernel
theorem dX2_value_1 : decode cX2_value 1 = .ok (.getfield 11, 3) := by decide +kernel
theorem dX2_value_4 : decode cX2_value 4 = .ok (.aload_n 0, 1) := by decide +kernel
theorem dX2_value_5 : decode cX2_value 5 = .ok (.getfield 65, 3) := by decide +kernel
theorem dX2_value_8 : decode cX2_value 8 = .ok (.iaload, 1) := by decide +kernel
theorem dX2_value_9 : decode cX2_value 9 = .ok (.ireturn, 1) := by decide +kernel
theorem dX2_valueWithout_0 : decode cX2_valueWithout 0 = .ok (.aload_n 0, 1) := by decide +kernel
theorem dX2_valueWithout_1 : decode cX2_valueWithout 1 = .ok (.getfield 11, 3) := by decide +kernel
theorem dX2_valueWithout_4 : decode cX2_valueWithout 4 = .ok (.aload_n 0, 1) := by decide +kernel
theorem dX2_valueWithout_5 : decode cX2_valueWithout 5 = .ok (.getfield 65, 3) := by decide +kernel
theorem dX2_valueWithout_8 : decode cX2_valueWithout 8 = .ok (.iload_n 1, 1) := by decide +kernel
theorem dX2_valueWithout_9 : decode cX2_valueWithout 9 = .ok (.invokestatic 53, 3) := by decide +kernel
theorem dX2_valueWithout_12 : decode cX2_valueWithout 12 = .ok (.iconst (-1), 1) := by decide +kernel
theorem dX2_valueWithout_13 : decode cX2_valueWithout 13 = .ok (.ixor, 1) := by decide +kernel
theorem dX2_valueWithout_14 : decode cX2_valueWithout 14 = .ok (.iand, 1) := by decide +kernel
theorem dX2_valueWithout_15 : decode cX2_valueWithout 15 = .ok (.iaload, 1) := by decide +kernel
theorem dX2_valueWithout_16 : decode cX2_valueWithout 16 = .ok (.ireturn, 1) := by decide +kernel
theorem dX2_rowOf_0 : decode cX2_rowOf 0 = .ok (.iload_n 1, 1) := by decide +kernel
theorem dX2_rowOf_1 : decode cX2_rowOf 1 = .ok (.ifCond .lt 18, 3) := by decide +kernel
theorem dX2_rowOf_4 : decode cX2_rowOf 4 = .ok (.iload_n 1, 1) := by decide +kernel
theorem dX2_rowOf_5 : decode cX2_rowOf 5 = .ok (.bipush 6, 2) := by decide +kernel
theorem dX2_rowOf_7 : decode cX2_rowOf 7 = .ok (.if_icmp .ge 12, 3) := by decide +kernel
theorem dX2_rowOf_10 : decode cX2_rowOf 10 = .ok (.aload_n 0, 1) := by decide +kernel
theorem dX2_rowOf_11 : decode cX2_rowOf 11 = .ok (.getfield 18, 3) := by decide +kernel
theorem dX2_rowOf_14 : decode cX2_rowOf 14 = .ok (.iload_n 1, 1) := by decide +kernel
theorem dX2_rowOf_15 : decode cX2_rowOf 15 = .ok (.iaload, 1) := by decide +kernel
theorem dX2_rowOf_16 : decode cX2_rowOf 16 = .ok (.goto 4, 3) := by decide +kernel
theorem dX2_rowOf_19 : decode cX2_rowOf 19 = .ok (.iconst 0, 1) := by decide +kernel
theorem dX2_rowOf_20 : decode cX2_rowOf 20 = .ok (.ireturn, 1) := by decide +kernel
theorem dX2_emptyOf_0 : decode cX2_emptyOf 0 = .ok (.aload_n 0, 1) := by decide +kernel
theorem dX2_emptyOf_1 : decode cX2_emptyOf 1 = .ok (.getfield 45, 3) := by decide +kernel
theorem dX2_emptyOf_4 : decode cX2_emptyOf 4 = .ok (.iload_n 1, 1) := by decide +kernel
theorem dX2_emptyOf_5 : decode cX2_emptyOf 5 = .ok (.iload_n 2, 1) := by decide +kernel
theorem dX2_emptyOf_6 : decode cX2_emptyOf 6 = .ok (.invokestatic 49, 3) := by decide +kernel
theorem dX2_emptyOf_9 : decode cX2_emptyOf 9 = .ok (.iload_n 2, 1) := by decide +kernel
theorem dX2_emptyOf_10 : decode cX2_emptyOf 10 = .ok (.invokestatic 56, 3) := by decide +kernel
theorem dX2_emptyOf_13 : decode cX2_emptyOf 13 = .ok (.invokevirtual 101, 3) := by decide +kernel
theorem dX2_emptyOf_16 : decode cX2_emptyOf 16 = .ok (.ifCond .ne 7, 3) := by decide +kernel
theorem dX2_emptyOf_19 : decode cX2_emptyOf 19 = .ok (.iconst 1, 1) := by decide +kernel
theorem dX2_emptyOf_20 : decode cX2_emptyOf 20 = .ok (.goto 4, 3) := by decide +kernel
theorem dX2_emptyOf_23 : decode cX2_emptyOf 23 = .ok (.iconst 0, 1) := by decide +kernel
theorem dX2_emptyOf_24 : decode cX2_emptyOf 24 = .ok (.istore_n 3, 1) := by decide +kernel
theorem dX2_emptyOf_25 : decode cX2_emptyOf 25 = .ok (.iload_n 3, 1) := by decide +kernel
theorem dX2_emptyOf_26 : decode cX2_emptyOf 26 = .ok (.ifCond .eq 13, 3) := by decide +kernel
theorem dX2_emptyOf_29 : decode cX2_emptyOf 29 = .ok (.aload_n 0, 1) := by decide +kernel
theorem dX2_emptyOf_30 : decode cX2_emptyOf 30 = .ok (.getfield 45, 3) := by decide +kernel
theorem dX2_emptyOf_33 : decode cX2_emptyOf 33 = .ok (.invokevirtual 126, 3) := by decide +kernel
theorem dX2_emptyOf_36 : decode cX2_emptyOf 36 = .ok (.goto 4, 3) := by decide +kernel
theorem dX2_emptyOf_39 : decode cX2_emptyOf 39 = .ok (.iconst 0, 1) := by decide +kernel
theorem dX2_emptyOf_40 : decode cX2_emptyOf 40 = .ok (.ireturn, 1) := by decide +kernel
theorem dX2_firstDoubt_0 : decode cX2_firstDoubt 0 = .ok (.aload_n 0, 1) := by decide +kernel
theorem dX2_firstDoubt_1 : decode cX2_firstDoubt 1 = .ok (.getfield 65, 3) := by decide +kernel
theorem dX2_firstDoubt_4 : decode cX2_firstDoubt 4 = .ok (.istore_n 2, 1) := by decide +kernel
theorem dX2_firstDoubt_5 : decode cX2_firstDoubt 5 = .ok (.iconst 0, 1) := by decide +kernel
theorem dX2_firstDoubt_6 : decode cX2_firstDoubt 6 = .ok (.istore_n 3, 1) := by decide +kernel
theorem dX2_firstDoubt_7 : decode cX2_firstDoubt 7 = .ok (.iconst 0, 1) := by decide +kernel
theorem dX2_firstDoubt_8 : decode cX2_firstDoubt 8 = .ok (.istore 4, 2) := by decide +kernel
theorem dX2_firstDoubt_10 : decode cX2_firstDoubt 10 = .ok (.iload 4, 2) := by decide +kernel
theorem dX2_firstDoubt_12 : decode cX2_firstDoubt 12 = .ok (.aload_n 0, 1) := by decide +kernel
theorem dX2_firstDoubt_13 : decode cX2_firstDoubt 13 = .ok (.getfield 38, 3) := by decide +kernel
theorem dX2_firstDoubt_16 : decode cX2_firstDoubt 16 = .ok (.invokevirtual 68, 3) := by decide +kernel
theorem dX2_firstDoubt_19 : decode cX2_firstDoubt 19 = .ok (.if_icmp .ge 117, 3) := by decide +kernel
theorem dX2_firstDoubt_22 : decode cX2_firstDoubt 22 = .ok (.aload_n 1, 1) := by decide +kernel
theorem dX2_firstDoubt_23 : decode cX2_firstDoubt 23 = .ok (.iload 4, 2) := by decide +kernel
theorem dX2_firstDoubt_25 : decode cX2_firstDoubt 25 = .ok (.invokevirtual 129, 3) := by decide +kernel
theorem dX2_firstDoubt_28 : decode cX2_firstDoubt 28 = .ok (.istore 5, 2) := by decide +kernel
theorem dX2_firstDoubt_30 : decode cX2_firstDoubt 30 = .ok (.iload 5, 2) := by decide +kernel
theorem dX2_firstDoubt_32 : decode cX2_firstDoubt 32 = .ok (.iload_n 2, 1) := by decide +kernel
theorem dX2_firstDoubt_33 : decode cX2_firstDoubt 33 = .ok (.invokestatic 133, 3) := by decide +kernel
theorem dX2_firstDoubt_36 : decode cX2_firstDoubt 36 = .ok (.ifCond .eq 20, 3) := by decide +kernel
theorem dX2_firstDoubt_39 : decode cX2_firstDoubt 39 = .ok (.iload 5, 2) := by decide +kernel
theorem dX2_firstDoubt_41 : decode cX2_firstDoubt 41 = .ok (.invokestatic 123, 3) := by decide +kernel
theorem dX2_firstDoubt_44 : decode cX2_firstDoubt 44 = .ok (.aload_n 0, 1) := by decide +kernel
theorem dX2_firstDoubt_45 : decode cX2_firstDoubt 45 = .ok (.iload 4, 2) := by decide +kernel
theorem dX2_firstDoubt_47 : decode cX2_firstDoubt 47 = .ok (.invokevirtual 98, 3) := by decide +kernel
theorem dX2_firstDoubt_50 : decode cX2_firstDoubt 50 = .ok (.iconst (-1), 1) := by decide +kernel
theorem dX2_firstDoubt_51 : decode cX2_firstDoubt 51 = .ok (.ixor, 1) := by decide +kernel
theorem dX2_firstDoubt_52 : decode cX2_firstDoubt 52 = .ok (.iand, 1) := by decide +kernel
theorem dX2_firstDoubt_53 : decode cX2_firstDoubt 53 = .ok (.ifCond .eq 6, 3) := by decide +kernel
theorem dX2_firstDoubt_56 : decode cX2_firstDoubt 56 = .ok (.iload 4, 2) := by decide +kernel
theorem dX2_firstDoubt_58 : decode cX2_firstDoubt 58 = .ok (.ireturn, 1) := by decide +kernel
theorem dX2_firstDoubt_59 : decode cX2_firstDoubt 59 = .ok (.aload_n 0, 1) := by decide +kernel
theorem dX2_firstDoubt_60 : decode cX2_firstDoubt 60 = .ok (.getfield 45, 3) := by decide +kernel
theorem dX2_firstDoubt_63 : decode cX2_firstDoubt 63 = .ok (.iload 4, 2) := by decide +kernel
theorem dX2_firstDoubt_65 : decode cX2_firstDoubt 65 = .ok (.iload 5, 2) := by decide +kernel
theorem dX2_firstDoubt_67 : decode cX2_firstDoubt 67 = .ok (.invokestatic 49, 3) := by decide +kernel
theorem dX2_firstDoubt_70 : decode cX2_firstDoubt 70 = .ok (.iload 5, 2) := by decide +kernel
theorem dX2_firstDoubt_72 : decode cX2_firstDoubt 72 = .ok (.invokestatic 56, 3) := by decide +kernel
theorem dX2_firstDoubt_75 : decode cX2_firstDoubt 75 = .ok (.invokevirtual 101, 3) := by decide +kernel
theorem dX2_firstDoubt_78 : decode cX2_firstDoubt 78 = .ok (.ifCond .ne 7, 3) := by decide +kernel
theorem dX2_firstDoubt_81 : decode cX2_firstDoubt 81 = .ok (.iconst 1, 1) := by decide +kernel
theorem dX2_firstDoubt_82 : decode cX2_firstDoubt 82 = .ok (.goto 4, 3) := by decide +kernel
theorem dX2_firstDoubt_85 : decode cX2_firstDoubt 85 = .ok (.iconst 0, 1) := by decide +kernel
theorem dX2_firstDoubt_86 : decode cX2_firstDoubt 86 = .ok (.istore 6, 2) := by decide +kernel
theorem dX2_firstDoubt_88 : decode cX2_firstDoubt 88 = .ok (.iload 6, 2) := by decide +kernel
theorem dX2_firstDoubt_90 : decode cX2_firstDoubt 90 = .ok (.ifCond .ne 11, 3) := by decide +kernel
theorem dX2_firstDoubt_93 : decode cX2_firstDoubt 93 = .ok (.iload 5, 2) := by decide +kernel
theorem dX2_firstDoubt_95 : decode cX2_firstDoubt 95 = .ok (.ifCond .eq 6, 3) := by decide +kernel
theorem dX2_firstDoubt_98 : decode cX2_firstDoubt 98 = .ok (.iload 4, 2) := by decide +kernel
theorem dX2_firstDoubt_100 : decode cX2_firstDoubt 100 = .ok (.ireturn, 1) := by decide +kernel
theorem dX2_firstDoubt_101 : decode cX2_firstDoubt 101 = .ok (.iload_n 3, 1) := by decide +kernel
theorem dX2_firstDoubt_102 : decode cX2_firstDoubt 102 = .ok (.iload 6, 2) := by decide +kernel
theorem dX2_firstDoubt_104 : decode cX2_firstDoubt 104 = .ok (.ifCond .eq 13, 3) := by decide +kernel
theorem dX2_firstDoubt_107 : decode cX2_firstDoubt 107 = .ok (.aload_n 0, 1) := by decide +kernel
theorem dX2_firstDoubt_108 : decode cX2_firstDoubt 108 = .ok (.getfield 45, 3) := by decide +kernel
theorem dX2_firstDoubt_111 : decode cX2_firstDoubt 111 = .ok (.invokevirtual 107, 3) := by decide +kernel
theorem dX2_firstDoubt_114 : decode cX2_firstDoubt 114 = .ok (.goto 4, 3) := by decide +kernel
theorem dX2_firstDoubt_117 : decode cX2_firstDoubt 117 = .ok (.iconst 0, 1) := by decide +kernel
theorem dX2_firstDoubt_118 : decode cX2_firstDoubt 118 = .ok (.iadd, 1) := by decide +kernel
theorem dX2_firstDoubt_119 : decode cX2_firstDoubt 119 = .ok (.istore_n 3, 1) := by decide +kernel
theorem dX2_firstDoubt_120 : decode cX2_firstDoubt 120 = .ok (.iload_n 2, 1) := by decide +kernel
theorem dX2_firstDoubt_121 : decode cX2_firstDoubt 121 = .ok (.iload 5, 2) := by decide +kernel
theorem dX2_firstDoubt_123 : decode cX2_firstDoubt 123 = .ok (.invokestatic 123, 3) := by decide +kernel
theorem dX2_firstDoubt_126 : decode cX2_firstDoubt 126 = .ok (.iconst (-1), 1) := by decide +kernel
theorem dX2_firstDoubt_127 : decode cX2_firstDoubt 127 = .ok (.ixor, 1) := by decide +kernel
theorem dX2_firstDoubt_128 : decode cX2_firstDoubt 128 = .ok (.iand, 1) := by decide +kernel
theorem dX2_firstDoubt_129 : decode cX2_firstDoubt 129 = .ok (.istore_n 2, 1) := by decide +kernel
theorem dX2_firstDoubt_130 : decode cX2_firstDoubt 130 = .ok (.iinc 4 1, 3) := by decide +kernel
theorem dX2_firstDoubt_133 : decode cX2_firstDoubt 133 = .ok (.goto (-123), 3) := by decide +kernel
theorem dX2_firstDoubt_136 : decode cX2_firstDoubt 136 = .ok (.iload_n 3, 1) := by decide +kernel
theorem dX2_firstDoubt_137 : decode cX2_firstDoubt 137 = .ok (.aload_n 0, 1) := by decide +kernel
theorem dX2_firstDoubt_138 : decode cX2_firstDoubt 138 = .ok (.invokevirtual 136, 3) := by decide +kernel
theorem dX2_firstDoubt_141 : decode cX2_firstDoubt 141 = .ok (.if_icmp .ne 7, 3) := by decide +kernel
theorem dX2_firstDoubt_144 : decode cX2_firstDoubt 144 = .ok (.iconst (-1), 1) := by decide +kernel
theorem dX2_firstDoubt_145 : decode cX2_firstDoubt 145 = .ok (.goto 10, 3) := by decide +kernel
theorem dX2_firstDoubt_148 : decode cX2_firstDoubt 148 = .ok (.aload_n 0, 1) := by decide +kernel
theorem dX2_firstDoubt_149 : decode cX2_firstDoubt 149 = .ok (.getfield 38, 3) := by decide +kernel
theorem dX2_firstDoubt_152 : decode cX2_firstDoubt 152 = .ok (.invokevirtual 68, 3) := by decide +kernel
theorem dX2_firstDoubt_155 : decode cX2_firstDoubt 155 = .ok (.ireturn, 1) := by decide +kernel
theorem dX2_isOfThese_0 : decode cX2_isOfThese 0 = .ok (.iload_n 0, 1) := by decide +kernel
theorem dX2_isOfThese_1 : decode cX2_isOfThese 1 = .ok (.ifCond .ne 5, 3) := by decide +kernel
theorem dX2_isOfThese_4 : decode cX2_isOfThese 4 = .ok (.iconst 1, 1) := by decide +kernel
theorem dX2_isOfThese_5 : decode cX2_isOfThese 5 = .ok (.ireturn, 1) := by decide +kernel
theorem dX2_isOfThese_6 : decode cX2_isOfThese 6 = .ok (.iload_n 0, 1) := by decide +kernel
theorem dX2_isOfThese_7 : decode cX2_isOfThese 7 = .ok (.invokestatic 49, 3) := by decide +kernel
theorem dX2_isOfThese_10 : decode cX2_isOfThese 10 = .ok (.istore_n 2, 1) := by decide +kernel
theorem dX2_isOfThese_11 : decode cX2_isOfThese 11 = .ok (.iload_n 0, 1) := by decide +kernel
theorem dX2_isOfThese_12 : decode cX2_isOfThese 12 = .ok (.invokestatic 56, 3) := by decide +kernel
theorem dX2_isOfThese_15 : decode cX2_isOfThese 15 = .ok (.istore_n 3, 1) := by decide +kernel
theorem dX2_isOfThese_16 : decode cX2_isOfThese 16 = .ok (.iload_n 0, 1) := by decide +kernel
theorem dX2_isOfThese_17 : decode cX2_isOfThese 17 = .ok (.ifCond .le 35, 3) := by decide +kernel
theorem dX2_isOfThese_20 : decode cX2_isOfThese 20 = .ok (.iload_n 2, 1) := by decide +kernel
theorem dX2_isOfThese_21 : decode cX2_isOfThese 21 = .ok (.iload_n 3, 1) := by decide +kernel
theorem dX2_isOfThese_22 : decode cX2_isOfThese 22 = .ok (.if_icmp .eq 30, 3) := by decide +kernel
theorem dX2_isOfThese_25 : decode cX2_isOfThese 25 = .ok (.iload_n 2, 1) := by decide +kernel
theorem dX2_isOfThese_26 : decode cX2_isOfThese 26 = .ok (.invokestatic 53, 3) := by decide +kernel
theorem dX2_isOfThese_29 : decode cX2_isOfThese 29 = .ok (.iload_n 1, 1) := by decide +kernel
theorem dX2_isOfThese_30 : decode cX2_isOfThese 30 = .ok (.iand, 1) := by decide +kernel
theorem dX2_isOfThese_31 : decode cX2_isOfThese 31 = .ok (.ifCond .eq 21, 3) := by decide +kernel
theorem dX2_isOfThese_34 : decode cX2_isOfThese 34 = .ok (.iload_n 3, 1) := by decide +kernel
theorem dX2_isOfThese_35 : decode cX2_isOfThese 35 = .ok (.iconst (-1), 1) := by decide +kernel
theorem dX2_isOfThese_36 : decode cX2_isOfThese 36 = .ok (.if_icmp .eq 12, 3) := by decide +kernel
theorem dX2_isOfThese_39 : decode cX2_isOfThese 39 = .ok (.iload_n 3, 1) := by decide +kernel
theorem dX2_isOfThese_40 : decode cX2_isOfThese 40 = .ok (.invokestatic 53, 3) := by decide +kernel
theorem dX2_isOfThese_43 : decode cX2_isOfThese 43 = .ok (.iload_n 1, 1) := by decide +kernel
theorem dX2_isOfThese_44 : decode cX2_isOfThese 44 = .ok (.iand, 1) := by decide +kernel
theorem dX2_isOfThese_45 : decode cX2_isOfThese 45 = .ok (.ifCond .eq 7, 3) := by decide +kernel
theorem dX2_isOfThese_48 : decode cX2_isOfThese 48 = .ok (.iconst 1, 1) := by decide +kernel
theorem dX2_isOfThese_49 : decode cX2_isOfThese 49 = .ok (.goto 4, 3) := by decide +kernel
theorem dX2_isOfThese_52 : decode cX2_isOfThese 52 = .ok (.iconst 0, 1) := by decide +kernel
theorem dX2_isOfThese_53 : decode cX2_isOfThese 53 = .ok (.ireturn, 1) := by decide +kernel
theorem dX3_init_0 : decode cX3_init 0 = .ok (.aload_n 0, 1) := by decide +kernel
theorem dX3_init_1 : decode cX3_init 1 = .ok (.invokespecial 3, 3) := by decide +kernel
theorem dX3_init_4 : decode cX3_init 4 = .ok (.aload_n 0, 1) := by decide +kernel
theorem dX3_init_5 : decode cX3_init 5 = .ok (.bipush 16, 2) := by decide +kernel
theorem dX3_init_7 : decode cX3_init 7 = .ok (.anewarray 11, 3) := by decide +kernel
theorem dX3_init_10 : decode cX3_init 10 = .ok (.putfield 13, 3) := by decide +kernel
theorem dX3_init_13 : decode cX3_init 13 = .ok (.aload_n 0, 1) := by decide +kernel
theorem dX3_init_14 : decode cX3_init 14 = .ok (.bipush 16, 2) := by decide +kernel
theorem dX3_init_16 : decode cX3_init 16 = .ok (.anewarray 11, 3) := by decide +kernel
theorem dX3_init_19 : decode cX3_init 19 = .ok (.putfield 17, 3) := by decide +kernel
theorem dX3_init_22 : decode cX3_init 22 = .ok (.aload_n 0, 1) := by decide +kernel
theorem dX3_init_23 : decode cX3_init 23 = .ok (.bipush 16, 2) := by decide +kernel
theorem dX3_init_25 : decode cX3_init 25 = .ok (.newarray .int, 2) := by decide +kernel
theorem dX3_init_27 : decode cX3_init 27 = .ok (.putfield 20, 3) := by decide +kernel
theorem dX3_init_30 : decode cX3_init 30 = .ok (.return_, 1) := by decide +kernel
theorem dX3_changes_0 : decode cX3_changes 0 = .ok (.aload_n 0, 1) := by decide +kernel
theorem dX3_changes_1 : decode cX3_changes 1 = .ok (.getfield 23, 3) := by decide +kernel
theorem dX3_changes_4 : decode cX3_changes 4 = .ok (.ireturn, 1) := by decide +kernel
theorem dX3_keep_0 : decode cX3_keep 0 = .ok (.iload_n 2, 1) := by decide +kernel
theorem dX3_keep_1 : decode cX3_keep 1 = .ok (.ifCond .lt 15, 3) := by decide +kernel
theorem dX3_keep_4 : decode cX3_keep 4 = .ok (.iload_n 3, 1) := by decide +kernel
theorem dX3_keep_5 : decode cX3_keep 5 = .ok (.ifCond .lt 11, 3) := by decide +kernel
theorem dX3_keep_8 : decode cX3_keep 8 = .ok (.iload_n 2, 1) := by decide +kernel
theorem dX3_keep_9 : decode cX3_keep 9 = .ok (.aload_n 1, 1) := by decide +kernel
theorem dX3_keep_10 : decode cX3_keep 10 = .ok (.arraylength, 1) := by decide +kernel
theorem dX3_keep_11 : decode cX3_keep 11 = .ok (.iload_n 3, 1) := by decide +kernel
theorem dX3_keep_12 : decode cX3_keep 12 = .ok (.isub, 1) := by decide +kernel
theorem dX3_keep_13 : decode cX3_keep 13 = .ok (.if_icmp .le 4, 3) := by decide +kernel
theorem dX3_keep_16 : decode cX3_keep 16 = .ok (.return_, 1) := by decide +kernel
theorem dX3_keep_17 : decode cX3_keep 17 = .ok (.aload_n 0, 1) := by decide +kernel
theorem dX3_keep_18 : decode cX3_keep 18 = .ok (.getfield 13, 3) := by decide +kernel
theorem dX3_keep_21 : decode cX3_keep 21 = .ok (.aload_n 0, 1) := by decide +kernel
theorem dX3_keep_22 : decode cX3_keep 22 = .ok (.getfield 27, 3) := by decide +kernel
theorem dX3_keep_25 : decode cX3_keep 25 = .ok (.aload_n 1, 1) := by decide +kernel
theorem dX3_keep_26 : decode cX3_keep 26 = .ok (.aastore, 1) := by decide +kernel
theorem dX3_keep_27 : decode cX3_keep 27 = .ok (.aload_n 0, 1) := by decide +kernel
theorem dX3_keep_28 : decode cX3_keep 28 = .ok (.getfield 17, 3) := by decide +kernel
theorem dX3_keep_31 : decode cX3_keep 31 = .ok (.aload_n 0, 1) := by decide +kernel
theorem dX3_keep_32 : decode cX3_keep 32 = .ok (.getfield 27, 3) := by decide +kernel
theorem dX3_keep_35 : decode cX3_keep 35 = .ok (.aload_n 1, 1) := by decide +kernel
theorem dX3_keep_36 : decode cX3_keep 36 = .ok (.iload_n 2, 1) := by decide +kernel
theorem dX3_keep_37 : decode cX3_keep 37 = .ok (.iload_n 2, 1) := by decide +kernel
theorem dX3_keep_38 : decode cX3_keep 38 = .ok (.iload_n 3, 1) := by decide +kernel
theorem dX3_keep_39 : decode cX3_keep 39 = .ok (.iadd, 1) := by decide +kernel
theorem dX3_keep_40 : decode cX3_keep 40 = .ok (.invokestatic 30, 3) := by decide +kernel
theorem dX3_keep_43 : decode cX3_keep 43 = .ok (.aastore, 1) := by decide +kernel
theorem dX3_keep_44 : decode cX3_keep 44 = .ok (.aload_n 0, 1) := by decide +kernel
theorem dX3_keep_45 : decode cX3_keep 45 = .ok (.getfield 20, 3) := by decide +kernel
theorem dX3_keep_48 : decode cX3_keep 48 = .ok (.aload_n 0, 1) := by decide +kernel
theorem dX3_keep_49 : decode cX3_keep 49 = .ok (.getfield 27, 3) := by decide +kernel
theorem dX3_keep_52 : decode cX3_keep 52 = .ok (.iload_n 2, 1) := by decide +kernel
theorem dX3_keep_53 : decode cX3_keep 53 = .ok (.iastore, 1) := by decide +kernel
theorem dX3_keep_54 : decode cX3_keep 54 = .ok (.aload_n 0, 1) := by decide +kernel
theorem dX3_keep_55 : decode cX3_keep 55 = .ok (.aload_n 0, 1) := by decide +kernel
theorem dX3_keep_56 : decode cX3_keep 56 = .ok (.getfield 27, 3) := by decide +kernel
theorem dX3_keep_59 : decode cX3_keep 59 = .ok (.iconst 1, 1) := by decide +kernel
theorem dX3_keep_60 : decode cX3_keep 60 = .ok (.iadd, 1) := by decide +kernel
theorem dX3_keep_61 : decode cX3_keep 61 = .ok (.bipush 16, 2) := by decide +kernel
theorem dX3_keep_63 : decode cX3_keep 63 = .ok (.irem, 1) := by decide +kernel
theorem dX3_keep_64 : decode cX3_keep 64 = .ok (.putfield 27, 3) := by decide +kernel
theorem dX3_keep_67 : decode cX3_keep 67 = .ok (.aload_n 0, 1) := by decide +kernel
theorem dX3_keep_68 : decode cX3_keep 68 = .ok (.aload_n 0, 1) := by decide +kernel
theorem dX3_keep_69 : decode cX3_keep 69 = .ok (.getfield 36, 3) := by decide +kernel
theorem dX3_keep_72 : decode cX3_keep 72 = .ok (.iconst 1, 1) := by decide +kernel
theorem dX3_keep_73 : decode cX3_keep 73 = .ok (.iadd, 1) := by decide +kernel
theorem dX3_keep_74 : decode cX3_keep 74 = .ok (.bipush 16, 2) := by decide +kernel
theorem dX3_keep_76 : decode cX3_keep 76 = .ok (.invokestatic 39, 3) := by decide +kernel
theorem dX3_keep_79 : decode cX3_keep 79 = .ok (.putfield 36, 3) := by decide +kernel
theorem dX3_keep_82 : decode cX3_keep 82 = .ok (.aload_n 0, 1) := by decide +kernel
theorem dX3_keep_83 : decode cX3_keep 83 = .ok (.dup, 1) := by decide +kernel
theorem dX3_keep_84 : decode cX3_keep 84 = .ok (.getfield 23, 3) := by decide +kernel
theorem dX3_keep_87 : decode cX3_keep 87 = .ok (.iconst 1, 1) := by decide +kernel
theorem dX3_keep_88 : decode cX3_keep 88 = .ok (.iadd, 1) := by decide +kernel
theorem dX3_keep_89 : decode cX3_keep 89 = .ok (.putfield 23, 3) := by decide +kernel
theorem dX3_keep_92 : decode cX3_keep 92 = .ok (.return_, 1) := by decide +kernel
theorem dX3_takeBack_0 : decode cX3_takeBack 0 = .ok (.aload_n 0, 1) := by decide +kernel
theorem dX3_takeBack_1 : decode cX3_takeBack 1 = .ok (.getfield 36, 3) := by decide +kernel
theorem dX3_takeBack_4 : decode cX3_takeBack 4 = .ok (.ifCond .ne 6, 3) := by decide +kernel
theorem dX3_takeBack_7 : decode cX3_takeBack 7 = .ok (.ldc 45, 2) := by decide +kernel
theorem dX3_takeBack_9 : decode cX3_takeBack 9 = .ok (.ireturn, 1) := by decide +kernel
theorem dX3_takeBack_10 : decode cX3_takeBack 10 = .ok (.aload_n 0, 1) := by decide +kernel
theorem dX3_takeBack_11 : decode cX3_takeBack 11 = .ok (.dup, 1) := by decide +kernel
theorem dX3_takeBack_12 : decode cX3_takeBack 12 = .ok (.getfield 36, 3) := by decide +kernel
theorem dX3_takeBack_15 : decode cX3_takeBack 15 = .ok (.iconst 1, 1) := by decide +kernel
theorem dX3_takeBack_16 : decode cX3_takeBack 16 = .ok (.isub, 1) := by decide +kernel
theorem dX3_takeBack_17 : decode cX3_takeBack 17 = .ok (.putfield 36, 3) := by decide +kernel
theorem dX3_takeBack_20 : decode cX3_takeBack 20 = .ok (.aload_n 0, 1) := by decide +kernel
theorem dX3_takeBack_21 : decode cX3_takeBack 21 = .ok (.aload_n 0, 1) := by decide +kernel
theorem dX3_takeBack_22 : decode cX3_takeBack 22 = .ok (.getfield 27, 3) := by decide +kernel
theorem dX3_takeBack_25 : decode cX3_takeBack 25 = .ok (.bipush 16, 2) := by decide +kernel
theorem dX3_takeBack_27 : decode cX3_takeBack 27 = .ok (.iadd, 1) := by decide +kernel
theorem dX3_takeBack_28 : decode cX3_takeBack 28 = .ok (.iconst 1, 1) := by decide +kernel
theorem dX3_takeBack_29 : decode cX3_takeBack 29 = .ok (.isub, 1) := by decide +kernel
theorem dX3_takeBack_30 : decode cX3_takeBack 30 = .ok (.bipush 16, 2) := by decide +kernel
theorem dX3_takeBack_32 : decode cX3_takeBack 32 = .ok (.irem, 1) := by decide +kernel
theorem dX3_takeBack_33 : decode cX3_takeBack 33 = .ok (.putfield 27, 3) := by decide +kernel
theorem dX3_takeBack_36 : decode cX3_takeBack 36 = .ok (.aload_n 0, 1) := by decide +kernel
theorem dX3_takeBack_37 : decode cX3_takeBack 37 = .ok (.getfield 13, 3) := by decide +kernel
theorem dX3_takeBack_40 : decode cX3_takeBack 40 = .ok (.aload_n 0, 1) := by decide +kernel
theorem dX3_takeBack_41 : decode cX3_takeBack 41 = .ok (.getfield 27, 3) := by decide +kernel
theorem dX3_takeBack_44 : decode cX3_takeBack 44 = .ok (.aaload, 1) := by decide +kernel
theorem dX3_takeBack_45 : decode cX3_takeBack 45 = .ok (.aload_n 0, 1) := by decide +kernel
theorem dX3_takeBack_46 : decode cX3_takeBack 46 = .ok (.getfield 17, 3) := by decide +kernel
theorem dX3_takeBack_49 : decode cX3_takeBack 49 = .ok (.aload_n 0, 1) := by decide +kernel
theorem dX3_takeBack_50 : decode cX3_takeBack 50 = .ok (.getfield 27, 3) := by decide +kernel
theorem dX3_takeBack_53 : decode cX3_takeBack 53 = .ok (.aaload, 1) := by decide +kernel
theorem dX3_takeBack_54 : decode cX3_takeBack 54 = .ok (.aload_n 0, 1) := by decide +kernel
theorem dX3_takeBack_55 : decode cX3_takeBack 55 = .ok (.getfield 20, 3) := by decide +kernel
theorem dX3_takeBack_58 : decode cX3_takeBack 58 = .ok (.aload_n 0, 1) := by decide +kernel
theorem dX3_takeBack_59 : decode cX3_takeBack 59 = .ok (.getfield 27, 3) := by decide +kernel
theorem dX3_takeBack_62 : decode cX3_takeBack 62 = .ok (.iaload, 1) := by decide +kernel
theorem dX3_takeBack_63 : decode cX3_takeBack 63 = .ok (.invokestatic 46, 3) := by decide +kernel
theorem dX3_takeBack_66 : decode cX3_takeBack 66 = .ok (.aload_n 0, 1) := by decide +kernel
theorem dX3_takeBack_67 : decode cX3_takeBack 67 = .ok (.dup, 1) := by decide +kernel
theorem dX3_takeBack_68 : decode cX3_takeBack 68 = .ok (.getfield 23, 3) := by decide +kernel
theorem dX3_takeBack_71 : decode cX3_takeBack 71 = .ok (.iconst 1, 1) := by decide +kernel
theorem dX3_takeBack_72 : decode cX3_takeBack 72 = .ok (.iadd, 1) := by decide +kernel
theorem dX3_takeBack_73 : decode cX3_takeBack 73 = .ok (.putfield 23, 3) := by decide +kernel
theorem dX3_takeBack_76 : decode cX3_takeBack 76 = .ok (.aload_n 0, 1) := by decide +kernel
theorem dX3_takeBack_77 : decode cX3_takeBack 77 = .ok (.getfield 36, 3) := by decide +kernel
theorem dX3_takeBack_80 : decode cX3_takeBack 80 = .ok (.ireturn, 1) := by decide +kernel
theorem dX3_writeAgain_0 : decode cX3_writeAgain 0 = .ok (.aload_n 0, 1) := by decide +kernel
theorem dX3_writeAgain_1 : decode cX3_writeAgain 1 = .ok (.ifnull 29, 3) := by decide +kernel
theorem dX3_writeAgain_4 : decode cX3_writeAgain 4 = .ok (.aload_n 1, 1) := by decide +kernel
theorem dX3_writeAgain_5 : decode cX3_writeAgain 5 = .ok (.ifnull 25, 3) := by decide +kernel
theorem dX3_writeAgain_8 : decode cX3_writeAgain 8 = .ok (.iload_n 2, 1) := by decide +kernel
theorem dX3_writeAgain_9 : decode cX3_writeAgain 9 = .ok (.ifCond .lt 21, 3) := by decide +kernel
theorem dX3_writeAgain_12 : decode cX3_writeAgain 12 = .ok (.iload_n 2, 1) := by decide +kernel
theorem dX3_writeAgain_13 : decode cX3_writeAgain 13 = .ok (.aload_n 0, 1) := by decide +kernel
theorem dX3_writeAgain_14 : decode cX3_writeAgain 14 = .ok (.arraylength, 1) := by decide +kernel
theorem dX3_writeAgain_15 : decode cX3_writeAgain 15 = .ok (.aload_n 1, 1) := by decide +kernel
theorem dX3_writeAgain_16 : decode cX3_writeAgain 16 = .ok (.arraylength, 1) := by decide +kernel
theorem dX3_writeAgain_17 : decode cX3_writeAgain 17 = .ok (.isub, 1) := by decide +kernel
theorem dX3_writeAgain_18 : decode cX3_writeAgain 18 = .ok (.if_icmp .gt 12, 3) := by decide +kernel
theorem dX3_writeAgain_21 : decode cX3_writeAgain 21 = .ok (.aload_n 1, 1) := by decide +kernel
theorem dX3_writeAgain_22 : decode cX3_writeAgain 22 = .ok (.iconst 0, 1) := by decide +kernel
theorem dX3_writeAgain_23 : decode cX3_writeAgain 23 = .ok (.aload_n 0, 1) := by decide +kernel
theorem dX3_writeAgain_24 : decode cX3_writeAgain 24 = .ok (.iload_n 2, 1) := by decide +kernel
theorem dX3_writeAgain_25 : decode cX3_writeAgain 25 = .ok (.aload_n 1, 1) := by decide +kernel
theorem dX3_writeAgain_26 : decode cX3_writeAgain 26 = .ok (.arraylength, 1) := by decide +kernel
theorem dX3_writeAgain_27 : decode cX3_writeAgain 27 = .ok (.invokestatic 50, 3) := by decide +kernel
theorem dX3_writeAgain_30 : decode cX3_writeAgain 30 = .ok (.return_, 1) := by decide +kernel
theorem dX4_init_0 : decode cX4_init 0 = .ok (.aload_n 0, 1) := by decide +kernel
theorem dX4_init_1 : decode cX4_init 1 = .ok (.invokespecial 3, 3) := by decide +kernel
theorem dX4_init_4 : decode cX4_init 4 = .ok (.aload_n 0, 1) := by decide +kernel
theorem dX4_init_5 : decode cX4_init 5 = .ok (.bipush 100, 2) := by decide +kernel
theorem dX4_init_7 : decode cX4_init 7 = .ok (.newarray .int, 2) := by decide +kernel
theorem dX4_init_9 : decode cX4_init 9 = .ok (.putfield 9, 3) := by decide +kernel
theorem dX4_init_12 : decode cX4_init 12 = .ok (.aload_n 0, 1) := by decide +kernel
theorem dX4_init_13 : decode cX4_init 13 = .ok (.bipush 10, 2) := by decide +kernel
theorem dX4_init_15 : decode cX4_init 15 = .ok (.newarray .int, 2) := by decide +kernel
theorem dX4_init_17 : decode cX4_init 17 = .ok (.putfield 15, 3) := by decide +kernel
theorem dX4_init_20 : decode cX4_init 20 = .ok (.aload_n 0, 1) := by decide +kernel
theorem dX4_init_21 : decode cX4_init 21 = .ok (.bipush 10, 2) := by decide +kernel
theorem dX4_init_23 : decode cX4_init 23 = .ok (.newarray .int, 2) := by decide +kernel
theorem dX4_init_25 : decode cX4_init 25 = .ok (.putfield 18, 3) := by decide +kernel
theorem dX4_init_28 : decode cX4_init 28 = .ok (.aload_n 0, 1) := by decide +kernel
theorem dX4_init_29 : decode cX4_init 29 = .ok (.aload_n 1, 1) := by decide +kernel
theorem dX4_init_30 : decode cX4_init 30 = .ok (.putfield 21, 3) := by decide +kernel
theorem dX4_init_33 : decode cX4_init 33 = .ok (.return_, 1) := by decide +kernel
theorem dX4_move_0 : decode cX4_move 0 = .ok (.iload_n 1, 1) := by decide +kernel
theorem dX4_move_1 : decode cX4_move 1 = .ok (.invokestatic 25, 3) := by decide +kernel
theorem dX4_move_4 : decode cX4_move 4 = .ok (.ifCond .eq 10, 3) := by decide +kernel
theorem dX4_move_7 : decode cX4_move 7 = .ok (.iload_n 2, 1) := by decide +kernel
theorem dX4_move_8 : decode cX4_move 8 = .ok (.invokestatic 25, 3) := by decide +kernel
theorem dX4_move_11 : decode cX4_move 11 = .ok (.ifCond .ne 6, 3) := by decide +kernel
theorem dX4_move_14 : decode cX4_move 14 = .ok (.ldc 29, 2) := by decide +kernel
theorem dX4_move_16 : decode cX4_move 16 = .ok (.ireturn, 1) := by decide +kernel
theorem dX4_move_17 : decode cX4_move 17 = .ok (.iload_n 1, 1) := by decide +kernel
theorem dX4_move_18 : decode cX4_move 18 = .ok (.bipush 10, 2) := by decide +kernel
theorem dX4_move_20 : decode cX4_move 20 = .ok (.imul, 1) := by decide +kernel
theorem dX4_move_21 : decode cX4_move 21 = .ok (.iload_n 2, 1) := by decide +kernel
theorem dX4_move_22 : decode cX4_move 22 = .ok (.iadd, 1) := by decide +kernel
theorem dX4_move_23 : decode cX4_move 23 = .ok (.istore 4, 2) := by decide +kernel
theorem dX4_move_25 : decode cX4_move 25 = .ok (.aload_n 0, 1) := by decide +kernel
theorem dX4_move_26 : decode cX4_move 26 = .ok (.getfield 9, 3) := by decide +kernel
theorem dX4_move_29 : decode cX4_move 29 = .ok (.iload 4, 2) := by decide +kernel
theorem dX4_move_31 : decode cX4_move 31 = .ok (.iaload, 1) := by decide +kernel
theorem dX4_move_32 : decode cX4_move 32 = .ok (.iload_n 3, 1) := by decide +kernel
theorem dX4_move_33 : decode cX4_move 33 = .ok (.iadd, 1) := by decide +kernel
theorem dX4_move_34 : decode cX4_move 34 = .ok (.istore 5, 2) := by decide +kernel
theorem dX4_move_36 : decode cX4_move 36 = .ok (.iload 5, 2) := by decide +kernel
theorem dX4_move_38 : decode cX4_move 38 = .ok (.sipush (-9999), 3) := by decide +kernel
theorem dX4_move_41 : decode cX4_move 41 = .ok (.sipush 9999, 3) := by decide +kernel
theorem dX4_move_44 : decode cX4_move 44 = .ok (.invokestatic 30, 3) := by decide +kernel
theorem dX4_move_47 : decode cX4_move 47 = .ok (.ifCond .ne 6, 3) := by decide +kernel
theorem dX4_move_50 : decode cX4_move 50 = .ok (.ldc 34, 2) := by decide +kernel
theorem dX4_move_52 : decode cX4_move 52 = .ok (.ireturn, 1) := by decide +kernel
theorem dX4_move_53 : decode cX4_move 53 = .ok (.aload_n 0, 1) := by decide +kernel
theorem dX4_move_54 : decode cX4_move 54 = .ok (.getfield 21, 3) := by decide +kernel
theorem dX4_move_57 : decode cX4_move 57 = .ok (.aload_n 0, 1) := by decide +kernel
theorem dX4_move_58 : decode cX4_move 58 = .ok (.getfield 9, 3) := by decide +kernel
theorem dX4_move_61 : decode cX4_move 61 = .ok (.iload 4, 2) := by decide +kernel
theorem dX4_move_63 : decode cX4_move 63 = .ok (.iconst 1, 1) := by decide +kernel
theorem dX4_move_64 : decode cX4_move 64 = .ok (.invokevirtual 35, 3) := by decide +kernel
theorem dX4_move_67 : decode cX4_move 67 = .ok (.aload_n 0, 1) := by decide +kernel
theorem dX4_move_68 : decode cX4_move 68 = .ok (.getfield 9, 3) := by decide +kernel
theorem dX4_move_71 : decode cX4_move 71 = .ok (.iload 4, 2) := by decide +kernel
theorem dX4_move_73 : decode cX4_move 73 = .ok (.iload 5, 2) := by decide +kernel
theorem dX4_move_75 : decode cX4_move 75 = .ok (.iastore, 1) := by decide +kernel
theorem dX4_move_76 : decode cX4_move 76 = .ok (.iload 5, 2) := by decide +kernel
theorem dX4_move_78 : decode cX4_move 78 = .ok (.ireturn, 1) := by decide +kernel
theorem dX4_sumOf_0 : decode cX4_sumOf 0 = .ok (.iload_n 1, 1) := by decide +kernel
theorem dX4_sumOf_1 : decode cX4_sumOf 1 = .ok (.invokestatic 25, 3) := by decide +kernel
theorem dX4_sumOf_4 : decode cX4_sumOf 4 = .ok (.ifCond .ne 5, 3) := by decide +kernel
theorem dX4_sumOf_7 : decode cX4_sumOf 7 = .ok (.iconst 0, 1) := by decide +kernel
theorem dX4_sumOf_8 : decode cX4_sumOf 8 = .ok (.ireturn, 1) := by decide +kernel
theorem dX4_sumOf_9 : decode cX4_sumOf 9 = .ok (.iconst 0, 1) := by decide +kernel
theorem dX4_sumOf_10 : decode cX4_sumOf 10 = .ok (.istore_n 2, 1) := by decide +kernel
theorem dX4_sumOf_11 : decode cX4_sumOf 11 = .ok (.iconst 0, 1) := by decide +kernel
theorem dX4_sumOf_12 : decode cX4_sumOf 12 = .ok (.istore_n 3, 1) := by decide +kernel
theorem dX4_sumOf_13 : decode cX4_sumOf 13 = .ok (.iload_n 3, 1) := by decide +kernel
theorem dX4_sumOf_14 : decode cX4_sumOf 14 = .ok (.bipush 10, 2) := by decide +kernel
theorem dX4_sumOf_16 : decode cX4_sumOf 16 = .ok (.if_icmp .ge 35, 3) := by decide +kernel
theorem dX4_sumOf_19 : decode cX4_sumOf 19 = .ok (.iload_n 2, 1) := by decide +kernel
theorem dX4_sumOf_20 : decode cX4_sumOf 20 = .ok (.aload_n 0, 1) := by decide +kernel
theorem dX4_sumOf_21 : decode cX4_sumOf 21 = .ok (.getfield 9, 3) := by decide +kernel
theorem dX4_sumOf_24 : decode cX4_sumOf 24 = .ok (.iload_n 3, 1) := by decide +kernel
theorem dX4_sumOf_25 : decode cX4_sumOf 25 = .ok (.bipush 10, 2) := by decide +kernel
theorem dX4_sumOf_27 : decode cX4_sumOf 27 = .ok (.imul, 1) := by decide +kernel
theorem dX4_sumOf_28 : decode cX4_sumOf 28 = .ok (.iload_n 1, 1) := by decide +kernel
theorem dX4_sumOf_29 : decode cX4_sumOf 29 = .ok (.iadd, 1) := by decide +kernel
theorem dX4_sumOf_30 : decode cX4_sumOf 30 = .ok (.iaload, 1) := by decide +kernel
theorem dX4_sumOf_31 : decode cX4_sumOf 31 = .ok (.aload_n 0, 1) := by decide +kernel
theorem dX4_sumOf_32 : decode cX4_sumOf 32 = .ok (.getfield 9, 3) := by decide +kernel
theorem dX4_sumOf_35 : decode cX4_sumOf 35 = .ok (.iload_n 1, 1) := by decide +kernel
theorem dX4_sumOf_36 : decode cX4_sumOf 36 = .ok (.bipush 10, 2) := by decide +kernel
theorem dX4_sumOf_38 : decode cX4_sumOf 38 = .ok (.imul, 1) := by decide +kernel
theorem dX4_sumOf_39 : decode cX4_sumOf 39 = .ok (.iload_n 3, 1) := by decide +kernel
theorem dX4_sumOf_40 : decode cX4_sumOf 40 = .ok (.iadd, 1) := by decide +kernel
theorem dX4_sumOf_41 : decode cX4_sumOf 41 = .ok (.iaload, 1) := by decide +kernel
theorem dX4_sumOf_42 : decode cX4_sumOf 42 = .ok (.isub, 1) := by decide +kernel
theorem dX4_sumOf_43 : decode cX4_sumOf 43 = .ok (.iadd, 1) := by decide +kernel
theorem dX4_sumOf_44 : decode cX4_sumOf 44 = .ok (.istore_n 2, 1) := by decide +kernel
theorem dX4_sumOf_45 : decode cX4_sumOf 45 = .ok (.iinc 3 1, 3) := by decide +kernel
theorem dX4_sumOf_48 : decode cX4_sumOf 48 = .ok (.goto (-35), 3) := by decide +kernel
theorem dX4_sumOf_51 : decode cX4_sumOf 51 = .ok (.iload_n 2, 1) := by decide +kernel
theorem dX4_sumOf_52 : decode cX4_sumOf 52 = .ok (.ireturn, 1) := by decide +kernel
theorem dX4_settle_0 : decode cX4_settle 0 = .ok (.iconst 0, 1) := by decide +kernel
theorem dX4_settle_1 : decode cX4_settle 1 = .ok (.istore_n 1, 1) := by decide +kernel
theorem dX4_settle_2 : decode cX4_settle 2 = .ok (.iload_n 1, 1) := by decide +kernel
theorem dX4_settle_3 : decode cX4_settle 3 = .ok (.bipush 10, 2) := by decide +kernel
theorem dX4_settle_5 : decode cX4_settle 5 = .ok (.if_icmp .ge 20, 3) := by decide +kernel
theorem dX4_settle_8 : decode cX4_settle 8 = .ok (.aload_n 0, 1) := by decide +kernel
theorem dX4_settle_9 : decode cX4_settle 9 = .ok (.getfield 15, 3) := by decide +kernel
theorem dX4_settle_12 : decode cX4_settle 12 = .ok (.iload_n 1, 1) := by decide +kernel
theorem dX4_settle_13 : decode cX4_settle 13 = .ok (.aload_n 0, 1) := by decide +kernel
theorem dX4_settle_14 : decode cX4_settle 14 = .ok (.iload_n 1, 1) := by decide +kernel
theorem dX4_settle_15 : decode cX4_settle 15 = .ok (.invokevirtual 41, 3) := by decide +kernel
theorem dX4_settle_18 : decode cX4_settle 18 = .ok (.iastore, 1) := by decide +kernel
theorem dX4_settle_19 : decode cX4_settle 19 = .ok (.iinc 1 1, 3) := by decide +kernel
theorem dX4_settle_22 : decode cX4_settle 22 = .ok (.goto (-20), 3) := by decide +kernel
theorem dX4_settle_25 : decode cX4_settle 25 = .ok (.aload_n 0, 1) := by decide +kernel
theorem dX4_settle_26 : decode cX4_settle 26 = .ok (.iconst 0, 1) := by decide +kernel
theorem dX4_settle_27 : decode cX4_settle 27 = .ok (.putfield 45, 3) := by decide +kernel
theorem dX4_settle_30 : decode cX4_settle 30 = .ok (.iconst 0, 1) := by decide +kernel
theorem dX4_settle_31 : decode cX4_settle 31 = .ok (.istore_n 1, 1) := by decide +kernel
theorem dX4_settle_32 : decode cX4_settle 32 = .ok (.iload_n 1, 1) := by decide +kernel
theorem dX4_settle_33 : decode cX4_settle 33 = .ok (.bipush 10, 2) := by decide +kernel
theorem dX4_settle_35 : decode cX4_settle 35 = .ok (.if_icmp .ge 23, 3) := by decide +kernel
theorem dX4_settle_38 : decode cX4_settle 38 = .ok (.aload_n 0, 1) := by decide +kernel
theorem dX4_settle_39 : decode cX4_settle 39 = .ok (.invokevirtual 49, 3) := by decide +kernel
theorem dX4_settle_42 : decode cX4_settle 42 = .ok (.ifCond .eq 16, 3) := by decide +kernel
theorem dX4_settle_45 : decode cX4_settle 45 = .ok (.aload_n 0, 1) := by decide +kernel
theorem dX4_settle_46 : decode cX4_settle 46 = .ok (.iload_n 1, 1) := by decide +kernel
theorem dX4_settle_47 : decode cX4_settle 47 = .ok (.iconst 1, 1) := by decide +kernel
theorem dX4_settle_48 : decode cX4_settle 48 = .ok (.iadd, 1) := by decide +kernel
theorem dX4_settle_49 : decode cX4_settle 49 = .ok (.putfield 45, 3) := by decide +kernel
theorem dX4_settle_52 : decode cX4_settle 52 = .ok (.iinc 1 1, 3) := by decide +kernel
theorem dX4_settle_55 : decode cX4_settle 55 = .ok (.goto (-23), 3) := by decide +kernel
theorem dX4_settle_58 : decode cX4_settle 58 = .ok (.aload_n 0, 1) := by decide +kernel
theorem dX4_settle_59 : decode cX4_settle 59 = .ok (.getfield 45, 3) := by decide +kernel
theorem dX4_settle_62 : decode cX4_settle 62 = .ok (.ireturn, 1) := by decide +kernel
theorem dX4_settleOne_0 : decode cX4_settleOne 0 = .ok (.iconst 0, 1) := by decide +kernel
theorem dX4_settleOne_1 : decode cX4_settleOne 1 = .ok (.istore_n 1, 1) := by decide +kernel
theorem dX4_settleOne_2 : decode cX4_settleOne 2 = .ok (.iconst 0, 1) := by decide +kernel
theorem dX4_settleOne_3 : decode cX4_settleOne 3 = .ok (.istore_n 2, 1) := by decide +kernel
theorem dX4_settleOne_4 : decode cX4_settleOne 4 = .ok (.iconst 1, 1) := by decide +kernel
theorem dX4_settleOne_5 : decode cX4_settleOne 5 = .ok (.istore_n 3, 1) := by decide +kernel
theorem dX4_settleOne_6 : decode cX4_settleOne 6 = .ok (.iload_n 3, 1) := by decide +kernel
theorem dX4_settleOne_7 : decode cX4_settleOne 7 = .ok (.bipush 10, 2) := by decide +kernel
theorem dX4_settleOne_9 : decode cX4_settleOne 9 = .ok (.if_icmp .ge 51, 3) := by decide +kernel
theorem dX4_settleOne_12 : decode cX4_settleOne 12 = .ok (.aload_n 0, 1) := by decide +kernel
theorem dX4_settleOne_13 : decode cX4_settleOne 13 = .ok (.getfield 15, 3) := by decide +kernel
theorem dX4_settleOne_16 : decode cX4_settleOne 16 = .ok (.iload_n 3, 1) := by decide +kernel
theorem dX4_settleOne_17 : decode cX4_settleOne 17 = .ok (.iaload, 1) := by decide +kernel
theorem dX4_settleOne_18 : decode cX4_settleOne 18 = .ok (.aload_n 0, 1) := by decide +kernel
theorem dX4_settleOne_19 : decode cX4_settleOne 19 = .ok (.getfield 15, 3) := by decide +kernel
theorem dX4_settleOne_22 : decode cX4_settleOne 22 = .ok (.iload_n 1, 1) := by decide +kernel
theorem dX4_settleOne_23 : decode cX4_settleOne 23 = .ok (.iaload, 1) := by decide +kernel
theorem dX4_settleOne_24 : decode cX4_settleOne 24 = .ok (.if_icmp .le 7, 3) := by decide +kernel
theorem dX4_settleOne_27 : decode cX4_settleOne 27 = .ok (.iload_n 3, 1) := by decide +kernel
theorem dX4_settleOne_28 : decode cX4_settleOne 28 = .ok (.goto 4, 3) := by decide +kernel
theorem dX4_settleOne_31 : decode cX4_settleOne 31 = .ok (.iload_n 1, 1) := by decide +kernel
theorem dX4_settleOne_32 : decode cX4_settleOne 32 = .ok (.istore_n 1, 1) := by decide +kernel
theorem dX4_settleOne_33 : decode cX4_settleOne 33 = .ok (.aload_n 0, 1) := by decide +kernel
theorem dX4_settleOne_34 : decode cX4_settleOne 34 = .ok (.getfield 15, 3) := by decide +kernel
theorem dX4_settleOne_37 : decode cX4_settleOne 37 = .ok (.iload_n 3, 1) := by decide +kernel
theorem dX4_settleOne_38 : decode cX4_settleOne 38 = .ok (.iaload, 1) := by decide +kernel
theorem dX4_settleOne_39 : decode cX4_settleOne 39 = .ok (.aload_n 0, 1) := by decide +kernel
theorem dX4_settleOne_40 : decode cX4_settleOne 40 = .ok (.getfield 15, 3) := by decide +kernel
theorem dX4_settleOne_43 : decode cX4_settleOne 43 = .ok (.iload_n 2, 1) := by decide +kernel
theorem dX4_settleOne_44 : decode cX4_settleOne 44 = .ok (.iaload, 1) := by decide +kernel
theorem dX4_settleOne_45 : decode cX4_settleOne 45 = .ok (.if_icmp .ge 7, 3) := by decide +kernel
theorem dX4_settleOne_48 : decode cX4_settleOne 48 = .ok (.iload_n 3, 1) := by decide +kernel
theorem dX4_settleOne_49 : decode cX4_settleOne 49 = .ok (.goto 4, 3) := by decide +kernel
theorem dX4_settleOne_52 : decode cX4_settleOne 52 = .ok (.iload_n 2, 1) := by decide +kernel
theorem dX4_settleOne_53 : decode cX4_settleOne 53 = .ok (.istore_n 2, 1) := by decide +kernel
theorem dX4_settleOne_54 : decode cX4_settleOne 54 = .ok (.iinc 3 1, 3) := by decide +kernel
theorem dX4_settleOne_57 : decode cX4_settleOne 57 = .ok (.goto (-51), 3) := by decide +kernel
theorem dX4_settleOne_60 : decode cX4_settleOne 60 = .ok (.aload_n 0, 1) := by decide +kernel
theorem dX4_settleOne_61 : decode cX4_settleOne 61 = .ok (.getfield 15, 3) := by decide +kernel
theorem dX4_settleOne_64 : decode cX4_settleOne 64 = .ok (.iload_n 1, 1) := by decide +kernel
theorem dX4_settleOne_65 : decode cX4_settleOne 65 = .ok (.iaload, 1) := by decide +kernel
theorem dX4_settleOne_66 : decode cX4_settleOne 66 = .ok (.ifCond .le 21, 3) := by decide +kernel
theorem dX4_settleOne_69 : decode cX4_settleOne 69 = .ok (.aload_n 0, 1) := by decide +kernel
theorem dX4_settleOne_70 : decode cX4_settleOne 70 = .ok (.getfield 15, 3) := by decide +kernel
