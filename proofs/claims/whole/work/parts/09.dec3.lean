theorem dX12_as_0 : decode cX12_as 0 = .ok (.aload_n 0, 1) := by decide +kernel
theorem dX12_as_1 : decode cX12_as 1 = .ok (.iload_n 1, 1) := by decide +kernel
theorem dX12_as_2 : decode cX12_as 2 = .ok (.invokevirtual 101, 3) := by decide +kernel
theorem dX12_as_5 : decode cX12_as 5 = .ok (.ifCond .eq 12, 3) := by decide +kernel
theorem dX12_as_8 : decode cX12_as 8 = .ok (.iload_n 2, 1) := by decide +kernel
theorem dX12_as_9 : decode cX12_as 9 = .ok (.iconst 0, 1) := by decide +kernel
theorem dX12_as_10 : decode cX12_as 10 = .ok (.iconst 3, 1) := by decide +kernel
theorem dX12_as_11 : decode cX12_as 11 = .ok (.invokestatic 63, 3) := by decide +kernel
theorem dX12_as_14 : decode cX12_as 14 = .ok (.ifCond .ne 10, 3) := by decide +kernel
theorem dX12_as_17 : decode cX12_as 17 = .ok (.aload_n 0, 1) := by decide +kernel
theorem dX12_as_18 : decode cX12_as 18 = .ok (.ldc 79, 2) := by decide +kernel
theorem dX12_as_20 : decode cX12_as 20 = .ok (.invokevirtual 71, 3) := by decide +kernel
theorem dX12_as_23 : decode cX12_as 23 = .ok (.ireturn, 1) := by decide +kernel
theorem dX12_as_24 : decode cX12_as 24 = .ok (.iload_n 2, 1) := by decide +kernel
theorem dX12_as_25 : decode cX12_as 25 = .ok (.ifCond .eq 17, 3) := by decide +kernel
theorem dX12_as_28 : decode cX12_as 28 = .ok (.aload_n 0, 1) := by decide +kernel
theorem dX12_as_29 : decode cX12_as 29 = .ok (.getfield 9, 3) := by decide +kernel
theorem dX12_as_32 : decode cX12_as 32 = .ok (.iload_n 1, 1) := by decide +kernel
theorem dX12_as_33 : decode cX12_as 33 = .ok (.iconst 0, 1) := by decide +kernel
theorem dX12_as_34 : decode cX12_as 34 = .ok (.invokestatic 98, 3) := by decide +kernel
theorem dX12_as_37 : decode cX12_as 37 = .ok (.iaload, 1) := by decide +kernel
theorem dX12_as_38 : decode cX12_as 38 = .ok (.iload_n 2, 1) := by decide +kernel
theorem dX12_as_39 : decode cX12_as 39 = .ok (.if_icmp .ne 7, 3) := by decide +kernel
theorem dX12_as_42 : decode cX12_as 42 = .ok (.iload_n 1, 1) := by decide +kernel
theorem dX12_as_43 : decode cX12_as 43 = .ok (.goto 9, 3) := by decide +kernel
theorem dX12_as_46 : decode cX12_as 46 = .ok (.aload_n 0, 1) := by decide +kernel
theorem dX12_as_47 : decode cX12_as 47 = .ok (.ldc 104, 2) := by decide +kernel
theorem dX12_as_49 : decode cX12_as 49 = .ok (.invokevirtual 71, 3) := by decide +kernel
theorem dX12_as_52 : decode cX12_as 52 = .ok (.ireturn, 1) := by decide +kernel
theorem dX12_lorryIs_0 : decode cX12_lorryIs 0 = .ok (.aload_n 0, 1) := by decide +kernel
theorem dX12_lorryIs_1 : decode cX12_lorryIs 1 = .ok (.iload_n 1, 1) := by decide +kernel
theorem dX12_lorryIs_2 : decode cX12_lorryIs 2 = .ok (.invokevirtual 101, 3) := by decide +kernel
theorem dX12_lorryIs_5 : decode cX12_lorryIs 5 = .ok (.ifCond .eq 13, 3) := by decide +kernel
theorem dX12_lorryIs_8 : decode cX12_lorryIs 8 = .ok (.iload_n 2, 1) := by decide +kernel
theorem dX12_lorryIs_9 : decode cX12_lorryIs 9 = .ok (.iconst 0, 1) := by decide +kernel
theorem dX12_lorryIs_10 : decode cX12_lorryIs 10 = .ok (.bipush 7, 2) := by decide +kernel
theorem dX12_lorryIs_12 : decode cX12_lorryIs 12 = .ok (.invokestatic 63, 3) := by decide +kernel
theorem dX12_lorryIs_15 : decode cX12_lorryIs 15 = .ok (.ifCond .ne 10, 3) := by decide +kernel
theorem dX12_lorryIs_18 : decode cX12_lorryIs 18 = .ok (.aload_n 0, 1) := by decide +kernel
theorem dX12_lorryIs_19 : decode cX12_lorryIs 19 = .ok (.ldc 79, 2) := by decide +kernel
theorem dX12_lorryIs_21 : decode cX12_lorryIs 21 = .ok (.invokevirtual 71, 3) := by decide +kernel
theorem dX12_lorryIs_24 : decode cX12_lorryIs 24 = .ok (.ireturn, 1) := by decide +kernel
theorem dX12_lorryIs_25 : decode cX12_lorryIs 25 = .ok (.iload_n 2, 1) := by decide +kernel
theorem dX12_lorryIs_26 : decode cX12_lorryIs 26 = .ok (.bipush 7, 2) := by decide +kernel
theorem dX12_lorryIs_28 : decode cX12_lorryIs 28 = .ok (.if_icmp .ge 14, 3) := by decide +kernel
theorem dX12_lorryIs_31 : decode cX12_lorryIs 31 = .ok (.aload_n 0, 1) := by decide +kernel
theorem dX12_lorryIs_32 : decode cX12_lorryIs 32 = .ok (.getfield 9, 3) := by decide +kernel
theorem dX12_lorryIs_35 : decode cX12_lorryIs 35 = .ok (.iload_n 1, 1) := by decide +kernel
theorem dX12_lorryIs_36 : decode cX12_lorryIs 36 = .ok (.iload_n 2, 1) := by decide +kernel
theorem dX12_lorryIs_37 : decode cX12_lorryIs 37 = .ok (.invokestatic 98, 3) := by decide +kernel
theorem dX12_lorryIs_40 : decode cX12_lorryIs 40 = .ok (.iaload, 1) := by decide +kernel
theorem dX12_lorryIs_41 : decode cX12_lorryIs 41 = .ok (.ireturn, 1) := by decide +kernel
theorem dX12_lorryIs_42 : decode cX12_lorryIs 42 = .ok (.iconst 0, 1) := by decide +kernel
theorem dX12_lorryIs_43 : decode cX12_lorryIs 43 = .ok (.istore_n 3, 1) := by decide +kernel
theorem dX12_lorryIs_44 : decode cX12_lorryIs 44 = .ok (.iconst 0, 1) := by decide +kernel
theorem dX12_lorryIs_45 : decode cX12_lorryIs 45 = .ok (.istore 4, 2) := by decide +kernel
theorem dX12_lorryIs_47 : decode cX12_lorryIs 47 = .ok (.iload 4, 2) := by decide +kernel
theorem dX12_lorryIs_49 : decode cX12_lorryIs 49 = .ok (.aload_n 0, 1) := by decide +kernel
theorem dX12_lorryIs_50 : decode cX12_lorryIs 50 = .ok (.getfield 9, 3) := by decide +kernel
theorem dX12_lorryIs_53 : decode cX12_lorryIs 53 = .ok (.bipush 65, 2) := by decide +kernel
theorem dX12_lorryIs_55 : decode cX12_lorryIs 55 = .ok (.iaload, 1) := by decide +kernel
theorem dX12_lorryIs_56 : decode cX12_lorryIs 56 = .ok (.if_icmp .ge 36, 3) := by decide +kernel
theorem dX12_lorryIs_59 : decode cX12_lorryIs 59 = .ok (.iload_n 3, 1) := by decide +kernel
theorem dX12_lorryIs_60 : decode cX12_lorryIs 60 = .ok (.aload_n 0, 1) := by decide +kernel
theorem dX12_lorryIs_61 : decode cX12_lorryIs 61 = .ok (.getfield 9, 3) := by decide +kernel
theorem dX12_lorryIs_64 : decode cX12_lorryIs 64 = .ok (.iload 4, 2) := by decide +kernel
theorem dX12_lorryIs_66 : decode cX12_lorryIs 66 = .ok (.bipush 10, 2) := by decide +kernel
theorem dX12_lorryIs_68 : decode cX12_lorryIs 68 = .ok (.invokestatic 105, 3) := by decide +kernel
theorem dX12_lorryIs_71 : decode cX12_lorryIs 71 = .ok (.iaload, 1) := by decide +kernel
theorem dX12_lorryIs_72 : decode cX12_lorryIs 72 = .ok (.iload_n 1, 1) := by decide +kernel
theorem dX12_lorryIs_73 : decode cX12_lorryIs 73 = .ok (.if_icmp .ne 10, 3) := by decide +kernel
theorem dX12_lorryIs_76 : decode cX12_lorryIs 76 = .ok (.iconst 1, 1) := by decide +kernel
theorem dX12_lorryIs_77 : decode cX12_lorryIs 77 = .ok (.iload 4, 2) := by decide +kernel
theorem dX12_lorryIs_79 : decode cX12_lorryIs 79 = .ok (.ishl, 1) := by decide +kernel
theorem dX12_lorryIs_80 : decode cX12_lorryIs 80 = .ok (.goto 4, 3) := by decide +kernel
theorem dX12_lorryIs_83 : decode cX12_lorryIs 83 = .ok (.iconst 0, 1) := by decide +kernel
theorem dX12_lorryIs_84 : decode cX12_lorryIs 84 = .ok (.ior, 1) := by decide +kernel
theorem dX12_lorryIs_85 : decode cX12_lorryIs 85 = .ok (.istore_n 3, 1) := by decide +kernel
theorem dX12_lorryIs_86 : decode cX12_lorryIs 86 = .ok (.iinc 4 1, 3) := by decide +kernel
theorem dX12_lorryIs_89 : decode cX12_lorryIs 89 = .ok (.goto (-42), 3) := by decide +kernel
theorem dX12_lorryIs_92 : decode cX12_lorryIs 92 = .ok (.iload_n 3, 1) := by decide +kernel
theorem dX12_lorryIs_93 : decode cX12_lorryIs 93 = .ok (.ireturn, 1) := by decide +kernel
theorem dX12_load_0 : decode cX12_load 0 = .ok (.iload_n 1, 1) := by decide +kernel
theorem dX12_load_1 : decode cX12_load 1 = .ok (.ifCond .lt 65, 3) := by decide +kernel
theorem dX12_load_4 : decode cX12_load 4 = .ok (.iload_n 1, 1) := by decide +kernel
theorem dX12_load_5 : decode cX12_load 5 = .ok (.bipush 10, 2) := by decide +kernel
theorem dX12_load_7 : decode cX12_load 7 = .ok (.idiv, 1) := by decide +kernel
theorem dX12_load_8 : decode cX12_load 8 = .ok (.invokestatic 75, 3) := by decide +kernel
theorem dX12_load_11 : decode cX12_load 11 = .ok (.ifCond .eq 55, 3) := by decide +kernel
theorem dX12_load_14 : decode cX12_load 14 = .ok (.iload_n 1, 1) := by decide +kernel
theorem dX12_load_15 : decode cX12_load 15 = .ok (.bipush 10, 2) := by decide +kernel
theorem dX12_load_17 : decode cX12_load 17 = .ok (.irem, 1) := by decide +kernel
theorem dX12_load_18 : decode cX12_load 18 = .ok (.invokestatic 75, 3) := by decide +kernel
theorem dX12_load_21 : decode cX12_load 21 = .ok (.ifCond .eq 45, 3) := by decide +kernel
theorem dX12_load_24 : decode cX12_load 24 = .ok (.iload_n 2, 1) := by decide +kernel
theorem dX12_load_25 : decode cX12_load 25 = .ok (.iconst 0, 1) := by decide +kernel
theorem dX12_load_26 : decode cX12_load 26 = .ok (.iconst 2, 1) := by decide +kernel
theorem dX12_load_27 : decode cX12_load 27 = .ok (.invokestatic 63, 3) := by decide +kernel
theorem dX12_load_30 : decode cX12_load 30 = .ok (.ifCond .eq 36, 3) := by decide +kernel
theorem dX12_load_33 : decode cX12_load 33 = .ok (.iload_n 3, 1) := by decide +kernel
theorem dX12_load_34 : decode cX12_load 34 = .ok (.iconst 1, 1) := by decide +kernel
theorem dX12_load_35 : decode cX12_load 35 = .ok (.bipush 40, 2) := by decide +kernel
theorem dX12_load_37 : decode cX12_load 37 = .ok (.invokestatic 63, 3) := by decide +kernel
theorem dX12_load_40 : decode cX12_load 40 = .ok (.ifCond .eq 26, 3) := by decide +kernel
theorem dX12_load_43 : decode cX12_load 43 = .ok (.iload 4, 2) := by decide +kernel
theorem dX12_load_45 : decode cX12_load 45 = .ok (.iconst 1, 1) := by decide +kernel
theorem dX12_load_46 : decode cX12_load 46 = .ok (.bipush 40, 2) := by decide +kernel
theorem dX12_load_48 : decode cX12_load 48 = .ok (.invokestatic 63, 3) := by decide +kernel
theorem dX12_load_51 : decode cX12_load 51 = .ok (.ifCond .eq 15, 3) := by decide +kernel
theorem dX12_load_54 : decode cX12_load 54 = .ok (.iload 5, 2) := by decide +kernel
theorem dX12_load_56 : decode cX12_load 56 = .ok (.iconst 0, 1) := by decide +kernel
theorem dX12_load_57 : decode cX12_load 57 = .ok (.sipush 9999, 3) := by decide +kernel
theorem dX12_load_60 : decode cX12_load 60 = .ok (.invokestatic 63, 3) := by decide +kernel
theorem dX12_load_63 : decode cX12_load 63 = .ok (.ifCond .ne 10, 3) := by decide +kernel
theorem dX12_load_66 : decode cX12_load 66 = .ok (.aload_n 0, 1) := by decide +kernel
theorem dX12_load_67 : decode cX12_load 67 = .ok (.ldc 79, 2) := by decide +kernel
theorem dX12_load_69 : decode cX12_load 69 = .ok (.invokevirtual 71, 3) := by decide +kernel
theorem dX12_load_72 : decode cX12_load 72 = .ok (.ireturn, 1) := by decide +kernel
theorem dX12_load_73 : decode cX12_load 73 = .ok (.iload_n 1, 1) := by decide +kernel
theorem dX12_load_74 : decode cX12_load 74 = .ok (.bipush 10, 2) := by decide +kernel
theorem dX12_load_76 : decode cX12_load 76 = .ok (.idiv, 1) := by decide +kernel
theorem dX12_load_77 : decode cX12_load 77 = .ok (.iload_n 1, 1) := by decide +kernel
theorem dX12_load_78 : decode cX12_load 78 = .ok (.bipush 10, 2) := by decide +kernel
theorem dX12_load_80 : decode cX12_load 80 = .ok (.irem, 1) := by decide +kernel
theorem dX12_load_81 : decode cX12_load 81 = .ok (.if_icmp .ne 10, 3) := by decide +kernel
theorem dX12_load_84 : decode cX12_load 84 = .ok (.aload_n 0, 1) := by decide +kernel
theorem dX12_load_85 : decode cX12_load 85 = .ok (.ldc 108, 2) := by decide +kernel
theorem dX12_load_87 : decode cX12_load 87 = .ok (.invokevirtual 71, 3) := by decide +kernel
theorem dX12_load_90 : decode cX12_load 90 = .ok (.ireturn, 1) := by decide +kernel
theorem dX12_load_91 : decode cX12_load 91 = .ok (.aload_n 0, 1) := by decide +kernel
theorem dX12_load_92 : decode cX12_load 92 = .ok (.getfield 9, 3) := by decide +kernel
theorem dX12_load_95 : decode cX12_load 95 = .ok (.bipush 65, 2) := by decide +kernel
theorem dX12_load_97 : decode cX12_load 97 = .ok (.iaload, 1) := by decide +kernel
theorem dX12_load_98 : decode cX12_load 98 = .ok (.istore 6, 2) := by decide +kernel
theorem dX12_load_100 : decode cX12_load 100 = .ok (.iload 6, 2) := by decide +kernel
theorem dX12_load_102 : decode cX12_load 102 = .ok (.bipush 8, 2) := by decide +kernel
theorem dX12_load_104 : decode cX12_load 104 = .ok (.if_icmp .ne 10, 3) := by decide +kernel
theorem dX12_load_107 : decode cX12_load 107 = .ok (.aload_n 0, 1) := by decide +kernel
theorem dX12_load_108 : decode cX12_load 108 = .ok (.ldc 97, 2) := by decide +kernel
theorem dX12_load_110 : decode cX12_load 110 = .ok (.invokevirtual 71, 3) := by decide +kernel
theorem dX12_load_113 : decode cX12_load 113 = .ok (.ireturn, 1) := by decide +kernel
theorem dX12_load_114 : decode cX12_load 114 = .ok (.aload_n 0, 1) := by decide +kernel
theorem dX12_load_115 : decode cX12_load 115 = .ok (.invokevirtual 80, 3) := by decide +kernel
theorem dX12_load_118 : decode cX12_load 118 = .ok (.aload_n 0, 1) := by decide +kernel
theorem dX12_load_119 : decode cX12_load 119 = .ok (.getfield 9, 3) := by decide +kernel
theorem dX12_load_122 : decode cX12_load 122 = .ok (.iload 6, 2) := by decide +kernel
theorem dX12_load_124 : decode cX12_load 124 = .ok (.iconst 0, 1) := by decide +kernel
theorem dX12_load_125 : decode cX12_load 125 = .ok (.invokestatic 105, 3) := by decide +kernel
theorem dX12_load_128 : decode cX12_load 128 = .ok (.iload_n 1, 1) := by decide +kernel
theorem dX12_load_129 : decode cX12_load 129 = .ok (.bipush 10, 2) := by decide +kernel
theorem dX12_load_131 : decode cX12_load 131 = .ok (.idiv, 1) := by decide +kernel
theorem dX12_load_132 : decode cX12_load 132 = .ok (.iastore, 1) := by decide +kernel
theorem dX12_load_133 : decode cX12_load 133 = .ok (.aload_n 0, 1) := by decide +kernel
theorem dX12_load_134 : decode cX12_load 134 = .ok (.getfield 9, 3) := by decide +kernel
theorem dX12_load_137 : decode cX12_load 137 = .ok (.iload 6, 2) := by decide +kernel
theorem dX12_load_139 : decode cX12_load 139 = .ok (.iconst 1, 1) := by decide +kernel
theorem dX12_load_140 : decode cX12_load 140 = .ok (.invokestatic 105, 3) := by decide +kernel
theorem dX12_load_143 : decode cX12_load 143 = .ok (.iload_n 1, 1) := by decide +kernel
theorem dX12_load_144 : decode cX12_load 144 = .ok (.bipush 10, 2) := by decide +kernel
theorem dX12_load_146 : decode cX12_load 146 = .ok (.irem, 1) := by decide +kernel
theorem dX12_load_147 : decode cX12_load 147 = .ok (.iastore, 1) := by decide +kernel
theorem dX12_load_148 : decode cX12_load 148 = .ok (.aload_n 0, 1) := by decide +kernel
theorem dX12_load_149 : decode cX12_load 149 = .ok (.getfield 9, 3) := by decide +kernel
theorem dX12_load_152 : decode cX12_load 152 = .ok (.iload 6, 2) := by decide +kernel
theorem dX12_load_154 : decode cX12_load 154 = .ok (.iconst 2, 1) := by decide +kernel
theorem dX12_load_155 : decode cX12_load 155 = .ok (.invokestatic 105, 3) := by decide +kernel
theorem dX12_load_158 : decode cX12_load 158 = .ok (.iload_n 2, 1) := by decide +kernel
theorem dX12_load_159 : decode cX12_load 159 = .ok (.iastore, 1) := by decide +kernel
theorem dX12_load_160 : decode cX12_load 160 = .ok (.aload_n 0, 1) := by decide +kernel
theorem dX12_load_161 : decode cX12_load 161 = .ok (.getfield 9, 3) := by decide +kernel
theorem dX12_load_164 : decode cX12_load 164 = .ok (.iload 6, 2) := by decide +kernel
theorem dX12_load_166 : decode cX12_load 166 = .ok (.iconst 3, 1) := by decide +kernel
theorem dX12_load_167 : decode cX12_load 167 = .ok (.invokestatic 105, 3) := by decide +kernel
theorem dX12_load_170 : decode cX12_load 170 = .ok (.iload_n 3, 1) := by decide +kernel
theorem dX12_load_171 : decode cX12_load 171 = .ok (.iastore, 1) := by decide +kernel
theorem dX12_load_172 : decode cX12_load 172 = .ok (.aload_n 0, 1) := by decide +kernel
theorem dX12_load_173 : decode cX12_load 173 = .ok (.getfield 9, 3) := by decide +kernel
theorem dX12_load_176 : decode cX12_load 176 = .ok (.iload 6, 2) := by decide +kernel
theorem dX12_load_178 : decode cX12_load 178 = .ok (.iconst 4, 1) := by decide +kernel
theorem dX12_load_179 : decode cX12_load 179 = .ok (.invokestatic 105, 3) := by decide +kernel
theorem dX12_load_182 : decode cX12_load 182 = .ok (.iload 4, 2) := by decide +kernel
theorem dX12_load_184 : decode cX12_load 184 = .ok (.iastore, 1) := by decide +kernel
theorem dX12_load_185 : decode cX12_load 185 = .ok (.aload_n 0, 1) := by decide +kernel
theorem dX12_load_186 : decode cX12_load 186 = .ok (.getfield 9, 3) := by decide +kernel
theorem dX12_load_189 : decode cX12_load 189 = .ok (.iload 6, 2) := by decide +kernel
theorem dX12_load_191 : decode cX12_load 191 = .ok (.iconst 5, 1) := by decide +kernel
theorem dX12_load_192 : decode cX12_load 192 = .ok (.invokestatic 105, 3) := by decide +kernel
theorem dX12_load_195 : decode cX12_load 195 = .ok (.iload 5, 2) := by decide +kernel
theorem dX12_load_197 : decode cX12_load 197 = .ok (.iastore, 1) := by decide +kernel
theorem dX12_load_198 : decode cX12_load 198 = .ok (.aload_n 0, 1) := by decide +kernel
theorem dX12_load_199 : decode cX12_load 199 = .ok (.getfield 9, 3) := by decide +kernel
theorem dX12_load_202 : decode cX12_load 202 = .ok (.iload 6, 2) := by decide +kernel
theorem dX12_load_204 : decode cX12_load 204 = .ok (.bipush 6, 2) := by decide +kernel
theorem dX12_load_206 : decode cX12_load 206 = .ok (.invokestatic 105, 3) := by decide +kernel
theorem dX12_load_209 : decode cX12_load 209 = .ok (.iconst 0, 1) := by decide +kernel
theorem dX12_load_210 : decode cX12_load 210 = .ok (.iastore, 1) := by decide +kernel
theorem dX12_load_211 : decode cX12_load 211 = .ok (.aload_n 0, 1) := by decide +kernel
theorem dX12_load_212 : decode cX12_load 212 = .ok (.getfield 9, 3) := by decide +kernel
theorem dX12_load_215 : decode cX12_load 215 = .ok (.iload 6, 2) := by decide +kernel
theorem dX12_load_217 : decode cX12_load 217 = .ok (.bipush 7, 2) := by decide +kernel
theorem dX12_load_219 : decode cX12_load 219 = .ok (.invokestatic 105, 3) := by decide +kernel
theorem dX12_load_222 : decode cX12_load 222 = .ok (.sipush 4000, 3) := by decide +kernel
theorem dX12_load_225 : decode cX12_load 225 = .ok (.iastore, 1) := by decide +kernel
theorem dX12_load_226 : decode cX12_load 226 = .ok (.aload_n 0, 1) := by decide +kernel
theorem dX12_load_227 : decode cX12_load 227 = .ok (.getfield 9, 3) := by decide +kernel
theorem dX12_load_230 : decode cX12_load 230 = .ok (.iload 6, 2) := by decide +kernel
theorem dX12_load_232 : decode cX12_load 232 = .ok (.bipush 8, 2) := by decide +kernel
theorem dX12_load_234 : decode cX12_load 234 = .ok (.invokestatic 105, 3) := by decide +kernel
theorem dX12_load_237 : decode cX12_load 237 = .ok (.iconst 0, 1) := by decide +kernel
theorem dX12_load_238 : decode cX12_load 238 = .ok (.iastore, 1) := by decide +kernel
theorem dX12_load_239 : decode cX12_load 239 = .ok (.aload_n 0, 1) := by decide +kernel
theorem dX12_load_240 : decode cX12_load 240 = .ok (.getfield 9, 3) := by decide +kernel
theorem dX12_load_243 : decode cX12_load 243 = .ok (.iload 6, 2) := by decide +kernel
theorem dX12_load_245 : decode cX12_load 245 = .ok (.bipush 9, 2) := by decide +kernel
theorem dX12_load_247 : decode cX12_load 247 = .ok (.invokestatic 105, 3) := by decide +kernel
theorem dX12_load_250 : decode cX12_load 250 = .ok (.sipush 4000, 3) := by decide +kernel
theorem dX12_load_253 : decode cX12_load 253 = .ok (.iastore, 1) := by decide +kernel
theorem dX12_load_254 : decode cX12_load 254 = .ok (.aload_n 0, 1) := by decide +kernel
theorem dX12_load_255 : decode cX12_load 255 = .ok (.getfield 9, 3) := by decide +kernel
theorem dX12_load_258 : decode cX12_load 258 = .ok (.iload 6, 2) := by decide +kernel
theorem dX12_load_260 : decode cX12_load 260 = .ok (.bipush 10, 2) := by decide +kernel
theorem dX12_load_262 : decode cX12_load 262 = .ok (.invokestatic 105, 3) := by decide +kernel
theorem dX12_load_265 : decode cX12_load 265 = .ok (.iconst (-1), 1) := by decide +kernel
theorem dX12_load_266 : decode cX12_load 266 = .ok (.iastore, 1) := by decide +kernel
theorem dX12_load_267 : decode cX12_load 267 = .ok (.aload_n 0, 1) := by decide +kernel
theorem dX12_load_268 : decode cX12_load 268 = .ok (.getfield 9, 3) := by decide +kernel
theorem dX12_load_271 : decode cX12_load 271 = .ok (.bipush 65, 2) := by decide +kernel
theorem dX12_load_273 : decode cX12_load 273 = .ok (.dup2, 1) := by decide +kernel
theorem dX12_load_274 : decode cX12_load 274 = .ok (.iaload, 1) := by decide +kernel
theorem dX12_load_275 : decode cX12_load 275 = .ok (.iconst 1, 1) := by decide +kernel
theorem dX12_load_276 : decode cX12_load 276 = .ok (.iadd, 1) := by decide +kernel
theorem dX12_load_277 : decode cX12_load 277 = .ok (.iastore, 1) := by decide +kernel
theorem dX12_load_278 : decode cX12_load 278 = .ok (.iload 6, 2) := by decide +kernel
theorem dX12_load_280 : decode cX12_load 280 = .ok (.ireturn, 1) := by decide +kernel
theorem dX12_window_0 : decode cX12_window 0 = .ok (.aload_n 0, 1) := by decide +kernel
theorem dX12_window_1 : decode cX12_window 1 = .ok (.iload_n 1, 1) := by decide +kernel
theorem dX12_window_2 : decode cX12_window 2 = .ok (.invokevirtual 109, 3) := by decide +kernel
theorem dX12_window_5 : decode cX12_window 5 = .ok (.ifCond .eq 26, 3) := by decide +kernel
theorem dX12_window_8 : decode cX12_window 8 = .ok (.iload_n 3, 1) := by decide +kernel
theorem dX12_window_9 : decode cX12_window 9 = .ok (.iconst 0, 1) := by decide +kernel
theorem dX12_window_10 : decode cX12_window 10 = .ok (.sipush 4000, 3) := by decide +kernel
theorem dX12_window_13 : decode cX12_window 13 = .ok (.invokestatic 63, 3) := by decide +kernel
theorem dX12_window_16 : decode cX12_window 16 = .ok (.ifCond .eq 15, 3) := by decide +kernel
theorem dX12_window_19 : decode cX12_window 19 = .ok (.iload 4, 2) := by decide +kernel
theorem dX12_window_21 : decode cX12_window 21 = .ok (.iconst 0, 1) := by decide +kernel
theorem dX12_window_22 : decode cX12_window 22 = .ok (.sipush 4000, 3) := by decide +kernel
theorem dX12_window_25 : decode cX12_window 25 = .ok (.invokestatic 63, 3) := by decide +kernel
theorem dX12_window_28 : decode cX12_window 28 = .ok (.ifCond .ne 10, 3) := by decide +kernel
theorem dX12_window_31 : decode cX12_window 31 = .ok (.aload_n 0, 1) := by decide +kernel
theorem dX12_window_32 : decode cX12_window 32 = .ok (.ldc 79, 2) := by decide +kernel
theorem dX12_window_34 : decode cX12_window 34 = .ok (.invokevirtual 71, 3) := by decide +kernel
theorem dX12_window_37 : decode cX12_window 37 = .ok (.ireturn, 1) := by decide +kernel
theorem dX12_window_38 : decode cX12_window 38 = .ok (.iload_n 3, 1) := by decide +kernel
theorem dX12_window_39 : decode cX12_window 39 = .ok (.iload 4, 2) := by decide +kernel
theorem dX12_window_41 : decode cX12_window 41 = .ok (.if_icmp .le 10, 3) := by decide +kernel
theorem dX12_window_44 : decode cX12_window 44 = .ok (.aload_n 0, 1) := by decide +kernel
theorem dX12_window_45 : decode cX12_window 45 = .ok (.ldc 108, 2) := by decide +kernel
theorem dX12_window_47 : decode cX12_window 47 = .ok (.invokevirtual 71, 3) := by decide +kernel
theorem dX12_window_50 : decode cX12_window 50 = .ok (.ireturn, 1) := by decide +kernel
theorem dX12_window_51 : decode cX12_window 51 = .ok (.aload_n 0, 1) := by decide +kernel
theorem dX12_window_52 : decode cX12_window 52 = .ok (.invokevirtual 80, 3) := by decide +kernel
theorem dX12_window_55 : decode cX12_window 55 = .ok (.iload_n 1, 1) := by decide +kernel
theorem dX12_window_56 : decode cX12_window 56 = .ok (.iload_n 2, 1) := by decide +kernel
theorem dX12_window_57 : decode cX12_window 57 = .ok (.ifCond .eq 8, 3) := by decide +kernel
theorem dX12_window_60 : decode cX12_window 60 = .ok (.bipush 8, 2) := by decide +kernel
theorem dX12_window_62 : decode cX12_window 62 = .ok (.goto 5, 3) := by decide +kernel
theorem dX12_window_65 : decode cX12_window 65 = .ok (.bipush 6, 2) := by decide +kernel
theorem dX12_window_67 : decode cX12_window 67 = .ok (.invokestatic 105, 3) := by decide +kernel
theorem dX12_window_70 : decode cX12_window 70 = .ok (.istore 5, 2) := by decide +kernel
theorem dX12_window_72 : decode cX12_window 72 = .ok (.aload_n 0, 1) := by decide +kernel
theorem dX12_window_73 : decode cX12_window 73 = .ok (.getfield 9, 3) := by decide +kernel
theorem dX12_window_76 : decode cX12_window 76 = .ok (.iload 5, 2) := by decide +kernel
theorem dX12_window_78 : decode cX12_window 78 = .ok (.iload_n 3, 1) := by decide +kernel
theorem dX12_window_79 : decode cX12_window 79 = .ok (.iastore, 1) := by decide +kernel
theorem dX12_window_80 : decode cX12_window 80 = .ok (.aload_n 0, 1) := by decide +kernel
theorem dX12_window_81 : decode cX12_window 81 = .ok (.getfield 9, 3) := by decide +kernel
theorem dX12_window_84 : decode cX12_window 84 = .ok (.iload 5, 2) := by decide +kernel
theorem dX12_window_86 : decode cX12_window 86 = .ok (.iconst 1, 1) := by decide +kernel
theorem dX12_window_87 : decode cX12_window 87 = .ok (.iadd, 1) := by decide +kernel
theorem dX12_window_88 : decode cX12_window 88 = .ok (.iload 4, 2) := by decide +kernel
theorem dX12_window_90 : decode cX12_window 90 = .ok (.iastore, 1) := by decide +kernel
theorem dX12_window_91 : decode cX12_window 91 = .ok (.iconst 1, 1) := by decide +kernel
theorem dX12_window_92 : decode cX12_window 92 = .ok (.ireturn, 1) := by decide +kernel
theorem dX12_loadIs_0 : decode cX12_loadIs 0 = .ok (.aload_n 0, 1) := by decide +kernel
theorem dX12_loadIs_1 : decode cX12_loadIs 1 = .ok (.iload_n 1, 1) := by decide +kernel
theorem dX12_loadIs_2 : decode cX12_loadIs 2 = .ok (.invokevirtual 109, 3) := by decide +kernel
theorem dX12_loadIs_5 : decode cX12_loadIs 5 = .ok (.ifCond .eq 26, 3) := by decide +kernel
theorem dX12_loadIs_8 : decode cX12_loadIs 8 = .ok (.iload_n 2, 1) := by decide +kernel
theorem dX12_loadIs_9 : decode cX12_loadIs 9 = .ok (.iconst 0, 1) := by decide +kernel
theorem dX12_loadIs_10 : decode cX12_loadIs 10 = .ok (.bipush 10, 2) := by decide +kernel
theorem dX12_loadIs_12 : decode cX12_loadIs 12 = .ok (.invokestatic 63, 3) := by decide +kernel
theorem dX12_loadIs_15 : decode cX12_loadIs 15 = .ok (.ifCond .eq 16, 3) := by decide +kernel
theorem dX12_loadIs_18 : decode cX12_loadIs 18 = .ok (.aload_n 0, 1) := by decide +kernel
theorem dX12_loadIs_19 : decode cX12_loadIs 19 = .ok (.getfield 9, 3) := by decide +kernel
theorem dX12_loadIs_22 : decode cX12_loadIs 22 = .ok (.iload_n 1, 1) := by decide +kernel
theorem dX12_loadIs_23 : decode cX12_loadIs 23 = .ok (.iload_n 2, 1) := by decide +kernel
theorem dX12_loadIs_24 : decode cX12_loadIs 24 = .ok (.invokestatic 105, 3) := by decide +kernel
theorem dX12_loadIs_27 : decode cX12_loadIs 27 = .ok (.iaload, 1) := by decide +kernel
theorem dX12_loadIs_28 : decode cX12_loadIs 28 = .ok (.goto 9, 3) := by decide +kernel
theorem dX12_loadIs_31 : decode cX12_loadIs 31 = .ok (.aload_n 0, 1) := by decide +kernel
theorem dX12_loadIs_32 : decode cX12_loadIs 32 = .ok (.ldc 79, 2) := by decide +kernel
theorem dX12_loadIs_34 : decode cX12_loadIs 34 = .ok (.invokevirtual 71, 3) := by decide +kernel
theorem dX12_loadIs_37 : decode cX12_loadIs 37 = .ok (.ireturn, 1) := by decide +kernel
theorem dX12_pay_0 : decode cX12_pay 0 = .ok (.aload_n 0, 1) := by decide +kernel
theorem dX12_pay_1 : decode cX12_pay 1 = .ok (.iload_n 1, 1) := by decide +kernel
theorem dX12_pay_2 : decode cX12_pay 2 = .ok (.invokevirtual 109, 3) := by decide +kernel
theorem dX12_pay_5 : decode cX12_pay 5 = .ok (.ifCond .eq 14, 3) := by decide +kernel
theorem dX12_pay_8 : decode cX12_pay 8 = .ok (.iload_n 2, 1) := by decide +kernel
theorem dX12_pay_9 : decode cX12_pay 9 = .ok (.iconst 0, 1) := by decide +kernel
theorem dX12_pay_10 : decode cX12_pay 10 = .ok (.sipush 9999, 3) := by decide +kernel
theorem dX12_pay_13 : decode cX12_pay 13 = .ok (.invokestatic 63, 3) := by decide +kernel
theorem dX12_pay_16 : decode cX12_pay 16 = .ok (.ifCond .ne 10, 3) := by decide +kernel
theorem dX12_pay_19 : decode cX12_pay 19 = .ok (.aload_n 0, 1) := by decide +kernel
theorem dX12_pay_20 : decode cX12_pay 20 = .ok (.ldc 79, 2) := by decide +kernel
theorem dX12_pay_22 : decode cX12_pay 22 = .ok (.invokevirtual 71, 3) := by decide +kernel
theorem dX12_pay_25 : decode cX12_pay 25 = .ok (.ireturn, 1) := by decide +kernel
theorem dX12_pay_26 : decode cX12_pay 26 = .ok (.aload_n 0, 1) := by decide +kernel
theorem dX12_pay_27 : decode cX12_pay 27 = .ok (.invokevirtual 80, 3) := by decide +kernel
theorem dX12_pay_30 : decode cX12_pay 30 = .ok (.aload_n 0, 1) := by decide +kernel
theorem dX12_pay_31 : decode cX12_pay 31 = .ok (.getfield 9, 3) := by decide +kernel
theorem dX12_pay_34 : decode cX12_pay 34 = .ok (.iload_n 1, 1) := by decide +kernel
theorem dX12_pay_35 : decode cX12_pay 35 = .ok (.iconst 5, 1) := by decide +kernel
theorem dX12_pay_36 : decode cX12_pay 36 = .ok (.invokestatic 105, 3) := by decide +kernel
theorem dX12_pay_39 : decode cX12_pay 39 = .ok (.iaload, 1) := by decide +kernel
theorem dX12_pay_40 : decode cX12_pay 40 = .ok (.istore_n 3, 1) := by decide +kernel
theorem dX12_pay_41 : decode cX12_pay 41 = .ok (.aload_n 0, 1) := by decide +kernel
theorem dX12_pay_42 : decode cX12_pay 42 = .ok (.getfield 9, 3) := by decide +kernel
theorem dX12_pay_45 : decode cX12_pay 45 = .ok (.iload_n 1, 1) := by decide +kernel
theorem dX12_pay_46 : decode cX12_pay 46 = .ok (.iconst 5, 1) := by decide +kernel
theorem dX12_pay_47 : decode cX12_pay 47 = .ok (.invokestatic 105, 3) := by decide +kernel
theorem dX12_pay_50 : decode cX12_pay 50 = .ok (.iload_n 2, 1) := by decide +kernel
theorem dX12_pay_51 : decode cX12_pay 51 = .ok (.iastore, 1) := by decide +kernel
theorem dX12_pay_52 : decode cX12_pay 52 = .ok (.iload_n 3, 1) := by decide +kernel
theorem dX12_pay_53 : decode cX12_pay 53 = .ok (.ireturn, 1) := by decide +kernel
theorem dX12_fits_0 : decode cX12_fits 0 = .ok (.aload_n 0, 1) := by decide +kernel
theorem dX12_fits_1 : decode cX12_fits 1 = .ok (.getfield 9, 3) := by decide +kernel
theorem dX12_fits_4 : decode cX12_fits 4 = .ok (.iload_n 1, 1) := by decide +kernel
theorem dX12_fits_5 : decode cX12_fits 5 = .ok (.iconst 0, 1) := by decide +kernel
theorem dX12_fits_6 : decode cX12_fits 6 = .ok (.invokestatic 98, 3) := by decide +kernel
theorem dX12_fits_9 : decode cX12_fits 9 = .ok (.iaload, 1) := by decide +kernel
theorem dX12_fits_10 : decode cX12_fits 10 = .ok (.istore_n 3, 1) := by decide +kernel
theorem dX12_fits_11 : decode cX12_fits 11 = .ok (.aload_n 0, 1) := by decide +kernel
theorem dX12_fits_12 : decode cX12_fits 12 = .ok (.getfield 9, 3) := by decide +kernel
theorem dX12_fits_15 : decode cX12_fits 15 = .ok (.iload_n 2, 1) := by decide +kernel
theorem dX12_fits_16 : decode cX12_fits 16 = .ok (.iconst 2, 1) := by decide +kernel
theorem dX12_fits_17 : decode cX12_fits 17 = .ok (.invokestatic 105, 3) := by decide +kernel
theorem dX12_fits_20 : decode cX12_fits 20 = .ok (.iaload, 1) := by decide +kernel
theorem dX12_fits_21 : decode cX12_fits 21 = .ok (.istore 4, 2) := by decide +kernel
theorem dX12_fits_23 : decode cX12_fits 23 = .ok (.aload_n 0, 1) := by decide +kernel
theorem dX12_fits_24 : decode cX12_fits 24 = .ok (.getfield 9, 3) := by decide +kernel
theorem dX12_fits_27 : decode cX12_fits 27 = .ok (.iload_n 1, 1) := by decide +kernel
theorem dX12_fits_28 : decode cX12_fits 28 = .ok (.iconst 5, 1) := by decide +kernel
theorem dX12_fits_29 : decode cX12_fits 29 = .ok (.invokestatic 98, 3) := by decide +kernel
theorem dX12_fits_32 : decode cX12_fits 32 = .ok (.iaload, 1) := by decide +kernel
theorem dX12_fits_33 : decode cX12_fits 33 = .ok (.aload_n 0, 1) := by decide +kernel
theorem dX12_fits_34 : decode cX12_fits 34 = .ok (.getfield 9, 3) := by decide +kernel
theorem dX12_fits_37 : decode cX12_fits 37 = .ok (.iload_n 2, 1) := by decide +kernel
theorem dX12_fits_38 : decode cX12_fits 38 = .ok (.iconst 3, 1) := by decide +kernel
theorem dX12_fits_39 : decode cX12_fits 39 = .ok (.invokestatic 105, 3) := by decide +kernel
theorem dX12_fits_42 : decode cX12_fits 42 = .ok (.iaload, 1) := by decide +kernel
theorem dX12_fits_43 : decode cX12_fits 43 = .ok (.if_icmp .lt 31, 3) := by decide +kernel
theorem dX12_fits_46 : decode cX12_fits 46 = .ok (.aload_n 0, 1) := by decide +kernel
theorem dX12_fits_47 : decode cX12_fits 47 = .ok (.getfield 9, 3) := by decide +kernel
theorem dX12_fits_50 : decode cX12_fits 50 = .ok (.iload_n 1, 1) := by decide +kernel
theorem dX12_fits_51 : decode cX12_fits 51 = .ok (.bipush 6, 2) := by decide +kernel
theorem dX12_fits_53 : decode cX12_fits 53 = .ok (.invokestatic 98, 3) := by decide +kernel
theorem dX12_fits_56 : decode cX12_fits 56 = .ok (.iaload, 1) := by decide +kernel
theorem dX12_fits_57 : decode cX12_fits 57 = .ok (.aload_n 0, 1) := by decide +kernel
theorem dX12_fits_58 : decode cX12_fits 58 = .ok (.getfield 9, 3) := by decide +kernel
theorem dX12_fits_61 : decode cX12_fits 61 = .ok (.iload_n 2, 1) := by decide +kernel
theorem dX12_fits_62 : decode cX12_fits 62 = .ok (.iconst 4, 1) := by decide +kernel
theorem dX12_fits_63 : decode cX12_fits 63 = .ok (.invokestatic 105, 3) := by decide +kernel
theorem dX12_fits_66 : decode cX12_fits 66 = .ok (.iaload, 1) := by decide +kernel
theorem dX12_fits_67 : decode cX12_fits 67 = .ok (.if_icmp .lt 7, 3) := by decide +kernel
theorem dX12_fits_70 : decode cX12_fits 70 = .ok (.iconst 1, 1) := by decide +kernel
theorem dX12_fits_71 : decode cX12_fits 71 = .ok (.goto 4, 3) := by decide +kernel
theorem dX12_fits_74 : decode cX12_fits 74 = .ok (.iconst 0, 1) := by decide +kernel
theorem dX12_fits_75 : decode cX12_fits 75 = .ok (.istore 5, 2) := by decide +kernel
theorem dX12_fits_77 : decode cX12_fits 77 = .ok (.iload 5, 2) := by decide +kernel
theorem dX12_fits_79 : decode cX12_fits 79 = .ok (.ifCond .eq 45, 3) := by decide +kernel
theorem dX12_fits_82 : decode cX12_fits 82 = .ok (.iload 4, 2) := by decide +kernel
theorem dX12_fits_84 : decode cX12_fits 84 = .ok (.iconst 1, 1) := by decide +kernel
theorem dX12_fits_85 : decode cX12_fits 85 = .ok (.if_icmp .ne 11, 3) := by decide +kernel
theorem dX12_fits_88 : decode cX12_fits 88 = .ok (.iload_n 3, 1) := by decide +kernel
theorem dX12_fits_89 : decode cX12_fits 89 = .ok (.iconst 1, 1) := by decide +kernel
theorem dX12_fits_90 : decode cX12_fits 90 = .ok (.if_icmp .ne 34, 3) := by decide +kernel
theorem dX12_fits_93 : decode cX12_fits 93 = .ok (.goto 27, 3) := by decide +kernel
theorem dX12_fits_96 : decode cX12_fits 96 = .ok (.iload 4, 2) := by decide +kernel
theorem dX12_fits_98 : decode cX12_fits 98 = .ok (.iconst 2, 1) := by decide +kernel
theorem dX12_fits_99 : decode cX12_fits 99 = .ok (.if_icmp .ne 7, 3) := by decide +kernel
theorem dX12_fits_102 : decode cX12_fits 102 = .ok (.iconst 1, 1) := by decide +kernel
theorem dX12_fits_103 : decode cX12_fits 103 = .ok (.goto 4, 3) := by decide +kernel
theorem dX12_fits_106 : decode cX12_fits 106 = .ok (.iconst 0, 1) := by decide +kernel
theorem dX12_fits_107 : decode cX12_fits 107 = .ok (.iload_n 3, 1) := by decide +kernel
theorem dX12_fits_108 : decode cX12_fits 108 = .ok (.iconst 3, 1) := by decide +kernel
theorem dX12_fits_109 : decode cX12_fits 109 = .ok (.if_icmp .ne 7, 3) := by decide +kernel
theorem dX12_fits_112 : decode cX12_fits 112 = .ok (.iconst 1, 1) := by decide +kernel
theorem dX12_fits_113 : decode cX12_fits 113 = .ok (.goto 4, 3) := by decide +kernel
theorem dX12_fits_116 : decode cX12_fits 116 = .ok (.iconst 0, 1) := by decide +kernel
theorem dX12_fits_117 : decode cX12_fits 117 = .ok (.if_icmp .ne 7, 3) := by decide +kernel
theorem dX12_fits_120 : decode cX12_fits 120 = .ok (.iconst 1, 1) := by decide +kernel
theorem dX12_fits_121 : decode cX12_fits 121 = .ok (.goto 4, 3) := by decide +kernel
theorem dX12_fits_124 : decode cX12_fits 124 = .ok (.iconst 0, 1) := by decide +kernel
theorem dX12_fits_125 : decode cX12_fits 125 = .ok (.ireturn, 1) := by decide +kernel
theorem dX12_give_0 : decode cX12_give 0 = .ok (.aload_n 0, 1) := by decide +kernel
theorem dX12_give_1 : decode cX12_give 1 = .ok (.iload_n 1, 1) := by decide +kernel
theorem dX12_give_2 : decode cX12_give 2 = .ok (.invokevirtual 109, 3) := by decide +kernel
theorem dX12_give_5 : decode cX12_give 5 = .ok (.ifCond .eq 16, 3) := by decide +kernel
theorem dX12_give_8 : decode cX12_give 8 = .ok (.iload_n 2, 1) := by decide +kernel
theorem dX12_give_9 : decode cX12_give 9 = .ok (.iconst (-1), 1) := by decide +kernel
theorem dX12_give_10 : decode cX12_give 10 = .ok (.if_icmp .eq 18, 3) := by decide +kernel
theorem dX12_give_13 : decode cX12_give 13 = .ok (.aload_n 0, 1) := by decide +kernel
theorem dX12_give_14 : decode cX12_give 14 = .ok (.iload_n 2, 1) := by decide +kernel
theorem dX12_give_15 : decode cX12_give 15 = .ok (.invokevirtual 101, 3) := by decide +kernel
theorem dX12_give_18 : decode cX12_give 18 = .ok (.ifCond .ne 10, 3) := by decide +kernel
theorem dX12_give_21 : decode cX12_give 21 = .ok (.aload_n 0, 1) := by decide +kernel
theorem dX12_give_22 : decode cX12_give 22 = .ok (.ldc 79, 2) := by decide +kernel
theorem dX12_give_24 : decode cX12_give 24 = .ok (.invokevirtual 71, 3) := by decide +kernel
theorem dX12_give_27 : decode cX12_give 27 = .ok (.ireturn, 1) := by decide +kernel
theorem dX12_give_28 : decode cX12_give 28 = .ok (.iload_n 2, 1) := by decide +kernel
theorem dX12_give_29 : decode cX12_give 29 = .ok (.ifCond .lt 19, 3) := by decide +kernel
theorem dX12_give_32 : decode cX12_give 32 = .ok (.aload_n 0, 1) := by decide +kernel
theorem dX12_give_33 : decode cX12_give 33 = .ok (.iload_n 2, 1) := by decide +kernel
theorem dX12_give_34 : decode cX12_give 34 = .ok (.iload_n 1, 1) := by decide +kernel
theorem dX12_give_35 : decode cX12_give 35 = .ok (.invokevirtual 112, 3) := by decide +kernel
theorem dX12_give_38 : decode cX12_give 38 = .ok (.ifCond .ne 10, 3) := by decide +kernel
theorem dX12_give_41 : decode cX12_give 41 = .ok (.aload_n 0, 1) := by decide +kernel
theorem dX12_give_42 : decode cX12_give 42 = .ok (.ldc 104, 2) := by decide +kernel
theorem dX12_give_44 : decode cX12_give 44 = .ok (.invokevirtual 71, 3) := by decide +kernel
theorem dX12_give_47 : decode cX12_give 47 = .ok (.ireturn, 1) := by decide +kernel
theorem dX12_give_48 : decode cX12_give 48 = .ok (.aload_n 0, 1) := by decide +kernel
theorem dX12_give_49 : decode cX12_give 49 = .ok (.invokevirtual 80, 3) := by decide +kernel
theorem dX12_give_52 : decode cX12_give 52 = .ok (.aload_n 0, 1) := by decide +kernel
theorem dX12_give_53 : decode cX12_give 53 = .ok (.getfield 9, 3) := by decide +kernel
theorem dX12_give_56 : decode cX12_give 56 = .ok (.iload_n 1, 1) := by decide +kernel
theorem dX12_give_57 : decode cX12_give 57 = .ok (.bipush 10, 2) := by decide +kernel
theorem dX12_give_59 : decode cX12_give 59 = .ok (.invokestatic 105, 3) := by decide +kernel
theorem dX12_give_62 : decode cX12_give 62 = .ok (.iaload, 1) := by decide +kernel
theorem dX12_give_63 : decode cX12_give 63 = .ok (.istore_n 3, 1) := by decide +kernel
theorem dX12_give_64 : decode cX12_give 64 = .ok (.aload_n 0, 1) := by decide +kernel
theorem dX12_give_65 : decode cX12_give 65 = .ok (.getfield 9, 3) := by decide +kernel
theorem dX12_give_68 : decode cX12_give 68 = .ok (.iload_n 1, 1) := by decide +kernel
theorem dX12_give_69 : decode cX12_give 69 = .ok (.bipush 10, 2) := by decide +kernel
theorem dX12_give_71 : decode cX12_give 71 = .ok (.invokestatic 105, 3) := by decide +kernel
theorem dX12_give_74 : decode cX12_give 74 = .ok (.iload_n 2, 1) := by decide +kernel
theorem dX12_give_75 : decode cX12_give 75 = .ok (.iastore, 1) := by decide +kernel
theorem dX12_give_76 : decode cX12_give 76 = .ok (.iload_n 3, 1) := by decide +kernel
theorem dX12_give_77 : decode cX12_give 77 = .ok (.ireturn, 1) := by decide +kernel
theorem dX12_goes_0 : decode cX12_goes 0 = .ok (.aload_n 0, 1) := by decide +kernel
theorem dX12_goes_1 : decode cX12_goes 1 = .ok (.aload_n 0, 1) := by decide +kernel
theorem dX12_goes_2 : decode cX12_goes 2 = .ok (.getfield 115, 3) := by decide +kernel
theorem dX12_goes_5 : decode cX12_goes 5 = .ok (.iload_n 1, 1) := by decide +kernel
theorem dX12_goes_6 : decode cX12_goes 6 = .ok (.invokevirtual 93, 3) := by decide +kernel
theorem dX12_goes_9 : decode cX12_goes 9 = .ok (.ifCond .eq 5, 3) := by decide +kernel
theorem dX12_goes_12 : decode cX12_goes 12 = .ok (.iconst 1, 1) := by decide +kernel
theorem dX12_goes_13 : decode cX12_goes 13 = .ok (.ireturn, 1) := by decide +kernel
theorem dX12_goes_14 : decode cX12_goes 14 = .ok (.aload_n 0, 1) := by decide +kernel
theorem dX12_goes_15 : decode cX12_goes 15 = .ok (.getfield 25, 3) := by decide +kernel
theorem dX12_goes_18 : decode cX12_goes 18 = .ok (.bipush 8, 2) := by decide +kernel
theorem dX12_goes_20 : decode cX12_goes 20 = .ok (.aload_n 0, 1) := by decide +kernel
theorem dX12_goes_21 : decode cX12_goes 21 = .ok (.getfield 115, 3) := by decide +kernel
theorem dX12_goes_24 : decode cX12_goes 24 = .ok (.imul, 1) := by decide +kernel
theorem dX12_goes_25 : decode cX12_goes 25 = .ok (.iload_n 1, 1) := by decide +kernel
theorem dX12_goes_26 : decode cX12_goes 26 = .ok (.iadd, 1) := by decide +kernel
theorem dX12_goes_27 : decode cX12_goes 27 = .ok (.iaload, 1) := by decide +kernel
theorem dX12_goes_28 : decode cX12_goes 28 = .ok (.istore_n 3, 1) := by decide +kernel
theorem dX12_goes_29 : decode cX12_goes 29 = .ok (.aload_n 0, 1) := by decide +kernel
theorem dX12_goes_30 : decode cX12_goes 30 = .ok (.getfield 118, 3) := by decide +kernel
theorem dX12_goes_33 : decode cX12_goes 33 = .ok (.iload_n 3, 1) := by decide +kernel
theorem dX12_goes_34 : decode cX12_goes 34 = .ok (.iadd, 1) := by decide +kernel
theorem dX12_goes_35 : decode cX12_goes 35 = .ok (.sipush 540, 3) := by decide +kernel
theorem dX12_goes_38 : decode cX12_goes 38 = .ok (.if_icmp .le 5, 3) := by decide +kernel
theorem dX12_goes_41 : decode cX12_goes 41 = .ok (.iconst 2, 1) := by decide +kernel
theorem dX12_goes_42 : decode cX12_goes 42 = .ok (.ireturn, 1) := by decide +kernel
theorem dX12_goes_43 : decode cX12_goes 43 = .ok (.aload_n 0, 1) := by decide +kernel
theorem dX12_goes_44 : decode cX12_goes 44 = .ok (.dup, 1) := by decide +kernel
theorem dX12_goes_45 : decode cX12_goes 45 = .ok (.getfield 118, 3) := by decide +kernel
theorem dX12_goes_48 : decode cX12_goes 48 = .ok (.iload_n 3, 1) := by decide +kernel
theorem dX12_goes_49 : decode cX12_goes 49 = .ok (.iadd, 1) := by decide +kernel
theorem dX12_goes_50 : decode cX12_goes 50 = .ok (.putfield 118, 3) := by decide +kernel
theorem dX12_goes_53 : decode cX12_goes 53 = .ok (.aload_n 0, 1) := by decide +kernel
theorem dX12_goes_54 : decode cX12_goes 54 = .ok (.dup, 1) := by decide +kernel
theorem dX12_goes_55 : decode cX12_goes 55 = .ok (.getfield 121, 3) := by decide +kernel
theorem dX12_goes_58 : decode cX12_goes 58 = .ok (.iload_n 2, 1) := by decide +kernel
theorem dX12_goes_59 : decode cX12_goes 59 = .ok (.ifCond .eq 7, 3) := by decide +kernel
theorem dX12_goes_62 : decode cX12_goes 62 = .ok (.iload_n 3, 1) := by decide +kernel
theorem dX12_goes_63 : decode cX12_goes 63 = .ok (.goto 4, 3) := by decide +kernel
theorem dX12_goes_66 : decode cX12_goes 66 = .ok (.iconst 0, 1) := by decide +kernel
theorem dX12_goes_67 : decode cX12_goes 67 = .ok (.iadd, 1) := by decide +kernel
theorem dX12_goes_68 : decode cX12_goes 68 = .ok (.putfield 121, 3) := by decide +kernel
theorem dX12_goes_71 : decode cX12_goes 71 = .ok (.aload_n 0, 1) := by decide +kernel
theorem dX12_goes_72 : decode cX12_goes 72 = .ok (.getfield 124, 3) := by decide +kernel
theorem dX12_goes_75 : decode cX12_goes 75 = .ok (.iload_n 3, 1) := by decide +kernel
theorem dX12_goes_76 : decode cX12_goes 76 = .ok (.iadd, 1) := by decide +kernel
theorem dX12_goes_77 : decode cX12_goes 77 = .ok (.sipush 270, 3) := by decide +kernel
theorem dX12_goes_80 : decode cX12_goes 80 = .ok (.if_icmp .le 50, 3) := by decide +kernel
theorem dX12_goes_83 : decode cX12_goes 83 = .ok (.sipush 270, 3) := by decide +kernel
theorem dX12_goes_86 : decode cX12_goes 86 = .ok (.aload_n 0, 1) := by decide +kernel
theorem dX12_goes_87 : decode cX12_goes 87 = .ok (.getfield 124, 3) := by decide +kernel
theorem dX12_goes_90 : decode cX12_goes 90 = .ok (.isub, 1) := by decide +kernel
theorem dX12_goes_91 : decode cX12_goes 91 = .ok (.istore 4, 2) := by decide +kernel
theorem dX12_goes_93 : decode cX12_goes 93 = .ok (.iload_n 3, 1) := by decide +kernel
theorem dX12_goes_94 : decode cX12_goes 94 = .ok (.iload 4, 2) := by decide +kernel
theorem dX12_goes_96 : decode cX12_goes 96 = .ok (.isub, 1) := by decide +kernel
theorem dX12_goes_97 : decode cX12_goes 97 = .ok (.istore_n 3, 1) := by decide +kernel
theorem dX12_goes_98 : decode cX12_goes 98 = .ok (.aload_n 0, 1) := by decide +kernel
theorem dX12_goes_99 : decode cX12_goes 99 = .ok (.dup, 1) := by decide +kernel
theorem dX12_goes_100 : decode cX12_goes 100 = .ok (.getfield 127, 3) := by decide +kernel
theorem dX12_goes_103 : decode cX12_goes 103 = .ok (.iload 4, 2) := by decide +kernel
theorem dX12_goes_105 : decode cX12_goes 105 = .ok (.bipush 45, 2) := by decide +kernel
theorem dX12_goes_107 : decode cX12_goes 107 = .ok (.iadd, 1) := by decide +kernel
theorem dX12_goes_108 : decode cX12_goes 108 = .ok (.iadd, 1) := by decide +kernel
theorem dX12_goes_109 : decode cX12_goes 109 = .ok (.putfield 127, 3) := by decide +kernel
theorem dX12_goes_112 : decode cX12_goes 112 = .ok (.aload_n 0, 1) := by decide +kernel
theorem dX12_goes_113 : decode cX12_goes 113 = .ok (.iconst 0, 1) := by decide +kernel
theorem dX12_goes_114 : decode cX12_goes 114 = .ok (.putfield 124, 3) := by decide +kernel
theorem dX12_goes_117 : decode cX12_goes 117 = .ok (.aload_n 0, 1) := by decide +kernel
theorem dX12_goes_118 : decode cX12_goes 118 = .ok (.dup, 1) := by decide +kernel
theorem dX12_goes_119 : decode cX12_goes 119 = .ok (.getfield 130, 3) := by decide +kernel
theorem dX12_goes_122 : decode cX12_goes 122 = .ok (.iconst 1, 1) := by decide +kernel
theorem dX12_goes_123 : decode cX12_goes 123 = .ok (.iadd, 1) := by decide +kernel
theorem dX12_goes_124 : decode cX12_goes 124 = .ok (.putfield 130, 3) := by decide +kernel
theorem dX12_goes_127 : decode cX12_goes 127 = .ok (.goto (-56), 3) := by decide +kernel
theorem dX12_goes_130 : decode cX12_goes 130 = .ok (.aload_n 0, 1) := by decide +kernel
theorem dX12_goes_131 : decode cX12_goes 131 = .ok (.dup, 1) := by decide +kernel
theorem dX12_goes_132 : decode cX12_goes 132 = .ok (.getfield 127, 3) := by decide +kernel
theorem dX12_goes_135 : decode cX12_goes 135 = .ok (.iload_n 3, 1) := by decide +kernel
theorem dX12_goes_136 : decode cX12_goes 136 = .ok (.iadd, 1) := by decide +kernel
theorem dX12_goes_137 : decode cX12_goes 137 = .ok (.putfield 127, 3) := by decide +kernel
theorem dX12_goes_140 : decode cX12_goes 140 = .ok (.aload_n 0, 1) := by decide +kernel
theorem dX12_goes_141 : decode cX12_goes 141 = .ok (.dup, 1) := by decide +kernel
theorem dX12_goes_142 : decode cX12_goes 142 = .ok (.getfield 124, 3) := by decide +kernel
theorem dX12_goes_145 : decode cX12_goes 145 = .ok (.iload_n 3, 1) := by decide +kernel
theorem dX12_goes_146 : decode cX12_goes 146 = .ok (.iadd, 1) := by decide +kernel
theorem dX12_goes_147 : decode cX12_goes 147 = .ok (.putfield 124, 3) := by decide +kernel
theorem dX12_goes_150 : decode cX12_goes 150 = .ok (.aload_n 0, 1) := by decide +kernel
theorem dX12_goes_151 : decode cX12_goes 151 = .ok (.iload_n 1, 1) := by decide +kernel
theorem dX12_goes_152 : decode cX12_goes 152 = .ok (.putfield 115, 3) := by decide +kernel
theorem dX12_goes_155 : decode cX12_goes 155 = .ok (.iconst 0, 1) := by decide +kernel
theorem dX12_goes_156 : decode cX12_goes 156 = .ok (.ireturn, 1) := by decide +kernel
theorem dX12_docks_0 : decode cX12_docks 0 = .ok (.aload_n 0, 1) := by decide +kernel
theorem dX12_docks_1 : decode cX12_docks 1 = .ok (.getfield 127, 3) := by decide +kernel
theorem dX12_docks_4 : decode cX12_docks 4 = .ok (.iload_n 2, 1) := by decide +kernel
theorem dX12_docks_5 : decode cX12_docks 5 = .ok (.if_icmp .le 5, 3) := by decide +kernel
theorem dX12_docks_8 : decode cX12_docks 8 = .ok (.iconst 3, 1) := by decide +kernel
theorem dX12_docks_9 : decode cX12_docks 9 = .ok (.ireturn, 1) := by decide +kernel
theorem dX12_docks_10 : decode cX12_docks 10 = .ok (.aload_n 0, 1) := by decide +kernel
theorem dX12_docks_11 : decode cX12_docks 11 = .ok (.getfield 127, 3) := by decide +kernel
theorem dX12_docks_14 : decode cX12_docks 14 = .ok (.iload_n 1, 1) := by decide +kernel
theorem dX12_docks_15 : decode cX12_docks 15 = .ok (.if_icmp .ge 43, 3) := by decide +kernel
theorem dX12_docks_18 : decode cX12_docks 18 = .ok (.iload_n 1, 1) := by decide +kernel
theorem dX12_docks_19 : decode cX12_docks 19 = .ok (.aload_n 0, 1) := by decide +kernel
theorem dX12_docks_20 : decode cX12_docks 20 = .ok (.getfield 127, 3) := by decide +kernel
theorem dX12_docks_23 : decode cX12_docks 23 = .ok (.isub, 1) := by decide +kernel
theorem dX12_docks_24 : decode cX12_docks 24 = .ok (.istore_n 3, 1) := by decide +kernel
theorem dX12_docks_25 : decode cX12_docks 25 = .ok (.aload_n 0, 1) := by decide +kernel
theorem dX12_docks_26 : decode cX12_docks 26 = .ok (.dup, 1) := by decide +kernel
theorem dX12_docks_27 : decode cX12_docks 27 = .ok (.getfield 133, 3) := by decide +kernel
theorem dX12_docks_30 : decode cX12_docks 30 = .ok (.iload_n 3, 1) := by decide +kernel
theorem dX12_docks_31 : decode cX12_docks 31 = .ok (.iadd, 1) := by decide +kernel
theorem dX12_docks_32 : decode cX12_docks 32 = .ok (.putfield 133, 3) := by decide +kernel
theorem dX12_docks_35 : decode cX12_docks 35 = .ok (.aload_n 0, 1) := by decide +kernel
theorem dX12_docks_36 : decode cX12_docks 36 = .ok (.iload_n 3, 1) := by decide +kernel
theorem dX12_docks_37 : decode cX12_docks 37 = .ok (.bipush 45, 2) := by decide +kernel
theorem dX12_docks_39 : decode cX12_docks 39 = .ok (.if_icmp .lt 7, 3) := by decide +kernel
theorem dX12_docks_42 : decode cX12_docks 42 = .ok (.iconst 0, 1) := by decide +kernel
theorem dX12_docks_43 : decode cX12_docks 43 = .ok (.goto 7, 3) := by decide +kernel
theorem dX12_docks_46 : decode cX12_docks 46 = .ok (.aload_n 0, 1) := by decide +kernel
theorem dX12_docks_47 : decode cX12_docks 47 = .ok (.getfield 124, 3) := by decide +kernel
theorem dX12_docks_50 : decode cX12_docks 50 = .ok (.putfield 124, 3) := by decide +kernel
theorem dX12_docks_53 : decode cX12_docks 53 = .ok (.aload_n 0, 1) := by decide +kernel
theorem dX12_docks_54 : decode cX12_docks 54 = .ok (.iload_n 1, 1) := by decide +kernel
theorem dX12_docks_55 : decode cX12_docks 55 = .ok (.putfield 127, 3) := by decide +kernel
theorem dX12_docks_58 : decode cX12_docks 58 = .ok (.aload_n 0, 1) := by decide +kernel
theorem dX12_docks_59 : decode cX12_docks 59 = .ok (.dup, 1) := by decide +kernel
theorem dX12_docks_60 : decode cX12_docks 60 = .ok (.getfield 127, 3) := by decide +kernel
theorem dX12_docks_63 : decode cX12_docks 63 = .ok (.bipush 30, 2) := by decide +kernel
theorem dX12_docks_65 : decode cX12_docks 65 = .ok (.iadd, 1) := by decide +kernel
theorem dX12_docks_66 : decode cX12_docks 66 = .ok (.putfield 127, 3) := by decide +kernel
theorem dX12_docks_69 : decode cX12_docks 69 = .ok (.iconst 0, 1) := by decide +kernel
theorem dX12_docks_70 : decode cX12_docks 70 = .ok (.ireturn, 1) := by decide +kernel
theorem dX12_carries_0 : decode cX12_carries 0 = .ok (.aload_n 0, 1) := by decide +kernel
theorem dX12_carries_1 : decode cX12_carries 1 = .ok (.aload_n 0, 1) := by decide +kernel
theorem dX12_carries_2 : decode cX12_carries 2 = .ok (.getfield 9, 3) := by decide +kernel
theorem dX12_carries_5 : decode cX12_carries 5 = .ok (.iload_n 1, 1) := by decide +kernel
theorem dX12_carries_6 : decode cX12_carries 6 = .ok (.iconst 0, 1) := by decide +kernel
theorem dX12_carries_7 : decode cX12_carries 7 = .ok (.invokestatic 105, 3) := by decide +kernel
theorem dX12_carries_10 : decode cX12_carries 10 = .ok (.iaload, 1) := by decide +kernel
theorem dX12_carries_11 : decode cX12_carries 11 = .ok (.iconst 1, 1) := by decide +kernel
theorem dX12_carries_12 : decode cX12_carries 12 = .ok (.invokevirtual 136, 3) := by decide +kernel
theorem dX12_carries_15 : decode cX12_carries 15 = .ok (.istore_n 2, 1) := by decide +kernel
theorem dX12_carries_16 : decode cX12_carries 16 = .ok (.iload_n 2, 1) := by decide +kernel
theorem dX12_carries_17 : decode cX12_carries 17 = .ok (.ifCond .eq 7, 3) := by decide +kernel
theorem dX12_carries_20 : decode cX12_carries 20 = .ok (.iload_n 2, 1) := by decide +kernel
theorem dX12_carries_21 : decode cX12_carries 21 = .ok (.goto 29, 3) := by decide +kernel
theorem dX12_carries_24 : decode cX12_carries 24 = .ok (.aload_n 0, 1) := by decide +kernel
theorem dX12_carries_25 : decode cX12_carries 25 = .ok (.aload_n 0, 1) := by decide +kernel
theorem dX12_carries_26 : decode cX12_carries 26 = .ok (.getfield 9, 3) := by decide +kernel
theorem dX12_carries_29 : decode cX12_carries 29 = .ok (.iload_n 1, 1) := by decide +kernel
theorem dX12_carries_30 : decode cX12_carries 30 = .ok (.bipush 6, 2) := by decide +kernel
theorem dX12_carries_32 : decode cX12_carries 32 = .ok (.invokestatic 105, 3) := by decide +kernel
theorem dX12_carries_35 : decode cX12_carries 35 = .ok (.iaload, 1) := by decide +kernel
theorem dX12_carries_36 : decode cX12_carries 36 = .ok (.aload_n 0, 1) := by decide +kernel
theorem dX12_carries_37 : decode cX12_carries 37 = .ok (.getfield 9, 3) := by decide +kernel
theorem dX12_carries_40 : decode cX12_carries 40 = .ok (.iload_n 1, 1) := by decide +kernel
theorem dX12_carries_41 : decode cX12_carries 41 = .ok (.bipush 7, 2) := by decide +kernel
theorem dX12_carries_43 : decode cX12_carries 43 = .ok (.invokestatic 105, 3) := by decide +kernel
theorem dX12_carries_46 : decode cX12_carries 46 = .ok (.iaload, 1) := by decide +kernel
theorem dX12_carries_47 : decode cX12_carries 47 = .ok (.invokevirtual 140, 3) := by decide +kernel
theorem dX12_carries_50 : decode cX12_carries 50 = .ok (.istore_n 2, 1) := by decide +kernel
theorem dX12_carries_51 : decode cX12_carries 51 = .ok (.iload_n 2, 1) := by decide +kernel
theorem dX12_carries_52 : decode cX12_carries 52 = .ok (.ifCond .eq 7, 3) := by decide +kernel
theorem dX12_carries_55 : decode cX12_carries 55 = .ok (.iload_n 2, 1) := by decide +kernel
theorem dX12_carries_56 : decode cX12_carries 56 = .ok (.goto 18, 3) := by decide +kernel
theorem dX12_carries_59 : decode cX12_carries 59 = .ok (.aload_n 0, 1) := by decide +kernel
theorem dX12_carries_60 : decode cX12_carries 60 = .ok (.aload_n 0, 1) := by decide +kernel
theorem dX12_carries_61 : decode cX12_carries 61 = .ok (.getfield 9, 3) := by decide +kernel
theorem dX12_carries_64 : decode cX12_carries 64 = .ok (.iload_n 1, 1) := by decide +kernel
theorem dX12_carries_65 : decode cX12_carries 65 = .ok (.iconst 1, 1) := by decide +kernel
theorem dX12_carries_66 : decode cX12_carries 66 = .ok (.invokestatic 105, 3) := by decide +kernel
theorem dX12_carries_69 : decode cX12_carries 69 = .ok (.iaload, 1) := by decide +kernel
theorem dX12_carries_70 : decode cX12_carries 70 = .ok (.iconst 0, 1) := by decide +kernel
theorem dX12_carries_71 : decode cX12_carries 71 = .ok (.invokevirtual 136, 3) := by decide +kernel
theorem dX12_carries_74 : decode cX12_carries 74 = .ok (.istore_n 2, 1) := by decide +kernel
theorem dX12_carries_75 : decode cX12_carries 75 = .ok (.iload_n 2, 1) := by decide +kernel
theorem dX12_carries_76 : decode cX12_carries 76 = .ok (.ifCond .eq 7, 3) := by decide +kernel
theorem dX12_carries_79 : decode cX12_carries 79 = .ok (.iload_n 2, 1) := by decide +kernel
theorem dX12_carries_80 : decode cX12_carries 80 = .ok (.goto 29, 3) := by decide +kernel
theorem dX12_carries_83 : decode cX12_carries 83 = .ok (.aload_n 0, 1) := by decide +kernel
theorem dX12_carries_84 : decode cX12_carries 84 = .ok (.aload_n 0, 1) := by decide +kernel
theorem dX12_carries_85 : decode cX12_carries 85 = .ok (.getfield 9, 3) := by decide +kernel
theorem dX12_carries_88 : decode cX12_carries 88 = .ok (.iload_n 1, 1) := by decide +kernel
theorem dX12_carries_89 : decode cX12_carries 89 = .ok (.bipush 8, 2) := by decide +kernel
theorem dX12_carries_91 : decode cX12_carries 91 = .ok (.invokestatic 105, 3) := by decide +kernel
theorem dX12_carries_94 : decode cX12_carries 94 = .ok (.iaload, 1) := by decide +kernel
theorem dX12_carries_95 : decode cX12_carries 95 = .ok (.aload_n 0, 1) := by decide +kernel
theorem dX12_carries_96 : decode cX12_carries 96 = .ok (.getfield 9, 3) := by decide +kernel
theorem dX12_carries_99 : decode cX12_carries 99 = .ok (.iload_n 1, 1) := by decide +kernel
theorem dX12_carries_100 : decode cX12_carries 100 = .ok (.bipush 9, 2) := by decide +kernel
theorem dX12_carries_102 : decode cX12_carries 102 = .ok (.invokestatic 105, 3) := by decide +kernel
theorem dX12_carries_105 : decode cX12_carries 105 = .ok (.iaload, 1) := by decide +kernel
theorem dX12_carries_106 : decode cX12_carries 106 = .ok (.invokevirtual 140, 3) := by decide +kernel
theorem dX12_carries_109 : decode cX12_carries 109 = .ok (.ireturn, 1) := by decide +kernel
theorem dX12_drives_0 : decode cX12_drives 0 = .ok (.aload_n 0, 1) := by decide +kernel
theorem dX12_drives_1 : decode cX12_drives 1 = .ok (.aload_n 0, 1) := by decide +kernel
theorem dX12_drives_2 : decode cX12_drives 2 = .ok (.getfield 9, 3) := by decide +kernel
theorem dX12_drives_5 : decode cX12_drives 5 = .ok (.iload_n 1, 1) := by decide +kernel
theorem dX12_drives_6 : decode cX12_drives 6 = .ok (.iconst 2, 1) := by decide +kernel
theorem dX12_drives_7 : decode cX12_drives 7 = .ok (.invokestatic 98, 3) := by decide +kernel
theorem dX12_drives_10 : decode cX12_drives 10 = .ok (.iaload, 1) := by decide +kernel
theorem dX12_drives_11 : decode cX12_drives 11 = .ok (.putfield 127, 3) := by decide +kernel
theorem dX12_drives_14 : decode cX12_drives 14 = .ok (.aload_n 0, 1) := by decide +kernel
theorem dX12_drives_15 : decode cX12_drives 15 = .ok (.iconst 0, 1) := by decide +kernel
theorem dX12_drives_16 : decode cX12_drives 16 = .ok (.putfield 124, 3) := by decide +kernel
theorem dX12_drives_19 : decode cX12_drives 19 = .ok (.aload_n 0, 1) := by decide +kernel
theorem dX12_drives_20 : decode cX12_drives 20 = .ok (.iconst 0, 1) := by decide +kernel
theorem dX12_drives_21 : decode cX12_drives 21 = .ok (.putfield 118, 3) := by decide +kernel
theorem dX12_drives_24 : decode cX12_drives 24 = .ok (.aload_n 0, 1) := by decide +kernel
theorem dX12_drives_25 : decode cX12_drives 25 = .ok (.iconst 0, 1) := by decide +kernel
theorem dX12_drives_26 : decode cX12_drives 26 = .ok (.putfield 121, 3) := by decide +kernel
theorem dX12_drives_29 : decode cX12_drives 29 = .ok (.aload_n 0, 1) := by decide +kernel
theorem dX12_drives_30 : decode cX12_drives 30 = .ok (.iconst 0, 1) := by decide +kernel
theorem dX12_drives_31 : decode cX12_drives 31 = .ok (.putfield 130, 3) := by decide +kernel
theorem dX12_drives_34 : decode cX12_drives 34 = .ok (.aload_n 0, 1) := by decide +kernel
theorem dX12_drives_35 : decode cX12_drives 35 = .ok (.iconst 0, 1) := by decide +kernel
theorem dX12_drives_36 : decode cX12_drives 36 = .ok (.putfield 133, 3) := by decide +kernel
theorem dX12_drives_39 : decode cX12_drives 39 = .ok (.aload_n 0, 1) := by decide +kernel
theorem dX12_drives_40 : decode cX12_drives 40 = .ok (.aload_n 0, 1) := by decide +kernel
theorem dX12_drives_41 : decode cX12_drives 41 = .ok (.getfield 9, 3) := by decide +kernel
theorem dX12_drives_44 : decode cX12_drives 44 = .ok (.iload_n 1, 1) := by decide +kernel
theorem dX12_drives_45 : decode cX12_drives 45 = .ok (.iconst 1, 1) := by decide +kernel
theorem dX12_drives_46 : decode cX12_drives 46 = .ok (.invokestatic 98, 3) := by decide +kernel
theorem dX12_drives_49 : decode cX12_drives 49 = .ok (.iaload, 1) := by decide +kernel
theorem dX12_drives_50 : decode cX12_drives 50 = .ok (.putfield 115, 3) := by decide +kernel
theorem dX12_drives_53 : decode cX12_drives 53 = .ok (.iload_n 2, 1) := by decide +kernel
theorem dX12_drives_54 : decode cX12_drives 54 = .ok (.ifCond .ge 7, 3) := by decide +kernel
theorem dX12_drives_57 : decode cX12_drives 57 = .ok (.iconst 0, 1) := by decide +kernel
theorem dX12_drives_58 : decode cX12_drives 58 = .ok (.goto 8, 3) := by decide +kernel
theorem dX12_drives_61 : decode cX12_drives 61 = .ok (.aload_n 0, 1) := by decide +kernel
theorem dX12_drives_62 : decode cX12_drives 62 = .ok (.iload_n 2, 1) := by decide +kernel
theorem dX12_drives_63 : decode cX12_drives 63 = .ok (.invokevirtual 143, 3) := by decide +kernel
theorem dX12_drives_66 : decode cX12_drives 66 = .ok (.istore 4, 2) := by decide +kernel
theorem dX12_drives_68 : decode cX12_drives 68 = .ok (.iload 4, 2) := by decide +kernel
theorem dX12_drives_70 : decode cX12_drives 70 = .ok (.ifCond .ne 11, 3) := by decide +kernel
theorem dX12_drives_73 : decode cX12_drives 73 = .ok (.iload_n 2, 1) := by decide +kernel
theorem dX12_drives_74 : decode cX12_drives 74 = .ok (.ifCond .lt 7, 3) := by decide +kernel
theorem dX12_drives_77 : decode cX12_drives 77 = .ok (.iload_n 3, 1) := by decide +kernel
theorem dX12_drives_78 : decode cX12_drives 78 = .ok (.ifCond .ge 8, 3) := by decide +kernel
theorem dX12_drives_81 : decode cX12_drives 81 = .ok (.iload 4, 2) := by decide +kernel
theorem dX12_drives_83 : decode cX12_drives 83 = .ok (.goto 8, 3) := by decide +kernel
theorem dX12_drives_86 : decode cX12_drives 86 = .ok (.aload_n 0, 1) := by decide +kernel
theorem dX12_drives_87 : decode cX12_drives 87 = .ok (.iload_n 3, 1) := by decide +kernel
theorem dX12_drives_88 : decode cX12_drives 88 = .ok (.invokevirtual 143, 3) := by decide +kernel
theorem dX12_drives_91 : decode cX12_drives 91 = .ok (.istore 4, 2) := by decide +kernel
theorem dX12_drives_93 : decode cX12_drives 93 = .ok (.iload 4, 2) := by decide +kernel
theorem dX12_drives_95 : decode cX12_drives 95 = .ok (.ifCond .eq 8, 3) := by decide +kernel
theorem dX12_drives_98 : decode cX12_drives 98 = .ok (.iload 4, 2) := by decide +kernel
theorem dX12_drives_100 : decode cX12_drives 100 = .ok (.goto 18, 3) := by decide +kernel
theorem dX12_drives_103 : decode cX12_drives 103 = .ok (.aload_n 0, 1) := by decide +kernel
theorem dX12_drives_104 : decode cX12_drives 104 = .ok (.aload_n 0, 1) := by decide +kernel
theorem dX12_drives_105 : decode cX12_drives 105 = .ok (.getfield 9, 3) := by decide +kernel
theorem dX12_drives_108 : decode cX12_drives 108 = .ok (.iload_n 1, 1) := by decide +kernel
theorem dX12_drives_109 : decode cX12_drives 109 = .ok (.iconst 3, 1) := by decide +kernel
theorem dX12_drives_110 : decode cX12_drives 110 = .ok (.invokestatic 98, 3) := by decide +kernel
theorem dX12_drives_113 : decode cX12_drives 113 = .ok (.iaload, 1) := by decide +kernel
theorem dX12_drives_114 : decode cX12_drives 114 = .ok (.iconst 1, 1) := by decide +kernel
theorem dX12_drives_115 : decode cX12_drives 115 = .ok (.invokevirtual 136, 3) := by decide +kernel
theorem dX12_drives_118 : decode cX12_drives 118 = .ok (.istore 4, 2) := by decide +kernel
theorem dX12_drives_120 : decode cX12_drives 120 = .ok (.iload 4, 2) := by decide +kernel
theorem dX12_drives_122 : decode cX12_drives 122 = .ok (.ifCond .eq 8, 3) := by decide +kernel
theorem dX12_drives_125 : decode cX12_drives 125 = .ok (.iload 4, 2) := by decide +kernel
theorem dX12_drives_127 : decode cX12_drives 127 = .ok (.goto 25, 3) := by decide +kernel
theorem dX12_drives_130 : decode cX12_drives 130 = .ok (.aload_n 0, 1) := by decide +kernel
theorem dX12_drives_131 : decode cX12_drives 131 = .ok (.getfield 127, 3) := by decide +kernel
theorem dX12_drives_134 : decode cX12_drives 134 = .ok (.aload_n 0, 1) := by decide +kernel
theorem dX12_drives_135 : decode cX12_drives 135 = .ok (.getfield 9, 3) := by decide +kernel
theorem dX12_drives_138 : decode cX12_drives 138 = .ok (.iload_n 1, 1) := by decide +kernel
theorem dX12_drives_139 : decode cX12_drives 139 = .ok (.iconst 4, 1) := by decide +kernel
theorem dX12_drives_140 : decode cX12_drives 140 = .ok (.invokestatic 98, 3) := by decide +kernel
theorem dX12_drives_143 : decode cX12_drives 143 = .ok (.iaload, 1) := by decide +kernel
theorem dX12_drives_144 : decode cX12_drives 144 = .ok (.if_icmp .le 7, 3) := by decide +kernel
theorem dX12_drives_147 : decode cX12_drives 147 = .ok (.iconst 4, 1) := by decide +kernel
theorem dX12_drives_148 : decode cX12_drives 148 = .ok (.goto 4, 3) := by decide +kernel
theorem dX12_drives_151 : decode cX12_drives 151 = .ok (.iconst 0, 1) := by decide +kernel
theorem dX12_drives_152 : decode cX12_drives 152 = .ok (.ireturn, 1) := by decide +kernel
theorem dX12_payOf_0 : decode cX12_payOf 0 = .ok (.iload_n 1, 1) := by decide +kernel
theorem dX12_payOf_1 : decode cX12_payOf 1 = .ok (.ifCond .ge 7, 3) := by decide +kernel
theorem dX12_payOf_4 : decode cX12_payOf 4 = .ok (.iconst 0, 1) := by decide +kernel
theorem dX12_payOf_5 : decode cX12_payOf 5 = .ok (.goto 13, 3) := by decide +kernel
theorem dX12_payOf_8 : decode cX12_payOf 8 = .ok (.aload_n 0, 1) := by decide +kernel
theorem dX12_payOf_9 : decode cX12_payOf 9 = .ok (.getfield 9, 3) := by decide +kernel
theorem dX12_payOf_12 : decode cX12_payOf 12 = .ok (.iload_n 1, 1) := by decide +kernel
theorem dX12_payOf_13 : decode cX12_payOf 13 = .ok (.iconst 5, 1) := by decide +kernel
theorem dX12_payOf_14 : decode cX12_payOf 14 = .ok (.invokestatic 105, 3) := by decide +kernel
theorem dX12_payOf_17 : decode cX12_payOf 17 = .ok (.iaload, 1) := by decide +kernel
theorem dX12_payOf_18 : decode cX12_payOf 18 = .ok (.ireturn, 1) := by decide +kernel
theorem dX12_valueOf_0 : decode cX12_valueOf 0 = .ok (.aload_n 0, 1) := by decide +kernel
theorem dX12_valueOf_1 : decode cX12_valueOf 1 = .ok (.iload_n 1, 1) := by decide +kernel
theorem dX12_valueOf_2 : decode cX12_valueOf 2 = .ok (.invokevirtual 146, 3) := by decide +kernel
theorem dX12_valueOf_5 : decode cX12_valueOf 5 = .ok (.iload_n 1, 1) := by decide +kernel
theorem dX12_valueOf_6 : decode cX12_valueOf 6 = .ok (.ifCond .ge 7, 3) := by decide +kernel
theorem dX12_valueOf_9 : decode cX12_valueOf 9 = .ok (.iconst 0, 1) := by decide +kernel
theorem dX12_valueOf_10 : decode cX12_valueOf 10 = .ok (.goto 8, 3) := by decide +kernel
theorem dX12_valueOf_13 : decode cX12_valueOf 13 = .ok (.aload_n 0, 1) := by decide +kernel
theorem dX12_valueOf_14 : decode cX12_valueOf 14 = .ok (.iload_n 2, 1) := by decide +kernel
theorem dX12_valueOf_15 : decode cX12_valueOf 15 = .ok (.invokevirtual 146, 3) := by decide +kernel
theorem dX12_valueOf_18 : decode cX12_valueOf 18 = .ok (.iadd, 1) := by decide +kernel
theorem dX12_valueOf_19 : decode cX12_valueOf 19 = .ok (.aload_n 0, 1) := by decide +kernel
theorem dX12_valueOf_20 : decode cX12_valueOf 20 = .ok (.getfield 121, 3) := by decide +kernel
theorem dX12_valueOf_23 : decode cX12_valueOf 23 = .ok (.isub, 1) := by decide +kernel
theorem dX12_valueOf_24 : decode cX12_valueOf 24 = .ok (.ireturn, 1) := by decide +kernel
theorem dX12_refused_0 : decode cX12_refused 0 = .ok (.aload_n 0, 1) := by decide +kernel
theorem dX12_refused_1 : decode cX12_refused 1 = .ok (.iload_n 1, 1) := by decide +kernel
theorem dX12_refused_2 : decode cX12_refused 2 = .ok (.invokevirtual 101, 3) := by decide +kernel
theorem dX12_refused_5 : decode cX12_refused 5 = .ok (.ifCond .eq 42, 3) := by decide +kernel
theorem dX12_refused_8 : decode cX12_refused 8 = .ok (.iload_n 2, 1) := by decide +kernel
theorem dX12_refused_9 : decode cX12_refused 9 = .ok (.iconst (-1), 1) := by decide +kernel
theorem dX12_refused_10 : decode cX12_refused 10 = .ok (.if_icmp .eq 11, 3) := by decide +kernel
theorem dX12_refused_13 : decode cX12_refused 13 = .ok (.aload_n 0, 1) := by decide +kernel
theorem dX12_refused_14 : decode cX12_refused 14 = .ok (.iload_n 2, 1) := by decide +kernel
theorem dX12_refused_15 : decode cX12_refused 15 = .ok (.invokevirtual 109, 3) := by decide +kernel
theorem dX12_refused_18 : decode cX12_refused 18 = .ok (.ifCond .eq 29, 3) := by decide +kernel
theorem dX12_refused_21 : decode cX12_refused 21 = .ok (.iload_n 3, 1) := by decide +kernel
theorem dX12_refused_22 : decode cX12_refused 22 = .ok (.iconst (-1), 1) := by decide +kernel
theorem dX12_refused_23 : decode cX12_refused 23 = .ok (.if_icmp .eq 11, 3) := by decide +kernel
theorem dX12_refused_26 : decode cX12_refused 26 = .ok (.aload_n 0, 1) := by decide +kernel
theorem dX12_refused_27 : decode cX12_refused 27 = .ok (.iload_n 3, 1) := by decide +kernel
theorem dX12_refused_28 : decode cX12_refused 28 = .ok (.invokevirtual 109, 3) := by decide +kernel
theorem dX12_refused_31 : decode cX12_refused 31 = .ok (.ifCond .eq 16, 3) := by decide +kernel
theorem dX12_refused_34 : decode cX12_refused 34 = .ok (.iload_n 3, 1) := by decide +kernel
theorem dX12_refused_35 : decode cX12_refused 35 = .ok (.ifCond .lt 15, 3) := by decide +kernel
theorem dX12_refused_38 : decode cX12_refused 38 = .ok (.iload_n 2, 1) := by decide +kernel
theorem dX12_refused_39 : decode cX12_refused 39 = .ok (.ifCond .lt 8, 3) := by decide +kernel
theorem dX12_refused_42 : decode cX12_refused 42 = .ok (.iload_n 2, 1) := by decide +kernel
theorem dX12_refused_43 : decode cX12_refused 43 = .ok (.iload_n 3, 1) := by decide +kernel
theorem dX12_refused_44 : decode cX12_refused 44 = .ok (.if_icmp .ne 6, 3) := by decide +kernel
theorem dX12_refused_47 : decode cX12_refused 47 = .ok (.ldc 79, 2) := by decide +kernel
theorem dX12_refused_49 : decode cX12_refused 49 = .ok (.ireturn, 1) := by decide +kernel
theorem dX12_refused_50 : decode cX12_refused 50 = .ok (.iload_n 2, 1) := by decide +kernel
theorem dX12_refused_51 : decode cX12_refused 51 = .ok (.ifCond .lt 30, 3) := by decide +kernel
theorem dX12_refused_54 : decode cX12_refused 54 = .ok (.aload_n 0, 1) := by decide +kernel
theorem dX12_refused_55 : decode cX12_refused 55 = .ok (.iload_n 1, 1) := by decide +kernel
theorem dX12_refused_56 : decode cX12_refused 56 = .ok (.iload_n 2, 1) := by decide +kernel
theorem dX12_refused_57 : decode cX12_refused 57 = .ok (.invokevirtual 112, 3) := by decide +kernel
theorem dX12_refused_60 : decode cX12_refused 60 = .ok (.ifCond .eq 16, 3) := by decide +kernel
theorem dX12_refused_63 : decode cX12_refused 63 = .ok (.iload_n 3, 1) := by decide +kernel
theorem dX12_refused_64 : decode cX12_refused 64 = .ok (.ifCond .lt 17, 3) := by decide +kernel
theorem dX12_refused_67 : decode cX12_refused 67 = .ok (.aload_n 0, 1) := by decide +kernel
theorem dX12_refused_68 : decode cX12_refused 68 = .ok (.iload_n 1, 1) := by decide +kernel
theorem dX12_refused_69 : decode cX12_refused 69 = .ok (.iload_n 3, 1) := by decide +kernel
theorem dX12_refused_70 : decode cX12_refused 70 = .ok (.invokevirtual 112, 3) := by decide +kernel
theorem dX12_refused_73 : decode cX12_refused 73 = .ok (.ifCond .ne 8, 3) := by decide +kernel
theorem dX12_refused_76 : decode cX12_refused 76 = .ok (.ldc 104, 2) := by decide +kernel
theorem dX12_refused_78 : decode cX12_refused 78 = .ok (.goto 4, 3) := by decide +kernel
theorem dX12_refused_81 : decode cX12_refused 81 = .ok (.iconst 0, 1) := by decide +kernel
theorem dX12_refused_82 : decode cX12_refused 82 = .ok (.ireturn, 1) := by decide +kernel
theorem dX12_why_0 : decode cX12_why 0 = .ok (.aload_n 0, 1) := by decide +kernel
theorem dX12_why_1 : decode cX12_why 1 = .ok (.iload_n 1, 1) := by decide +kernel
theorem dX12_why_2 : decode cX12_why 2 = .ok (.iload_n 2, 1) := by decide +kernel
theorem dX12_why_3 : decode cX12_why 3 = .ok (.iload_n 3, 1) := by decide +kernel
theorem dX12_why_4 : decode cX12_why 4 = .ok (.invokevirtual 149, 3) := by decide +kernel
theorem dX12_why_7 : decode cX12_why 7 = .ok (.istore 4, 2) := by decide +kernel
theorem dX12_why_9 : decode cX12_why 9 = .ok (.iload 4, 2) := by decide +kernel
theorem dX12_why_11 : decode cX12_why 11 = .ok (.ifCond .eq 10, 3) := by decide +kernel
theorem dX12_why_14 : decode cX12_why 14 = .ok (.aload_n 0, 1) := by decide +kernel
theorem dX12_why_15 : decode cX12_why 15 = .ok (.iload 4, 2) := by decide +kernel
theorem dX12_why_17 : decode cX12_why 17 = .ok (.invokevirtual 71, 3) := by decide +kernel
theorem dX12_why_20 : decode cX12_why 20 = .ok (.ireturn, 1) := by decide +kernel
theorem dX12_why_21 : decode cX12_why 21 = .ok (.aload_n 0, 1) := by decide +kernel
theorem dX12_why_22 : decode cX12_why 22 = .ok (.invokevirtual 90, 3) := by decide +kernel
theorem dX12_why_25 : decode cX12_why 25 = .ok (.aload_n 0, 1) := by decide +kernel
theorem dX12_why_26 : decode cX12_why 26 = .ok (.iload_n 1, 1) := by decide +kernel
theorem dX12_why_27 : decode cX12_why 27 = .ok (.iload_n 2, 1) := by decide +kernel
theorem dX12_why_28 : decode cX12_why 28 = .ok (.iload_n 3, 1) := by decide +kernel
theorem dX12_why_29 : decode cX12_why 29 = .ok (.invokevirtual 153, 3) := by decide +kernel
theorem dX12_why_32 : decode cX12_why 32 = .ok (.ireturn, 1) := by decide +kernel
theorem dX12_drive_0 : decode cX12_drive 0 = .ok (.aload_n 0, 1) := by decide +kernel
theorem dX12_drive_1 : decode cX12_drive 1 = .ok (.iload_n 1, 1) := by decide +kernel
theorem dX12_drive_2 : decode cX12_drive 2 = .ok (.iload_n 2, 1) := by decide +kernel
theorem dX12_drive_3 : decode cX12_drive 3 = .ok (.iload_n 3, 1) := by decide +kernel
theorem dX12_drive_4 : decode cX12_drive 4 = .ok (.invokevirtual 149, 3) := by decide +kernel
theorem dX12_drive_7 : decode cX12_drive 7 = .ok (.istore 5, 2) := by decide +kernel
theorem dX12_drive_9 : decode cX12_drive 9 = .ok (.iload 5, 2) := by decide +kernel
theorem dX12_drive_11 : decode cX12_drive 11 = .ok (.ifCond .eq 10, 3) := by decide +kernel
theorem dX12_drive_14 : decode cX12_drive 14 = .ok (.aload_n 0, 1) := by decide +kernel
theorem dX12_drive_15 : decode cX12_drive 15 = .ok (.iload 5, 2) := by decide +kernel
theorem dX12_drive_17 : decode cX12_drive 17 = .ok (.invokevirtual 71, 3) := by decide +kernel
theorem dX12_drive_20 : decode cX12_drive 20 = .ok (.ireturn, 1) := by decide +kernel
theorem dX12_drive_21 : decode cX12_drive 21 = .ok (.iload 4, 2) := by decide +kernel
theorem dX12_drive_23 : decode cX12_drive 23 = .ok (.iconst 0, 1) := by decide +kernel
theorem dX12_drive_24 : decode cX12_drive 24 = .ok (.iconst 5, 1) := by decide +kernel
theorem dX12_drive_25 : decode cX12_drive 25 = .ok (.invokestatic 63, 3) := by decide +kernel
theorem dX12_drive_28 : decode cX12_drive 28 = .ok (.ifCond .ne 10, 3) := by decide +kernel
theorem dX12_drive_31 : decode cX12_drive 31 = .ok (.aload_n 0, 1) := by decide +kernel
theorem dX12_drive_32 : decode cX12_drive 32 = .ok (.ldc 79, 2) := by decide +kernel
theorem dX12_drive_34 : decode cX12_drive 34 = .ok (.invokevirtual 71, 3) := by decide +kernel
theorem dX12_drive_37 : decode cX12_drive 37 = .ok (.ireturn, 1) := by decide +kernel
theorem dX12_drive_38 : decode cX12_drive 38 = .ok (.aload_n 0, 1) := by decide +kernel
theorem dX12_drive_39 : decode cX12_drive 39 = .ok (.invokevirtual 90, 3) := by decide +kernel
theorem dX12_drive_42 : decode cX12_drive 42 = .ok (.aload_n 0, 1) := by decide +kernel
theorem dX12_drive_43 : decode cX12_drive 43 = .ok (.iload_n 1, 1) := by decide +kernel
theorem dX12_drive_44 : decode cX12_drive 44 = .ok (.iload_n 2, 1) := by decide +kernel
theorem dX12_drive_45 : decode cX12_drive 45 = .ok (.iload_n 3, 1) := by decide +kernel
theorem dX12_drive_46 : decode cX12_drive 46 = .ok (.invokevirtual 153, 3) := by decide +kernel
theorem dX12_drive_49 : decode cX12_drive 49 = .ok (.ifCond .eq 10, 3) := by decide +kernel
theorem dX12_drive_52 : decode cX12_drive 52 = .ok (.aload_n 0, 1) := by decide +kernel
theorem dX12_drive_53 : decode cX12_drive 53 = .ok (.ldc 70, 2) := by decide +kernel
theorem dX12_drive_55 : decode cX12_drive 55 = .ok (.invokevirtual 71, 3) := by decide +kernel
theorem dX12_drive_58 : decode cX12_drive 58 = .ok (.ireturn, 1) := by decide +kernel
theorem dX12_drive_59 : decode cX12_drive 59 = .ok (.iload 4, 2) := by decide +kernel
theorem dX12_drive_61 : decode cX12_drive 61 = .ok (.ifCond .ne 10, 3) := by decide +kernel
theorem dX12_drive_64 : decode cX12_drive 64 = .ok (.aload_n 0, 1) := by decide +kernel
theorem dX12_drive_65 : decode cX12_drive 65 = .ok (.getfield 127, 3) := by decide +kernel
theorem dX12_drive_68 : decode cX12_drive 68 = .ok (.goto 61, 3) := by decide +kernel
theorem dX12_drive_71 : decode cX12_drive 71 = .ok (.iload 4, 2) := by decide +kernel
theorem dX12_drive_73 : decode cX12_drive 73 = .ok (.iconst 1, 1) := by decide +kernel
theorem dX12_drive_74 : decode cX12_drive 74 = .ok (.if_icmp .ne 10, 3) := by decide +kernel
theorem dX12_drive_77 : decode cX12_drive 77 = .ok (.aload_n 0, 1) := by decide +kernel
theorem dX12_drive_78 : decode cX12_drive 78 = .ok (.getfield 118, 3) := by decide +kernel
theorem dX12_drive_81 : decode cX12_drive 81 = .ok (.goto 48, 3) := by decide +kernel
theorem dX12_drive_84 : decode cX12_drive 84 = .ok (.iload 4, 2) := by decide +kernel
theorem dX12_drive_86 : decode cX12_drive 86 = .ok (.iconst 2, 1) := by decide +kernel
theorem dX12_drive_87 : decode cX12_drive 87 = .ok (.if_icmp .ne 10, 3) := by decide +kernel
theorem dX12_drive_90 : decode cX12_drive 90 = .ok (.aload_n 0, 1) := by decide +kernel
theorem dX12_drive_91 : decode cX12_drive 91 = .ok (.getfield 121, 3) := by decide +kernel
theorem dX12_drive_94 : decode cX12_drive 94 = .ok (.goto 35, 3) := by decide +kernel
theorem dX12_drive_97 : decode cX12_drive 97 = .ok (.iload 4, 2) := by decide +kernel
theorem dX12_drive_99 : decode cX12_drive 99 = .ok (.iconst 3, 1) := by decide +kernel
theorem dX12_drive_100 : decode cX12_drive 100 = .ok (.if_icmp .ne 10, 3) := by decide +kernel
theorem dX12_drive_103 : decode cX12_drive 103 = .ok (.aload_n 0, 1) := by decide +kernel
theorem dX12_drive_104 : decode cX12_drive 104 = .ok (.getfield 130, 3) := by decide +kernel
theorem dX12_drive_107 : decode cX12_drive 107 = .ok (.goto 22, 3) := by decide +kernel
theorem dX12_drive_110 : decode cX12_drive 110 = .ok (.iload 4, 2) := by decide +kernel
theorem dX12_drive_112 : decode cX12_drive 112 = .ok (.iconst 4, 1) := by decide +kernel
theorem dX12_drive_113 : decode cX12_drive 113 = .ok (.if_icmp .ne 12, 3) := by decide +kernel
theorem dX12_drive_116 : decode cX12_drive 116 = .ok (.aload_n 0, 1) := by decide +kernel
theorem dX12_drive_117 : decode cX12_drive 117 = .ok (.iload_n 2, 1) := by decide +kernel
theorem dX12_drive_118 : decode cX12_drive 118 = .ok (.iload_n 3, 1) := by decide +kernel
theorem dX12_drive_119 : decode cX12_drive 119 = .ok (.invokevirtual 156, 3) := by decide +kernel
theorem dX12_drive_122 : decode cX12_drive 122 = .ok (.goto 7, 3) := by decide +kernel
theorem dX12_drive_125 : decode cX12_drive 125 = .ok (.aload_n 0, 1) := by decide +kernel
theorem dX12_drive_126 : decode cX12_drive 126 = .ok (.getfield 133, 3) := by decide +kernel
theorem dX12_drive_129 : decode cX12_drive 129 = .ok (.ireturn, 1) := by decide +kernel
theorem dX12_setOf_0 : decode cX12_setOf 0 = .ok (.iload_n 0, 1) := by decide +kernel
theorem dX12_setOf_1 : decode cX12_setOf 1 = .ok (.bipush 9, 2) := by decide +kernel
theorem dX12_setOf_3 : decode cX12_setOf 3 = .ok (.idiv, 1) := by decide +kernel
theorem dX12_setOf_4 : decode cX12_setOf 4 = .ok (.ifCond .le 14, 3) := by decide +kernel
theorem dX12_setOf_7 : decode cX12_setOf 7 = .ok (.iconst 1, 1) := by decide +kernel
theorem dX12_setOf_8 : decode cX12_setOf 8 = .ok (.iload_n 0, 1) := by decide +kernel
theorem dX12_setOf_9 : decode cX12_setOf 9 = .ok (.bipush 9, 2) := by decide +kernel
theorem dX12_setOf_11 : decode cX12_setOf 11 = .ok (.idiv, 1) := by decide +kernel
theorem dX12_setOf_12 : decode cX12_setOf 12 = .ok (.iconst 1, 1) := by decide +kernel
theorem dX12_setOf_13 : decode cX12_setOf 13 = .ok (.isub, 1) := by decide +kernel
theorem dX12_setOf_14 : decode cX12_setOf 14 = .ok (.ishl, 1) := by decide +kernel
theorem dX12_setOf_15 : decode cX12_setOf 15 = .ok (.goto 4, 3) := by decide +kernel
theorem dX12_setOf_18 : decode cX12_setOf 18 = .ok (.iconst 0, 1) := by decide +kernel
theorem dX12_setOf_19 : decode cX12_setOf 19 = .ok (.iload_n 0, 1) := by decide +kernel
theorem dX12_setOf_20 : decode cX12_setOf 20 = .ok (.bipush 9, 2) := by decide +kernel
theorem dX12_setOf_22 : decode cX12_setOf 22 = .ok (.irem, 1) := by decide +kernel
theorem dX12_setOf_23 : decode cX12_setOf 23 = .ok (.ifCond .le 14, 3) := by decide +kernel
theorem dX12_setOf_26 : decode cX12_setOf 26 = .ok (.iconst 1, 1) := by decide +kernel
theorem dX12_setOf_27 : decode cX12_setOf 27 = .ok (.iload_n 0, 1) := by decide +kernel
theorem dX12_setOf_28 : decode cX12_setOf 28 = .ok (.bipush 9, 2) := by decide +kernel
theorem dX12_setOf_30 : decode cX12_setOf 30 = .ok (.irem, 1) := by decide +kernel
theorem dX12_setOf_31 : decode cX12_setOf 31 = .ok (.iconst 1, 1) := by decide +kernel
theorem dX12_setOf_32 : decode cX12_setOf 32 = .ok (.isub, 1) := by decide +kernel
theorem dX12_setOf_33 : decode cX12_setOf 33 = .ok (.ishl, 1) := by decide +kernel
theorem dX12_setOf_34 : decode cX12_setOf 34 = .ok (.goto 4, 3) := by decide +kernel
theorem dX12_setOf_37 : decode cX12_setOf 37 = .ok (.iconst 0, 1) := by decide +kernel
theorem dX12_setOf_38 : decode cX12_setOf 38 = .ok (.ior, 1) := by decide +kernel
theorem dX12_setOf_39 : decode cX12_setOf 39 = .ok (.ireturn, 1) := by decide +kernel
theorem dX12_findRows_0 : decode cX12_findRows 0 = .ok (.aload_n 0, 1) := by decide +kernel
theorem dX12_findRows_1 : decode cX12_findRows 1 = .ok (.invokevirtual 90, 3) := by decide +kernel
theorem dX12_findRows_4 : decode cX12_findRows 4 = .ok (.iconst 0, 1) := by decide +kernel
theorem dX12_findRows_5 : decode cX12_findRows 5 = .ok (.istore_n 1, 1) := by decide +kernel
theorem dX12_findRows_6 : decode cX12_findRows 6 = .ok (.iload_n 1, 1) := by decide +kernel
theorem dX12_findRows_7 : decode cX12_findRows 7 = .ok (.aload_n 0, 1) := by decide +kernel
theorem dX12_findRows_8 : decode cX12_findRows 8 = .ok (.getfield 9, 3) := by decide +kernel
theorem dX12_findRows_11 : decode cX12_findRows 11 = .ok (.bipush 64, 2) := by decide +kernel
theorem dX12_findRows_13 : decode cX12_findRows 13 = .ok (.iaload, 1) := by decide +kernel
theorem dX12_findRows_14 : decode cX12_findRows 14 = .ok (.if_icmp .ge 183, 3) := by decide +kernel
theorem dX12_findRows_17 : decode cX12_findRows 17 = .ok (.iconst 0, 1) := by decide +kernel
theorem dX12_findRows_18 : decode cX12_findRows 18 = .ok (.istore_n 2, 1) := by decide +kernel
theorem dX12_findRows_19 : decode cX12_findRows 19 = .ok (.iload_n 2, 1) := by decide +kernel
theorem dX12_findRows_20 : decode cX12_findRows 20 = .ok (.bipush 81, 2) := by decide +kernel
theorem dX12_findRows_22 : decode cX12_findRows 22 = .ok (.if_icmp .ge 169, 3) := by decide +kernel
theorem dX12_findRows_25 : decode cX12_findRows 25 = .ok (.iload_n 2, 1) := by decide +kernel
theorem dX12_findRows_26 : decode cX12_findRows 26 = .ok (.bipush 9, 2) := by decide +kernel
theorem dX12_findRows_28 : decode cX12_findRows 28 = .ok (.idiv, 1) := by decide +kernel
theorem dX12_findRows_29 : decode cX12_findRows 29 = .ok (.iconst 1, 1) := by decide +kernel
theorem dX12_findRows_30 : decode cX12_findRows 30 = .ok (.isub, 1) := by decide +kernel
theorem dX12_findRows_31 : decode cX12_findRows 31 = .ok (.istore_n 3, 1) := by decide +kernel
theorem dX12_findRows_32 : decode cX12_findRows 32 = .ok (.iload_n 2, 1) := by decide +kernel
theorem dX12_findRows_33 : decode cX12_findRows 33 = .ok (.bipush 9, 2) := by decide +kernel
theorem dX12_findRows_35 : decode cX12_findRows 35 = .ok (.irem, 1) := by decide +kernel
theorem dX12_findRows_36 : decode cX12_findRows 36 = .ok (.iconst 1, 1) := by decide +kernel
theorem dX12_findRows_37 : decode cX12_findRows 37 = .ok (.isub, 1) := by decide +kernel
theorem dX12_findRows_38 : decode cX12_findRows 38 = .ok (.istore 4, 2) := by decide +kernel
theorem dX12_findRows_40 : decode cX12_findRows 40 = .ok (.bipush 81, 2) := by decide +kernel
theorem dX12_findRows_42 : decode cX12_findRows 42 = .ok (.iload_n 1, 1) := by decide +kernel
theorem dX12_findRows_43 : decode cX12_findRows 43 = .ok (.imul, 1) := by decide +kernel
theorem dX12_findRows_44 : decode cX12_findRows 44 = .ok (.iload_n 2, 1) := by decide +kernel
theorem dX12_findRows_45 : decode cX12_findRows 45 = .ok (.iadd, 1) := by decide +kernel
theorem dX12_findRows_46 : decode cX12_findRows 46 = .ok (.istore 5, 2) := by decide +kernel
theorem dX12_findRows_48 : decode cX12_findRows 48 = .ok (.iload_n 3, 1) := by decide +kernel
theorem dX12_findRows_49 : decode cX12_findRows 49 = .ok (.ifCond .ge 8, 3) := by decide +kernel
theorem dX12_findRows_52 : decode cX12_findRows 52 = .ok (.iload 4, 2) := by decide +kernel
theorem dX12_findRows_54 : decode cX12_findRows 54 = .ok (.ifCond .ge 41, 3) := by decide +kernel
theorem dX12_findRows_57 : decode cX12_findRows 57 = .ok (.iload_n 3, 1) := by decide +kernel
theorem dX12_findRows_58 : decode cX12_findRows 58 = .ok (.aload_n 0, 1) := by decide +kernel
theorem dX12_findRows_59 : decode cX12_findRows 59 = .ok (.getfield 9, 3) := by decide +kernel
theorem dX12_findRows_62 : decode cX12_findRows 62 = .ok (.bipush 65, 2) := by decide +kernel
theorem dX12_findRows_64 : decode cX12_findRows 64 = .ok (.iaload, 1) := by decide +kernel
theorem dX12_findRows_65 : decode cX12_findRows 65 = .ok (.if_icmp .ge 30, 3) := by decide +kernel
theorem dX12_findRows_68 : decode cX12_findRows 68 = .ok (.iload 4, 2) := by decide +kernel
theorem dX12_findRows_70 : decode cX12_findRows 70 = .ok (.aload_n 0, 1) := by decide +kernel
theorem dX12_findRows_71 : decode cX12_findRows 71 = .ok (.getfield 9, 3) := by decide +kernel
theorem dX12_findRows_74 : decode cX12_findRows 74 = .ok (.bipush 65, 2) := by decide +kernel
theorem dX12_findRows_76 : decode cX12_findRows 76 = .ok (.iaload, 1) := by decide +kernel
theorem dX12_findRows_77 : decode cX12_findRows 77 = .ok (.if_icmp .ge 18, 3) := by decide +kernel
theorem dX12_findRows_80 : decode cX12_findRows 80 = .ok (.aload_n 0, 1) := by decide +kernel
theorem dX12_findRows_81 : decode cX12_findRows 81 = .ok (.iload_n 1, 1) := by decide +kernel
theorem dX12_findRows_82 : decode cX12_findRows 82 = .ok (.iload_n 3, 1) := by decide +kernel
theorem dX12_findRows_83 : decode cX12_findRows 83 = .ok (.iload 4, 2) := by decide +kernel
theorem dX12_findRows_85 : decode cX12_findRows 85 = .ok (.invokevirtual 149, 3) := by decide +kernel
theorem dX12_findRows_88 : decode cX12_findRows 88 = .ok (.ifCond .ne 7, 3) := by decide +kernel
theorem dX12_findRows_91 : decode cX12_findRows 91 = .ok (.iconst 1, 1) := by decide +kernel
theorem dX12_findRows_92 : decode cX12_findRows 92 = .ok (.goto 4, 3) := by decide +kernel
theorem dX12_findRows_95 : decode cX12_findRows 95 = .ok (.iconst 0, 1) := by decide +kernel
theorem dX12_findRows_96 : decode cX12_findRows 96 = .ok (.istore 6, 2) := by decide +kernel
theorem dX12_findRows_98 : decode cX12_findRows 98 = .ok (.iload 6, 2) := by decide +kernel
theorem dX12_findRows_100 : decode cX12_findRows 100 = .ok (.ifCond .eq 18, 3) := by decide +kernel
theorem dX12_findRows_103 : decode cX12_findRows 103 = .ok (.aload_n 0, 1) := by decide +kernel
theorem dX12_findRows_104 : decode cX12_findRows 104 = .ok (.iload_n 1, 1) := by decide +kernel
theorem dX12_findRows_105 : decode cX12_findRows 105 = .ok (.iload_n 3, 1) := by decide +kernel
theorem dX12_findRows_106 : decode cX12_findRows 106 = .ok (.iload 4, 2) := by decide +kernel
theorem dX12_findRows_108 : decode cX12_findRows 108 = .ok (.invokevirtual 153, 3) := by decide +kernel
theorem dX12_findRows_111 : decode cX12_findRows 111 = .ok (.ifCond .ne 7, 3) := by decide +kernel
theorem dX12_findRows_114 : decode cX12_findRows 114 = .ok (.iconst 1, 1) := by decide +kernel
theorem dX12_findRows_115 : decode cX12_findRows 115 = .ok (.goto 4, 3) := by decide +kernel
theorem dX12_findRows_118 : decode cX12_findRows 118 = .ok (.iconst 0, 1) := by decide +kernel
theorem dX12_findRows_119 : decode cX12_findRows 119 = .ok (.istore 7, 2) := by decide +kernel
theorem dX12_findRows_121 : decode cX12_findRows 121 = .ok (.aload_n 0, 1) := by decide +kernel
theorem dX12_findRows_122 : decode cX12_findRows 122 = .ok (.getfield 28, 3) := by decide +kernel
theorem dX12_findRows_125 : decode cX12_findRows 125 = .ok (.iload 5, 2) := by decide +kernel
theorem dX12_findRows_127 : decode cX12_findRows 127 = .ok (.iload 7, 2) := by decide +kernel
theorem dX12_findRows_129 : decode cX12_findRows 129 = .ok (.ifCond .ne 7, 3) := by decide +kernel
theorem dX12_findRows_132 : decode cX12_findRows 132 = .ok (.iload_n 2, 1) := by decide +kernel
theorem dX12_findRows_133 : decode cX12_findRows 133 = .ok (.ifCond .ne 7, 3) := by decide +kernel
theorem dX12_findRows_136 : decode cX12_findRows 136 = .ok (.iconst 1, 1) := by decide +kernel
theorem dX12_findRows_137 : decode cX12_findRows 137 = .ok (.goto 4, 3) := by decide +kernel
theorem dX12_findRows_140 : decode cX12_findRows 140 = .ok (.iconst 0, 1) := by decide +kernel
theorem dX12_findRows_141 : decode cX12_findRows 141 = .ok (.bastore, 1) := by decide +kernel
theorem dX12_findRows_142 : decode cX12_findRows 142 = .ok (.aload_n 0, 1) := by decide +kernel
theorem dX12_findRows_143 : decode cX12_findRows 143 = .ok (.getfield 32, 3) := by decide +kernel
theorem dX12_findRows_146 : decode cX12_findRows 146 = .ok (.iload 5, 2) := by decide +kernel
theorem dX12_findRows_148 : decode cX12_findRows 148 = .ok (.iload 7, 2) := by decide +kernel
theorem dX12_findRows_150 : decode cX12_findRows 150 = .ok (.ifCond .eq 13, 3) := by decide +kernel
theorem dX12_findRows_153 : decode cX12_findRows 153 = .ok (.aload_n 0, 1) := by decide +kernel
theorem dX12_findRows_154 : decode cX12_findRows 154 = .ok (.iload_n 3, 1) := by decide +kernel
theorem dX12_findRows_155 : decode cX12_findRows 155 = .ok (.iload 4, 2) := by decide +kernel
theorem dX12_findRows_157 : decode cX12_findRows 157 = .ok (.invokevirtual 156, 3) := by decide +kernel
theorem dX12_findRows_160 : decode cX12_findRows 160 = .ok (.goto 4, 3) := by decide +kernel
theorem dX12_findRows_163 : decode cX12_findRows 163 = .ok (.iconst 0, 1) := by decide +kernel
theorem dX12_findRows_164 : decode cX12_findRows 164 = .ok (.iastore, 1) := by decide +kernel
theorem dX12_findRows_165 : decode cX12_findRows 165 = .ok (.aload_n 0, 1) := by decide +kernel
theorem dX12_findRows_166 : decode cX12_findRows 166 = .ok (.getfield 35, 3) := by decide +kernel
theorem dX12_findRows_169 : decode cX12_findRows 169 = .ok (.iload 5, 2) := by decide +kernel
theorem dX12_findRows_171 : decode cX12_findRows 171 = .ok (.iload 7, 2) := by decide +kernel
theorem dX12_findRows_173 : decode cX12_findRows 173 = .ok (.ifCond .eq 10, 3) := by decide +kernel
theorem dX12_findRows_176 : decode cX12_findRows 176 = .ok (.aload_n 0, 1) := by decide +kernel
theorem dX12_findRows_177 : decode cX12_findRows 177 = .ok (.getfield 121, 3) := by decide +kernel
theorem dX12_findRows_180 : decode cX12_findRows 180 = .ok (.goto 4, 3) := by decide +kernel
theorem dX12_findRows_183 : decode cX12_findRows 183 = .ok (.iconst 0, 1) := by decide +kernel
theorem dX12_findRows_184 : decode cX12_findRows 184 = .ok (.iastore, 1) := by decide +kernel
theorem dX12_findRows_185 : decode cX12_findRows 185 = .ok (.iinc 2 1, 3) := by decide +kernel
theorem dX12_findRows_188 : decode cX12_findRows 188 = .ok (.goto (-169), 3) := by decide +kernel
theorem dX12_findRows_191 : decode cX12_findRows 191 = .ok (.iinc 1 1, 3) := by decide +kernel
theorem dX12_findRows_194 : decode cX12_findRows 194 = .ok (.goto (-188), 3) := by decide +kernel
theorem dX12_findRows_197 : decode cX12_findRows 197 = .ok (.return_, 1) := by decide +kernel
theorem dX12_given_0 : decode cX12_given 0 = .ok (.iconst 0, 1) := by decide +kernel
theorem dX12_given_1 : decode cX12_given 1 = .ok (.istore_n 1, 1) := by decide +kernel
theorem dX12_given_2 : decode cX12_given 2 = .ok (.iconst 0, 1) := by decide +kernel
theorem dX12_given_3 : decode cX12_given 3 = .ok (.istore_n 2, 1) := by decide +kernel
theorem dX12_given_4 : decode cX12_given 4 = .ok (.iload_n 2, 1) := by decide +kernel
theorem dX12_given_5 : decode cX12_given 5 = .ok (.aload_n 0, 1) := by decide +kernel
theorem dX12_given_6 : decode cX12_given 6 = .ok (.getfield 9, 3) := by decide +kernel
theorem dX12_given_9 : decode cX12_given 9 = .ok (.bipush 65, 2) := by decide +kernel
theorem dX12_given_11 : decode cX12_given 11 = .ok (.iaload, 1) := by decide +kernel
theorem dX12_given_12 : decode cX12_given 12 = .ok (.if_icmp .ge 33, 3) := by decide +kernel
theorem dX12_given_15 : decode cX12_given 15 = .ok (.iload_n 1, 1) := by decide +kernel
theorem dX12_given_16 : decode cX12_given 16 = .ok (.aload_n 0, 1) := by decide +kernel
theorem dX12_given_17 : decode cX12_given 17 = .ok (.getfield 9, 3) := by decide +kernel
theorem dX12_given_20 : decode cX12_given 20 = .ok (.iload_n 2, 1) := by decide +kernel
theorem dX12_given_21 : decode cX12_given 21 = .ok (.bipush 10, 2) := by decide +kernel
theorem dX12_given_23 : decode cX12_given 23 = .ok (.invokestatic 105, 3) := by decide +kernel
theorem dX12_given_26 : decode cX12_given 26 = .ok (.iaload, 1) := by decide +kernel
theorem dX12_given_27 : decode cX12_given 27 = .ok (.ifCond .lt 9, 3) := by decide +kernel
theorem dX12_given_30 : decode cX12_given 30 = .ok (.iconst 1, 1) := by decide +kernel
theorem dX12_given_31 : decode cX12_given 31 = .ok (.iload_n 2, 1) := by decide +kernel
theorem dX12_given_32 : decode cX12_given 32 = .ok (.ishl, 1) := by decide +kernel
theorem dX12_given_33 : decode cX12_given 33 = .ok (.goto 4, 3) := by decide +kernel
theorem dX12_given_36 : decode cX12_given 36 = .ok (.iconst 0, 1) := by decide +kernel
theorem dX12_given_37 : decode cX12_given 37 = .ok (.ior, 1) := by decide +kernel
theorem dX12_given_38 : decode cX12_given 38 = .ok (.istore_n 1, 1) := by decide +kernel
theorem dX12_given_39 : decode cX12_given 39 = .ok (.iinc 2 1, 3) := by decide +kernel
theorem dX12_given_42 : decode cX12_given 42 = .ok (.goto (-38), 3) := by decide +kernel
theorem dX12_given_45 : decode cX12_given 45 = .ok (.iload_n 1, 1) := by decide +kernel
theorem dX12_given_46 : decode cX12_given 46 = .ok (.ireturn, 1) := by decide +kernel
theorem dX12_with_0 : decode cX12_with 0 = .ok (.aload_n 0, 1) := by decide +kernel
theorem dX12_with_1 : decode cX12_with 1 = .ok (.getfield 32, 3) := by decide +kernel
theorem dX12_with_4 : decode cX12_with 4 = .ok (.bipush 81, 2) := by decide +kernel
theorem dX12_with_6 : decode cX12_with 6 = .ok (.iload_n 1, 1) := by decide +kernel
theorem dX12_with_7 : decode cX12_with 7 = .ok (.imul, 1) := by decide +kernel
theorem dX12_with_8 : decode cX12_with 8 = .ok (.iload_n 2, 1) := by decide +kernel
theorem dX12_with_9 : decode cX12_with 9 = .ok (.iadd, 1) := by decide +kernel
theorem dX12_with_10 : decode cX12_with 10 = .ok (.iaload, 1) := by decide +kernel
theorem dX12_with_11 : decode cX12_with 11 = .ok (.aload_n 0, 1) := by decide +kernel
theorem dX12_with_12 : decode cX12_with 12 = .ok (.getfield 38, 3) := by decide +kernel
theorem dX12_with_15 : decode cX12_with 15 = .ok (.sipush 256, 3) := by decide +kernel
theorem dX12_with_18 : decode cX12_with 18 = .ok (.iload_n 1, 1) := by decide +kernel
theorem dX12_with_19 : decode cX12_with 19 = .ok (.iconst 1, 1) := by decide +kernel
theorem dX12_with_20 : decode cX12_with 20 = .ok (.iadd, 1) := by decide +kernel
theorem dX12_with_21 : decode cX12_with 21 = .ok (.imul, 1) := by decide +kernel
theorem dX12_with_22 : decode cX12_with 22 = .ok (.iload_n 3, 1) := by decide +kernel
theorem dX12_with_23 : decode cX12_with 23 = .ok (.iload_n 2, 1) := by decide +kernel
theorem dX12_with_24 : decode cX12_with 24 = .ok (.invokestatic 159, 3) := by decide +kernel
theorem dX12_with_27 : decode cX12_with 27 = .ok (.ior, 1) := by decide +kernel
theorem dX12_with_28 : decode cX12_with 28 = .ok (.iadd, 1) := by decide +kernel
theorem dX12_with_29 : decode cX12_with 29 = .ok (.iaload, 1) := by decide +kernel
theorem dX12_with_30 : decode cX12_with 30 = .ok (.iadd, 1) := by decide +kernel
theorem dX12_with_31 : decode cX12_with 31 = .ok (.ireturn, 1) := by decide +kernel
theorem dX12_isOpen_0 : decode cX12_isOpen 0 = .ok (.aload_n 0, 1) := by decide +kernel
theorem dX12_isOpen_1 : decode cX12_isOpen 1 = .ok (.getfield 28, 3) := by decide +kernel
theorem dX12_isOpen_4 : decode cX12_isOpen 4 = .ok (.bipush 81, 2) := by decide +kernel
theorem dX12_isOpen_6 : decode cX12_isOpen 6 = .ok (.iload_n 1, 1) := by decide +kernel
theorem dX12_isOpen_7 : decode cX12_isOpen 7 = .ok (.imul, 1) := by decide +kernel
theorem dX12_isOpen_8 : decode cX12_isOpen 8 = .ok (.iload_n 2, 1) := by decide +kernel
theorem dX12_isOpen_9 : decode cX12_isOpen 9 = .ok (.iadd, 1) := by decide +kernel
theorem dX12_isOpen_10 : decode cX12_isOpen 10 = .ok (.baload, 1) := by decide +kernel
theorem dX12_isOpen_11 : decode cX12_isOpen 11 = .ok (.ifCond .eq 16, 3) := by decide +kernel
theorem dX12_isOpen_14 : decode cX12_isOpen 14 = .ok (.iload_n 2, 1) := by decide +kernel
theorem dX12_isOpen_15 : decode cX12_isOpen 15 = .ok (.invokestatic 159, 3) := by decide +kernel
theorem dX12_isOpen_18 : decode cX12_isOpen 18 = .ok (.iload_n 3, 1) := by decide +kernel
theorem dX12_isOpen_19 : decode cX12_isOpen 19 = .ok (.iand, 1) := by decide +kernel
theorem dX12_isOpen_20 : decode cX12_isOpen 20 = .ok (.ifCond .ne 7, 3) := by decide +kernel
theorem dX12_isOpen_23 : decode cX12_isOpen 23 = .ok (.iconst 1, 1) := by decide +kernel
theorem dX12_isOpen_24 : decode cX12_isOpen 24 = .ok (.goto 4, 3) := by decide +kernel
theorem dX12_isOpen_27 : decode cX12_isOpen 27 = .ok (.iconst 0, 1) := by decide +kernel
theorem dX12_isOpen_28 : decode cX12_isOpen 28 = .ok (.ireturn, 1) := by decide +kernel
theorem dX12_findGiving_0 : decode cX12_findGiving 0 = .ok (.aload_n 0, 1) := by decide +kernel
theorem dX12_findGiving_1 : decode cX12_findGiving 1 = .ok (.getfield 9, 3) := by decide +kernel
theorem dX12_findGiving_4 : decode cX12_findGiving 4 = .ok (.bipush 64, 2) := by decide +kernel
theorem dX12_findGiving_6 : decode cX12_findGiving 6 = .ok (.iaload, 1) := by decide +kernel
theorem dX12_findGiving_7 : decode cX12_findGiving 7 = .ok (.istore_n 2, 1) := by decide +kernel
theorem dX12_findGiving_8 : decode cX12_findGiving 8 = .ok (.iconst 0, 1) := by decide +kernel
theorem dX12_findGiving_9 : decode cX12_findGiving 9 = .ok (.istore_n 3, 1) := by decide +kernel
theorem dX12_findGiving_10 : decode cX12_findGiving 10 = .ok (.iload_n 3, 1) := by decide +kernel
theorem dX12_findGiving_11 : decode cX12_findGiving 11 = .ok (.sipush 256, 3) := by decide +kernel
theorem dX12_findGiving_14 : decode cX12_findGiving 14 = .ok (.if_icmp .ge 22, 3) := by decide +kernel
theorem dX12_findGiving_17 : decode cX12_findGiving 17 = .ok (.aload_n 0, 1) := by decide +kernel
theorem dX12_findGiving_18 : decode cX12_findGiving 18 = .ok (.getfield 38, 3) := by decide +kernel
theorem dX12_findGiving_21 : decode cX12_findGiving 21 = .ok (.sipush 256, 3) := by decide +kernel
theorem dX12_findGiving_24 : decode cX12_findGiving 24 = .ok (.iload_n 2, 1) := by decide +kernel
theorem dX12_findGiving_25 : decode cX12_findGiving 25 = .ok (.imul, 1) := by decide +kernel
theorem dX12_findGiving_26 : decode cX12_findGiving 26 = .ok (.iload_n 3, 1) := by decide +kernel
theorem dX12_findGiving_27 : decode cX12_findGiving 27 = .ok (.iadd, 1) := by decide +kernel
theorem dX12_findGiving_28 : decode cX12_findGiving 28 = .ok (.iconst 0, 1) := by decide +kernel
theorem dX12_findGiving_29 : decode cX12_findGiving 29 = .ok (.iastore, 1) := by decide +kernel
theorem dX12_findGiving_30 : decode cX12_findGiving 30 = .ok (.iinc 3 1, 3) := by decide +kernel
theorem dX12_findGiving_33 : decode cX12_findGiving 33 = .ok (.goto (-23), 3) := by decide +kernel
theorem dX12_findGiving_36 : decode cX12_findGiving 36 = .ok (.iload_n 2, 1) := by decide +kernel
theorem dX12_findGiving_37 : decode cX12_findGiving 37 = .ok (.iconst 1, 1) := by decide +kernel
theorem dX12_findGiving_38 : decode cX12_findGiving 38 = .ok (.isub, 1) := by decide +kernel
theorem dX12_findGiving_39 : decode cX12_findGiving 39 = .ok (.istore_n 3, 1) := by decide +kernel
theorem dX12_findGiving_40 : decode cX12_findGiving 40 = .ok (.iload_n 3, 1) := by decide +kernel
theorem dX12_findGiving_41 : decode cX12_findGiving 41 = .ok (.ifCond .lt 100, 3) := by decide +kernel
theorem dX12_findGiving_44 : decode cX12_findGiving 44 = .ok (.iconst 0, 1) := by decide +kernel
theorem dX12_findGiving_45 : decode cX12_findGiving 45 = .ok (.istore 4, 2) := by decide +kernel
theorem dX12_findGiving_47 : decode cX12_findGiving 47 = .ok (.iload 4, 2) := by decide +kernel
theorem dX12_findGiving_49 : decode cX12_findGiving 49 = .ok (.sipush 256, 3) := by decide +kernel
theorem dX12_findGiving_52 : decode cX12_findGiving 52 = .ok (.if_icmp .ge 83, 3) := by decide +kernel
theorem dX12_findGiving_55 : decode cX12_findGiving 55 = .ok (.aload_n 0, 1) := by decide +kernel
theorem dX12_findGiving_56 : decode cX12_findGiving 56 = .ok (.iload_n 3, 1) := by decide +kernel
theorem dX12_findGiving_57 : decode cX12_findGiving 57 = .ok (.iconst 0, 1) := by decide +kernel
theorem dX12_findGiving_58 : decode cX12_findGiving 58 = .ok (.iload 4, 2) := by decide +kernel
theorem dX12_findGiving_60 : decode cX12_findGiving 60 = .ok (.invokevirtual 162, 3) := by decide +kernel
theorem dX12_findGiving_63 : decode cX12_findGiving 63 = .ok (.istore 5, 2) := by decide +kernel
theorem dX12_findGiving_65 : decode cX12_findGiving 65 = .ok (.iconst 1, 1) := by decide +kernel
theorem dX12_findGiving_66 : decode cX12_findGiving 66 = .ok (.istore 6, 2) := by decide +kernel
theorem dX12_findGiving_68 : decode cX12_findGiving 68 = .ok (.iload 6, 2) := by decide +kernel
theorem dX12_findGiving_70 : decode cX12_findGiving 70 = .ok (.bipush 81, 2) := by decide +kernel
theorem dX12_findGiving_72 : decode cX12_findGiving 72 = .ok (.if_icmp .ge 42, 3) := by decide +kernel
theorem dX12_findGiving_75 : decode cX12_findGiving 75 = .ok (.aload_n 0, 1) := by decide +kernel
theorem dX12_findGiving_76 : decode cX12_findGiving 76 = .ok (.iload_n 3, 1) := by decide +kernel
theorem dX12_findGiving_77 : decode cX12_findGiving 77 = .ok (.iload 6, 2) := by decide +kernel
theorem dX12_findGiving_79 : decode cX12_findGiving 79 = .ok (.iload 4, 2) := by decide +kernel
theorem dX12_findGiving_81 : decode cX12_findGiving 81 = .ok (.invokevirtual 165, 3) := by decide +kernel
theorem dX12_findGiving_84 : decode cX12_findGiving 84 = .ok (.ifCond .eq 20, 3) := by decide +kernel
theorem dX12_findGiving_87 : decode cX12_findGiving 87 = .ok (.iload 5, 2) := by decide +kernel
theorem dX12_findGiving_89 : decode cX12_findGiving 89 = .ok (.aload_n 0, 1) := by decide +kernel
theorem dX12_findGiving_90 : decode cX12_findGiving 90 = .ok (.iload_n 3, 1) := by decide +kernel
theorem dX12_findGiving_91 : decode cX12_findGiving 91 = .ok (.iload 6, 2) := by decide +kernel
theorem dX12_findGiving_93 : decode cX12_findGiving 93 = .ok (.iload 4, 2) := by decide +kernel
theorem dX12_findGiving_95 : decode cX12_findGiving 95 = .ok (.invokevirtual 162, 3) := by decide +kernel
theorem dX12_findGiving_98 : decode cX12_findGiving 98 = .ok (.invokestatic 168, 3) := by decide +kernel
theorem dX12_findGiving_101 : decode cX12_findGiving 101 = .ok (.goto 5, 3) := by decide +kernel
theorem dX12_findGiving_104 : decode cX12_findGiving 104 = .ok (.iload 5, 2) := by decide +kernel
theorem dX12_findGiving_106 : decode cX12_findGiving 106 = .ok (.istore 5, 2) := by decide +kernel
theorem dX12_findGiving_108 : decode cX12_findGiving 108 = .ok (.iinc 6 1, 3) := by decide +kernel
theorem dX12_findGiving_111 : decode cX12_findGiving 111 = .ok (.goto (-43), 3) := by decide +kernel
theorem dX12_findGiving_114 : decode cX12_findGiving 114 = .ok (.aload_n 0, 1) := by decide +kernel
theorem dX12_findGiving_115 : decode cX12_findGiving 115 = .ok (.getfield 38, 3) := by decide +kernel
theorem dX12_findGiving_118 : decode cX12_findGiving 118 = .ok (.sipush 256, 3) := by decide +kernel
theorem dX12_findGiving_121 : decode cX12_findGiving 121 = .ok (.iload_n 3, 1) := by decide +kernel
theorem dX12_findGiving_122 : decode cX12_findGiving 122 = .ok (.imul, 1) := by decide +kernel
theorem dX12_findGiving_123 : decode cX12_findGiving 123 = .ok (.iload 4, 2) := by decide +kernel
theorem dX12_findGiving_125 : decode cX12_findGiving 125 = .ok (.iadd, 1) := by decide +kernel
theorem dX12_findGiving_126 : decode cX12_findGiving 126 = .ok (.iload 5, 2) := by decide +kernel
theorem dX12_findGiving_128 : decode cX12_findGiving 128 = .ok (.iastore, 1) := by decide +kernel
theorem dX12_findGiving_129 : decode cX12_findGiving 129 = .ok (.iinc 4 1, 3) := by decide +kernel
theorem dX12_findGiving_132 : decode cX12_findGiving 132 = .ok (.goto (-85), 3) := by decide +kernel
theorem dX12_findGiving_135 : decode cX12_findGiving 135 = .ok (.iinc 3 (-1), 3) := by decide +kernel
theorem dX12_findGiving_138 : decode cX12_findGiving 138 = .ok (.goto (-98), 3) := by decide +kernel
theorem dX12_findGiving_141 : decode cX12_findGiving 141 = .ok (.iload_n 1, 1) := by decide +kernel
theorem dX12_findGiving_142 : decode cX12_findGiving 142 = .ok (.istore_n 3, 1) := by decide +kernel
theorem dX12_findGiving_143 : decode cX12_findGiving 143 = .ok (.iconst 0, 1) := by decide +kernel
theorem dX12_findGiving_144 : decode cX12_findGiving 144 = .ok (.istore 4, 2) := by decide +kernel
theorem dX12_findGiving_146 : decode cX12_findGiving 146 = .ok (.iload 4, 2) := by decide +kernel
theorem dX12_findGiving_148 : decode cX12_findGiving 148 = .ok (.iload_n 2, 1) := by decide +kernel
theorem dX12_findGiving_149 : decode cX12_findGiving 149 = .ok (.if_icmp .ge 72, 3) := by decide +kernel
theorem dX12_findGiving_152 : decode cX12_findGiving 152 = .ok (.iconst 0, 1) := by decide +kernel
theorem dX12_findGiving_153 : decode cX12_findGiving 153 = .ok (.istore 5, 2) := by decide +kernel
theorem dX12_findGiving_155 : decode cX12_findGiving 155 = .ok (.aload_n 0, 1) := by decide +kernel
theorem dX12_findGiving_156 : decode cX12_findGiving 156 = .ok (.iload 4, 2) := by decide +kernel
theorem dX12_findGiving_158 : decode cX12_findGiving 158 = .ok (.iload 5, 2) := by decide +kernel
theorem dX12_findGiving_160 : decode cX12_findGiving 160 = .ok (.iload_n 3, 1) := by decide +kernel
theorem dX12_findGiving_161 : decode cX12_findGiving 161 = .ok (.invokevirtual 165, 3) := by decide +kernel
theorem dX12_findGiving_164 : decode cX12_findGiving 164 = .ok (.ifCond .eq 28, 3) := by decide +kernel
theorem dX12_findGiving_167 : decode cX12_findGiving 167 = .ok (.aload_n 0, 1) := by decide +kernel
theorem dX12_findGiving_168 : decode cX12_findGiving 168 = .ok (.iload 4, 2) := by decide +kernel
theorem dX12_findGiving_170 : decode cX12_findGiving 170 = .ok (.iload 5, 2) := by decide +kernel
theorem dX12_findGiving_172 : decode cX12_findGiving 172 = .ok (.iload_n 3, 1) := by decide +kernel
theorem dX12_findGiving_173 : decode cX12_findGiving 173 = .ok (.invokevirtual 162, 3) := by decide +kernel
theorem dX12_findGiving_176 : decode cX12_findGiving 176 = .ok (.aload_n 0, 1) := by decide +kernel
theorem dX12_findGiving_177 : decode cX12_findGiving 177 = .ok (.getfield 38, 3) := by decide +kernel
theorem dX12_findGiving_180 : decode cX12_findGiving 180 = .ok (.sipush 256, 3) := by decide +kernel
theorem dX12_findGiving_183 : decode cX12_findGiving 183 = .ok (.iload 4, 2) := by decide +kernel
theorem dX12_findGiving_185 : decode cX12_findGiving 185 = .ok (.imul, 1) := by decide +kernel
theorem dX12_findGiving_186 : decode cX12_findGiving 186 = .ok (.iload_n 3, 1) := by decide +kernel
theorem dX12_findGiving_187 : decode cX12_findGiving 187 = .ok (.iadd, 1) := by decide +kernel
theorem dX12_findGiving_188 : decode cX12_findGiving 188 = .ok (.iaload, 1) := by decide +kernel
theorem dX12_findGiving_189 : decode cX12_findGiving 189 = .ok (.if_icmp .eq 9, 3) := by decide +kernel
theorem dX12_findGiving_192 : decode cX12_findGiving 192 = .ok (.iinc 5 1, 3) := by decide +kernel
theorem dX12_findGiving_195 : decode cX12_findGiving 195 = .ok (.goto (-40), 3) := by decide +kernel
theorem dX12_findGiving_198 : decode cX12_findGiving 198 = .ok (.aload_n 0, 1) := by decide +kernel
theorem dX12_findGiving_199 : decode cX12_findGiving 199 = .ok (.getfield 41, 3) := by decide +kernel
theorem dX12_findGiving_202 : decode cX12_findGiving 202 = .ok (.iload 4, 2) := by decide +kernel
theorem dX12_findGiving_204 : decode cX12_findGiving 204 = .ok (.iload 5, 2) := by decide +kernel
theorem dX12_findGiving_206 : decode cX12_findGiving 206 = .ok (.iastore, 1) := by decide +kernel
theorem dX12_findGiving_207 : decode cX12_findGiving 207 = .ok (.iload_n 3, 1) := by decide +kernel
theorem dX12_findGiving_208 : decode cX12_findGiving 208 = .ok (.iload 5, 2) := by decide +kernel
theorem dX12_findGiving_210 : decode cX12_findGiving 210 = .ok (.invokestatic 159, 3) := by decide +kernel
theorem dX12_findGiving_213 : decode cX12_findGiving 213 = .ok (.ior, 1) := by decide +kernel
theorem dX12_findGiving_214 : decode cX12_findGiving 214 = .ok (.istore_n 3, 1) := by decide +kernel
theorem dX12_findGiving_215 : decode cX12_findGiving 215 = .ok (.iinc 4 1, 3) := by decide +kernel
theorem dX12_findGiving_218 : decode cX12_findGiving 218 = .ok (.goto (-72), 3) := by decide +kernel
theorem dX12_findGiving_221 : decode cX12_findGiving 221 = .ok (.aload_n 0, 1) := by decide +kernel
theorem dX12_findGiving_222 : decode cX12_findGiving 222 = .ok (.getfield 38, 3) := by decide +kernel
theorem dX12_findGiving_225 : decode cX12_findGiving 225 = .ok (.iload_n 1, 1) := by decide +kernel
theorem dX12_findGiving_226 : decode cX12_findGiving 226 = .ok (.iaload, 1) := by decide +kernel
theorem dX12_findGiving_227 : decode cX12_findGiving 227 = .ok (.ireturn, 1) := by decide +kernel
theorem dX12_best_0 : decode cX12_best 0 = .ok (.aload_n 0, 1) := by decide +kernel
theorem dX12_best_1 : decode cX12_best 1 = .ok (.invokevirtual 171, 3) := by decide +kernel
theorem dX12_best_4 : decode cX12_best 4 = .ok (.aload_n 0, 1) := by decide +kernel
theorem dX12_best_5 : decode cX12_best 5 = .ok (.aload_n 0, 1) := by decide +kernel
theorem dX12_best_6 : decode cX12_best 6 = .ok (.invokevirtual 174, 3) := by decide +kernel
theorem dX12_best_9 : decode cX12_best 9 = .ok (.invokevirtual 178, 3) := by decide +kernel
theorem dX12_best_12 : decode cX12_best 12 = .ok (.ireturn, 1) := by decide +kernel
theorem dX12_gets_0 : decode cX12_gets 0 = .ok (.aload_n 0, 1) := by decide +kernel
theorem dX12_gets_1 : decode cX12_gets 1 = .ok (.iload_n 1, 1) := by decide +kernel
theorem dX12_gets_2 : decode cX12_gets 2 = .ok (.invokevirtual 101, 3) := by decide +kernel
theorem dX12_gets_5 : decode cX12_gets 5 = .ok (.ifCond .eq 12, 3) := by decide +kernel
theorem dX12_gets_8 : decode cX12_gets 8 = .ok (.iload_n 2, 1) := by decide +kernel
theorem dX12_gets_9 : decode cX12_gets 9 = .ok (.iconst 0, 1) := by decide +kernel
theorem dX12_gets_10 : decode cX12_gets 10 = .ok (.iconst 1, 1) := by decide +kernel
theorem dX12_gets_11 : decode cX12_gets 11 = .ok (.invokestatic 63, 3) := by decide +kernel
theorem dX12_gets_14 : decode cX12_gets 14 = .ok (.ifCond .ne 10, 3) := by decide +kernel
theorem dX12_gets_17 : decode cX12_gets 17 = .ok (.aload_n 0, 1) := by decide +kernel
theorem dX12_gets_18 : decode cX12_gets 18 = .ok (.ldc 79, 2) := by decide +kernel
theorem dX12_gets_20 : decode cX12_gets 20 = .ok (.invokevirtual 71, 3) := by decide +kernel
theorem dX12_gets_23 : decode cX12_gets 23 = .ok (.ireturn, 1) := by decide +kernel
theorem dX12_gets_24 : decode cX12_gets 24 = .ok (.aload_n 0, 1) := by decide +kernel
theorem dX12_gets_25 : decode cX12_gets 25 = .ok (.invokevirtual 171, 3) := by decide +kernel
theorem dX12_gets_28 : decode cX12_gets 28 = .ok (.aload_n 0, 1) := by decide +kernel
theorem dX12_gets_29 : decode cX12_gets 29 = .ok (.aload_n 0, 1) := by decide +kernel
theorem dX12_gets_30 : decode cX12_gets 30 = .ok (.invokevirtual 174, 3) := by decide +kernel
theorem dX12_gets_33 : decode cX12_gets 33 = .ok (.invokevirtual 178, 3) := by decide +kernel
theorem dX12_gets_36 : decode cX12_gets 36 = .ok (.istore_n 3, 1) := by decide +kernel
theorem dX12_gets_37 : decode cX12_gets 37 = .ok (.iload_n 2, 1) := by decide +kernel
theorem dX12_gets_38 : decode cX12_gets 38 = .ok (.ifCond .ne 15, 3) := by decide +kernel
theorem dX12_gets_41 : decode cX12_gets 41 = .ok (.aload_n 0, 1) := by decide +kernel
theorem dX12_gets_42 : decode cX12_gets 42 = .ok (.getfield 41, 3) := by decide +kernel
theorem dX12_gets_45 : decode cX12_gets 45 = .ok (.iload_n 1, 1) := by decide +kernel
theorem dX12_gets_46 : decode cX12_gets 46 = .ok (.iaload, 1) := by decide +kernel
theorem dX12_gets_47 : decode cX12_gets 47 = .ok (.bipush 9, 2) := by decide +kernel
theorem dX12_gets_49 : decode cX12_gets 49 = .ok (.idiv, 1) := by decide +kernel
theorem dX12_gets_50 : decode cX12_gets 50 = .ok (.goto 12, 3) := by decide +kernel
theorem dX12_gets_53 : decode cX12_gets 53 = .ok (.aload_n 0, 1) := by decide +kernel
theorem dX12_gets_54 : decode cX12_gets 54 = .ok (.getfield 41, 3) := by decide +kernel
theorem dX12_gets_57 : decode cX12_gets 57 = .ok (.iload_n 1, 1) := by decide +kernel
theorem dX12_gets_58 : decode cX12_gets 58 = .ok (.iaload, 1) := by decide +kernel
theorem dX12_gets_59 : decode cX12_gets 59 = .ok (.bipush 9, 2) := by decide +kernel
theorem dX12_gets_61 : decode cX12_gets 61 = .ok (.irem, 1) := by decide +kernel
theorem dX12_gets_62 : decode cX12_gets 62 = .ok (.iconst 1, 1) := by decide +kernel
theorem dX12_gets_63 : decode cX12_gets 63 = .ok (.isub, 1) := by decide +kernel
theorem dX12_gets_64 : decode cX12_gets 64 = .ok (.istore 4, 2) := by decide +kernel
theorem dX12_gets_66 : decode cX12_gets 66 = .ok (.iload 4, 2) := by decide +kernel
theorem dX12_gets_68 : decode cX12_gets 68 = .ok (.ifCond .ge 12, 3) := by decide +kernel
theorem dX12_gets_71 : decode cX12_gets 71 = .ok (.aload_n 0, 1) := by decide +kernel
theorem dX12_gets_72 : decode cX12_gets 72 = .ok (.ldc 70, 2) := by decide +kernel
theorem dX12_gets_74 : decode cX12_gets 74 = .ok (.invokevirtual 71, 3) := by decide +kernel
theorem dX12_gets_77 : decode cX12_gets 77 = .ok (.goto 5, 3) := by decide +kernel
theorem dX12_gets_80 : decode cX12_gets 80 = .ok (.iload 4, 2) := by decide +kernel
theorem dX12_gets_82 : decode cX12_gets 82 = .ok (.ireturn, 1) := by decide +kernel
theorem dX12_empty_0 : decode cX12_empty 0 = .ok (.aload_n 0, 1) := by decide +kernel
theorem dX12_empty_1 : decode cX12_empty 1 = .ok (.invokevirtual 171, 3) := by decide +kernel
theorem dX12_empty_4 : decode cX12_empty 4 = .ok (.aload_n 0, 1) := by decide +kernel
theorem dX12_empty_5 : decode cX12_empty 5 = .ok (.aload_n 0, 1) := by decide +kernel
theorem dX12_empty_6 : decode cX12_empty 6 = .ok (.invokevirtual 174, 3) := by decide +kernel
theorem dX12_empty_9 : decode cX12_empty 9 = .ok (.invokevirtual 178, 3) := by decide +kernel
theorem dX12_empty_12 : decode cX12_empty 12 = .ok (.istore_n 2, 1) := by decide +kernel
theorem dX12_empty_13 : decode cX12_empty 13 = .ok (.iconst 0, 1) := by decide +kernel
theorem dX12_empty_14 : decode cX12_empty 14 = .ok (.istore_n 3, 1) := by decide +kernel
theorem dX12_empty_15 : decode cX12_empty 15 = .ok (.iconst 0, 1) := by decide +kernel
theorem dX12_empty_16 : decode cX12_empty 16 = .ok (.istore 4, 2) := by decide +kernel
theorem dX12_empty_18 : decode cX12_empty 18 = .ok (.iload 4, 2) := by decide +kernel
theorem dX12_empty_20 : decode cX12_empty 20 = .ok (.aload_n 0, 1) := by decide +kernel
theorem dX12_empty_21 : decode cX12_empty 21 = .ok (.getfield 9, 3) := by decide +kernel
theorem dX12_empty_24 : decode cX12_empty 24 = .ok (.bipush 64, 2) := by decide +kernel
theorem dX12_empty_26 : decode cX12_empty 26 = .ok (.iaload, 1) := by decide +kernel
theorem dX12_empty_27 : decode cX12_empty 27 = .ok (.if_icmp .ge 38, 3) := by decide +kernel
theorem dX12_empty_30 : decode cX12_empty 30 = .ok (.iload_n 3, 1) := by decide +kernel
theorem dX12_empty_31 : decode cX12_empty 31 = .ok (.aload_n 0, 1) := by decide +kernel
theorem dX12_empty_32 : decode cX12_empty 32 = .ok (.getfield 35, 3) := by decide +kernel
theorem dX12_empty_35 : decode cX12_empty 35 = .ok (.bipush 81, 2) := by decide +kernel
theorem dX12_empty_37 : decode cX12_empty 37 = .ok (.iload 4, 2) := by decide +kernel
theorem dX12_empty_39 : decode cX12_empty 39 = .ok (.imul, 1) := by decide +kernel
theorem dX12_empty_40 : decode cX12_empty 40 = .ok (.iload_n 1, 1) := by decide +kernel
theorem dX12_empty_41 : decode cX12_empty 41 = .ok (.ifCond .eq 7, 3) := by decide +kernel
theorem dX12_empty_44 : decode cX12_empty 44 = .ok (.iconst 0, 1) := by decide +kernel
theorem dX12_empty_45 : decode cX12_empty 45 = .ok (.goto 10, 3) := by decide +kernel
theorem dX12_empty_48 : decode cX12_empty 48 = .ok (.aload_n 0, 1) := by decide +kernel
theorem dX12_empty_49 : decode cX12_empty 49 = .ok (.getfield 41, 3) := by decide +kernel
theorem dX12_empty_52 : decode cX12_empty 52 = .ok (.iload 4, 2) := by decide +kernel
theorem dX12_empty_54 : decode cX12_empty 54 = .ok (.iaload, 1) := by decide +kernel
theorem dX12_empty_55 : decode cX12_empty 55 = .ok (.iadd, 1) := by decide +kernel
theorem dX12_empty_56 : decode cX12_empty 56 = .ok (.iaload, 1) := by decide +kernel
theorem dX12_empty_57 : decode cX12_empty 57 = .ok (.iadd, 1) := by decide +kernel
theorem dX12_empty_58 : decode cX12_empty 58 = .ok (.istore_n 3, 1) := by decide +kernel
theorem dX12_empty_59 : decode cX12_empty 59 = .ok (.iinc 4 1, 3) := by decide +kernel
theorem dX12_empty_62 : decode cX12_empty 62 = .ok (.goto (-44), 3) := by decide +kernel
theorem dX12_empty_65 : decode cX12_empty 65 = .ok (.iload_n 3, 1) := by decide +kernel
theorem dX12_empty_66 : decode cX12_empty 66 = .ok (.ireturn, 1) := by decide +kernel
theorem dX12_worth_0 : decode cX12_worth 0 = .ok (.aload_n 0, 1) := by decide +kernel
theorem dX12_worth_1 : decode cX12_worth 1 = .ok (.iload_n 1, 1) := by decide +kernel
theorem dX12_worth_2 : decode cX12_worth 2 = .ok (.invokevirtual 109, 3) := by decide +kernel
theorem dX12_worth_5 : decode cX12_worth 5 = .ok (.ifCond .ne 10, 3) := by decide +kernel
theorem dX12_worth_8 : decode cX12_worth 8 = .ok (.aload_n 0, 1) := by decide +kernel
theorem dX12_worth_9 : decode cX12_worth 9 = .ok (.ldc 79, 2) := by decide +kernel
theorem dX12_worth_11 : decode cX12_worth 11 = .ok (.invokevirtual 71, 3) := by decide +kernel
theorem dX12_worth_14 : decode cX12_worth 14 = .ok (.ireturn, 1) := by decide +kernel
theorem dX12_worth_15 : decode cX12_worth 15 = .ok (.aload_n 0, 1) := by decide +kernel
theorem dX12_worth_16 : decode cX12_worth 16 = .ok (.invokevirtual 171, 3) := by decide +kernel
theorem dX12_worth_19 : decode cX12_worth 19 = .ok (.aload_n 0, 1) := by decide +kernel
theorem dX12_worth_20 : decode cX12_worth 20 = .ok (.aload_n 0, 1) := by decide +kernel
theorem dX12_worth_21 : decode cX12_worth 21 = .ok (.invokevirtual 174, 3) := by decide +kernel
theorem dX12_worth_24 : decode cX12_worth 24 = .ok (.invokevirtual 178, 3) := by decide +kernel
theorem dX12_worth_27 : decode cX12_worth 27 = .ok (.aload_n 0, 1) := by decide +kernel
theorem dX12_worth_28 : decode cX12_worth 28 = .ok (.aload_n 0, 1) := by decide +kernel
theorem dX12_worth_29 : decode cX12_worth 29 = .ok (.invokevirtual 174, 3) := by decide +kernel
theorem dX12_worth_32 : decode cX12_worth 32 = .ok (.iconst 1, 1) := by decide +kernel
theorem dX12_worth_33 : decode cX12_worth 33 = .ok (.iload_n 1, 1) := by decide +kernel
theorem dX12_worth_34 : decode cX12_worth 34 = .ok (.ishl, 1) := by decide +kernel
theorem dX12_worth_35 : decode cX12_worth 35 = .ok (.ior, 1) := by decide +kernel
theorem dX12_worth_36 : decode cX12_worth 36 = .ok (.invokevirtual 178, 3) := by decide +kernel
theorem dX12_worth_39 : decode cX12_worth 39 = .ok (.isub, 1) := by decide +kernel
theorem dX12_worth_40 : decode cX12_worth 40 = .ok (.ireturn, 1) := by decide +kernel
theorem dX12_proves_0 : decode cX12_proves 0 = .ok (.iload_n 1, 1) := by decide +kernel
theorem dX12_proves_1 : decode cX12_proves 1 = .ok (.invokestatic 181, 3) := by decide +kernel
theorem dX12_proves_4 : decode cX12_proves 4 = .ok (.ifCond .ne 10, 3) := by decide +kernel
theorem dX12_proves_7 : decode cX12_proves 7 = .ok (.aload_n 0, 1) := by decide +kernel
theorem dX12_proves_8 : decode cX12_proves 8 = .ok (.ldc 79, 2) := by decide +kernel
theorem dX12_proves_10 : decode cX12_proves 10 = .ok (.invokevirtual 71, 3) := by decide +kernel
theorem dX12_proves_13 : decode cX12_proves 13 = .ok (.ireturn, 1) := by decide +kernel
theorem dX12_proves_14 : decode cX12_proves 14 = .ok (.aload_n 0, 1) := by decide +kernel
theorem dX12_proves_15 : decode cX12_proves 15 = .ok (.getfield 16, 3) := by decide +kernel
theorem dX12_proves_18 : decode cX12_proves 18 = .ok (.iload_n 1, 1) := by decide +kernel
theorem dX12_proves_19 : decode cX12_proves 19 = .ok (.iaload, 1) := by decide +kernel
theorem dX12_proves_20 : decode cX12_proves 20 = .ok (.ifCond .ne 10, 3) := by decide +kernel
theorem dX12_proves_23 : decode cX12_proves 23 = .ok (.aload_n 0, 1) := by decide +kernel
theorem dX12_proves_24 : decode cX12_proves 24 = .ok (.ldc 184, 2) := by decide +kernel
theorem dX12_proves_26 : decode cX12_proves 26 = .ok (.invokevirtual 71, 3) := by decide +kernel
theorem dX12_proves_29 : decode cX12_proves 29 = .ok (.ireturn, 1) := by decide +kernel
theorem dX12_proves_30 : decode cX12_proves 30 = .ok (.aload_n 0, 1) := by decide +kernel
theorem dX12_proves_31 : decode cX12_proves 31 = .ok (.getfield 9, 3) := by decide +kernel
theorem dX12_proves_34 : decode cX12_proves 34 = .ok (.bipush 64, 2) := by decide +kernel
theorem dX12_proves_36 : decode cX12_proves 36 = .ok (.iaload, 1) := by decide +kernel
theorem dX12_proves_37 : decode cX12_proves 37 = .ok (.istore_n 2, 1) := by decide +kernel
theorem dX12_proves_38 : decode cX12_proves 38 = .ok (.aload_n 0, 1) := by decide +kernel
theorem dX12_proves_39 : decode cX12_proves 39 = .ok (.getfield 19, 3) := by decide +kernel
theorem dX12_proves_42 : decode cX12_proves 42 = .ok (.iload_n 1, 1) := by decide +kernel
theorem dX12_proves_43 : decode cX12_proves 43 = .ok (.iaload, 1) := by decide +kernel
theorem dX12_proves_44 : decode cX12_proves 44 = .ok (.iload_n 2, 1) := by decide +kernel
theorem dX12_proves_45 : decode cX12_proves 45 = .ok (.if_icmp .eq 10, 3) := by decide +kernel
theorem dX12_proves_48 : decode cX12_proves 48 = .ok (.aload_n 0, 1) := by decide +kernel
theorem dX12_proves_49 : decode cX12_proves 49 = .ok (.ldc 108, 2) := by decide +kernel
theorem dX12_proves_51 : decode cX12_proves 51 = .ok (.invokevirtual 71, 3) := by decide +kernel
theorem dX12_proves_54 : decode cX12_proves 54 = .ok (.ireturn, 1) := by decide +kernel
theorem dX12_proves_55 : decode cX12_proves 55 = .ok (.aload_n 0, 1) := by decide +kernel
theorem dX12_proves_56 : decode cX12_proves 56 = .ok (.invokevirtual 171, 3) := by decide +kernel
theorem dX12_proves_59 : decode cX12_proves 59 = .ok (.aload_n 0, 1) := by decide +kernel
theorem dX12_proves_60 : decode cX12_proves 60 = .ok (.invokevirtual 174, 3) := by decide +kernel
theorem dX12_proves_63 : decode cX12_proves 63 = .ok (.istore_n 3, 1) := by decide +kernel
theorem dX12_proves_64 : decode cX12_proves 64 = .ok (.iconst 0, 1) := by decide +kernel
theorem dX12_proves_65 : decode cX12_proves 65 = .ok (.istore 4, 2) := by decide +kernel
theorem dX12_proves_67 : decode cX12_proves 67 = .ok (.iconst 0, 1) := by decide +kernel
theorem dX12_proves_68 : decode cX12_proves 68 = .ok (.istore 5, 2) := by decide +kernel
theorem dX12_proves_70 : decode cX12_proves 70 = .ok (.iload 5, 2) := by decide +kernel
theorem dX12_proves_72 : decode cX12_proves 72 = .ok (.iload_n 2, 1) := by decide +kernel
theorem dX12_proves_73 : decode cX12_proves 73 = .ok (.if_icmp .ge 136, 3) := by decide +kernel
theorem dX12_proves_76 : decode cX12_proves 76 = .ok (.aload_n 0, 1) := by decide +kernel
theorem dX12_proves_77 : decode cX12_proves 77 = .ok (.getfield 22, 3) := by decide +kernel
theorem dX12_proves_80 : decode cX12_proves 80 = .ok (.bipush 20, 2) := by decide +kernel
theorem dX12_proves_82 : decode cX12_proves 82 = .ok (.iload_n 1, 1) := by decide +kernel
theorem dX12_proves_83 : decode cX12_proves 83 = .ok (.imul, 1) := by decide +kernel
theorem dX12_proves_84 : decode cX12_proves 84 = .ok (.iload 5, 2) := by decide +kernel
theorem dX12_proves_86 : decode cX12_proves 86 = .ok (.iadd, 1) := by decide +kernel
theorem dX12_proves_87 : decode cX12_proves 87 = .ok (.iaload, 1) := by decide +kernel
theorem dX12_proves_88 : decode cX12_proves 88 = .ok (.istore 6, 2) := by decide +kernel
theorem dX12_proves_90 : decode cX12_proves 90 = .ok (.iload 6, 2) := by decide +kernel
theorem dX12_proves_92 : decode cX12_proves 92 = .ok (.ifCond .lt 37, 3) := by decide +kernel
theorem dX12_proves_95 : decode cX12_proves 95 = .ok (.iload 6, 2) := by decide +kernel
theorem dX12_proves_97 : decode cX12_proves 97 = .ok (.bipush 100, 2) := by decide +kernel
theorem dX12_proves_99 : decode cX12_proves 99 = .ok (.idiv, 1) := by decide +kernel
theorem dX12_proves_100 : decode cX12_proves 100 = .ok (.aload_n 0, 1) := by decide +kernel
theorem dX12_proves_101 : decode cX12_proves 101 = .ok (.getfield 9, 3) := by decide +kernel
theorem dX12_proves_104 : decode cX12_proves 104 = .ok (.bipush 65, 2) := by decide +kernel
theorem dX12_proves_106 : decode cX12_proves 106 = .ok (.iaload, 1) := by decide +kernel
theorem dX12_proves_107 : decode cX12_proves 107 = .ok (.if_icmp .gt 22, 3) := by decide +kernel
theorem dX12_proves_110 : decode cX12_proves 110 = .ok (.iload 6, 2) := by decide +kernel
theorem dX12_proves_112 : decode cX12_proves 112 = .ok (.bipush 100, 2) := by decide +kernel
theorem dX12_proves_114 : decode cX12_proves 114 = .ok (.irem, 1) := by decide +kernel
theorem dX12_proves_115 : decode cX12_proves 115 = .ok (.aload_n 0, 1) := by decide +kernel
theorem dX12_proves_116 : decode cX12_proves 116 = .ok (.getfield 9, 3) := by decide +kernel
theorem dX12_proves_119 : decode cX12_proves 119 = .ok (.bipush 65, 2) := by decide +kernel
theorem dX12_proves_121 : decode cX12_proves 121 = .ok (.iaload, 1) := by decide +kernel
theorem dX12_proves_122 : decode cX12_proves 122 = .ok (.if_icmp .gt 7, 3) := by decide +kernel
theorem dX12_proves_125 : decode cX12_proves 125 = .ok (.iconst 1, 1) := by decide +kernel
theorem dX12_proves_126 : decode cX12_proves 126 = .ok (.goto 4, 3) := by decide +kernel
theorem dX12_proves_129 : decode cX12_proves 129 = .ok (.iconst 0, 1) := by decide +kernel
theorem dX12_proves_130 : decode cX12_proves 130 = .ok (.istore 7, 2) := by decide +kernel
theorem dX12_proves_132 : decode cX12_proves 132 = .ok (.iload 7, 2) := by decide +kernel
theorem dX12_proves_134 : decode cX12_proves 134 = .ok (.ifCond .eq 20, 3) := by decide +kernel
theorem dX12_proves_137 : decode cX12_proves 137 = .ok (.bipush 9, 2) := by decide +kernel
theorem dX12_proves_139 : decode cX12_proves 139 = .ok (.iload 6, 2) := by decide +kernel
theorem dX12_proves_141 : decode cX12_proves 141 = .ok (.bipush 100, 2) := by decide +kernel
theorem dX12_proves_143 : decode cX12_proves 143 = .ok (.idiv, 1) := by decide +kernel
theorem dX12_proves_144 : decode cX12_proves 144 = .ok (.imul, 1) := by decide +kernel
theorem dX12_proves_145 : decode cX12_proves 145 = .ok (.iload 6, 2) := by decide +kernel
theorem dX12_proves_147 : decode cX12_proves 147 = .ok (.bipush 100, 2) := by decide +kernel
theorem dX12_proves_149 : decode cX12_proves 149 = .ok (.irem, 1) := by decide +kernel
theorem dX12_proves_150 : decode cX12_proves 150 = .ok (.iadd, 1) := by decide +kernel
theorem dX12_proves_151 : decode cX12_proves 151 = .ok (.goto 4, 3) := by decide +kernel
theorem dX12_proves_154 : decode cX12_proves 154 = .ok (.iconst 0, 1) := by decide +kernel
theorem dX12_proves_155 : decode cX12_proves 155 = .ok (.istore 8, 2) := by decide +kernel
theorem dX12_proves_157 : decode cX12_proves 157 = .ok (.iload 7, 2) := by decide +kernel
theorem dX12_proves_159 : decode cX12_proves 159 = .ok (.ifCond .eq 15, 3) := by decide +kernel
theorem dX12_proves_162 : decode cX12_proves 162 = .ok (.aload_n 0, 1) := by decide +kernel
theorem dX12_proves_163 : decode cX12_proves 163 = .ok (.iload 5, 2) := by decide +kernel
theorem dX12_proves_165 : decode cX12_proves 165 = .ok (.iload 8, 2) := by decide +kernel
theorem dX12_proves_167 : decode cX12_proves 167 = .ok (.iload_n 3, 1) := by decide +kernel
theorem dX12_proves_168 : decode cX12_proves 168 = .ok (.invokevirtual 165, 3) := by decide +kernel
theorem dX12_proves_171 : decode cX12_proves 171 = .ok (.ifCond .ne 6, 3) := by decide +kernel
theorem dX12_proves_174 : decode cX12_proves 174 = .ok (.iload 5, 2) := by decide +kernel
theorem dX12_proves_176 : decode cX12_proves 176 = .ok (.ireturn, 1) := by decide +kernel
theorem dX12_proves_177 : decode cX12_proves 177 = .ok (.iload_n 3, 1) := by decide +kernel
theorem dX12_proves_178 : decode cX12_proves 178 = .ok (.iload 8, 2) := by decide +kernel
theorem dX12_proves_180 : decode cX12_proves 180 = .ok (.invokestatic 159, 3) := by decide +kernel
theorem dX12_proves_183 : decode cX12_proves 183 = .ok (.ior, 1) := by decide +kernel
theorem dX12_proves_184 : decode cX12_proves 184 = .ok (.istore_n 3, 1) := by decide +kernel
theorem dX12_proves_185 : decode cX12_proves 185 = .ok (.iload 4, 2) := by decide +kernel
theorem dX12_proves_187 : decode cX12_proves 187 = .ok (.aload_n 0, 1) := by decide +kernel
theorem dX12_proves_188 : decode cX12_proves 188 = .ok (.getfield 32, 3) := by decide +kernel
theorem dX12_proves_191 : decode cX12_proves 191 = .ok (.bipush 81, 2) := by decide +kernel
theorem dX12_proves_193 : decode cX12_proves 193 = .ok (.iload 5, 2) := by decide +kernel
theorem dX12_proves_195 : decode cX12_proves 195 = .ok (.imul, 1) := by decide +kernel
theorem dX12_proves_196 : decode cX12_proves 196 = .ok (.iload 8, 2) := by decide +kernel
theorem dX12_proves_198 : decode cX12_proves 198 = .ok (.iadd, 1) := by decide +kernel
theorem dX12_proves_199 : decode cX12_proves 199 = .ok (.iaload, 1) := by decide +kernel
theorem dX12_proves_200 : decode cX12_proves 200 = .ok (.iadd, 1) := by decide +kernel
theorem dX12_proves_201 : decode cX12_proves 201 = .ok (.istore 4, 2) := by decide +kernel
theorem dX12_proves_203 : decode cX12_proves 203 = .ok (.iinc 5 1, 3) := by decide +kernel
theorem dX12_proves_206 : decode cX12_proves 206 = .ok (.goto (-136), 3) := by decide +kernel
theorem dX12_proves_209 : decode cX12_proves 209 = .ok (.iload 4, 2) := by decide +kernel
theorem dX12_proves_211 : decode cX12_proves 211 = .ok (.aload_n 0, 1) := by decide +kernel
theorem dX12_proves_212 : decode cX12_proves 212 = .ok (.aload_n 0, 1) := by decide +kernel
theorem dX12_proves_213 : decode cX12_proves 213 = .ok (.invokevirtual 174, 3) := by decide +kernel
theorem dX12_proves_216 : decode cX12_proves 216 = .ok (.invokevirtual 178, 3) := by decide +kernel
theorem dX12_proves_219 : decode cX12_proves 219 = .ok (.if_icmp .ne 7, 3) := by decide +kernel
theorem dX12_proves_222 : decode cX12_proves 222 = .ok (.iconst (-1), 1) := by decide +kernel
theorem dX12_proves_223 : decode cX12_proves 223 = .ok (.goto 4, 3) := by decide +kernel
theorem dX12_proves_226 : decode cX12_proves 226 = .ok (.iload_n 2, 1) := by decide +kernel
theorem dX12_proves_227 : decode cX12_proves 227 = .ok (.ireturn, 1) := by decide +kernel
theorem dX12_isLane_0 : decode cX12_isLane 0 = .ok (.iload_n 0, 1) := by decide +kernel
theorem dX12_isLane_1 : decode cX12_isLane 1 = .ok (.ifCond .lt 27, 3) := by decide +kernel
theorem dX12_isLane_4 : decode cX12_isLane 4 = .ok (.iload_n 0, 1) := by decide +kernel
theorem dX12_isLane_5 : decode cX12_isLane 5 = .ok (.bipush 10, 2) := by decide +kernel
theorem dX12_isLane_7 : decode cX12_isLane 7 = .ok (.idiv, 1) := by decide +kernel
theorem dX12_isLane_8 : decode cX12_isLane 8 = .ok (.invokestatic 75, 3) := by decide +kernel
theorem dX12_isLane_11 : decode cX12_isLane 11 = .ok (.ifCond .eq 17, 3) := by decide +kernel
theorem dX12_isLane_14 : decode cX12_isLane 14 = .ok (.iload_n 0, 1) := by decide +kernel
theorem dX12_isLane_15 : decode cX12_isLane 15 = .ok (.bipush 10, 2) := by decide +kernel
theorem dX12_isLane_17 : decode cX12_isLane 17 = .ok (.irem, 1) := by decide +kernel
theorem dX12_isLane_18 : decode cX12_isLane 18 = .ok (.invokestatic 75, 3) := by decide +kernel
theorem dX12_isLane_21 : decode cX12_isLane 21 = .ok (.ifCond .eq 7, 3) := by decide +kernel
theorem dX12_isLane_24 : decode cX12_isLane 24 = .ok (.iconst 1, 1) := by decide +kernel
theorem dX12_isLane_25 : decode cX12_isLane 25 = .ok (.goto 4, 3) := by decide +kernel
theorem dX12_isLane_28 : decode cX12_isLane 28 = .ok (.iconst 0, 1) := by decide +kernel
theorem dX12_isLane_29 : decode cX12_isLane 29 = .ok (.ireturn, 1) := by decide +kernel
theorem dX12_isDay_0 : decode cX12_isDay 0 = .ok (.iload_n 0, 1) := by decide +kernel
theorem dX12_isDay_1 : decode cX12_isDay 1 = .ok (.iconst 0, 1) := by decide +kernel
theorem dX12_isDay_2 : decode cX12_isDay 2 = .ok (.sipush 365, 3) := by decide +kernel
theorem dX12_isDay_5 : decode cX12_isDay 5 = .ok (.invokestatic 63, 3) := by decide +kernel
theorem dX12_isDay_8 : decode cX12_isDay 8 = .ok (.ireturn, 1) := by decide +kernel
theorem dX12_paid_0 : decode cX12_paid 0 = .ok (.iload_n 1, 1) := by decide +kernel
theorem dX12_paid_1 : decode cX12_paid 1 = .ok (.invokestatic 185, 3) := by decide +kernel
theorem dX12_paid_4 : decode cX12_paid 4 = .ok (.ifCond .eq 21, 3) := by decide +kernel
theorem dX12_paid_7 : decode cX12_paid 7 = .ok (.iload_n 2, 1) := by decide +kernel
theorem dX12_paid_8 : decode cX12_paid 8 = .ok (.invokestatic 188, 3) := by decide +kernel
theorem dX12_paid_11 : decode cX12_paid 11 = .ok (.ifCond .eq 14, 3) := by decide +kernel
theorem dX12_paid_14 : decode cX12_paid 14 = .ok (.iload_n 3, 1) := by decide +kernel
theorem dX12_paid_15 : decode cX12_paid 15 = .ok (.iconst 0, 1) := by decide +kernel
theorem dX12_paid_16 : decode cX12_paid 16 = .ok (.sipush 9999, 3) := by decide +kernel
theorem dX12_paid_19 : decode cX12_paid 19 = .ok (.invokestatic 63, 3) := by decide +kernel
theorem dX12_paid_22 : decode cX12_paid 22 = .ok (.ifCond .ne 10, 3) := by decide +kernel
theorem dX12_paid_25 : decode cX12_paid 25 = .ok (.aload_n 0, 1) := by decide +kernel
theorem dX12_paid_26 : decode cX12_paid 26 = .ok (.ldc 79, 2) := by decide +kernel
theorem dX12_paid_28 : decode cX12_paid 28 = .ok (.invokevirtual 71, 3) := by decide +kernel
theorem dX12_paid_31 : decode cX12_paid 31 = .ok (.ireturn, 1) := by decide +kernel
theorem dX12_paid_32 : decode cX12_paid 32 = .ok (.aload_n 0, 1) := by decide +kernel
theorem dX12_paid_33 : decode cX12_paid 33 = .ok (.getfield 9, 3) := by decide +kernel
theorem dX12_paid_36 : decode cX12_paid 36 = .ok (.bipush 66, 2) := by decide +kernel
theorem dX12_paid_38 : decode cX12_paid 38 = .ok (.iaload, 1) := by decide +kernel
theorem dX12_paid_39 : decode cX12_paid 39 = .ok (.bipush 40, 2) := by decide +kernel
theorem dX12_paid_41 : decode cX12_paid 41 = .ok (.if_icmp .ne 10, 3) := by decide +kernel
theorem dX12_paid_44 : decode cX12_paid 44 = .ok (.aload_n 0, 1) := by decide +kernel
theorem dX12_paid_45 : decode cX12_paid 45 = .ok (.ldc 97, 2) := by decide +kernel
theorem dX12_paid_47 : decode cX12_paid 47 = .ok (.invokevirtual 71, 3) := by decide +kernel
theorem dX12_paid_50 : decode cX12_paid 50 = .ok (.ireturn, 1) := by decide +kernel
theorem dX12_paid_51 : decode cX12_paid 51 = .ok (.aload_n 0, 1) := by decide +kernel
theorem dX12_paid_52 : decode cX12_paid 52 = .ok (.invokevirtual 80, 3) := by decide +kernel
theorem dX12_paid_55 : decode cX12_paid 55 = .ok (.aload_n 0, 1) := by decide +kernel
theorem dX12_paid_56 : decode cX12_paid 56 = .ok (.getfield 9, 3) := by decide +kernel
theorem dX12_paid_59 : decode cX12_paid 59 = .ok (.sipush 200, 3) := by decide +kernel
theorem dX12_paid_62 : decode cX12_paid 62 = .ok (.aload_n 0, 1) := by decide +kernel
theorem dX12_paid_63 : decode cX12_paid 63 = .ok (.getfield 9, 3) := by decide +kernel
theorem dX12_paid_66 : decode cX12_paid 66 = .ok (.bipush 66, 2) := by decide +kernel
theorem dX12_paid_68 : decode cX12_paid 68 = .ok (.iaload, 1) := by decide +kernel
theorem dX12_paid_69 : decode cX12_paid 69 = .ok (.iadd, 1) := by decide +kernel
theorem dX12_paid_70 : decode cX12_paid 70 = .ok (.sipush 10000, 3) := by decide +kernel
theorem dX12_paid_73 : decode cX12_paid 73 = .ok (.sipush 366, 3) := by decide +kernel
theorem dX12_paid_76 : decode cX12_paid 76 = .ok (.iload_n 1, 1) := by decide +kernel
theorem dX12_paid_77 : decode cX12_paid 77 = .ok (.imul, 1) := by decide +kernel
theorem dX12_paid_78 : decode cX12_paid 78 = .ok (.iload_n 2, 1) := by decide +kernel
theorem dX12_paid_79 : decode cX12_paid 79 = .ok (.iadd, 1) := by decide +kernel
theorem dX12_paid_80 : decode cX12_paid 80 = .ok (.imul, 1) := by decide +kernel
theorem dX12_paid_81 : decode cX12_paid 81 = .ok (.iload_n 3, 1) := by decide +kernel
theorem dX12_paid_82 : decode cX12_paid 82 = .ok (.iadd, 1) := by decide +kernel
theorem dX12_paid_83 : decode cX12_paid 83 = .ok (.iastore, 1) := by decide +kernel
theorem dX12_paid_84 : decode cX12_paid 84 = .ok (.aload_n 0, 1) := by decide +kernel
theorem dX12_paid_85 : decode cX12_paid 85 = .ok (.getfield 9, 3) := by decide +kernel
theorem dX12_paid_88 : decode cX12_paid 88 = .ok (.bipush 66, 2) := by decide +kernel
theorem dX12_paid_90 : decode cX12_paid 90 = .ok (.dup2, 1) := by decide +kernel
theorem dX12_paid_91 : decode cX12_paid 91 = .ok (.iaload, 1) := by decide +kernel
theorem dX12_paid_92 : decode cX12_paid 92 = .ok (.iconst 1, 1) := by decide +kernel
theorem dX12_paid_93 : decode cX12_paid 93 = .ok (.iadd, 1) := by decide +kernel
theorem dX12_paid_94 : decode cX12_paid 94 = .ok (.iastore, 1) := by decide +kernel
theorem dX12_paid_95 : decode cX12_paid 95 = .ok (.aload_n 0, 1) := by decide +kernel
theorem dX12_paid_96 : decode cX12_paid 96 = .ok (.getfield 9, 3) := by decide +kernel
theorem dX12_paid_99 : decode cX12_paid 99 = .ok (.bipush 66, 2) := by decide +kernel
theorem dX12_paid_101 : decode cX12_paid 101 = .ok (.iaload, 1) := by decide +kernel
theorem dX12_paid_102 : decode cX12_paid 102 = .ok (.ireturn, 1) := by decide +kernel
theorem dX12_span_0 : decode cX12_span 0 = .ok (.iload_n 1, 1) := by decide +kernel
theorem dX12_span_1 : decode cX12_span 1 = .ok (.invokestatic 185, 3) := by decide +kernel
theorem dX12_span_4 : decode cX12_span 4 = .ok (.ifCond .eq 19, 3) := by decide +kernel
theorem dX12_span_7 : decode cX12_span 7 = .ok (.iload_n 2, 1) := by decide +kernel
theorem dX12_span_8 : decode cX12_span 8 = .ok (.invokestatic 188, 3) := by decide +kernel
theorem dX12_span_11 : decode cX12_span 11 = .ok (.ifCond .eq 12, 3) := by decide +kernel
theorem dX12_span_14 : decode cX12_span 14 = .ok (.iload_n 3, 1) := by decide +kernel
theorem dX12_span_15 : decode cX12_span 15 = .ok (.iconst 0, 1) := by decide +kernel
theorem dX12_span_16 : decode cX12_span 16 = .ok (.iconst 3, 1) := by decide +kernel
theorem dX12_span_17 : decode cX12_span 17 = .ok (.invokestatic 63, 3) := by decide +kernel
theorem dX12_span_20 : decode cX12_span 20 = .ok (.ifCond .ne 10, 3) := by decide +kernel
theorem dX12_span_23 : decode cX12_span 23 = .ok (.aload_n 0, 1) := by decide +kernel
theorem dX12_span_24 : decode cX12_span 24 = .ok (.ldc 79, 2) := by decide +kernel
theorem dX12_span_26 : decode cX12_span 26 = .ok (.invokevirtual 71, 3) := by decide +kernel
theorem dX12_span_29 : decode cX12_span 29 = .ok (.ireturn, 1) := by decide +kernel
theorem dX12_span_30 : decode cX12_span 30 = .ok (.iconst 0, 1) := by decide +kernel
theorem dX12_span_31 : decode cX12_span 31 = .ok (.istore 4, 2) := by decide +kernel
theorem dX12_span_33 : decode cX12_span 33 = .ok (.iconst 0, 1) := by decide +kernel
theorem dX12_span_34 : decode cX12_span 34 = .ok (.istore 5, 2) := by decide +kernel
theorem dX12_span_36 : decode cX12_span 36 = .ok (.iload 5, 2) := by decide +kernel
theorem dX12_span_38 : decode cX12_span 38 = .ok (.aload_n 0, 1) := by decide +kernel
theorem dX12_span_39 : decode cX12_span 39 = .ok (.getfield 9, 3) := by decide +kernel
theorem dX12_span_42 : decode cX12_span 42 = .ok (.bipush 66, 2) := by decide +kernel
theorem dX12_span_44 : decode cX12_span 44 = .ok (.iaload, 1) := by decide +kernel
theorem dX12_span_45 : decode cX12_span 45 = .ok (.if_icmp .ge 125, 3) := by decide +kernel
theorem dX12_span_48 : decode cX12_span 48 = .ok (.aload_n 0, 1) := by decide +kernel
theorem dX12_span_49 : decode cX12_span 49 = .ok (.getfield 9, 3) := by decide +kernel
theorem dX12_span_52 : decode cX12_span 52 = .ok (.sipush 200, 3) := by decide +kernel
theorem dX12_span_55 : decode cX12_span 55 = .ok (.iload 5, 2) := by decide +kernel
theorem dX12_span_57 : decode cX12_span 57 = .ok (.iadd, 1) := by decide +kernel
theorem dX12_span_58 : decode cX12_span 58 = .ok (.iaload, 1) := by decide +kernel
theorem dX12_span_59 : decode cX12_span 59 = .ok (.istore 6, 2) := by decide +kernel
theorem dX12_span_61 : decode cX12_span 61 = .ok (.iload 6, 2) := by decide +kernel
theorem dX12_span_63 : decode cX12_span 63 = .ok (.sipush 10000, 3) := by decide +kernel
theorem dX12_span_66 : decode cX12_span 66 = .ok (.idiv, 1) := by decide +kernel
theorem dX12_span_67 : decode cX12_span 67 = .ok (.sipush 366, 3) := by decide +kernel
theorem dX12_span_70 : decode cX12_span 70 = .ok (.idiv, 1) := by decide +kernel
theorem dX12_span_71 : decode cX12_span 71 = .ok (.iload_n 1, 1) := by decide +kernel
theorem dX12_span_72 : decode cX12_span 72 = .ok (.if_icmp .ne 92, 3) := by decide +kernel
theorem dX12_span_75 : decode cX12_span 75 = .ok (.iload 6, 2) := by decide +kernel
theorem dX12_span_77 : decode cX12_span 77 = .ok (.sipush 10000, 3) := by decide +kernel
theorem dX12_span_80 : decode cX12_span 80 = .ok (.idiv, 1) := by decide +kernel
theorem dX12_span_81 : decode cX12_span 81 = .ok (.sipush 366, 3) := by decide +kernel
theorem dX12_span_84 : decode cX12_span 84 = .ok (.irem, 1) := by decide +kernel
theorem dX12_span_85 : decode cX12_span 85 = .ok (.iload_n 2, 1) := by decide +kernel
theorem dX12_span_86 : decode cX12_span 86 = .ok (.bipush 29, 2) := by decide +kernel
theorem dX12_span_88 : decode cX12_span 88 = .ok (.isub, 1) := by decide +kernel
theorem dX12_span_89 : decode cX12_span 89 = .ok (.iload_n 2, 1) := by decide +kernel
theorem dX12_span_90 : decode cX12_span 90 = .ok (.invokestatic 63, 3) := by decide +kernel
theorem dX12_span_93 : decode cX12_span 93 = .ok (.ifCond .ne 6, 3) := by decide +kernel
theorem dX12_span_96 : decode cX12_span 96 = .ok (.goto 68, 3) := by decide +kernel
theorem dX12_span_99 : decode cX12_span 99 = .ok (.iload 4, 2) := by decide +kernel
theorem dX12_span_101 : decode cX12_span 101 = .ok (.istore 7, 2) := by decide +kernel
theorem dX12_span_103 : decode cX12_span 103 = .ok (.iload 7, 2) := by decide +kernel
theorem dX12_span_105 : decode cX12_span 105 = .ok (.ifCond .le 43, 3) := by decide +kernel
theorem dX12_span_108 : decode cX12_span 108 = .ok (.aload_n 0, 1) := by decide +kernel
theorem dX12_span_109 : decode cX12_span 109 = .ok (.getfield 44, 3) := by decide +kernel
theorem dX12_span_112 : decode cX12_span 112 = .ok (.iload 7, 2) := by decide +kernel
theorem dX12_span_114 : decode cX12_span 114 = .ok (.iconst 1, 1) := by decide +kernel
theorem dX12_span_115 : decode cX12_span 115 = .ok (.isub, 1) := by decide +kernel
theorem dX12_span_116 : decode cX12_span 116 = .ok (.iaload, 1) := by decide +kernel
theorem dX12_span_117 : decode cX12_span 117 = .ok (.iload 6, 2) := by decide +kernel
theorem dX12_span_119 : decode cX12_span 119 = .ok (.sipush 10000, 3) := by decide +kernel
theorem dX12_span_122 : decode cX12_span 122 = .ok (.irem, 1) := by decide +kernel
theorem dX12_span_123 : decode cX12_span 123 = .ok (.if_icmp .le 25, 3) := by decide +kernel
theorem dX12_span_126 : decode cX12_span 126 = .ok (.aload_n 0, 1) := by decide +kernel
theorem dX12_span_127 : decode cX12_span 127 = .ok (.getfield 44, 3) := by decide +kernel
