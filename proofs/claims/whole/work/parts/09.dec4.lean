theorem dX12_span_130 : decode cX12_span 130 = .ok (.iload 7, 2) := by decide +kernel
theorem dX12_span_132 : decode cX12_span 132 = .ok (.aload_n 0, 1) := by decide +kernel
theorem dX12_span_133 : decode cX12_span 133 = .ok (.getfield 44, 3) := by decide +kernel
theorem dX12_span_136 : decode cX12_span 136 = .ok (.iload 7, 2) := by decide +kernel
theorem dX12_span_138 : decode cX12_span 138 = .ok (.iconst 1, 1) := by decide +kernel
theorem dX12_span_139 : decode cX12_span 139 = .ok (.isub, 1) := by decide +kernel
theorem dX12_span_140 : decode cX12_span 140 = .ok (.iaload, 1) := by decide +kernel
theorem dX12_span_141 : decode cX12_span 141 = .ok (.iastore, 1) := by decide +kernel
theorem dX12_span_142 : decode cX12_span 142 = .ok (.iinc 7 (-1), 3) := by decide +kernel
theorem dX12_span_145 : decode cX12_span 145 = .ok (.goto (-42), 3) := by decide +kernel
theorem dX12_span_148 : decode cX12_span 148 = .ok (.aload_n 0, 1) := by decide +kernel
theorem dX12_span_149 : decode cX12_span 149 = .ok (.getfield 44, 3) := by decide +kernel
theorem dX12_span_152 : decode cX12_span 152 = .ok (.iload 7, 2) := by decide +kernel
theorem dX12_span_154 : decode cX12_span 154 = .ok (.iload 6, 2) := by decide +kernel
theorem dX12_span_156 : decode cX12_span 156 = .ok (.sipush 10000, 3) := by decide +kernel
theorem dX12_span_159 : decode cX12_span 159 = .ok (.irem, 1) := by decide +kernel
theorem dX12_span_160 : decode cX12_span 160 = .ok (.iastore, 1) := by decide +kernel
theorem dX12_span_161 : decode cX12_span 161 = .ok (.iinc 4 1, 3) := by decide +kernel
theorem dX12_span_164 : decode cX12_span 164 = .ok (.iinc 5 1, 3) := by decide +kernel
theorem dX12_span_167 : decode cX12_span 167 = .ok (.goto (-131), 3) := by decide +kernel
theorem dX12_span_170 : decode cX12_span 170 = .ok (.iload_n 3, 1) := by decide +kernel
theorem dX12_span_171 : decode cX12_span 171 = .ok (.iconst 3, 1) := by decide +kernel
theorem dX12_span_172 : decode cX12_span 172 = .ok (.if_icmp .ne 6, 3) := by decide +kernel
theorem dX12_span_175 : decode cX12_span 175 = .ok (.iload 4, 2) := by decide +kernel
theorem dX12_span_177 : decode cX12_span 177 = .ok (.ireturn, 1) := by decide +kernel
theorem dX12_span_178 : decode cX12_span 178 = .ok (.iload 4, 2) := by decide +kernel
theorem dX12_span_180 : decode cX12_span 180 = .ok (.ifCond .ne 12, 3) := by decide +kernel
theorem dX12_span_183 : decode cX12_span 183 = .ok (.aload_n 0, 1) := by decide +kernel
theorem dX12_span_184 : decode cX12_span 184 = .ok (.ldc 70, 2) := by decide +kernel
theorem dX12_span_186 : decode cX12_span 186 = .ok (.invokevirtual 71, 3) := by decide +kernel
theorem dX12_span_189 : decode cX12_span 189 = .ok (.goto 42, 3) := by decide +kernel
theorem dX12_span_192 : decode cX12_span 192 = .ok (.aload_n 0, 1) := by decide +kernel
theorem dX12_span_193 : decode cX12_span 193 = .ok (.getfield 44, 3) := by decide +kernel
theorem dX12_span_196 : decode cX12_span 196 = .ok (.iload_n 3, 1) := by decide +kernel
theorem dX12_span_197 : decode cX12_span 197 = .ok (.ifCond .ne 10, 3) := by decide +kernel
theorem dX12_span_200 : decode cX12_span 200 = .ok (.iload 4, 2) := by decide +kernel
theorem dX12_span_202 : decode cX12_span 202 = .ok (.iconst 4, 1) := by decide +kernel
theorem dX12_span_203 : decode cX12_span 203 = .ok (.idiv, 1) := by decide +kernel
theorem dX12_span_204 : decode cX12_span 204 = .ok (.goto 26, 3) := by decide +kernel
theorem dX12_span_207 : decode cX12_span 207 = .ok (.iload_n 3, 1) := by decide +kernel
theorem dX12_span_208 : decode cX12_span 208 = .ok (.iconst 1, 1) := by decide +kernel
theorem dX12_span_209 : decode cX12_span 209 = .ok (.if_icmp .ne 12, 3) := by decide +kernel
theorem dX12_span_212 : decode cX12_span 212 = .ok (.iload 4, 2) := by decide +kernel
theorem dX12_span_214 : decode cX12_span 214 = .ok (.iconst 1, 1) := by decide +kernel
theorem dX12_span_215 : decode cX12_span 215 = .ok (.isub, 1) := by decide +kernel
theorem dX12_span_216 : decode cX12_span 216 = .ok (.iconst 2, 1) := by decide +kernel
theorem dX12_span_217 : decode cX12_span 217 = .ok (.idiv, 1) := by decide +kernel
theorem dX12_span_218 : decode cX12_span 218 = .ok (.goto 12, 3) := by decide +kernel
theorem dX12_span_221 : decode cX12_span 221 = .ok (.iload 4, 2) := by decide +kernel
theorem dX12_span_223 : decode cX12_span 223 = .ok (.iconst 1, 1) := by decide +kernel
theorem dX12_span_224 : decode cX12_span 224 = .ok (.isub, 1) := by decide +kernel
theorem dX12_span_225 : decode cX12_span 225 = .ok (.iload 4, 2) := by decide +kernel
theorem dX12_span_227 : decode cX12_span 227 = .ok (.iconst 4, 1) := by decide +kernel
theorem dX12_span_228 : decode cX12_span 228 = .ok (.idiv, 1) := by decide +kernel
theorem dX12_span_229 : decode cX12_span 229 = .ok (.isub, 1) := by decide +kernel
theorem dX12_span_230 : decode cX12_span 230 = .ok (.iaload, 1) := by decide +kernel
theorem dX12_span_231 : decode cX12_span 231 = .ok (.ireturn, 1) := by decide +kernel
theorem dX12_contract_0 : decode cX12_contract 0 = .ok (.aload_n 0, 1) := by decide +kernel
theorem dX12_contract_1 : decode cX12_contract 1 = .ok (.iload_n 1, 1) := by decide +kernel
theorem dX12_contract_2 : decode cX12_contract 2 = .ok (.invokevirtual 109, 3) := by decide +kernel
theorem dX12_contract_5 : decode cX12_contract 5 = .ok (.ifCond .eq 17, 3) := by decide +kernel
theorem dX12_contract_8 : decode cX12_contract 8 = .ok (.iload_n 2, 1) := by decide +kernel
theorem dX12_contract_9 : decode cX12_contract 9 = .ok (.invokestatic 191, 3) := by decide +kernel
theorem dX12_contract_12 : decode cX12_contract 12 = .ok (.ifCond .eq 10, 3) := by decide +kernel
theorem dX12_contract_15 : decode cX12_contract 15 = .ok (.iload_n 3, 1) := by decide +kernel
theorem dX12_contract_16 : decode cX12_contract 16 = .ok (.invokestatic 191, 3) := by decide +kernel
theorem dX12_contract_19 : decode cX12_contract 19 = .ok (.ifCond .ne 10, 3) := by decide +kernel
theorem dX12_contract_22 : decode cX12_contract 22 = .ok (.aload_n 0, 1) := by decide +kernel
theorem dX12_contract_23 : decode cX12_contract 23 = .ok (.ldc 79, 2) := by decide +kernel
theorem dX12_contract_25 : decode cX12_contract 25 = .ok (.invokevirtual 71, 3) := by decide +kernel
theorem dX12_contract_28 : decode cX12_contract 28 = .ok (.ireturn, 1) := by decide +kernel
theorem dX12_contract_29 : decode cX12_contract 29 = .ok (.iload_n 2, 1) := by decide +kernel
theorem dX12_contract_30 : decode cX12_contract 30 = .ok (.iload_n 3, 1) := by decide +kernel
theorem dX12_contract_31 : decode cX12_contract 31 = .ok (.if_icmp .ne 10, 3) := by decide +kernel
theorem dX12_contract_34 : decode cX12_contract 34 = .ok (.aload_n 0, 1) := by decide +kernel
theorem dX12_contract_35 : decode cX12_contract 35 = .ok (.ldc 108, 2) := by decide +kernel
theorem dX12_contract_37 : decode cX12_contract 37 = .ok (.invokevirtual 71, 3) := by decide +kernel
theorem dX12_contract_40 : decode cX12_contract 40 = .ok (.ireturn, 1) := by decide +kernel
theorem dX12_contract_41 : decode cX12_contract 41 = .ok (.aload_n 0, 1) := by decide +kernel
theorem dX12_contract_42 : decode cX12_contract 42 = .ok (.getfield 9, 3) := by decide +kernel
theorem dX12_contract_45 : decode cX12_contract 45 = .ok (.bipush 67, 2) := by decide +kernel
theorem dX12_contract_47 : decode cX12_contract 47 = .ok (.iaload, 1) := by decide +kernel
theorem dX12_contract_48 : decode cX12_contract 48 = .ok (.bipush 20, 2) := by decide +kernel
theorem dX12_contract_50 : decode cX12_contract 50 = .ok (.if_icmp .ne 10, 3) := by decide +kernel
theorem dX12_contract_53 : decode cX12_contract 53 = .ok (.aload_n 0, 1) := by decide +kernel
theorem dX12_contract_54 : decode cX12_contract 54 = .ok (.ldc 97, 2) := by decide +kernel
theorem dX12_contract_56 : decode cX12_contract 56 = .ok (.invokevirtual 71, 3) := by decide +kernel
theorem dX12_contract_59 : decode cX12_contract 59 = .ok (.ireturn, 1) := by decide +kernel
theorem dX12_contract_60 : decode cX12_contract 60 = .ok (.aload_n 0, 1) := by decide +kernel
theorem dX12_contract_61 : decode cX12_contract 61 = .ok (.invokevirtual 80, 3) := by decide +kernel
theorem dX12_contract_64 : decode cX12_contract 64 = .ok (.aload_n 0, 1) := by decide +kernel
theorem dX12_contract_65 : decode cX12_contract 65 = .ok (.getfield 9, 3) := by decide +kernel
theorem dX12_contract_68 : decode cX12_contract 68 = .ok (.sipush 240, 3) := by decide +kernel
theorem dX12_contract_71 : decode cX12_contract 71 = .ok (.aload_n 0, 1) := by decide +kernel
theorem dX12_contract_72 : decode cX12_contract 72 = .ok (.getfield 9, 3) := by decide +kernel
theorem dX12_contract_75 : decode cX12_contract 75 = .ok (.bipush 67, 2) := by decide +kernel
theorem dX12_contract_77 : decode cX12_contract 77 = .ok (.iaload, 1) := by decide +kernel
theorem dX12_contract_78 : decode cX12_contract 78 = .ok (.iadd, 1) := by decide +kernel
theorem dX12_contract_79 : decode cX12_contract 79 = .ok (.iload_n 1, 1) := by decide +kernel
theorem dX12_contract_80 : decode cX12_contract 80 = .ok (.bipush 8, 2) := by decide +kernel
theorem dX12_contract_82 : decode cX12_contract 82 = .ok (.iload_n 2, 1) := by decide +kernel
theorem dX12_contract_83 : decode cX12_contract 83 = .ok (.imul, 1) := by decide +kernel
theorem dX12_contract_84 : decode cX12_contract 84 = .ok (.iadd, 1) := by decide +kernel
theorem dX12_contract_85 : decode cX12_contract 85 = .ok (.bipush 80, 2) := by decide +kernel
theorem dX12_contract_87 : decode cX12_contract 87 = .ok (.iload_n 3, 1) := by decide +kernel
theorem dX12_contract_88 : decode cX12_contract 88 = .ok (.imul, 1) := by decide +kernel
theorem dX12_contract_89 : decode cX12_contract 89 = .ok (.iadd, 1) := by decide +kernel
theorem dX12_contract_90 : decode cX12_contract 90 = .ok (.iastore, 1) := by decide +kernel
theorem dX12_contract_91 : decode cX12_contract 91 = .ok (.aload_n 0, 1) := by decide +kernel
theorem dX12_contract_92 : decode cX12_contract 92 = .ok (.getfield 9, 3) := by decide +kernel
theorem dX12_contract_95 : decode cX12_contract 95 = .ok (.bipush 67, 2) := by decide +kernel
theorem dX12_contract_97 : decode cX12_contract 97 = .ok (.dup2, 1) := by decide +kernel
theorem dX12_contract_98 : decode cX12_contract 98 = .ok (.iaload, 1) := by decide +kernel
theorem dX12_contract_99 : decode cX12_contract 99 = .ok (.iconst 1, 1) := by decide +kernel
theorem dX12_contract_100 : decode cX12_contract 100 = .ok (.iadd, 1) := by decide +kernel
theorem dX12_contract_101 : decode cX12_contract 101 = .ok (.iastore, 1) := by decide +kernel
theorem dX12_contract_102 : decode cX12_contract 102 = .ok (.aload_n 0, 1) := by decide +kernel
theorem dX12_contract_103 : decode cX12_contract 103 = .ok (.getfield 9, 3) := by decide +kernel
theorem dX12_contract_106 : decode cX12_contract 106 = .ok (.bipush 67, 2) := by decide +kernel
theorem dX12_contract_108 : decode cX12_contract 108 = .ok (.iaload, 1) := by decide +kernel
theorem dX12_contract_109 : decode cX12_contract 109 = .ok (.iconst 1, 1) := by decide +kernel
theorem dX12_contract_110 : decode cX12_contract 110 = .ok (.isub, 1) := by decide +kernel
theorem dX12_contract_111 : decode cX12_contract 111 = .ok (.ireturn, 1) := by decide +kernel
theorem dX12_endOf_0 : decode cX12_endOf 0 = .ok (.iconst 0, 1) := by decide +kernel
theorem dX12_endOf_1 : decode cX12_endOf 1 = .ok (.istore_n 3, 1) := by decide +kernel
theorem dX12_endOf_2 : decode cX12_endOf 2 = .ok (.iload_n 2, 1) := by decide +kernel
theorem dX12_endOf_3 : decode cX12_endOf 3 = .ok (.istore 4, 2) := by decide +kernel
theorem dX12_endOf_5 : decode cX12_endOf 5 = .ok (.aload_n 0, 1) := by decide +kernel
theorem dX12_endOf_6 : decode cX12_endOf 6 = .ok (.iconst 0, 1) := by decide +kernel
theorem dX12_endOf_7 : decode cX12_endOf 7 = .ok (.putfield 194, 3) := by decide +kernel
theorem dX12_endOf_10 : decode cX12_endOf 10 = .ok (.iconst 1, 1) := by decide +kernel
theorem dX12_endOf_11 : decode cX12_endOf 11 = .ok (.istore 5, 2) := by decide +kernel
theorem dX12_endOf_13 : decode cX12_endOf 13 = .ok (.iload 5, 2) := by decide +kernel
theorem dX12_endOf_15 : decode cX12_endOf 15 = .ok (.ifCond .eq 137, 3) := by decide +kernel
theorem dX12_endOf_18 : decode cX12_endOf 18 = .ok (.iconst (-1), 1) := by decide +kernel
theorem dX12_endOf_19 : decode cX12_endOf 19 = .ok (.istore 6, 2) := by decide +kernel
theorem dX12_endOf_21 : decode cX12_endOf 21 = .ok (.iconst 0, 1) := by decide +kernel
theorem dX12_endOf_22 : decode cX12_endOf 22 = .ok (.istore 7, 2) := by decide +kernel
theorem dX12_endOf_24 : decode cX12_endOf 24 = .ok (.iload 7, 2) := by decide +kernel
theorem dX12_endOf_26 : decode cX12_endOf 26 = .ok (.aload_n 0, 1) := by decide +kernel
theorem dX12_endOf_27 : decode cX12_endOf 27 = .ok (.getfield 9, 3) := by decide +kernel
theorem dX12_endOf_30 : decode cX12_endOf 30 = .ok (.bipush 67, 2) := by decide +kernel
theorem dX12_endOf_32 : decode cX12_endOf 32 = .ok (.iaload, 1) := by decide +kernel
theorem dX12_endOf_33 : decode cX12_endOf 33 = .ok (.if_icmp .ge 66, 3) := by decide +kernel
theorem dX12_endOf_36 : decode cX12_endOf 36 = .ok (.iload 6, 2) := by decide +kernel
theorem dX12_endOf_38 : decode cX12_endOf 38 = .ok (.ifCond .ge 61, 3) := by decide +kernel
theorem dX12_endOf_41 : decode cX12_endOf 41 = .ok (.aload_n 0, 1) := by decide +kernel
theorem dX12_endOf_42 : decode cX12_endOf 42 = .ok (.getfield 9, 3) := by decide +kernel
theorem dX12_endOf_45 : decode cX12_endOf 45 = .ok (.sipush 240, 3) := by decide +kernel
theorem dX12_endOf_48 : decode cX12_endOf 48 = .ok (.iload 7, 2) := by decide +kernel
theorem dX12_endOf_50 : decode cX12_endOf 50 = .ok (.iadd, 1) := by decide +kernel
theorem dX12_endOf_51 : decode cX12_endOf 51 = .ok (.iaload, 1) := by decide +kernel
theorem dX12_endOf_52 : decode cX12_endOf 52 = .ok (.istore 8, 2) := by decide +kernel
theorem dX12_endOf_54 : decode cX12_endOf 54 = .ok (.iload_n 3, 1) := by decide +kernel
theorem dX12_endOf_55 : decode cX12_endOf 55 = .ok (.iload 7, 2) := by decide +kernel
theorem dX12_endOf_57 : decode cX12_endOf 57 = .ok (.ishr, 1) := by decide +kernel
theorem dX12_endOf_58 : decode cX12_endOf 58 = .ok (.iconst 1, 1) := by decide +kernel
theorem dX12_endOf_59 : decode cX12_endOf 59 = .ok (.iand, 1) := by decide +kernel
theorem dX12_endOf_60 : decode cX12_endOf 60 = .ok (.ifCond .ne 30, 3) := by decide +kernel
theorem dX12_endOf_63 : decode cX12_endOf 63 = .ok (.iload 8, 2) := by decide +kernel
theorem dX12_endOf_65 : decode cX12_endOf 65 = .ok (.bipush 8, 2) := by decide +kernel
theorem dX12_endOf_67 : decode cX12_endOf 67 = .ok (.irem, 1) := by decide +kernel
theorem dX12_endOf_68 : decode cX12_endOf 68 = .ok (.iload_n 1, 1) := by decide +kernel
theorem dX12_endOf_69 : decode cX12_endOf 69 = .ok (.if_icmp .ne 21, 3) := by decide +kernel
theorem dX12_endOf_72 : decode cX12_endOf 72 = .ok (.iload 8, 2) := by decide +kernel
theorem dX12_endOf_74 : decode cX12_endOf 74 = .ok (.bipush 8, 2) := by decide +kernel
theorem dX12_endOf_76 : decode cX12_endOf 76 = .ok (.idiv, 1) := by decide +kernel
theorem dX12_endOf_77 : decode cX12_endOf 77 = .ok (.bipush 10, 2) := by decide +kernel
theorem dX12_endOf_79 : decode cX12_endOf 79 = .ok (.irem, 1) := by decide +kernel
theorem dX12_endOf_80 : decode cX12_endOf 80 = .ok (.iload 4, 2) := by decide +kernel
theorem dX12_endOf_82 : decode cX12_endOf 82 = .ok (.if_icmp .ne 8, 3) := by decide +kernel
theorem dX12_endOf_85 : decode cX12_endOf 85 = .ok (.iload 7, 2) := by decide +kernel
theorem dX12_endOf_87 : decode cX12_endOf 87 = .ok (.goto 4, 3) := by decide +kernel
theorem dX12_endOf_90 : decode cX12_endOf 90 = .ok (.iconst (-1), 1) := by decide +kernel
theorem dX12_endOf_91 : decode cX12_endOf 91 = .ok (.istore 6, 2) := by decide +kernel
theorem dX12_endOf_93 : decode cX12_endOf 93 = .ok (.iinc 7 1, 3) := by decide +kernel
theorem dX12_endOf_96 : decode cX12_endOf 96 = .ok (.goto (-72), 3) := by decide +kernel
theorem dX12_endOf_99 : decode cX12_endOf 99 = .ok (.iload 6, 2) := by decide +kernel
theorem dX12_endOf_101 : decode cX12_endOf 101 = .ok (.ifCond .lt 7, 3) := by decide +kernel
theorem dX12_endOf_104 : decode cX12_endOf 104 = .ok (.iconst 1, 1) := by decide +kernel
theorem dX12_endOf_105 : decode cX12_endOf 105 = .ok (.goto 4, 3) := by decide +kernel
theorem dX12_endOf_108 : decode cX12_endOf 108 = .ok (.iconst 0, 1) := by decide +kernel
theorem dX12_endOf_109 : decode cX12_endOf 109 = .ok (.istore 5, 2) := by decide +kernel
theorem dX12_endOf_111 : decode cX12_endOf 111 = .ok (.iload 5, 2) := by decide +kernel
theorem dX12_endOf_113 : decode cX12_endOf 113 = .ok (.ifCond .eq 36, 3) := by decide +kernel
theorem dX12_endOf_116 : decode cX12_endOf 116 = .ok (.iload_n 3, 1) := by decide +kernel
theorem dX12_endOf_117 : decode cX12_endOf 117 = .ok (.iconst 1, 1) := by decide +kernel
theorem dX12_endOf_118 : decode cX12_endOf 118 = .ok (.iload 6, 2) := by decide +kernel
theorem dX12_endOf_120 : decode cX12_endOf 120 = .ok (.ishl, 1) := by decide +kernel
theorem dX12_endOf_121 : decode cX12_endOf 121 = .ok (.ior, 1) := by decide +kernel
theorem dX12_endOf_122 : decode cX12_endOf 122 = .ok (.istore_n 3, 1) := by decide +kernel
theorem dX12_endOf_123 : decode cX12_endOf 123 = .ok (.aload_n 0, 1) := by decide +kernel
theorem dX12_endOf_124 : decode cX12_endOf 124 = .ok (.getfield 9, 3) := by decide +kernel
theorem dX12_endOf_127 : decode cX12_endOf 127 = .ok (.sipush 240, 3) := by decide +kernel
theorem dX12_endOf_130 : decode cX12_endOf 130 = .ok (.iload 6, 2) := by decide +kernel
theorem dX12_endOf_132 : decode cX12_endOf 132 = .ok (.iadd, 1) := by decide +kernel
theorem dX12_endOf_133 : decode cX12_endOf 133 = .ok (.iaload, 1) := by decide +kernel
theorem dX12_endOf_134 : decode cX12_endOf 134 = .ok (.bipush 80, 2) := by decide +kernel
theorem dX12_endOf_136 : decode cX12_endOf 136 = .ok (.idiv, 1) := by decide +kernel
theorem dX12_endOf_137 : decode cX12_endOf 137 = .ok (.istore 4, 2) := by decide +kernel
theorem dX12_endOf_139 : decode cX12_endOf 139 = .ok (.aload_n 0, 1) := by decide +kernel
theorem dX12_endOf_140 : decode cX12_endOf 140 = .ok (.dup, 1) := by decide +kernel
theorem dX12_endOf_141 : decode cX12_endOf 141 = .ok (.getfield 194, 3) := by decide +kernel
theorem dX12_endOf_144 : decode cX12_endOf 144 = .ok (.iconst 1, 1) := by decide +kernel
theorem dX12_endOf_145 : decode cX12_endOf 145 = .ok (.iadd, 1) := by decide +kernel
theorem dX12_endOf_146 : decode cX12_endOf 146 = .ok (.putfield 194, 3) := by decide +kernel
theorem dX12_endOf_149 : decode cX12_endOf 149 = .ok (.goto (-136), 3) := by decide +kernel
theorem dX12_endOf_152 : decode cX12_endOf 152 = .ok (.iload 4, 2) := by decide +kernel
theorem dX12_endOf_154 : decode cX12_endOf 154 = .ok (.ireturn, 1) := by decide +kernel
theorem dX12_chain_0 : decode cX12_chain 0 = .ok (.aload_n 0, 1) := by decide +kernel
theorem dX12_chain_1 : decode cX12_chain 1 = .ok (.iload_n 1, 1) := by decide +kernel
theorem dX12_chain_2 : decode cX12_chain 2 = .ok (.invokevirtual 109, 3) := by decide +kernel
theorem dX12_chain_5 : decode cX12_chain 5 = .ok (.ifCond .eq 10, 3) := by decide +kernel
theorem dX12_chain_8 : decode cX12_chain 8 = .ok (.iload_n 2, 1) := by decide +kernel
theorem dX12_chain_9 : decode cX12_chain 9 = .ok (.invokestatic 191, 3) := by decide +kernel
theorem dX12_chain_12 : decode cX12_chain 12 = .ok (.ifCond .ne 10, 3) := by decide +kernel
theorem dX12_chain_15 : decode cX12_chain 15 = .ok (.aload_n 0, 1) := by decide +kernel
theorem dX12_chain_16 : decode cX12_chain 16 = .ok (.ldc 79, 2) := by decide +kernel
theorem dX12_chain_18 : decode cX12_chain 18 = .ok (.invokevirtual 71, 3) := by decide +kernel
theorem dX12_chain_21 : decode cX12_chain 21 = .ok (.ireturn, 1) := by decide +kernel
theorem dX12_chain_22 : decode cX12_chain 22 = .ok (.aload_n 0, 1) := by decide +kernel
theorem dX12_chain_23 : decode cX12_chain 23 = .ok (.iload_n 1, 1) := by decide +kernel
theorem dX12_chain_24 : decode cX12_chain 24 = .ok (.iload_n 2, 1) := by decide +kernel
theorem dX12_chain_25 : decode cX12_chain 25 = .ok (.invokevirtual 197, 3) := by decide +kernel
theorem dX12_chain_28 : decode cX12_chain 28 = .ok (.istore 4, 2) := by decide +kernel
theorem dX12_chain_30 : decode cX12_chain 30 = .ok (.iload_n 3, 1) := by decide +kernel
theorem dX12_chain_31 : decode cX12_chain 31 = .ok (.ifCond .eq 8, 3) := by decide +kernel
theorem dX12_chain_34 : decode cX12_chain 34 = .ok (.iload 4, 2) := by decide +kernel
theorem dX12_chain_36 : decode cX12_chain 36 = .ok (.goto 7, 3) := by decide +kernel
theorem dX12_chain_39 : decode cX12_chain 39 = .ok (.aload_n 0, 1) := by decide +kernel
theorem dX12_chain_40 : decode cX12_chain 40 = .ok (.getfield 194, 3) := by decide +kernel
theorem dX12_chain_43 : decode cX12_chain 43 = .ok (.ireturn, 1) := by decide +kernel
theorem dX12_doubles_0 : decode cX12_doubles 0 = .ok (.aload_n 0, 1) := by decide +kernel
theorem dX12_doubles_1 : decode cX12_doubles 1 = .ok (.iload_n 1, 1) := by decide +kernel
theorem dX12_doubles_2 : decode cX12_doubles 2 = .ok (.invokevirtual 109, 3) := by decide +kernel
theorem dX12_doubles_5 : decode cX12_doubles 5 = .ok (.ifCond .ne 10, 3) := by decide +kernel
theorem dX12_doubles_8 : decode cX12_doubles 8 = .ok (.aload_n 0, 1) := by decide +kernel
theorem dX12_doubles_9 : decode cX12_doubles 9 = .ok (.ldc 79, 2) := by decide +kernel
theorem dX12_doubles_11 : decode cX12_doubles 11 = .ok (.invokevirtual 71, 3) := by decide +kernel
theorem dX12_doubles_14 : decode cX12_doubles 14 = .ok (.ireturn, 1) := by decide +kernel
theorem dX12_doubles_15 : decode cX12_doubles 15 = .ok (.iconst 0, 1) := by decide +kernel
theorem dX12_doubles_16 : decode cX12_doubles 16 = .ok (.istore_n 2, 1) := by decide +kernel
theorem dX12_doubles_17 : decode cX12_doubles 17 = .ok (.iconst 0, 1) := by decide +kernel
theorem dX12_doubles_18 : decode cX12_doubles 18 = .ok (.istore_n 3, 1) := by decide +kernel
theorem dX12_doubles_19 : decode cX12_doubles 19 = .ok (.iload_n 3, 1) := by decide +kernel
theorem dX12_doubles_20 : decode cX12_doubles 20 = .ok (.bipush 10, 2) := by decide +kernel
theorem dX12_doubles_22 : decode cX12_doubles 22 = .ok (.if_icmp .ge 101, 3) := by decide +kernel
theorem dX12_doubles_25 : decode cX12_doubles 25 = .ok (.iconst 0, 1) := by decide +kernel
theorem dX12_doubles_26 : decode cX12_doubles 26 = .ok (.istore 4, 2) := by decide +kernel
theorem dX12_doubles_28 : decode cX12_doubles 28 = .ok (.iconst 0, 1) := by decide +kernel
theorem dX12_doubles_29 : decode cX12_doubles 29 = .ok (.istore 5, 2) := by decide +kernel
theorem dX12_doubles_31 : decode cX12_doubles 31 = .ok (.iload 5, 2) := by decide +kernel
theorem dX12_doubles_33 : decode cX12_doubles 33 = .ok (.aload_n 0, 1) := by decide +kernel
theorem dX12_doubles_34 : decode cX12_doubles 34 = .ok (.getfield 9, 3) := by decide +kernel
theorem dX12_doubles_37 : decode cX12_doubles 37 = .ok (.bipush 67, 2) := by decide +kernel
theorem dX12_doubles_39 : decode cX12_doubles 39 = .ok (.iaload, 1) := by decide +kernel
theorem dX12_doubles_40 : decode cX12_doubles 40 = .ok (.if_icmp .ge 59, 3) := by decide +kernel
theorem dX12_doubles_43 : decode cX12_doubles 43 = .ok (.aload_n 0, 1) := by decide +kernel
theorem dX12_doubles_44 : decode cX12_doubles 44 = .ok (.getfield 9, 3) := by decide +kernel
theorem dX12_doubles_47 : decode cX12_doubles 47 = .ok (.sipush 240, 3) := by decide +kernel
theorem dX12_doubles_50 : decode cX12_doubles 50 = .ok (.iload 5, 2) := by decide +kernel
theorem dX12_doubles_52 : decode cX12_doubles 52 = .ok (.iadd, 1) := by decide +kernel
theorem dX12_doubles_53 : decode cX12_doubles 53 = .ok (.iaload, 1) := by decide +kernel
theorem dX12_doubles_54 : decode cX12_doubles 54 = .ok (.istore 6, 2) := by decide +kernel
theorem dX12_doubles_56 : decode cX12_doubles 56 = .ok (.iload 4, 2) := by decide +kernel
theorem dX12_doubles_58 : decode cX12_doubles 58 = .ok (.iload 6, 2) := by decide +kernel
theorem dX12_doubles_60 : decode cX12_doubles 60 = .ok (.bipush 8, 2) := by decide +kernel
theorem dX12_doubles_62 : decode cX12_doubles 62 = .ok (.irem, 1) := by decide +kernel
theorem dX12_doubles_63 : decode cX12_doubles 63 = .ok (.iload_n 1, 1) := by decide +kernel
theorem dX12_doubles_64 : decode cX12_doubles 64 = .ok (.if_icmp .ne 25, 3) := by decide +kernel
theorem dX12_doubles_67 : decode cX12_doubles 67 = .ok (.iload 6, 2) := by decide +kernel
theorem dX12_doubles_69 : decode cX12_doubles 69 = .ok (.bipush 8, 2) := by decide +kernel
theorem dX12_doubles_71 : decode cX12_doubles 71 = .ok (.idiv, 1) := by decide +kernel
theorem dX12_doubles_72 : decode cX12_doubles 72 = .ok (.bipush 10, 2) := by decide +kernel
theorem dX12_doubles_74 : decode cX12_doubles 74 = .ok (.irem, 1) := by decide +kernel
theorem dX12_doubles_75 : decode cX12_doubles 75 = .ok (.iload_n 3, 1) := by decide +kernel
theorem dX12_doubles_76 : decode cX12_doubles 76 = .ok (.if_icmp .ne 13, 3) := by decide +kernel
theorem dX12_doubles_79 : decode cX12_doubles 79 = .ok (.iconst 1, 1) := by decide +kernel
theorem dX12_doubles_80 : decode cX12_doubles 80 = .ok (.iload 6, 2) := by decide +kernel
theorem dX12_doubles_82 : decode cX12_doubles 82 = .ok (.bipush 80, 2) := by decide +kernel
theorem dX12_doubles_84 : decode cX12_doubles 84 = .ok (.idiv, 1) := by decide +kernel
theorem dX12_doubles_85 : decode cX12_doubles 85 = .ok (.ishl, 1) := by decide +kernel
theorem dX12_doubles_86 : decode cX12_doubles 86 = .ok (.goto 4, 3) := by decide +kernel
theorem dX12_doubles_89 : decode cX12_doubles 89 = .ok (.iconst 0, 1) := by decide +kernel
theorem dX12_doubles_90 : decode cX12_doubles 90 = .ok (.ior, 1) := by decide +kernel
theorem dX12_doubles_91 : decode cX12_doubles 91 = .ok (.istore 4, 2) := by decide +kernel
theorem dX12_doubles_93 : decode cX12_doubles 93 = .ok (.iinc 5 1, 3) := by decide +kernel
theorem dX12_doubles_96 : decode cX12_doubles 96 = .ok (.goto (-65), 3) := by decide +kernel
theorem dX12_doubles_99 : decode cX12_doubles 99 = .ok (.iload_n 2, 1) := by decide +kernel
theorem dX12_doubles_100 : decode cX12_doubles 100 = .ok (.iload 4, 2) := by decide +kernel
theorem dX12_doubles_102 : decode cX12_doubles 102 = .ok (.iload 4, 2) := by decide +kernel
theorem dX12_doubles_104 : decode cX12_doubles 104 = .ok (.iconst 1, 1) := by decide +kernel
theorem dX12_doubles_105 : decode cX12_doubles 105 = .ok (.isub, 1) := by decide +kernel
theorem dX12_doubles_106 : decode cX12_doubles 106 = .ok (.iand, 1) := by decide +kernel
theorem dX12_doubles_107 : decode cX12_doubles 107 = .ok (.ifCond .eq 7, 3) := by decide +kernel
theorem dX12_doubles_110 : decode cX12_doubles 110 = .ok (.iconst 1, 1) := by decide +kernel
theorem dX12_doubles_111 : decode cX12_doubles 111 = .ok (.goto 4, 3) := by decide +kernel
theorem dX12_doubles_114 : decode cX12_doubles 114 = .ok (.iconst 0, 1) := by decide +kernel
theorem dX12_doubles_115 : decode cX12_doubles 115 = .ok (.iadd, 1) := by decide +kernel
theorem dX12_doubles_116 : decode cX12_doubles 116 = .ok (.istore_n 2, 1) := by decide +kernel
theorem dX12_doubles_117 : decode cX12_doubles 117 = .ok (.iinc 3 1, 3) := by decide +kernel
theorem dX12_doubles_120 : decode cX12_doubles 120 = .ok (.goto (-101), 3) := by decide +kernel
theorem dX12_doubles_123 : decode cX12_doubles 123 = .ok (.iload_n 2, 1) := by decide +kernel
theorem dX12_doubles_124 : decode cX12_doubles 124 = .ok (.ireturn, 1) := by decide +kernel
theorem dX12_report_0 : decode cX12_report 0 = .ok (.aload_n 0, 1) := by decide +kernel
theorem dX12_report_1 : decode cX12_report 1 = .ok (.iload_n 1, 1) := by decide +kernel
theorem dX12_report_2 : decode cX12_report 2 = .ok (.invokevirtual 101, 3) := by decide +kernel
theorem dX12_report_5 : decode cX12_report 5 = .ok (.ifCond .eq 21, 3) := by decide +kernel
theorem dX12_report_8 : decode cX12_report 8 = .ok (.iload_n 2, 1) := by decide +kernel
theorem dX12_report_9 : decode cX12_report 9 = .ok (.invokestatic 75, 3) := by decide +kernel
theorem dX12_report_12 : decode cX12_report 12 = .ok (.ifCond .eq 14, 3) := by decide +kernel
theorem dX12_report_15 : decode cX12_report 15 = .ok (.iload_n 3, 1) := by decide +kernel
theorem dX12_report_16 : decode cX12_report 16 = .ok (.iconst 0, 1) := by decide +kernel
theorem dX12_report_17 : decode cX12_report 17 = .ok (.sipush 4000, 3) := by decide +kernel
theorem dX12_report_20 : decode cX12_report 20 = .ok (.invokestatic 63, 3) := by decide +kernel
theorem dX12_report_23 : decode cX12_report 23 = .ok (.ifCond .ne 10, 3) := by decide +kernel
theorem dX12_report_26 : decode cX12_report 26 = .ok (.aload_n 0, 1) := by decide +kernel
theorem dX12_report_27 : decode cX12_report 27 = .ok (.ldc 79, 2) := by decide +kernel
theorem dX12_report_29 : decode cX12_report 29 = .ok (.invokevirtual 71, 3) := by decide +kernel
theorem dX12_report_32 : decode cX12_report 32 = .ok (.ireturn, 1) := by decide +kernel
theorem dX12_report_33 : decode cX12_report 33 = .ok (.aload_n 0, 1) := by decide +kernel
theorem dX12_report_34 : decode cX12_report 34 = .ok (.getfield 9, 3) := by decide +kernel
theorem dX12_report_37 : decode cX12_report 37 = .ok (.bipush 68, 2) := by decide +kernel
theorem dX12_report_39 : decode cX12_report 39 = .ok (.iaload, 1) := by decide +kernel
theorem dX12_report_40 : decode cX12_report 40 = .ok (.bipush 30, 2) := by decide +kernel
theorem dX12_report_42 : decode cX12_report 42 = .ok (.if_icmp .ne 10, 3) := by decide +kernel
theorem dX12_report_45 : decode cX12_report 45 = .ok (.aload_n 0, 1) := by decide +kernel
theorem dX12_report_46 : decode cX12_report 46 = .ok (.ldc 97, 2) := by decide +kernel
theorem dX12_report_48 : decode cX12_report 48 = .ok (.invokevirtual 71, 3) := by decide +kernel
theorem dX12_report_51 : decode cX12_report 51 = .ok (.ireturn, 1) := by decide +kernel
theorem dX12_report_52 : decode cX12_report 52 = .ok (.aload_n 0, 1) := by decide +kernel
theorem dX12_report_53 : decode cX12_report 53 = .ok (.invokevirtual 80, 3) := by decide +kernel
theorem dX12_report_56 : decode cX12_report 56 = .ok (.aload_n 0, 1) := by decide +kernel
theorem dX12_report_57 : decode cX12_report 57 = .ok (.getfield 9, 3) := by decide +kernel
theorem dX12_report_60 : decode cX12_report 60 = .ok (.sipush 260, 3) := by decide +kernel
theorem dX12_report_63 : decode cX12_report 63 = .ok (.aload_n 0, 1) := by decide +kernel
theorem dX12_report_64 : decode cX12_report 64 = .ok (.getfield 9, 3) := by decide +kernel
theorem dX12_report_67 : decode cX12_report 67 = .ok (.bipush 68, 2) := by decide +kernel
theorem dX12_report_69 : decode cX12_report 69 = .ok (.iaload, 1) := by decide +kernel
theorem dX12_report_70 : decode cX12_report 70 = .ok (.iadd, 1) := by decide +kernel
theorem dX12_report_71 : decode cX12_report 71 = .ok (.iload_n 1, 1) := by decide +kernel
theorem dX12_report_72 : decode cX12_report 72 = .ok (.bipush 6, 2) := by decide +kernel
theorem dX12_report_74 : decode cX12_report 74 = .ok (.iload_n 2, 1) := by decide +kernel
theorem dX12_report_75 : decode cX12_report 75 = .ok (.imul, 1) := by decide +kernel
theorem dX12_report_76 : decode cX12_report 76 = .ok (.iadd, 1) := by decide +kernel
theorem dX12_report_77 : decode cX12_report 77 = .ok (.bipush 48, 2) := by decide +kernel
theorem dX12_report_79 : decode cX12_report 79 = .ok (.iload_n 3, 1) := by decide +kernel
theorem dX12_report_80 : decode cX12_report 80 = .ok (.imul, 1) := by decide +kernel
theorem dX12_report_81 : decode cX12_report 81 = .ok (.iadd, 1) := by decide +kernel
theorem dX12_report_82 : decode cX12_report 82 = .ok (.iastore, 1) := by decide +kernel
theorem dX12_report_83 : decode cX12_report 83 = .ok (.aload_n 0, 1) := by decide +kernel
theorem dX12_report_84 : decode cX12_report 84 = .ok (.getfield 9, 3) := by decide +kernel
theorem dX12_report_87 : decode cX12_report 87 = .ok (.bipush 68, 2) := by decide +kernel
theorem dX12_report_89 : decode cX12_report 89 = .ok (.dup2, 1) := by decide +kernel
theorem dX12_report_90 : decode cX12_report 90 = .ok (.iaload, 1) := by decide +kernel
theorem dX12_report_91 : decode cX12_report 91 = .ok (.iconst 1, 1) := by decide +kernel
theorem dX12_report_92 : decode cX12_report 92 = .ok (.iadd, 1) := by decide +kernel
theorem dX12_report_93 : decode cX12_report 93 = .ok (.iastore, 1) := by decide +kernel
theorem dX12_report_94 : decode cX12_report 94 = .ok (.aload_n 0, 1) := by decide +kernel
theorem dX12_report_95 : decode cX12_report 95 = .ok (.getfield 9, 3) := by decide +kernel
theorem dX12_report_98 : decode cX12_report 98 = .ok (.bipush 68, 2) := by decide +kernel
theorem dX12_report_100 : decode cX12_report 100 = .ok (.iaload, 1) := by decide +kernel
theorem dX12_report_101 : decode cX12_report 101 = .ok (.iconst 1, 1) := by decide +kernel
theorem dX12_report_102 : decode cX12_report 102 = .ok (.isub, 1) := by decide +kernel
theorem dX12_report_103 : decode cX12_report 103 = .ok (.ireturn, 1) := by decide +kernel
theorem dX12_cannot_0 : decode cX12_cannot 0 = .ok (.aload_n 0, 1) := by decide +kernel
theorem dX12_cannot_1 : decode cX12_cannot 1 = .ok (.iload_n 1, 1) := by decide +kernel
theorem dX12_cannot_2 : decode cX12_cannot 2 = .ok (.invokevirtual 101, 3) := by decide +kernel
theorem dX12_cannot_5 : decode cX12_cannot 5 = .ok (.ifCond .ne 10, 3) := by decide +kernel
theorem dX12_cannot_8 : decode cX12_cannot 8 = .ok (.aload_n 0, 1) := by decide +kernel
theorem dX12_cannot_9 : decode cX12_cannot 9 = .ok (.ldc 79, 2) := by decide +kernel
theorem dX12_cannot_11 : decode cX12_cannot 11 = .ok (.invokevirtual 71, 3) := by decide +kernel
theorem dX12_cannot_14 : decode cX12_cannot 14 = .ok (.ireturn, 1) := by decide +kernel
theorem dX12_cannot_15 : decode cX12_cannot 15 = .ok (.aload_n 0, 1) := by decide +kernel
theorem dX12_cannot_16 : decode cX12_cannot 16 = .ok (.invokevirtual 90, 3) := by decide +kernel
theorem dX12_cannot_19 : decode cX12_cannot 19 = .ok (.iconst 0, 1) := by decide +kernel
theorem dX12_cannot_20 : decode cX12_cannot 20 = .ok (.istore_n 3, 1) := by decide +kernel
theorem dX12_cannot_21 : decode cX12_cannot 21 = .ok (.iconst 0, 1) := by decide +kernel
theorem dX12_cannot_22 : decode cX12_cannot 22 = .ok (.istore 4, 2) := by decide +kernel
theorem dX12_cannot_24 : decode cX12_cannot 24 = .ok (.iload 4, 2) := by decide +kernel
theorem dX12_cannot_26 : decode cX12_cannot 26 = .ok (.aload_n 0, 1) := by decide +kernel
theorem dX12_cannot_27 : decode cX12_cannot 27 = .ok (.getfield 9, 3) := by decide +kernel
theorem dX12_cannot_30 : decode cX12_cannot 30 = .ok (.bipush 68, 2) := by decide +kernel
theorem dX12_cannot_32 : decode cX12_cannot 32 = .ok (.iaload, 1) := by decide +kernel
theorem dX12_cannot_33 : decode cX12_cannot 33 = .ok (.if_icmp .ge 157, 3) := by decide +kernel
theorem dX12_cannot_36 : decode cX12_cannot 36 = .ok (.iload 4, 2) := by decide +kernel
theorem dX12_cannot_38 : decode cX12_cannot 38 = .ok (.iconst 1, 1) := by decide +kernel
theorem dX12_cannot_39 : decode cX12_cannot 39 = .ok (.iadd, 1) := by decide +kernel
theorem dX12_cannot_40 : decode cX12_cannot 40 = .ok (.istore 5, 2) := by decide +kernel
theorem dX12_cannot_42 : decode cX12_cannot 42 = .ok (.iload 5, 2) := by decide +kernel
theorem dX12_cannot_44 : decode cX12_cannot 44 = .ok (.aload_n 0, 1) := by decide +kernel
theorem dX12_cannot_45 : decode cX12_cannot 45 = .ok (.getfield 9, 3) := by decide +kernel
theorem dX12_cannot_48 : decode cX12_cannot 48 = .ok (.bipush 68, 2) := by decide +kernel
theorem dX12_cannot_50 : decode cX12_cannot 50 = .ok (.iaload, 1) := by decide +kernel
theorem dX12_cannot_51 : decode cX12_cannot 51 = .ok (.if_icmp .ge 133, 3) := by decide +kernel
theorem dX12_cannot_54 : decode cX12_cannot 54 = .ok (.aload_n 0, 1) := by decide +kernel
theorem dX12_cannot_55 : decode cX12_cannot 55 = .ok (.getfield 9, 3) := by decide +kernel
theorem dX12_cannot_58 : decode cX12_cannot 58 = .ok (.sipush 260, 3) := by decide +kernel
theorem dX12_cannot_61 : decode cX12_cannot 61 = .ok (.iload 4, 2) := by decide +kernel
theorem dX12_cannot_63 : decode cX12_cannot 63 = .ok (.iadd, 1) := by decide +kernel
theorem dX12_cannot_64 : decode cX12_cannot 64 = .ok (.iaload, 1) := by decide +kernel
theorem dX12_cannot_65 : decode cX12_cannot 65 = .ok (.istore 6, 2) := by decide +kernel
theorem dX12_cannot_67 : decode cX12_cannot 67 = .ok (.aload_n 0, 1) := by decide +kernel
theorem dX12_cannot_68 : decode cX12_cannot 68 = .ok (.getfield 9, 3) := by decide +kernel
theorem dX12_cannot_71 : decode cX12_cannot 71 = .ok (.sipush 260, 3) := by decide +kernel
theorem dX12_cannot_74 : decode cX12_cannot 74 = .ok (.iload 5, 2) := by decide +kernel
theorem dX12_cannot_76 : decode cX12_cannot 76 = .ok (.iadd, 1) := by decide +kernel
theorem dX12_cannot_77 : decode cX12_cannot 77 = .ok (.iaload, 1) := by decide +kernel
theorem dX12_cannot_78 : decode cX12_cannot 78 = .ok (.istore 7, 2) := by decide +kernel
theorem dX12_cannot_80 : decode cX12_cannot 80 = .ok (.iload 6, 2) := by decide +kernel
theorem dX12_cannot_82 : decode cX12_cannot 82 = .ok (.bipush 6, 2) := by decide +kernel
theorem dX12_cannot_84 : decode cX12_cannot 84 = .ok (.irem, 1) := by decide +kernel
theorem dX12_cannot_85 : decode cX12_cannot 85 = .ok (.iload_n 1, 1) := by decide +kernel
theorem dX12_cannot_86 : decode cX12_cannot 86 = .ok (.if_icmp .ne 58, 3) := by decide +kernel
theorem dX12_cannot_89 : decode cX12_cannot 89 = .ok (.iload 7, 2) := by decide +kernel
theorem dX12_cannot_91 : decode cX12_cannot 91 = .ok (.bipush 6, 2) := by decide +kernel
theorem dX12_cannot_93 : decode cX12_cannot 93 = .ok (.irem, 1) := by decide +kernel
theorem dX12_cannot_94 : decode cX12_cannot 94 = .ok (.iload_n 1, 1) := by decide +kernel
theorem dX12_cannot_95 : decode cX12_cannot 95 = .ok (.if_icmp .ne 49, 3) := by decide +kernel
theorem dX12_cannot_98 : decode cX12_cannot 98 = .ok (.aload_n 0, 1) := by decide +kernel
theorem dX12_cannot_99 : decode cX12_cannot 99 = .ok (.getfield 25, 3) := by decide +kernel
theorem dX12_cannot_102 : decode cX12_cannot 102 = .ok (.bipush 8, 2) := by decide +kernel
theorem dX12_cannot_104 : decode cX12_cannot 104 = .ok (.iload 6, 2) := by decide +kernel
theorem dX12_cannot_106 : decode cX12_cannot 106 = .ok (.bipush 6, 2) := by decide +kernel
theorem dX12_cannot_108 : decode cX12_cannot 108 = .ok (.idiv, 1) := by decide +kernel
theorem dX12_cannot_109 : decode cX12_cannot 109 = .ok (.bipush 8, 2) := by decide +kernel
theorem dX12_cannot_111 : decode cX12_cannot 111 = .ok (.irem, 1) := by decide +kernel
theorem dX12_cannot_112 : decode cX12_cannot 112 = .ok (.imul, 1) := by decide +kernel
theorem dX12_cannot_113 : decode cX12_cannot 113 = .ok (.iload 7, 2) := by decide +kernel
theorem dX12_cannot_115 : decode cX12_cannot 115 = .ok (.bipush 6, 2) := by decide +kernel
theorem dX12_cannot_117 : decode cX12_cannot 117 = .ok (.idiv, 1) := by decide +kernel
theorem dX12_cannot_118 : decode cX12_cannot 118 = .ok (.bipush 8, 2) := by decide +kernel
theorem dX12_cannot_120 : decode cX12_cannot 120 = .ok (.irem, 1) := by decide +kernel
theorem dX12_cannot_121 : decode cX12_cannot 121 = .ok (.iadd, 1) := by decide +kernel
theorem dX12_cannot_122 : decode cX12_cannot 122 = .ok (.iaload, 1) := by decide +kernel
theorem dX12_cannot_123 : decode cX12_cannot 123 = .ok (.iload 6, 2) := by decide +kernel
theorem dX12_cannot_125 : decode cX12_cannot 125 = .ok (.bipush 48, 2) := by decide +kernel
theorem dX12_cannot_127 : decode cX12_cannot 127 = .ok (.idiv, 1) := by decide +kernel
theorem dX12_cannot_128 : decode cX12_cannot 128 = .ok (.iload 7, 2) := by decide +kernel
theorem dX12_cannot_130 : decode cX12_cannot 130 = .ok (.bipush 48, 2) := by decide +kernel
theorem dX12_cannot_132 : decode cX12_cannot 132 = .ok (.idiv, 1) := by decide +kernel
theorem dX12_cannot_133 : decode cX12_cannot 133 = .ok (.isub, 1) := by decide +kernel
theorem dX12_cannot_134 : decode cX12_cannot 134 = .ok (.invokestatic 200, 3) := by decide +kernel
theorem dX12_cannot_137 : decode cX12_cannot 137 = .ok (.if_icmp .le 7, 3) := by decide +kernel
theorem dX12_cannot_140 : decode cX12_cannot 140 = .ok (.iconst 1, 1) := by decide +kernel
theorem dX12_cannot_141 : decode cX12_cannot 141 = .ok (.goto 4, 3) := by decide +kernel
theorem dX12_cannot_144 : decode cX12_cannot 144 = .ok (.iconst 0, 1) := by decide +kernel
theorem dX12_cannot_145 : decode cX12_cannot 145 = .ok (.istore 8, 2) := by decide +kernel
theorem dX12_cannot_147 : decode cX12_cannot 147 = .ok (.iload 8, 2) := by decide +kernel
theorem dX12_cannot_149 : decode cX12_cannot 149 = .ok (.ifCond .eq 16, 3) := by decide +kernel
theorem dX12_cannot_152 : decode cX12_cannot 152 = .ok (.iload_n 2, 1) := by decide +kernel
theorem dX12_cannot_153 : decode cX12_cannot 153 = .ok (.ifCond .eq 12, 3) := by decide +kernel
theorem dX12_cannot_156 : decode cX12_cannot 156 = .ok (.bipush 100, 2) := by decide +kernel
theorem dX12_cannot_158 : decode cX12_cannot 158 = .ok (.iload 4, 2) := by decide +kernel
theorem dX12_cannot_160 : decode cX12_cannot 160 = .ok (.imul, 1) := by decide +kernel
theorem dX12_cannot_161 : decode cX12_cannot 161 = .ok (.iload 5, 2) := by decide +kernel
theorem dX12_cannot_163 : decode cX12_cannot 163 = .ok (.iadd, 1) := by decide +kernel
theorem dX12_cannot_164 : decode cX12_cannot 164 = .ok (.ireturn, 1) := by decide +kernel
theorem dX12_cannot_165 : decode cX12_cannot 165 = .ok (.iload_n 3, 1) := by decide +kernel
theorem dX12_cannot_166 : decode cX12_cannot 166 = .ok (.iload 8, 2) := by decide +kernel
theorem dX12_cannot_168 : decode cX12_cannot 168 = .ok (.ifCond .eq 7, 3) := by decide +kernel
theorem dX12_cannot_171 : decode cX12_cannot 171 = .ok (.iconst 1, 1) := by decide +kernel
theorem dX12_cannot_172 : decode cX12_cannot 172 = .ok (.goto 4, 3) := by decide +kernel
theorem dX12_cannot_175 : decode cX12_cannot 175 = .ok (.iconst 0, 1) := by decide +kernel
theorem dX12_cannot_176 : decode cX12_cannot 176 = .ok (.iadd, 1) := by decide +kernel
theorem dX12_cannot_177 : decode cX12_cannot 177 = .ok (.istore_n 3, 1) := by decide +kernel
theorem dX12_cannot_178 : decode cX12_cannot 178 = .ok (.iinc 5 1, 3) := by decide +kernel
theorem dX12_cannot_181 : decode cX12_cannot 181 = .ok (.goto (-139), 3) := by decide +kernel
theorem dX12_cannot_184 : decode cX12_cannot 184 = .ok (.iinc 4 1, 3) := by decide +kernel
theorem dX12_cannot_187 : decode cX12_cannot 187 = .ok (.goto (-163), 3) := by decide +kernel
theorem dX12_cannot_190 : decode cX12_cannot 190 = .ok (.iload_n 2, 1) := by decide +kernel
theorem dX12_cannot_191 : decode cX12_cannot 191 = .ok (.ifCond .eq 12, 3) := by decide +kernel
theorem dX12_cannot_194 : decode cX12_cannot 194 = .ok (.aload_n 0, 1) := by decide +kernel
theorem dX12_cannot_195 : decode cX12_cannot 195 = .ok (.ldc 70, 2) := by decide +kernel
theorem dX12_cannot_197 : decode cX12_cannot 197 = .ok (.invokevirtual 71, 3) := by decide +kernel
theorem dX12_cannot_200 : decode cX12_cannot 200 = .ok (.goto 4, 3) := by decide +kernel
theorem dX12_cannot_203 : decode cX12_cannot 203 = .ok (.iload_n 3, 1) := by decide +kernel
theorem dX12_cannot_204 : decode cX12_cannot 204 = .ok (.ireturn, 1) := by decide +kernel
theorem dX12_trusts_0 : decode cX12_trusts 0 = .ok (.iload_n 1, 1) := by decide +kernel
theorem dX12_trusts_1 : decode cX12_trusts 1 = .ok (.invokestatic 191, 3) := by decide +kernel
theorem dX12_trusts_4 : decode cX12_trusts 4 = .ok (.ifCond .ne 10, 3) := by decide +kernel
theorem dX12_trusts_7 : decode cX12_trusts 7 = .ok (.aload_n 0, 1) := by decide +kernel
theorem dX12_trusts_8 : decode cX12_trusts 8 = .ok (.ldc 79, 2) := by decide +kernel
theorem dX12_trusts_10 : decode cX12_trusts 10 = .ok (.invokevirtual 71, 3) := by decide +kernel
theorem dX12_trusts_13 : decode cX12_trusts 13 = .ok (.ireturn, 1) := by decide +kernel
theorem dX12_trusts_14 : decode cX12_trusts 14 = .ok (.aload_n 0, 1) := by decide +kernel
theorem dX12_trusts_15 : decode cX12_trusts 15 = .ok (.getfield 9, 3) := by decide +kernel
theorem dX12_trusts_18 : decode cX12_trusts 18 = .ok (.sipush 290, 3) := by decide +kernel
theorem dX12_trusts_21 : decode cX12_trusts 21 = .ok (.iload_n 1, 1) := by decide +kernel
theorem dX12_trusts_22 : decode cX12_trusts 22 = .ok (.iadd, 1) := by decide +kernel
theorem dX12_trusts_23 : decode cX12_trusts 23 = .ok (.iaload, 1) := by decide +kernel
theorem dX12_trusts_24 : decode cX12_trusts 24 = .ok (.aload_n 0, 1) := by decide +kernel
theorem dX12_trusts_25 : decode cX12_trusts 25 = .ok (.getfield 9, 3) := by decide +kernel
theorem dX12_trusts_28 : decode cX12_trusts 28 = .ok (.sipush 300, 3) := by decide +kernel
theorem dX12_trusts_31 : decode cX12_trusts 31 = .ok (.iload_n 1, 1) := by decide +kernel
theorem dX12_trusts_32 : decode cX12_trusts 32 = .ok (.iadd, 1) := by decide +kernel
theorem dX12_trusts_33 : decode cX12_trusts 33 = .ok (.iaload, 1) := by decide +kernel
theorem dX12_trusts_34 : decode cX12_trusts 34 = .ok (.iadd, 1) := by decide +kernel
theorem dX12_trusts_35 : decode cX12_trusts 35 = .ok (.istore_n 3, 1) := by decide +kernel
theorem dX12_trusts_36 : decode cX12_trusts 36 = .ok (.iload_n 3, 1) := by decide +kernel
theorem dX12_trusts_37 : decode cX12_trusts 37 = .ok (.sipush 200, 3) := by decide +kernel
theorem dX12_trusts_40 : decode cX12_trusts 40 = .ok (.if_icmp .ne 10, 3) := by decide +kernel
theorem dX12_trusts_43 : decode cX12_trusts 43 = .ok (.aload_n 0, 1) := by decide +kernel
theorem dX12_trusts_44 : decode cX12_trusts 44 = .ok (.ldc 97, 2) := by decide +kernel
theorem dX12_trusts_46 : decode cX12_trusts 46 = .ok (.invokevirtual 71, 3) := by decide +kernel
theorem dX12_trusts_49 : decode cX12_trusts 49 = .ok (.ireturn, 1) := by decide +kernel
theorem dX12_trusts_50 : decode cX12_trusts 50 = .ok (.aload_n 0, 1) := by decide +kernel
theorem dX12_trusts_51 : decode cX12_trusts 51 = .ok (.invokevirtual 80, 3) := by decide +kernel
theorem dX12_trusts_54 : decode cX12_trusts 54 = .ok (.aload_n 0, 1) := by decide +kernel
theorem dX12_trusts_55 : decode cX12_trusts 55 = .ok (.getfield 9, 3) := by decide +kernel
theorem dX12_trusts_58 : decode cX12_trusts 58 = .ok (.iload_n 2, 1) := by decide +kernel
theorem dX12_trusts_59 : decode cX12_trusts 59 = .ok (.ifCond .eq 9, 3) := by decide +kernel
theorem dX12_trusts_62 : decode cX12_trusts 62 = .ok (.sipush 290, 3) := by decide +kernel
theorem dX12_trusts_65 : decode cX12_trusts 65 = .ok (.goto 6, 3) := by decide +kernel
theorem dX12_trusts_68 : decode cX12_trusts 68 = .ok (.sipush 300, 3) := by decide +kernel
theorem dX12_trusts_71 : decode cX12_trusts 71 = .ok (.iload_n 1, 1) := by decide +kernel
theorem dX12_trusts_72 : decode cX12_trusts 72 = .ok (.iadd, 1) := by decide +kernel
theorem dX12_trusts_73 : decode cX12_trusts 73 = .ok (.dup2, 1) := by decide +kernel
theorem dX12_trusts_74 : decode cX12_trusts 74 = .ok (.iaload, 1) := by decide +kernel
theorem dX12_trusts_75 : decode cX12_trusts 75 = .ok (.iconst 1, 1) := by decide +kernel
theorem dX12_trusts_76 : decode cX12_trusts 76 = .ok (.iadd, 1) := by decide +kernel
theorem dX12_trusts_77 : decode cX12_trusts 77 = .ok (.iastore, 1) := by decide +kernel
theorem dX12_trusts_78 : decode cX12_trusts 78 = .ok (.iload_n 3, 1) := by decide +kernel
theorem dX12_trusts_79 : decode cX12_trusts 79 = .ok (.iconst 1, 1) := by decide +kernel
theorem dX12_trusts_80 : decode cX12_trusts 80 = .ok (.iadd, 1) := by decide +kernel
theorem dX12_trusts_81 : decode cX12_trusts 81 = .ok (.ireturn, 1) := by decide +kernel
theorem dX12_trustOf_0 : decode cX12_trustOf 0 = .ok (.bipush 100, 2) := by decide +kernel
theorem dX12_trustOf_2 : decode cX12_trustOf 2 = .ok (.aload_n 0, 1) := by decide +kernel
theorem dX12_trustOf_3 : decode cX12_trustOf 3 = .ok (.getfield 9, 3) := by decide +kernel
theorem dX12_trustOf_6 : decode cX12_trustOf 6 = .ok (.sipush 290, 3) := by decide +kernel
theorem dX12_trustOf_9 : decode cX12_trustOf 9 = .ok (.iload_n 1, 1) := by decide +kernel
theorem dX12_trustOf_10 : decode cX12_trustOf 10 = .ok (.iadd, 1) := by decide +kernel
theorem dX12_trustOf_11 : decode cX12_trustOf 11 = .ok (.iaload, 1) := by decide +kernel
theorem dX12_trustOf_12 : decode cX12_trustOf 12 = .ok (.iload_n 2, 1) := by decide +kernel
theorem dX12_trustOf_13 : decode cX12_trustOf 13 = .ok (.iadd, 1) := by decide +kernel
theorem dX12_trustOf_14 : decode cX12_trustOf 14 = .ok (.imul, 1) := by decide +kernel
theorem dX12_trustOf_15 : decode cX12_trustOf 15 = .ok (.aload_n 0, 1) := by decide +kernel
theorem dX12_trustOf_16 : decode cX12_trustOf 16 = .ok (.getfield 9, 3) := by decide +kernel
theorem dX12_trustOf_19 : decode cX12_trustOf 19 = .ok (.sipush 290, 3) := by decide +kernel
theorem dX12_trustOf_22 : decode cX12_trustOf 22 = .ok (.iload_n 1, 1) := by decide +kernel
theorem dX12_trustOf_23 : decode cX12_trustOf 23 = .ok (.iadd, 1) := by decide +kernel
theorem dX12_trustOf_24 : decode cX12_trustOf 24 = .ok (.iaload, 1) := by decide +kernel
theorem dX12_trustOf_25 : decode cX12_trustOf 25 = .ok (.aload_n 0, 1) := by decide +kernel
theorem dX12_trustOf_26 : decode cX12_trustOf 26 = .ok (.getfield 9, 3) := by decide +kernel
theorem dX12_trustOf_29 : decode cX12_trustOf 29 = .ok (.sipush 300, 3) := by decide +kernel
theorem dX12_trustOf_32 : decode cX12_trustOf 32 = .ok (.iload_n 1, 1) := by decide +kernel
theorem dX12_trustOf_33 : decode cX12_trustOf 33 = .ok (.iadd, 1) := by decide +kernel
theorem dX12_trustOf_34 : decode cX12_trustOf 34 = .ok (.iaload, 1) := by decide +kernel
theorem dX12_trustOf_35 : decode cX12_trustOf 35 = .ok (.iadd, 1) := by decide +kernel
theorem dX12_trustOf_36 : decode cX12_trustOf 36 = .ok (.iconst 3, 1) := by decide +kernel
theorem dX12_trustOf_37 : decode cX12_trustOf 37 = .ok (.iadd, 1) := by decide +kernel
theorem dX12_trustOf_38 : decode cX12_trustOf 38 = .ok (.idiv, 1) := by decide +kernel
theorem dX12_trustOf_39 : decode cX12_trustOf 39 = .ok (.ireturn, 1) := by decide +kernel
theorem dX12_trust_0 : decode cX12_trust 0 = .ok (.iload_n 1, 1) := by decide +kernel
theorem dX12_trust_1 : decode cX12_trust 1 = .ok (.invokestatic 191, 3) := by decide +kernel
theorem dX12_trust_4 : decode cX12_trust 4 = .ok (.ifCond .eq 20, 3) := by decide +kernel
theorem dX12_trust_7 : decode cX12_trust 7 = .ok (.aload_n 0, 1) := by decide +kernel
theorem dX12_trust_8 : decode cX12_trust 8 = .ok (.iload_n 1, 1) := by decide +kernel
theorem dX12_trust_9 : decode cX12_trust 9 = .ok (.iload_n 2, 1) := by decide +kernel
theorem dX12_trust_10 : decode cX12_trust 10 = .ok (.ifCond .eq 7, 3) := by decide +kernel
theorem dX12_trust_13 : decode cX12_trust 13 = .ok (.iconst 3, 1) := by decide +kernel
theorem dX12_trust_14 : decode cX12_trust 14 = .ok (.goto 4, 3) := by decide +kernel
theorem dX12_trust_17 : decode cX12_trust 17 = .ok (.iconst 0, 1) := by decide +kernel
theorem dX12_trust_18 : decode cX12_trust 18 = .ok (.invokevirtual 203, 3) := by decide +kernel
theorem dX12_trust_21 : decode cX12_trust 21 = .ok (.goto 9, 3) := by decide +kernel
theorem dX12_trust_24 : decode cX12_trust 24 = .ok (.aload_n 0, 1) := by decide +kernel
theorem dX12_trust_25 : decode cX12_trust 25 = .ok (.ldc 79, 2) := by decide +kernel
theorem dX12_trust_27 : decode cX12_trust 27 = .ok (.invokevirtual 71, 3) := by decide +kernel
theorem dX12_trust_30 : decode cX12_trust 30 = .ok (.ireturn, 1) := by decide +kernel
theorem dX12_owe_0 : decode cX12_owe 0 = .ok (.iload_n 1, 1) := by decide +kernel
theorem dX12_owe_1 : decode cX12_owe 1 = .ok (.invokestatic 191, 3) := by decide +kernel
theorem dX12_owe_4 : decode cX12_owe 4 = .ok (.ifCond .eq 21, 3) := by decide +kernel
theorem dX12_owe_7 : decode cX12_owe 7 = .ok (.iload_n 2, 1) := by decide +kernel
theorem dX12_owe_8 : decode cX12_owe 8 = .ok (.invokestatic 191, 3) := by decide +kernel
theorem dX12_owe_11 : decode cX12_owe 11 = .ok (.ifCond .eq 14, 3) := by decide +kernel
theorem dX12_owe_14 : decode cX12_owe 14 = .ok (.iload_n 3, 1) := by decide +kernel
theorem dX12_owe_15 : decode cX12_owe 15 = .ok (.bipush (-99), 2) := by decide +kernel
theorem dX12_owe_17 : decode cX12_owe 17 = .ok (.bipush 99, 2) := by decide +kernel
theorem dX12_owe_19 : decode cX12_owe 19 = .ok (.invokestatic 63, 3) := by decide +kernel
theorem dX12_owe_22 : decode cX12_owe 22 = .ok (.ifCond .ne 10, 3) := by decide +kernel
theorem dX12_owe_25 : decode cX12_owe 25 = .ok (.aload_n 0, 1) := by decide +kernel
theorem dX12_owe_26 : decode cX12_owe 26 = .ok (.ldc 79, 2) := by decide +kernel
theorem dX12_owe_28 : decode cX12_owe 28 = .ok (.invokevirtual 71, 3) := by decide +kernel
theorem dX12_owe_31 : decode cX12_owe 31 = .ok (.ireturn, 1) := by decide +kernel
theorem dX12_owe_32 : decode cX12_owe 32 = .ok (.iload_n 1, 1) := by decide +kernel
theorem dX12_owe_33 : decode cX12_owe 33 = .ok (.iload_n 2, 1) := by decide +kernel
theorem dX12_owe_34 : decode cX12_owe 34 = .ok (.if_icmp .ne 10, 3) := by decide +kernel
theorem dX12_owe_37 : decode cX12_owe 37 = .ok (.aload_n 0, 1) := by decide +kernel
theorem dX12_owe_38 : decode cX12_owe 38 = .ok (.ldc 108, 2) := by decide +kernel
theorem dX12_owe_40 : decode cX12_owe 40 = .ok (.invokevirtual 71, 3) := by decide +kernel
theorem dX12_owe_43 : decode cX12_owe 43 = .ok (.ireturn, 1) := by decide +kernel
theorem dX12_owe_44 : decode cX12_owe 44 = .ok (.sipush 310, 3) := by decide +kernel
theorem dX12_owe_47 : decode cX12_owe 47 = .ok (.bipush 10, 2) := by decide +kernel
theorem dX12_owe_49 : decode cX12_owe 49 = .ok (.iload_n 1, 1) := by decide +kernel
theorem dX12_owe_50 : decode cX12_owe 50 = .ok (.imul, 1) := by decide +kernel
theorem dX12_owe_51 : decode cX12_owe 51 = .ok (.iadd, 1) := by decide +kernel
theorem dX12_owe_52 : decode cX12_owe 52 = .ok (.iload_n 2, 1) := by decide +kernel
theorem dX12_owe_53 : decode cX12_owe 53 = .ok (.iadd, 1) := by decide +kernel
theorem dX12_owe_54 : decode cX12_owe 54 = .ok (.istore 4, 2) := by decide +kernel
theorem dX12_owe_56 : decode cX12_owe 56 = .ok (.aload_n 0, 1) := by decide +kernel
theorem dX12_owe_57 : decode cX12_owe 57 = .ok (.getfield 9, 3) := by decide +kernel
theorem dX12_owe_60 : decode cX12_owe 60 = .ok (.iload 4, 2) := by decide +kernel
theorem dX12_owe_62 : decode cX12_owe 62 = .ok (.iaload, 1) := by decide +kernel
theorem dX12_owe_63 : decode cX12_owe 63 = .ok (.iload_n 3, 1) := by decide +kernel
theorem dX12_owe_64 : decode cX12_owe 64 = .ok (.iadd, 1) := by decide +kernel
theorem dX12_owe_65 : decode cX12_owe 65 = .ok (.sipush (-9999), 3) := by decide +kernel
theorem dX12_owe_68 : decode cX12_owe 68 = .ok (.sipush 9999, 3) := by decide +kernel
theorem dX12_owe_71 : decode cX12_owe 71 = .ok (.invokestatic 63, 3) := by decide +kernel
theorem dX12_owe_74 : decode cX12_owe 74 = .ok (.ifCond .ne 10, 3) := by decide +kernel
theorem dX12_owe_77 : decode cX12_owe 77 = .ok (.aload_n 0, 1) := by decide +kernel
theorem dX12_owe_78 : decode cX12_owe 78 = .ok (.ldc 97, 2) := by decide +kernel
theorem dX12_owe_80 : decode cX12_owe 80 = .ok (.invokevirtual 71, 3) := by decide +kernel
theorem dX12_owe_83 : decode cX12_owe 83 = .ok (.ireturn, 1) := by decide +kernel
theorem dX12_owe_84 : decode cX12_owe 84 = .ok (.aload_n 0, 1) := by decide +kernel
theorem dX12_owe_85 : decode cX12_owe 85 = .ok (.invokevirtual 80, 3) := by decide +kernel
theorem dX12_owe_88 : decode cX12_owe 88 = .ok (.aload_n 0, 1) := by decide +kernel
theorem dX12_owe_89 : decode cX12_owe 89 = .ok (.getfield 9, 3) := by decide +kernel
theorem dX12_owe_92 : decode cX12_owe 92 = .ok (.iload 4, 2) := by decide +kernel
theorem dX12_owe_94 : decode cX12_owe 94 = .ok (.dup2, 1) := by decide +kernel
theorem dX12_owe_95 : decode cX12_owe 95 = .ok (.iaload, 1) := by decide +kernel
theorem dX12_owe_96 : decode cX12_owe 96 = .ok (.iload_n 3, 1) := by decide +kernel
theorem dX12_owe_97 : decode cX12_owe 97 = .ok (.iadd, 1) := by decide +kernel
theorem dX12_owe_98 : decode cX12_owe 98 = .ok (.iastore, 1) := by decide +kernel
theorem dX12_owe_99 : decode cX12_owe 99 = .ok (.aload_n 0, 1) := by decide +kernel
theorem dX12_owe_100 : decode cX12_owe 100 = .ok (.getfield 9, 3) := by decide +kernel
theorem dX12_owe_103 : decode cX12_owe 103 = .ok (.iload 4, 2) := by decide +kernel
theorem dX12_owe_105 : decode cX12_owe 105 = .ok (.iaload, 1) := by decide +kernel
theorem dX12_owe_106 : decode cX12_owe 106 = .ok (.ireturn, 1) := by decide +kernel
theorem dX12_netOf_0 : decode cX12_netOf 0 = .ok (.iconst 0, 1) := by decide +kernel
theorem dX12_netOf_1 : decode cX12_netOf 1 = .ok (.istore_n 2, 1) := by decide +kernel
theorem dX12_netOf_2 : decode cX12_netOf 2 = .ok (.iconst 0, 1) := by decide +kernel
theorem dX12_netOf_3 : decode cX12_netOf 3 = .ok (.istore_n 3, 1) := by decide +kernel
theorem dX12_netOf_4 : decode cX12_netOf 4 = .ok (.iload_n 3, 1) := by decide +kernel
theorem dX12_netOf_5 : decode cX12_netOf 5 = .ok (.bipush 10, 2) := by decide +kernel
theorem dX12_netOf_7 : decode cX12_netOf 7 = .ok (.if_icmp .ge 43, 3) := by decide +kernel
theorem dX12_netOf_10 : decode cX12_netOf 10 = .ok (.iload_n 2, 1) := by decide +kernel
theorem dX12_netOf_11 : decode cX12_netOf 11 = .ok (.aload_n 0, 1) := by decide +kernel
theorem dX12_netOf_12 : decode cX12_netOf 12 = .ok (.getfield 9, 3) := by decide +kernel
theorem dX12_netOf_15 : decode cX12_netOf 15 = .ok (.sipush 310, 3) := by decide +kernel
theorem dX12_netOf_18 : decode cX12_netOf 18 = .ok (.bipush 10, 2) := by decide +kernel
theorem dX12_netOf_20 : decode cX12_netOf 20 = .ok (.iload_n 3, 1) := by decide +kernel
theorem dX12_netOf_21 : decode cX12_netOf 21 = .ok (.imul, 1) := by decide +kernel
theorem dX12_netOf_22 : decode cX12_netOf 22 = .ok (.iadd, 1) := by decide +kernel
theorem dX12_netOf_23 : decode cX12_netOf 23 = .ok (.iload_n 1, 1) := by decide +kernel
theorem dX12_netOf_24 : decode cX12_netOf 24 = .ok (.iadd, 1) := by decide +kernel
theorem dX12_netOf_25 : decode cX12_netOf 25 = .ok (.iaload, 1) := by decide +kernel
theorem dX12_netOf_26 : decode cX12_netOf 26 = .ok (.aload_n 0, 1) := by decide +kernel
theorem dX12_netOf_27 : decode cX12_netOf 27 = .ok (.getfield 9, 3) := by decide +kernel
theorem dX12_netOf_30 : decode cX12_netOf 30 = .ok (.sipush 310, 3) := by decide +kernel
theorem dX12_netOf_33 : decode cX12_netOf 33 = .ok (.bipush 10, 2) := by decide +kernel
theorem dX12_netOf_35 : decode cX12_netOf 35 = .ok (.iload_n 1, 1) := by decide +kernel
theorem dX12_netOf_36 : decode cX12_netOf 36 = .ok (.imul, 1) := by decide +kernel
theorem dX12_netOf_37 : decode cX12_netOf 37 = .ok (.iadd, 1) := by decide +kernel
theorem dX12_netOf_38 : decode cX12_netOf 38 = .ok (.iload_n 3, 1) := by decide +kernel
theorem dX12_netOf_39 : decode cX12_netOf 39 = .ok (.iadd, 1) := by decide +kernel
theorem dX12_netOf_40 : decode cX12_netOf 40 = .ok (.iaload, 1) := by decide +kernel
theorem dX12_netOf_41 : decode cX12_netOf 41 = .ok (.isub, 1) := by decide +kernel
theorem dX12_netOf_42 : decode cX12_netOf 42 = .ok (.iadd, 1) := by decide +kernel
theorem dX12_netOf_43 : decode cX12_netOf 43 = .ok (.istore_n 2, 1) := by decide +kernel
theorem dX12_netOf_44 : decode cX12_netOf 44 = .ok (.iinc 3 1, 3) := by decide +kernel
theorem dX12_netOf_47 : decode cX12_netOf 47 = .ok (.goto (-43), 3) := by decide +kernel
theorem dX12_netOf_50 : decode cX12_netOf 50 = .ok (.iload_n 2, 1) := by decide +kernel
theorem dX12_netOf_51 : decode cX12_netOf 51 = .ok (.ireturn, 1) := by decide +kernel
theorem dX12_net_0 : decode cX12_net 0 = .ok (.iload_n 1, 1) := by decide +kernel
theorem dX12_net_1 : decode cX12_net 1 = .ok (.invokestatic 191, 3) := by decide +kernel
theorem dX12_net_4 : decode cX12_net 4 = .ok (.ifCond .eq 11, 3) := by decide +kernel
theorem dX12_net_7 : decode cX12_net 7 = .ok (.aload_n 0, 1) := by decide +kernel
theorem dX12_net_8 : decode cX12_net 8 = .ok (.iload_n 1, 1) := by decide +kernel
theorem dX12_net_9 : decode cX12_net 9 = .ok (.invokevirtual 206, 3) := by decide +kernel
theorem dX12_net_12 : decode cX12_net 12 = .ok (.goto 9, 3) := by decide +kernel
theorem dX12_net_15 : decode cX12_net 15 = .ok (.aload_n 0, 1) := by decide +kernel
theorem dX12_net_16 : decode cX12_net 16 = .ok (.ldc 79, 2) := by decide +kernel
theorem dX12_net_18 : decode cX12_net 18 = .ok (.invokevirtual 71, 3) := by decide +kernel
theorem dX12_net_21 : decode cX12_net 21 = .ok (.ireturn, 1) := by decide +kernel
theorem dX12_findPayments_0 : decode cX12_findPayments 0 = .ok (.iconst 0, 1) := by decide +kernel
theorem dX12_findPayments_1 : decode cX12_findPayments 1 = .ok (.istore_n 1, 1) := by decide +kernel
theorem dX12_findPayments_2 : decode cX12_findPayments 2 = .ok (.iload_n 1, 1) := by decide +kernel
theorem dX12_findPayments_3 : decode cX12_findPayments 3 = .ok (.bipush 10, 2) := by decide +kernel
theorem dX12_findPayments_5 : decode cX12_findPayments 5 = .ok (.if_icmp .ge 20, 3) := by decide +kernel
theorem dX12_findPayments_8 : decode cX12_findPayments 8 = .ok (.aload_n 0, 1) := by decide +kernel
theorem dX12_findPayments_9 : decode cX12_findPayments 9 = .ok (.getfield 47, 3) := by decide +kernel
theorem dX12_findPayments_12 : decode cX12_findPayments 12 = .ok (.iload_n 1, 1) := by decide +kernel
theorem dX12_findPayments_13 : decode cX12_findPayments 13 = .ok (.aload_n 0, 1) := by decide +kernel
theorem dX12_findPayments_14 : decode cX12_findPayments 14 = .ok (.iload_n 1, 1) := by decide +kernel
theorem dX12_findPayments_15 : decode cX12_findPayments 15 = .ok (.invokevirtual 206, 3) := by decide +kernel
theorem dX12_findPayments_18 : decode cX12_findPayments 18 = .ok (.iastore, 1) := by decide +kernel
theorem dX12_findPayments_19 : decode cX12_findPayments 19 = .ok (.iinc 1 1, 3) := by decide +kernel
theorem dX12_findPayments_22 : decode cX12_findPayments 22 = .ok (.goto (-20), 3) := by decide +kernel
theorem dX12_findPayments_25 : decode cX12_findPayments 25 = .ok (.iconst 0, 1) := by decide +kernel
theorem dX12_findPayments_26 : decode cX12_findPayments 26 = .ok (.istore_n 1, 1) := by decide +kernel
theorem dX12_findPayments_27 : decode cX12_findPayments 27 = .ok (.iconst 1, 1) := by decide +kernel
theorem dX12_findPayments_28 : decode cX12_findPayments 28 = .ok (.istore_n 2, 1) := by decide +kernel
theorem dX12_findPayments_29 : decode cX12_findPayments 29 = .ok (.iload_n 2, 1) := by decide +kernel
theorem dX12_findPayments_30 : decode cX12_findPayments 30 = .ok (.ifCond .eq 159, 3) := by decide +kernel
theorem dX12_findPayments_33 : decode cX12_findPayments 33 = .ok (.iconst 0, 1) := by decide +kernel
theorem dX12_findPayments_34 : decode cX12_findPayments 34 = .ok (.istore_n 3, 1) := by decide +kernel
theorem dX12_findPayments_35 : decode cX12_findPayments 35 = .ok (.iconst 0, 1) := by decide +kernel
theorem dX12_findPayments_36 : decode cX12_findPayments 36 = .ok (.istore 4, 2) := by decide +kernel
theorem dX12_findPayments_38 : decode cX12_findPayments 38 = .ok (.iconst 1, 1) := by decide +kernel
theorem dX12_findPayments_39 : decode cX12_findPayments 39 = .ok (.istore 5, 2) := by decide +kernel
theorem dX12_findPayments_41 : decode cX12_findPayments 41 = .ok (.iload 5, 2) := by decide +kernel
theorem dX12_findPayments_43 : decode cX12_findPayments 43 = .ok (.bipush 10, 2) := by decide +kernel
theorem dX12_findPayments_45 : decode cX12_findPayments 45 = .ok (.if_icmp .ge 58, 3) := by decide +kernel
theorem dX12_findPayments_48 : decode cX12_findPayments 48 = .ok (.aload_n 0, 1) := by decide +kernel
theorem dX12_findPayments_49 : decode cX12_findPayments 49 = .ok (.getfield 47, 3) := by decide +kernel
theorem dX12_findPayments_52 : decode cX12_findPayments 52 = .ok (.iload 5, 2) := by decide +kernel
theorem dX12_findPayments_54 : decode cX12_findPayments 54 = .ok (.iaload, 1) := by decide +kernel
theorem dX12_findPayments_55 : decode cX12_findPayments 55 = .ok (.aload_n 0, 1) := by decide +kernel
theorem dX12_findPayments_56 : decode cX12_findPayments 56 = .ok (.getfield 47, 3) := by decide +kernel
theorem dX12_findPayments_59 : decode cX12_findPayments 59 = .ok (.iload_n 3, 1) := by decide +kernel
theorem dX12_findPayments_60 : decode cX12_findPayments 60 = .ok (.iaload, 1) := by decide +kernel
theorem dX12_findPayments_61 : decode cX12_findPayments 61 = .ok (.if_icmp .le 8, 3) := by decide +kernel
theorem dX12_findPayments_64 : decode cX12_findPayments 64 = .ok (.iload 5, 2) := by decide +kernel
theorem dX12_findPayments_66 : decode cX12_findPayments 66 = .ok (.goto 4, 3) := by decide +kernel
theorem dX12_findPayments_69 : decode cX12_findPayments 69 = .ok (.iload_n 3, 1) := by decide +kernel
theorem dX12_findPayments_70 : decode cX12_findPayments 70 = .ok (.istore_n 3, 1) := by decide +kernel
theorem dX12_findPayments_71 : decode cX12_findPayments 71 = .ok (.aload_n 0, 1) := by decide +kernel
theorem dX12_findPayments_72 : decode cX12_findPayments 72 = .ok (.getfield 47, 3) := by decide +kernel
theorem dX12_findPayments_75 : decode cX12_findPayments 75 = .ok (.iload 5, 2) := by decide +kernel
theorem dX12_findPayments_77 : decode cX12_findPayments 77 = .ok (.iaload, 1) := by decide +kernel
theorem dX12_findPayments_78 : decode cX12_findPayments 78 = .ok (.aload_n 0, 1) := by decide +kernel
theorem dX12_findPayments_79 : decode cX12_findPayments 79 = .ok (.getfield 47, 3) := by decide +kernel
theorem dX12_findPayments_82 : decode cX12_findPayments 82 = .ok (.iload 4, 2) := by decide +kernel
theorem dX12_findPayments_84 : decode cX12_findPayments 84 = .ok (.iaload, 1) := by decide +kernel
theorem dX12_findPayments_85 : decode cX12_findPayments 85 = .ok (.if_icmp .ge 8, 3) := by decide +kernel
theorem dX12_findPayments_88 : decode cX12_findPayments 88 = .ok (.iload 5, 2) := by decide +kernel
theorem dX12_findPayments_90 : decode cX12_findPayments 90 = .ok (.goto 5, 3) := by decide +kernel
theorem dX12_findPayments_93 : decode cX12_findPayments 93 = .ok (.iload 4, 2) := by decide +kernel
theorem dX12_findPayments_95 : decode cX12_findPayments 95 = .ok (.istore 4, 2) := by decide +kernel
theorem dX12_findPayments_97 : decode cX12_findPayments 97 = .ok (.iinc 5 1, 3) := by decide +kernel
theorem dX12_findPayments_100 : decode cX12_findPayments 100 = .ok (.goto (-59), 3) := by decide +kernel
theorem dX12_findPayments_103 : decode cX12_findPayments 103 = .ok (.aload_n 0, 1) := by decide +kernel
theorem dX12_findPayments_104 : decode cX12_findPayments 104 = .ok (.getfield 47, 3) := by decide +kernel
theorem dX12_findPayments_107 : decode cX12_findPayments 107 = .ok (.iload_n 3, 1) := by decide +kernel
theorem dX12_findPayments_108 : decode cX12_findPayments 108 = .ok (.iaload, 1) := by decide +kernel
theorem dX12_findPayments_109 : decode cX12_findPayments 109 = .ok (.ifCond .le 7, 3) := by decide +kernel
theorem dX12_findPayments_112 : decode cX12_findPayments 112 = .ok (.iconst 1, 1) := by decide +kernel
theorem dX12_findPayments_113 : decode cX12_findPayments 113 = .ok (.goto 4, 3) := by decide +kernel
theorem dX12_findPayments_116 : decode cX12_findPayments 116 = .ok (.iconst 0, 1) := by decide +kernel
theorem dX12_findPayments_117 : decode cX12_findPayments 117 = .ok (.istore_n 2, 1) := by decide +kernel
theorem dX12_findPayments_118 : decode cX12_findPayments 118 = .ok (.iload_n 2, 1) := by decide +kernel
theorem dX12_findPayments_119 : decode cX12_findPayments 119 = .ok (.ifCond .eq 67, 3) := by decide +kernel
theorem dX12_findPayments_122 : decode cX12_findPayments 122 = .ok (.aload_n 0, 1) := by decide +kernel
theorem dX12_findPayments_123 : decode cX12_findPayments 123 = .ok (.getfield 47, 3) := by decide +kernel
theorem dX12_findPayments_126 : decode cX12_findPayments 126 = .ok (.iload_n 3, 1) := by decide +kernel
theorem dX12_findPayments_127 : decode cX12_findPayments 127 = .ok (.iaload, 1) := by decide +kernel
theorem dX12_findPayments_128 : decode cX12_findPayments 128 = .ok (.aload_n 0, 1) := by decide +kernel
theorem dX12_findPayments_129 : decode cX12_findPayments 129 = .ok (.getfield 47, 3) := by decide +kernel
theorem dX12_findPayments_132 : decode cX12_findPayments 132 = .ok (.iload 4, 2) := by decide +kernel
theorem dX12_findPayments_134 : decode cX12_findPayments 134 = .ok (.iaload, 1) := by decide +kernel
theorem dX12_findPayments_135 : decode cX12_findPayments 135 = .ok (.ineg, 1) := by decide +kernel
theorem dX12_findPayments_136 : decode cX12_findPayments 136 = .ok (.invokestatic 84, 3) := by decide +kernel
theorem dX12_findPayments_139 : decode cX12_findPayments 139 = .ok (.istore 5, 2) := by decide +kernel
theorem dX12_findPayments_141 : decode cX12_findPayments 141 = .ok (.aload_n 0, 1) := by decide +kernel
theorem dX12_findPayments_142 : decode cX12_findPayments 142 = .ok (.getfield 50, 3) := by decide +kernel
theorem dX12_findPayments_145 : decode cX12_findPayments 145 = .ok (.iload_n 1, 1) := by decide +kernel
theorem dX12_findPayments_146 : decode cX12_findPayments 146 = .ok (.ldc 83, 2) := by decide +kernel
theorem dX12_findPayments_148 : decode cX12_findPayments 148 = .ok (.iload 4, 2) := by decide +kernel
theorem dX12_findPayments_150 : decode cX12_findPayments 150 = .ok (.imul, 1) := by decide +kernel
theorem dX12_findPayments_151 : decode cX12_findPayments 151 = .ok (.ldc 209, 2) := by decide +kernel
theorem dX12_findPayments_153 : decode cX12_findPayments 153 = .ok (.iload_n 3, 1) := by decide +kernel
theorem dX12_findPayments_154 : decode cX12_findPayments 154 = .ok (.imul, 1) := by decide +kernel
theorem dX12_findPayments_155 : decode cX12_findPayments 155 = .ok (.iadd, 1) := by decide +kernel
theorem dX12_findPayments_156 : decode cX12_findPayments 156 = .ok (.iload 5, 2) := by decide +kernel
theorem dX12_findPayments_158 : decode cX12_findPayments 158 = .ok (.iadd, 1) := by decide +kernel
theorem dX12_findPayments_159 : decode cX12_findPayments 159 = .ok (.iastore, 1) := by decide +kernel
theorem dX12_findPayments_160 : decode cX12_findPayments 160 = .ok (.iinc 1 1, 3) := by decide +kernel
theorem dX12_findPayments_163 : decode cX12_findPayments 163 = .ok (.aload_n 0, 1) := by decide +kernel
theorem dX12_findPayments_164 : decode cX12_findPayments 164 = .ok (.getfield 47, 3) := by decide +kernel
theorem dX12_findPayments_167 : decode cX12_findPayments 167 = .ok (.iload_n 3, 1) := by decide +kernel
theorem dX12_findPayments_168 : decode cX12_findPayments 168 = .ok (.dup2, 1) := by decide +kernel
theorem dX12_findPayments_169 : decode cX12_findPayments 169 = .ok (.iaload, 1) := by decide +kernel
theorem dX12_findPayments_170 : decode cX12_findPayments 170 = .ok (.iload 5, 2) := by decide +kernel
theorem dX12_findPayments_172 : decode cX12_findPayments 172 = .ok (.isub, 1) := by decide +kernel
theorem dX12_findPayments_173 : decode cX12_findPayments 173 = .ok (.iastore, 1) := by decide +kernel
theorem dX12_findPayments_174 : decode cX12_findPayments 174 = .ok (.aload_n 0, 1) := by decide +kernel
theorem dX12_findPayments_175 : decode cX12_findPayments 175 = .ok (.getfield 47, 3) := by decide +kernel
theorem dX12_findPayments_178 : decode cX12_findPayments 178 = .ok (.iload 4, 2) := by decide +kernel
theorem dX12_findPayments_180 : decode cX12_findPayments 180 = .ok (.dup2, 1) := by decide +kernel
theorem dX12_findPayments_181 : decode cX12_findPayments 181 = .ok (.iaload, 1) := by decide +kernel
theorem dX12_findPayments_182 : decode cX12_findPayments 182 = .ok (.iload 5, 2) := by decide +kernel
theorem dX12_findPayments_184 : decode cX12_findPayments 184 = .ok (.iadd, 1) := by decide +kernel
theorem dX12_findPayments_185 : decode cX12_findPayments 185 = .ok (.iastore, 1) := by decide +kernel
theorem dX12_findPayments_186 : decode cX12_findPayments 186 = .ok (.goto (-157), 3) := by decide +kernel
theorem dX12_findPayments_189 : decode cX12_findPayments 189 = .ok (.iload_n 1, 1) := by decide +kernel
theorem dX12_findPayments_190 : decode cX12_findPayments 190 = .ok (.ireturn, 1) := by decide +kernel
theorem dX12_clearing_0 : decode cX12_clearing 0 = .ok (.iload_n 1, 1) := by decide +kernel
theorem dX12_clearing_1 : decode cX12_clearing 1 = .ok (.iconst (-1), 1) := by decide +kernel
theorem dX12_clearing_2 : decode cX12_clearing 2 = .ok (.if_icmp .ge 10, 3) := by decide +kernel
theorem dX12_clearing_5 : decode cX12_clearing 5 = .ok (.aload_n 0, 1) := by decide +kernel
theorem dX12_clearing_6 : decode cX12_clearing 6 = .ok (.ldc 79, 2) := by decide +kernel
theorem dX12_clearing_8 : decode cX12_clearing 8 = .ok (.invokevirtual 71, 3) := by decide +kernel
theorem dX12_clearing_11 : decode cX12_clearing 11 = .ok (.ireturn, 1) := by decide +kernel
theorem dX12_clearing_12 : decode cX12_clearing 12 = .ok (.aload_n 0, 1) := by decide +kernel
theorem dX12_clearing_13 : decode cX12_clearing 13 = .ok (.invokevirtual 210, 3) := by decide +kernel
theorem dX12_clearing_16 : decode cX12_clearing 16 = .ok (.istore_n 2, 1) := by decide +kernel
theorem dX12_clearing_17 : decode cX12_clearing 17 = .ok (.iload_n 1, 1) := by decide +kernel
theorem dX12_clearing_18 : decode cX12_clearing 18 = .ok (.iconst (-1), 1) := by decide +kernel
theorem dX12_clearing_19 : decode cX12_clearing 19 = .ok (.if_icmp .ne 7, 3) := by decide +kernel
theorem dX12_clearing_22 : decode cX12_clearing 22 = .ok (.iload_n 2, 1) := by decide +kernel
theorem dX12_clearing_23 : decode cX12_clearing 23 = .ok (.goto 23, 3) := by decide +kernel
theorem dX12_clearing_26 : decode cX12_clearing 26 = .ok (.iload_n 1, 1) := by decide +kernel
theorem dX12_clearing_27 : decode cX12_clearing 27 = .ok (.iload_n 2, 1) := by decide +kernel
theorem dX12_clearing_28 : decode cX12_clearing 28 = .ok (.if_icmp .ge 12, 3) := by decide +kernel
theorem dX12_clearing_31 : decode cX12_clearing 31 = .ok (.aload_n 0, 1) := by decide +kernel
theorem dX12_clearing_32 : decode cX12_clearing 32 = .ok (.getfield 50, 3) := by decide +kernel
theorem dX12_clearing_35 : decode cX12_clearing 35 = .ok (.iload_n 1, 1) := by decide +kernel
theorem dX12_clearing_36 : decode cX12_clearing 36 = .ok (.iaload, 1) := by decide +kernel
theorem dX12_clearing_37 : decode cX12_clearing 37 = .ok (.goto 9, 3) := by decide +kernel
theorem dX12_clearing_40 : decode cX12_clearing 40 = .ok (.aload_n 0, 1) := by decide +kernel
theorem dX12_clearing_41 : decode cX12_clearing 41 = .ok (.ldc 70, 2) := by decide +kernel
theorem dX12_clearing_43 : decode cX12_clearing 43 = .ok (.invokevirtual 71, 3) := by decide +kernel
theorem dX12_clearing_46 : decode cX12_clearing 46 = .ok (.ireturn, 1) := by decide +kernel
theorem dX12_clear_0 : decode cX12_clear 0 = .ok (.aload_n 0, 1) := by decide +kernel
theorem dX12_clear_1 : decode cX12_clear 1 = .ok (.invokevirtual 80, 3) := by decide +kernel
theorem dX12_clear_4 : decode cX12_clear 4 = .ok (.aload_n 0, 1) := by decide +kernel
theorem dX12_clear_5 : decode cX12_clear 5 = .ok (.invokevirtual 210, 3) := by decide +kernel
theorem dX12_clear_8 : decode cX12_clear 8 = .ok (.istore_n 1, 1) := by decide +kernel
theorem dX12_clear_9 : decode cX12_clear 9 = .ok (.iconst 0, 1) := by decide +kernel
theorem dX12_clear_10 : decode cX12_clear 10 = .ok (.istore_n 2, 1) := by decide +kernel
theorem dX12_clear_11 : decode cX12_clear 11 = .ok (.iload_n 2, 1) := by decide +kernel
theorem dX12_clear_12 : decode cX12_clear 12 = .ok (.bipush 100, 2) := by decide +kernel
theorem dX12_clear_14 : decode cX12_clear 14 = .ok (.if_icmp .ge 20, 3) := by decide +kernel
theorem dX12_clear_17 : decode cX12_clear 17 = .ok (.aload_n 0, 1) := by decide +kernel
theorem dX12_clear_18 : decode cX12_clear 18 = .ok (.getfield 9, 3) := by decide +kernel
theorem dX12_clear_21 : decode cX12_clear 21 = .ok (.sipush 310, 3) := by decide +kernel
theorem dX12_clear_24 : decode cX12_clear 24 = .ok (.iload_n 2, 1) := by decide +kernel
theorem dX12_clear_25 : decode cX12_clear 25 = .ok (.iadd, 1) := by decide +kernel
theorem dX12_clear_26 : decode cX12_clear 26 = .ok (.iconst 0, 1) := by decide +kernel
theorem dX12_clear_27 : decode cX12_clear 27 = .ok (.iastore, 1) := by decide +kernel
theorem dX12_clear_28 : decode cX12_clear 28 = .ok (.iinc 2 1, 3) := by decide +kernel
theorem dX12_clear_31 : decode cX12_clear 31 = .ok (.goto (-20), 3) := by decide +kernel
theorem dX12_clear_34 : decode cX12_clear 34 = .ok (.iload_n 1, 1) := by decide +kernel
theorem dX12_clear_35 : decode cX12_clear 35 = .ok (.ireturn, 1) := by decide +kernel
theorem dX12_isSign_0 : decode cX12_isSign 0 = .ok (.iload_n 0, 1) := by decide +kernel
theorem dX12_isSign_1 : decode cX12_isSign 1 = .ok (.iconst 1, 1) := by decide +kernel
theorem dX12_isSign_2 : decode cX12_isSign 2 = .ok (.bipush 6, 2) := by decide +kernel
theorem dX12_isSign_4 : decode cX12_isSign 4 = .ok (.invokestatic 63, 3) := by decide +kernel
theorem dX12_isSign_7 : decode cX12_isSign 7 = .ok (.ifCond .ne 14, 3) := by decide +kernel
theorem dX12_isSign_10 : decode cX12_isSign 10 = .ok (.iload_n 0, 1) := by decide +kernel
theorem dX12_isSign_11 : decode cX12_isSign 11 = .ok (.bipush 10, 2) := by decide +kernel
theorem dX12_isSign_13 : decode cX12_isSign 13 = .ok (.bipush 56, 2) := by decide +kernel
theorem dX12_isSign_15 : decode cX12_isSign 15 = .ok (.invokestatic 63, 3) := by decide +kernel
theorem dX12_isSign_18 : decode cX12_isSign 18 = .ok (.ifCond .eq 7, 3) := by decide +kernel
theorem dX12_isSign_21 : decode cX12_isSign 21 = .ok (.iconst 1, 1) := by decide +kernel
theorem dX12_isSign_22 : decode cX12_isSign 22 = .ok (.goto 4, 3) := by decide +kernel
theorem dX12_isSign_25 : decode cX12_isSign 25 = .ok (.iconst 0, 1) := by decide +kernel
theorem dX12_isSign_26 : decode cX12_isSign 26 = .ok (.ireturn, 1) := by decide +kernel
theorem dX12_text_0 : decode cX12_text 0 = .ok (.iload_n 1, 1) := by decide +kernel
theorem dX12_text_1 : decode cX12_text 1 = .ok (.invokestatic 181, 3) := by decide +kernel
theorem dX12_text_4 : decode cX12_text 4 = .ok (.ifCond .ne 10, 3) := by decide +kernel
theorem dX12_text_7 : decode cX12_text 7 = .ok (.aload_n 0, 1) := by decide +kernel
theorem dX12_text_8 : decode cX12_text 8 = .ok (.ldc 79, 2) := by decide +kernel
theorem dX12_text_10 : decode cX12_text 10 = .ok (.invokevirtual 71, 3) := by decide +kernel
theorem dX12_text_13 : decode cX12_text 13 = .ok (.ireturn, 1) := by decide +kernel
theorem dX12_text_14 : decode cX12_text 14 = .ok (.aload_n 0, 1) := by decide +kernel
theorem dX12_text_15 : decode cX12_text 15 = .ok (.getfield 16, 3) := by decide +kernel
theorem dX12_text_18 : decode cX12_text 18 = .ok (.iload_n 1, 1) := by decide +kernel
theorem dX12_text_19 : decode cX12_text 19 = .ok (.iaload, 1) := by decide +kernel
theorem dX12_text_20 : decode cX12_text 20 = .ok (.ifCond .ne 10, 3) := by decide +kernel
theorem dX12_text_23 : decode cX12_text 23 = .ok (.aload_n 0, 1) := by decide +kernel
theorem dX12_text_24 : decode cX12_text 24 = .ok (.ldc 184, 2) := by decide +kernel
theorem dX12_text_26 : decode cX12_text 26 = .ok (.invokevirtual 71, 3) := by decide +kernel
theorem dX12_text_29 : decode cX12_text 29 = .ok (.ireturn, 1) := by decide +kernel
theorem dX12_text_30 : decode cX12_text 30 = .ok (.aload_n 0, 1) := by decide +kernel
theorem dX12_text_31 : decode cX12_text 31 = .ok (.getfield 19, 3) := by decide +kernel
theorem dX12_text_34 : decode cX12_text 34 = .ok (.iload_n 1, 1) := by decide +kernel
theorem dX12_text_35 : decode cX12_text 35 = .ok (.iaload, 1) := by decide +kernel
theorem dX12_text_36 : decode cX12_text 36 = .ok (.bipush 14, 2) := by decide +kernel
theorem dX12_text_38 : decode cX12_text 38 = .ok (.if_icmp .le 10, 3) := by decide +kernel
theorem dX12_text_41 : decode cX12_text 41 = .ok (.aload_n 0, 1) := by decide +kernel
theorem dX12_text_42 : decode cX12_text 42 = .ok (.ldc 108, 2) := by decide +kernel
theorem dX12_text_44 : decode cX12_text 44 = .ok (.invokevirtual 71, 3) := by decide +kernel
theorem dX12_text_47 : decode cX12_text 47 = .ok (.ireturn, 1) := by decide +kernel
theorem dX12_text_48 : decode cX12_text 48 = .ok (.iconst 0, 1) := by decide +kernel
theorem dX12_text_49 : decode cX12_text 49 = .ok (.istore_n 2, 1) := by decide +kernel
theorem dX12_text_50 : decode cX12_text 50 = .ok (.iload_n 2, 1) := by decide +kernel
theorem dX12_text_51 : decode cX12_text 51 = .ok (.aload_n 0, 1) := by decide +kernel
theorem dX12_text_52 : decode cX12_text 52 = .ok (.getfield 19, 3) := by decide +kernel
theorem dX12_text_55 : decode cX12_text 55 = .ok (.iload_n 1, 1) := by decide +kernel
theorem dX12_text_56 : decode cX12_text 56 = .ok (.iaload, 1) := by decide +kernel
theorem dX12_text_57 : decode cX12_text 57 = .ok (.if_icmp .ge 33, 3) := by decide +kernel
theorem dX12_text_60 : decode cX12_text 60 = .ok (.aload_n 0, 1) := by decide +kernel
theorem dX12_text_61 : decode cX12_text 61 = .ok (.getfield 22, 3) := by decide +kernel
theorem dX12_text_64 : decode cX12_text 64 = .ok (.bipush 20, 2) := by decide +kernel
theorem dX12_text_66 : decode cX12_text 66 = .ok (.iload_n 1, 1) := by decide +kernel
theorem dX12_text_67 : decode cX12_text 67 = .ok (.imul, 1) := by decide +kernel
theorem dX12_text_68 : decode cX12_text 68 = .ok (.iload_n 2, 1) := by decide +kernel
theorem dX12_text_69 : decode cX12_text 69 = .ok (.iadd, 1) := by decide +kernel
theorem dX12_text_70 : decode cX12_text 70 = .ok (.iaload, 1) := by decide +kernel
theorem dX12_text_71 : decode cX12_text 71 = .ok (.invokestatic 213, 3) := by decide +kernel
theorem dX12_text_74 : decode cX12_text 74 = .ok (.ifCond .ne 10, 3) := by decide +kernel
theorem dX12_text_77 : decode cX12_text 77 = .ok (.aload_n 0, 1) := by decide +kernel
theorem dX12_text_78 : decode cX12_text 78 = .ok (.ldc 79, 2) := by decide +kernel
theorem dX12_text_80 : decode cX12_text 80 = .ok (.invokevirtual 71, 3) := by decide +kernel
theorem dX12_text_83 : decode cX12_text 83 = .ok (.ireturn, 1) := by decide +kernel
theorem dX12_text_84 : decode cX12_text 84 = .ok (.iinc 2 1, 3) := by decide +kernel
theorem dX12_text_87 : decode cX12_text 87 = .ok (.goto (-37), 3) := by decide +kernel
theorem dX12_text_90 : decode cX12_text 90 = .ok (.aload_n 0, 1) := by decide +kernel
theorem dX12_text_91 : decode cX12_text 91 = .ok (.invokevirtual 80, 3) := by decide +kernel
theorem dX12_text_94 : decode cX12_text 94 = .ok (.aload_n 0, 1) := by decide +kernel
theorem dX12_text_95 : decode cX12_text 95 = .ok (.getfield 9, 3) := by decide +kernel
theorem dX12_text_98 : decode cX12_text 98 = .ok (.bipush 69, 2) := by decide +kernel
theorem dX12_text_100 : decode cX12_text 100 = .ok (.aload_n 0, 1) := by decide +kernel
theorem dX12_text_101 : decode cX12_text 101 = .ok (.getfield 19, 3) := by decide +kernel
theorem dX12_text_104 : decode cX12_text 104 = .ok (.iload_n 1, 1) := by decide +kernel
theorem dX12_text_105 : decode cX12_text 105 = .ok (.iaload, 1) := by decide +kernel
theorem dX12_text_106 : decode cX12_text 106 = .ok (.iastore, 1) := by decide +kernel
theorem dX12_text_107 : decode cX12_text 107 = .ok (.iconst 0, 1) := by decide +kernel
theorem dX12_text_108 : decode cX12_text 108 = .ok (.istore_n 2, 1) := by decide +kernel
theorem dX12_text_109 : decode cX12_text 109 = .ok (.iload_n 2, 1) := by decide +kernel
theorem dX12_text_110 : decode cX12_text 110 = .ok (.aload_n 0, 1) := by decide +kernel
theorem dX12_text_111 : decode cX12_text 111 = .ok (.getfield 19, 3) := by decide +kernel
theorem dX12_text_114 : decode cX12_text 114 = .ok (.iload_n 1, 1) := by decide +kernel
theorem dX12_text_115 : decode cX12_text 115 = .ok (.iaload, 1) := by decide +kernel
theorem dX12_text_116 : decode cX12_text 116 = .ok (.if_icmp .ge 30, 3) := by decide +kernel
theorem dX12_text_119 : decode cX12_text 119 = .ok (.aload_n 0, 1) := by decide +kernel
theorem dX12_text_120 : decode cX12_text 120 = .ok (.getfield 9, 3) := by decide +kernel
theorem dX12_text_123 : decode cX12_text 123 = .ok (.sipush 410, 3) := by decide +kernel
theorem dX12_text_126 : decode cX12_text 126 = .ok (.iload_n 2, 1) := by decide +kernel
theorem dX12_text_127 : decode cX12_text 127 = .ok (.iadd, 1) := by decide +kernel
theorem dX12_text_128 : decode cX12_text 128 = .ok (.aload_n 0, 1) := by decide +kernel
theorem dX12_text_129 : decode cX12_text 129 = .ok (.getfield 22, 3) := by decide +kernel
theorem dX12_text_132 : decode cX12_text 132 = .ok (.bipush 20, 2) := by decide +kernel
theorem dX12_text_134 : decode cX12_text 134 = .ok (.iload_n 1, 1) := by decide +kernel
theorem dX12_text_135 : decode cX12_text 135 = .ok (.imul, 1) := by decide +kernel
theorem dX12_text_136 : decode cX12_text 136 = .ok (.iload_n 2, 1) := by decide +kernel
theorem dX12_text_137 : decode cX12_text 137 = .ok (.iadd, 1) := by decide +kernel
theorem dX12_text_138 : decode cX12_text 138 = .ok (.iaload, 1) := by decide +kernel
theorem dX12_text_139 : decode cX12_text 139 = .ok (.iastore, 1) := by decide +kernel
theorem dX12_text_140 : decode cX12_text 140 = .ok (.iinc 2 1, 3) := by decide +kernel
theorem dX12_text_143 : decode cX12_text 143 = .ok (.goto (-34), 3) := by decide +kernel
theorem dX12_text_146 : decode cX12_text 146 = .ok (.aload_n 0, 1) := by decide +kernel
theorem dX12_text_147 : decode cX12_text 147 = .ok (.getfield 19, 3) := by decide +kernel
theorem dX12_text_150 : decode cX12_text 150 = .ok (.iload_n 1, 1) := by decide +kernel
theorem dX12_text_151 : decode cX12_text 151 = .ok (.iaload, 1) := by decide +kernel
theorem dX12_text_152 : decode cX12_text 152 = .ok (.ireturn, 1) := by decide +kernel
theorem dX12_wrongAt_0 : decode cX12_wrongAt 0 = .ok (.iconst 0, 1) := by decide +kernel
theorem dX12_wrongAt_1 : decode cX12_wrongAt 1 = .ok (.istore_n 1, 1) := by decide +kernel
theorem dX12_wrongAt_2 : decode cX12_wrongAt 2 = .ok (.iconst 0, 1) := by decide +kernel
theorem dX12_wrongAt_3 : decode cX12_wrongAt 3 = .ok (.istore_n 2, 1) := by decide +kernel
theorem dX12_wrongAt_4 : decode cX12_wrongAt 4 = .ok (.iload_n 2, 1) := by decide +kernel
theorem dX12_wrongAt_5 : decode cX12_wrongAt 5 = .ok (.aload_n 0, 1) := by decide +kernel
theorem dX12_wrongAt_6 : decode cX12_wrongAt 6 = .ok (.getfield 9, 3) := by decide +kernel
theorem dX12_wrongAt_9 : decode cX12_wrongAt 9 = .ok (.bipush 69, 2) := by decide +kernel
theorem dX12_wrongAt_11 : decode cX12_wrongAt 11 = .ok (.iaload, 1) := by decide +kernel
theorem dX12_wrongAt_12 : decode cX12_wrongAt 12 = .ok (.if_icmp .ge 61, 3) := by decide +kernel
theorem dX12_wrongAt_15 : decode cX12_wrongAt 15 = .ok (.aload_n 0, 1) := by decide +kernel
theorem dX12_wrongAt_16 : decode cX12_wrongAt 16 = .ok (.getfield 9, 3) := by decide +kernel
theorem dX12_wrongAt_19 : decode cX12_wrongAt 19 = .ok (.sipush 410, 3) := by decide +kernel
theorem dX12_wrongAt_22 : decode cX12_wrongAt 22 = .ok (.iload_n 2, 1) := by decide +kernel
theorem dX12_wrongAt_23 : decode cX12_wrongAt 23 = .ok (.iadd, 1) := by decide +kernel
theorem dX12_wrongAt_24 : decode cX12_wrongAt 24 = .ok (.iaload, 1) := by decide +kernel
theorem dX12_wrongAt_25 : decode cX12_wrongAt 25 = .ok (.bipush 50, 2) := by decide +kernel
theorem dX12_wrongAt_27 : decode cX12_wrongAt 27 = .ok (.if_icmp .ge 7, 3) := by decide +kernel
theorem dX12_wrongAt_30 : decode cX12_wrongAt 30 = .ok (.iconst 1, 1) := by decide +kernel
theorem dX12_wrongAt_31 : decode cX12_wrongAt 31 = .ok (.goto 4, 3) := by decide +kernel
theorem dX12_wrongAt_34 : decode cX12_wrongAt 34 = .ok (.iconst 0, 1) := by decide +kernel
theorem dX12_wrongAt_35 : decode cX12_wrongAt 35 = .ok (.istore_n 3, 1) := by decide +kernel
theorem dX12_wrongAt_36 : decode cX12_wrongAt 36 = .ok (.iload_n 3, 1) := by decide +kernel
theorem dX12_wrongAt_37 : decode cX12_wrongAt 37 = .ok (.ifCond .eq 11, 3) := by decide +kernel
theorem dX12_wrongAt_40 : decode cX12_wrongAt 40 = .ok (.iload_n 1, 1) := by decide +kernel
theorem dX12_wrongAt_41 : decode cX12_wrongAt 41 = .ok (.iconst 5, 1) := by decide +kernel
theorem dX12_wrongAt_42 : decode cX12_wrongAt 42 = .ok (.if_icmp .ne 13, 3) := by decide +kernel
theorem dX12_wrongAt_45 : decode cX12_wrongAt 45 = .ok (.goto 8, 3) := by decide +kernel
theorem dX12_wrongAt_48 : decode cX12_wrongAt 48 = .ok (.iload_n 1, 1) := by decide +kernel
theorem dX12_wrongAt_49 : decode cX12_wrongAt 49 = .ok (.iconst 2, 1) := by decide +kernel
theorem dX12_wrongAt_50 : decode cX12_wrongAt 50 = .ok (.if_icmp .ge 5, 3) := by decide +kernel
theorem dX12_wrongAt_53 : decode cX12_wrongAt 53 = .ok (.iload_n 2, 1) := by decide +kernel
theorem dX12_wrongAt_54 : decode cX12_wrongAt 54 = .ok (.ireturn, 1) := by decide +kernel
theorem dX12_wrongAt_55 : decode cX12_wrongAt 55 = .ok (.iload_n 1, 1) := by decide +kernel
theorem dX12_wrongAt_56 : decode cX12_wrongAt 56 = .ok (.iload_n 3, 1) := by decide +kernel
theorem dX12_wrongAt_57 : decode cX12_wrongAt 57 = .ok (.ifCond .eq 7, 3) := by decide +kernel
theorem dX12_wrongAt_60 : decode cX12_wrongAt 60 = .ok (.iconst 1, 1) := by decide +kernel
theorem dX12_wrongAt_61 : decode cX12_wrongAt 61 = .ok (.goto 4, 3) := by decide +kernel
theorem dX12_wrongAt_64 : decode cX12_wrongAt 64 = .ok (.iconst (-1), 1) := by decide +kernel
theorem dX12_wrongAt_65 : decode cX12_wrongAt 65 = .ok (.iadd, 1) := by decide +kernel
theorem dX12_wrongAt_66 : decode cX12_wrongAt 66 = .ok (.istore_n 1, 1) := by decide +kernel
theorem dX12_wrongAt_67 : decode cX12_wrongAt 67 = .ok (.iinc 2 1, 3) := by decide +kernel
theorem dX12_wrongAt_70 : decode cX12_wrongAt 70 = .ok (.goto (-66), 3) := by decide +kernel
theorem dX12_wrongAt_73 : decode cX12_wrongAt 73 = .ok (.iload_n 1, 1) := by decide +kernel
theorem dX12_wrongAt_74 : decode cX12_wrongAt 74 = .ok (.iconst 1, 1) := by decide +kernel
theorem dX12_wrongAt_75 : decode cX12_wrongAt 75 = .ok (.if_icmp .eq 13, 3) := by decide +kernel
theorem dX12_wrongAt_78 : decode cX12_wrongAt 78 = .ok (.aload_n 0, 1) := by decide +kernel
theorem dX12_wrongAt_79 : decode cX12_wrongAt 79 = .ok (.getfield 9, 3) := by decide +kernel
theorem dX12_wrongAt_82 : decode cX12_wrongAt 82 = .ok (.bipush 69, 2) := by decide +kernel
theorem dX12_wrongAt_84 : decode cX12_wrongAt 84 = .ok (.iaload, 1) := by decide +kernel
theorem dX12_wrongAt_85 : decode cX12_wrongAt 85 = .ok (.ifCond .ne 7, 3) := by decide +kernel
theorem dX12_wrongAt_88 : decode cX12_wrongAt 88 = .ok (.iconst (-1), 1) := by decide +kernel
theorem dX12_wrongAt_89 : decode cX12_wrongAt 89 = .ok (.goto 10, 3) := by decide +kernel
theorem dX12_wrongAt_92 : decode cX12_wrongAt 92 = .ok (.aload_n 0, 1) := by decide +kernel
theorem dX12_wrongAt_93 : decode cX12_wrongAt 93 = .ok (.getfield 9, 3) := by decide +kernel
theorem dX12_wrongAt_96 : decode cX12_wrongAt 96 = .ok (.bipush 69, 2) := by decide +kernel
theorem dX12_wrongAt_98 : decode cX12_wrongAt 98 = .ok (.iaload, 1) := by decide +kernel
theorem dX12_wrongAt_99 : decode cX12_wrongAt 99 = .ok (.ireturn, 1) := by decide +kernel
theorem dX12_wrong_0 : decode cX12_wrong 0 = .ok (.aload_n 0, 1) := by decide +kernel
theorem dX12_wrong_1 : decode cX12_wrong 1 = .ok (.invokevirtual 216, 3) := by decide +kernel
theorem dX12_wrong_4 : decode cX12_wrong 4 = .ok (.ireturn, 1) := by decide +kernel
theorem dX12_contractsOf_0 : decode cX12_contractsOf 0 = .ok (.iconst 0, 1) := by decide +kernel
theorem dX12_contractsOf_1 : decode cX12_contractsOf 1 = .ok (.istore_n 2, 1) := by decide +kernel
theorem dX12_contractsOf_2 : decode cX12_contractsOf 2 = .ok (.iconst 0, 1) := by decide +kernel
theorem dX12_contractsOf_3 : decode cX12_contractsOf 3 = .ok (.istore_n 3, 1) := by decide +kernel
theorem dX12_contractsOf_4 : decode cX12_contractsOf 4 = .ok (.iload_n 3, 1) := by decide +kernel
theorem dX12_contractsOf_5 : decode cX12_contractsOf 5 = .ok (.aload_n 0, 1) := by decide +kernel
theorem dX12_contractsOf_6 : decode cX12_contractsOf 6 = .ok (.getfield 9, 3) := by decide +kernel
theorem dX12_contractsOf_9 : decode cX12_contractsOf 9 = .ok (.bipush 67, 2) := by decide +kernel
theorem dX12_contractsOf_11 : decode cX12_contractsOf 11 = .ok (.iaload, 1) := by decide +kernel
theorem dX12_contractsOf_12 : decode cX12_contractsOf 12 = .ok (.if_icmp .ge 34, 3) := by decide +kernel
theorem dX12_contractsOf_15 : decode cX12_contractsOf 15 = .ok (.iload_n 2, 1) := by decide +kernel
theorem dX12_contractsOf_16 : decode cX12_contractsOf 16 = .ok (.aload_n 0, 1) := by decide +kernel
theorem dX12_contractsOf_17 : decode cX12_contractsOf 17 = .ok (.getfield 9, 3) := by decide +kernel
theorem dX12_contractsOf_20 : decode cX12_contractsOf 20 = .ok (.sipush 240, 3) := by decide +kernel
theorem dX12_contractsOf_23 : decode cX12_contractsOf 23 = .ok (.iload_n 3, 1) := by decide +kernel
theorem dX12_contractsOf_24 : decode cX12_contractsOf 24 = .ok (.iadd, 1) := by decide +kernel
theorem dX12_contractsOf_25 : decode cX12_contractsOf 25 = .ok (.iaload, 1) := by decide +kernel
theorem dX12_contractsOf_26 : decode cX12_contractsOf 26 = .ok (.bipush 8, 2) := by decide +kernel
theorem dX12_contractsOf_28 : decode cX12_contractsOf 28 = .ok (.irem, 1) := by decide +kernel
theorem dX12_contractsOf_29 : decode cX12_contractsOf 29 = .ok (.iload_n 1, 1) := by decide +kernel
theorem dX12_contractsOf_30 : decode cX12_contractsOf 30 = .ok (.if_icmp .ne 7, 3) := by decide +kernel
theorem dX12_contractsOf_33 : decode cX12_contractsOf 33 = .ok (.iconst 1, 1) := by decide +kernel
theorem dX12_contractsOf_34 : decode cX12_contractsOf 34 = .ok (.goto 4, 3) := by decide +kernel
theorem dX12_contractsOf_37 : decode cX12_contractsOf 37 = .ok (.iconst 0, 1) := by decide +kernel
theorem dX12_contractsOf_38 : decode cX12_contractsOf 38 = .ok (.iadd, 1) := by decide +kernel
theorem dX12_contractsOf_39 : decode cX12_contractsOf 39 = .ok (.istore_n 2, 1) := by decide +kernel
theorem dX12_contractsOf_40 : decode cX12_contractsOf 40 = .ok (.iinc 3 1, 3) := by decide +kernel
theorem dX12_contractsOf_43 : decode cX12_contractsOf 43 = .ok (.goto (-39), 3) := by decide +kernel
theorem dX12_contractsOf_46 : decode cX12_contractsOf 46 = .ok (.iload_n 2, 1) := by decide +kernel
theorem dX12_contractsOf_47 : decode cX12_contractsOf 47 = .ok (.ireturn, 1) := by decide +kernel
theorem dX12_readBy_0 : decode cX12_readBy 0 = .ok (.iload_n 1, 1) := by decide +kernel
theorem dX12_readBy_1 : decode cX12_readBy 1 = .ok (.tableswitch 88 1 6 #[39, 45, 47, 58, 69, 75], 39) := by decide +kernel
theorem dX12_readBy_40 : decode cX12_readBy 40 = .ok (.aload_n 0, 1) := by decide +kernel
theorem dX12_readBy_41 : decode cX12_readBy 41 = .ok (.iload_n 2, 1) := by decide +kernel
theorem dX12_readBy_42 : decode cX12_readBy 42 = .ok (.invokevirtual 146, 3) := by decide +kernel
theorem dX12_readBy_45 : decode cX12_readBy 45 = .ok (.ireturn, 1) := by decide +kernel
theorem dX12_readBy_46 : decode cX12_readBy 46 = .ok (.iload_n 3, 1) := by decide +kernel
theorem dX12_readBy_47 : decode cX12_readBy 47 = .ok (.ireturn, 1) := by decide +kernel
theorem dX12_readBy_48 : decode cX12_readBy 48 = .ok (.aload_n 0, 1) := by decide +kernel
theorem dX12_readBy_49 : decode cX12_readBy 49 = .ok (.getfield 9, 3) := by decide +kernel
theorem dX12_readBy_52 : decode cX12_readBy 52 = .ok (.iload_n 2, 1) := by decide +kernel
theorem dX12_readBy_53 : decode cX12_readBy 53 = .ok (.iconst 4, 1) := by decide +kernel
theorem dX12_readBy_54 : decode cX12_readBy 54 = .ok (.invokestatic 105, 3) := by decide +kernel
theorem dX12_readBy_57 : decode cX12_readBy 57 = .ok (.iaload, 1) := by decide +kernel
theorem dX12_readBy_58 : decode cX12_readBy 58 = .ok (.ireturn, 1) := by decide +kernel
theorem dX12_readBy_59 : decode cX12_readBy 59 = .ok (.aload_n 0, 1) := by decide +kernel
theorem dX12_readBy_60 : decode cX12_readBy 60 = .ok (.getfield 9, 3) := by decide +kernel
theorem dX12_readBy_63 : decode cX12_readBy 63 = .ok (.iload_n 2, 1) := by decide +kernel
theorem dX12_readBy_64 : decode cX12_readBy 64 = .ok (.iconst 2, 1) := by decide +kernel
theorem dX12_readBy_65 : decode cX12_readBy 65 = .ok (.invokestatic 105, 3) := by decide +kernel
theorem dX12_readBy_68 : decode cX12_readBy 68 = .ok (.iaload, 1) := by decide +kernel
theorem dX12_readBy_69 : decode cX12_readBy 69 = .ok (.ireturn, 1) := by decide +kernel
theorem dX12_readBy_70 : decode cX12_readBy 70 = .ok (.aload_n 0, 1) := by decide +kernel
theorem dX12_readBy_71 : decode cX12_readBy 71 = .ok (.iload_n 2, 1) := by decide +kernel
theorem dX12_readBy_72 : decode cX12_readBy 72 = .ok (.invokevirtual 219, 3) := by decide +kernel
theorem dX12_readBy_75 : decode cX12_readBy 75 = .ok (.ireturn, 1) := by decide +kernel
theorem dX12_readBy_76 : decode cX12_readBy 76 = .ok (.aload_n 0, 1) := by decide +kernel
theorem dX12_readBy_77 : decode cX12_readBy 77 = .ok (.aload_n 0, 1) := by decide +kernel
theorem dX12_readBy_78 : decode cX12_readBy 78 = .ok (.iload_n 2, 1) := by decide +kernel
theorem dX12_readBy_79 : decode cX12_readBy 79 = .ok (.iload 4, 2) := by decide +kernel
theorem dX12_readBy_81 : decode cX12_readBy 81 = .ok (.invokevirtual 197, 3) := by decide +kernel
theorem dX12_readBy_84 : decode cX12_readBy 84 = .ok (.iconst 0, 1) := by decide +kernel
theorem dX12_readBy_85 : decode cX12_readBy 85 = .ok (.invokevirtual 203, 3) := by decide +kernel
theorem dX12_readBy_88 : decode cX12_readBy 88 = .ok (.ireturn, 1) := by decide +kernel
theorem dX12_readBy_89 : decode cX12_readBy 89 = .ok (.iload_n 1, 1) := by decide +kernel
theorem dX12_readBy_90 : decode cX12_readBy 90 = .ok (.bipush 10, 2) := by decide +kernel
theorem dX12_readBy_92 : decode cX12_readBy 92 = .ok (.isub, 1) := by decide +kernel
theorem dX12_readBy_93 : decode cX12_readBy 93 = .ok (.ireturn, 1) := by decide +kernel
theorem dX12_joined_0 : decode cX12_joined 0 = .ok (.iload_n 0, 1) := by decide +kernel
theorem dX12_joined_1 : decode cX12_joined 1 = .ok (.tableswitch 75 50 55 #[39, 43, 47, 51, 63, 69], 39) := by decide +kernel
theorem dX12_joined_40 : decode cX12_joined 40 = .ok (.iload_n 1, 1) := by decide +kernel
theorem dX12_joined_41 : decode cX12_joined 41 = .ok (.iload_n 2, 1) := by decide +kernel
theorem dX12_joined_42 : decode cX12_joined 42 = .ok (.iadd, 1) := by decide +kernel
theorem dX12_joined_43 : decode cX12_joined 43 = .ok (.ireturn, 1) := by decide +kernel
theorem dX12_joined_44 : decode cX12_joined 44 = .ok (.iload_n 1, 1) := by decide +kernel
theorem dX12_joined_45 : decode cX12_joined 45 = .ok (.iload_n 2, 1) := by decide +kernel
theorem dX12_joined_46 : decode cX12_joined 46 = .ok (.isub, 1) := by decide +kernel
theorem dX12_joined_47 : decode cX12_joined 47 = .ok (.ireturn, 1) := by decide +kernel
theorem dX12_joined_48 : decode cX12_joined 48 = .ok (.iload_n 1, 1) := by decide +kernel
theorem dX12_joined_49 : decode cX12_joined 49 = .ok (.iload_n 2, 1) := by decide +kernel
theorem dX12_joined_50 : decode cX12_joined 50 = .ok (.imul, 1) := by decide +kernel
theorem dX12_joined_51 : decode cX12_joined 51 = .ok (.ireturn, 1) := by decide +kernel
theorem dX12_joined_52 : decode cX12_joined 52 = .ok (.iload_n 2, 1) := by decide +kernel
theorem dX12_joined_53 : decode cX12_joined 53 = .ok (.ifCond .ne 7, 3) := by decide +kernel
theorem dX12_joined_56 : decode cX12_joined 56 = .ok (.iconst 0, 1) := by decide +kernel
theorem dX12_joined_57 : decode cX12_joined 57 = .ok (.goto 6, 3) := by decide +kernel
theorem dX12_joined_60 : decode cX12_joined 60 = .ok (.iload_n 1, 1) := by decide +kernel
theorem dX12_joined_61 : decode cX12_joined 61 = .ok (.iload_n 2, 1) := by decide +kernel
theorem dX12_joined_62 : decode cX12_joined 62 = .ok (.idiv, 1) := by decide +kernel
theorem dX12_joined_63 : decode cX12_joined 63 = .ok (.ireturn, 1) := by decide +kernel
theorem dX12_joined_64 : decode cX12_joined 64 = .ok (.iload_n 1, 1) := by decide +kernel
theorem dX12_joined_65 : decode cX12_joined 65 = .ok (.iload_n 2, 1) := by decide +kernel
theorem dX12_joined_66 : decode cX12_joined 66 = .ok (.invokestatic 84, 3) := by decide +kernel
theorem dX12_joined_69 : decode cX12_joined 69 = .ok (.ireturn, 1) := by decide +kernel
theorem dX12_joined_70 : decode cX12_joined 70 = .ok (.iload_n 1, 1) := by decide +kernel
theorem dX12_joined_71 : decode cX12_joined 71 = .ok (.iload_n 2, 1) := by decide +kernel
theorem dX12_joined_72 : decode cX12_joined 72 = .ok (.invokestatic 168, 3) := by decide +kernel
theorem dX12_joined_75 : decode cX12_joined 75 = .ok (.ireturn, 1) := by decide +kernel
theorem dX12_joined_76 : decode cX12_joined 76 = .ok (.iload_n 1, 1) := by decide +kernel
theorem dX12_joined_77 : decode cX12_joined 77 = .ok (.iload_n 2, 1) := by decide +kernel
theorem dX12_joined_78 : decode cX12_joined 78 = .ok (.if_icmp .ge 7, 3) := by decide +kernel
theorem dX12_joined_81 : decode cX12_joined 81 = .ok (.iconst 1, 1) := by decide +kernel
theorem dX12_joined_82 : decode cX12_joined 82 = .ok (.goto 4, 3) := by decide +kernel
theorem dX12_joined_85 : decode cX12_joined 85 = .ok (.iconst 0, 1) := by decide +kernel
theorem dX12_joined_86 : decode cX12_joined 86 = .ok (.ireturn, 1) := by decide +kernel
theorem dX12_claim_0 : decode cX12_claim 0 = .ok (.aload_n 0, 1) := by decide +kernel
theorem dX12_claim_1 : decode cX12_claim 1 = .ok (.iload_n 1, 1) := by decide +kernel
theorem dX12_claim_2 : decode cX12_claim 2 = .ok (.invokevirtual 109, 3) := by decide +kernel
theorem dX12_claim_5 : decode cX12_claim 5 = .ok (.ifCond .eq 21, 3) := by decide +kernel
theorem dX12_claim_8 : decode cX12_claim 8 = .ok (.iload_n 2, 1) := by decide +kernel
theorem dX12_claim_9 : decode cX12_claim 9 = .ok (.iconst 0, 1) := by decide +kernel
theorem dX12_claim_10 : decode cX12_claim 10 = .ok (.sipush 4000, 3) := by decide +kernel
theorem dX12_claim_13 : decode cX12_claim 13 = .ok (.invokestatic 63, 3) := by decide +kernel
theorem dX12_claim_16 : decode cX12_claim 16 = .ok (.ifCond .eq 10, 3) := by decide +kernel
theorem dX12_claim_19 : decode cX12_claim 19 = .ok (.iload_n 3, 1) := by decide +kernel
theorem dX12_claim_20 : decode cX12_claim 20 = .ok (.invokestatic 191, 3) := by decide +kernel
theorem dX12_claim_23 : decode cX12_claim 23 = .ok (.ifCond .ne 10, 3) := by decide +kernel
theorem dX12_claim_26 : decode cX12_claim 26 = .ok (.aload_n 0, 1) := by decide +kernel
theorem dX12_claim_27 : decode cX12_claim 27 = .ok (.ldc 79, 2) := by decide +kernel
theorem dX12_claim_29 : decode cX12_claim 29 = .ok (.invokevirtual 71, 3) := by decide +kernel
theorem dX12_claim_32 : decode cX12_claim 32 = .ok (.ireturn, 1) := by decide +kernel
theorem dX12_claim_33 : decode cX12_claim 33 = .ok (.aload_n 0, 1) := by decide +kernel
theorem dX12_claim_34 : decode cX12_claim 34 = .ok (.invokevirtual 216, 3) := by decide +kernel
theorem dX12_claim_37 : decode cX12_claim 37 = .ok (.ifCond .lt 10, 3) := by decide +kernel
theorem dX12_claim_40 : decode cX12_claim 40 = .ok (.aload_n 0, 1) := by decide +kernel
theorem dX12_claim_41 : decode cX12_claim 41 = .ok (.ldc 222, 2) := by decide +kernel
theorem dX12_claim_43 : decode cX12_claim 43 = .ok (.invokevirtual 71, 3) := by decide +kernel
theorem dX12_claim_46 : decode cX12_claim 46 = .ok (.ireturn, 1) := by decide +kernel
theorem dX12_claim_47 : decode cX12_claim 47 = .ok (.aload_n 0, 1) := by decide +kernel
theorem dX12_claim_48 : decode cX12_claim 48 = .ok (.getfield 53, 3) := by decide +kernel
theorem dX12_claim_51 : decode cX12_claim 51 = .ok (.iconst 0, 1) := by decide +kernel
theorem dX12_claim_52 : decode cX12_claim 52 = .ok (.iconst 0, 1) := by decide +kernel
theorem dX12_claim_53 : decode cX12_claim 53 = .ok (.iastore, 1) := by decide +kernel
theorem dX12_claim_54 : decode cX12_claim 54 = .ok (.iconst 0, 1) := by decide +kernel
theorem dX12_claim_55 : decode cX12_claim 55 = .ok (.istore 4, 2) := by decide +kernel
theorem dX12_claim_57 : decode cX12_claim 57 = .ok (.iconst 0, 1) := by decide +kernel
theorem dX12_claim_58 : decode cX12_claim 58 = .ok (.istore 5, 2) := by decide +kernel
theorem dX12_claim_60 : decode cX12_claim 60 = .ok (.iload 5, 2) := by decide +kernel
theorem dX12_claim_62 : decode cX12_claim 62 = .ok (.aload_n 0, 1) := by decide +kernel
theorem dX12_claim_63 : decode cX12_claim 63 = .ok (.getfield 9, 3) := by decide +kernel
theorem dX12_claim_66 : decode cX12_claim 66 = .ok (.bipush 69, 2) := by decide +kernel
theorem dX12_claim_68 : decode cX12_claim 68 = .ok (.iaload, 1) := by decide +kernel
theorem dX12_claim_69 : decode cX12_claim 69 = .ok (.if_icmp .ge 84, 3) := by decide +kernel
theorem dX12_claim_72 : decode cX12_claim 72 = .ok (.aload_n 0, 1) := by decide +kernel
theorem dX12_claim_73 : decode cX12_claim 73 = .ok (.getfield 9, 3) := by decide +kernel
theorem dX12_claim_76 : decode cX12_claim 76 = .ok (.sipush 410, 3) := by decide +kernel
theorem dX12_claim_79 : decode cX12_claim 79 = .ok (.iload 5, 2) := by decide +kernel
theorem dX12_claim_81 : decode cX12_claim 81 = .ok (.iadd, 1) := by decide +kernel
theorem dX12_claim_82 : decode cX12_claim 82 = .ok (.iaload, 1) := by decide +kernel
theorem dX12_claim_83 : decode cX12_claim 83 = .ok (.istore 6, 2) := by decide +kernel
theorem dX12_claim_85 : decode cX12_claim 85 = .ok (.iload 6, 2) := by decide +kernel
theorem dX12_claim_87 : decode cX12_claim 87 = .ok (.bipush 50, 2) := by decide +kernel
theorem dX12_claim_89 : decode cX12_claim 89 = .ok (.if_icmp .ge 25, 3) := by decide +kernel
theorem dX12_claim_92 : decode cX12_claim 92 = .ok (.aload_n 0, 1) := by decide +kernel
theorem dX12_claim_93 : decode cX12_claim 93 = .ok (.getfield 53, 3) := by decide +kernel
theorem dX12_claim_96 : decode cX12_claim 96 = .ok (.iload 4, 2) := by decide +kernel
theorem dX12_claim_98 : decode cX12_claim 98 = .ok (.aload_n 0, 1) := by decide +kernel
theorem dX12_claim_99 : decode cX12_claim 99 = .ok (.iload 6, 2) := by decide +kernel
theorem dX12_claim_101 : decode cX12_claim 101 = .ok (.iload_n 1, 1) := by decide +kernel
theorem dX12_claim_102 : decode cX12_claim 102 = .ok (.iload_n 2, 1) := by decide +kernel
theorem dX12_claim_103 : decode cX12_claim 103 = .ok (.iload_n 3, 1) := by decide +kernel
theorem dX12_claim_104 : decode cX12_claim 104 = .ok (.invokevirtual 223, 3) := by decide +kernel
theorem dX12_claim_107 : decode cX12_claim 107 = .ok (.iastore, 1) := by decide +kernel
theorem dX12_claim_108 : decode cX12_claim 108 = .ok (.iinc 4 1, 3) := by decide +kernel
theorem dX12_claim_111 : decode cX12_claim 111 = .ok (.goto 36, 3) := by decide +kernel
theorem dX12_claim_114 : decode cX12_claim 114 = .ok (.iinc 4 (-1), 3) := by decide +kernel
theorem dX12_claim_117 : decode cX12_claim 117 = .ok (.aload_n 0, 1) := by decide +kernel
theorem dX12_claim_118 : decode cX12_claim 118 = .ok (.getfield 53, 3) := by decide +kernel
theorem dX12_claim_121 : decode cX12_claim 121 = .ok (.iload 4, 2) := by decide +kernel
theorem dX12_claim_123 : decode cX12_claim 123 = .ok (.iconst 1, 1) := by decide +kernel
theorem dX12_claim_124 : decode cX12_claim 124 = .ok (.isub, 1) := by decide +kernel
theorem dX12_claim_125 : decode cX12_claim 125 = .ok (.iload 6, 2) := by decide +kernel
theorem dX12_claim_127 : decode cX12_claim 127 = .ok (.aload_n 0, 1) := by decide +kernel
theorem dX12_claim_128 : decode cX12_claim 128 = .ok (.getfield 53, 3) := by decide +kernel
theorem dX12_claim_131 : decode cX12_claim 131 = .ok (.iload 4, 2) := by decide +kernel
theorem dX12_claim_133 : decode cX12_claim 133 = .ok (.iconst 1, 1) := by decide +kernel
theorem dX12_claim_134 : decode cX12_claim 134 = .ok (.isub, 1) := by decide +kernel
theorem dX12_claim_135 : decode cX12_claim 135 = .ok (.iaload, 1) := by decide +kernel
theorem dX12_claim_136 : decode cX12_claim 136 = .ok (.aload_n 0, 1) := by decide +kernel
theorem dX12_claim_137 : decode cX12_claim 137 = .ok (.getfield 53, 3) := by decide +kernel
theorem dX12_claim_140 : decode cX12_claim 140 = .ok (.iload 4, 2) := by decide +kernel
theorem dX12_claim_142 : decode cX12_claim 142 = .ok (.iaload, 1) := by decide +kernel
theorem dX12_claim_143 : decode cX12_claim 143 = .ok (.invokestatic 227, 3) := by decide +kernel
theorem dX12_claim_146 : decode cX12_claim 146 = .ok (.iastore, 1) := by decide +kernel
theorem dX12_claim_147 : decode cX12_claim 147 = .ok (.iinc 5 1, 3) := by decide +kernel
theorem dX12_claim_150 : decode cX12_claim 150 = .ok (.goto (-90), 3) := by decide +kernel
theorem dX12_claim_153 : decode cX12_claim 153 = .ok (.aload_n 0, 1) := by decide +kernel
theorem dX12_claim_154 : decode cX12_claim 154 = .ok (.getfield 53, 3) := by decide +kernel
theorem dX12_claim_157 : decode cX12_claim 157 = .ok (.iconst 0, 1) := by decide +kernel
theorem dX12_claim_158 : decode cX12_claim 158 = .ok (.iaload, 1) := by decide +kernel
theorem dX12_claim_159 : decode cX12_claim 159 = .ok (.ldc 230, 2) := by decide +kernel
theorem dX12_claim_161 : decode cX12_claim 161 = .ok (.invokestatic 168, 3) := by decide +kernel
theorem dX12_claim_164 : decode cX12_claim 164 = .ok (.ireturn, 1) := by decide +kernel
theorem dX12_isSheet_0 : decode cX12_isSheet 0 = .ok (.iload_n 0, 1) := by decide +kernel
theorem dX12_isSheet_1 : decode cX12_isSheet 1 = .ok (.iconst 0, 1) := by decide +kernel
theorem dX12_isSheet_2 : decode cX12_isSheet 2 = .ok (.iconst 3, 1) := by decide +kernel
theorem dX12_isSheet_3 : decode cX12_isSheet 3 = .ok (.invokestatic 63, 3) := by decide +kernel
theorem dX12_isSheet_6 : decode cX12_isSheet 6 = .ok (.ireturn, 1) := by decide +kernel
theorem dX12_sheet_0 : decode cX12_sheet 0 = .ok (.iload_n 1, 1) := by decide +kernel
theorem dX12_sheet_1 : decode cX12_sheet 1 = .ok (.invokestatic 181, 3) := by decide +kernel
theorem dX12_sheet_4 : decode cX12_sheet 4 = .ok (.ifCond .eq 25, 3) := by decide +kernel
theorem dX12_sheet_7 : decode cX12_sheet 7 = .ok (.iload_n 2, 1) := by decide +kernel
theorem dX12_sheet_8 : decode cX12_sheet 8 = .ok (.ifCond .eq 28, 3) := by decide +kernel
theorem dX12_sheet_11 : decode cX12_sheet 11 = .ok (.iload_n 2, 1) := by decide +kernel
theorem dX12_sheet_12 : decode cX12_sheet 12 = .ok (.bipush 8, 2) := by decide +kernel
theorem dX12_sheet_14 : decode cX12_sheet 14 = .ok (.if_icmp .eq 22, 3) := by decide +kernel
theorem dX12_sheet_17 : decode cX12_sheet 17 = .ok (.iload_n 2, 1) := by decide +kernel
theorem dX12_sheet_18 : decode cX12_sheet 18 = .ok (.bipush 16, 2) := by decide +kernel
theorem dX12_sheet_20 : decode cX12_sheet 20 = .ok (.if_icmp .eq 16, 3) := by decide +kernel
theorem dX12_sheet_23 : decode cX12_sheet 23 = .ok (.iload_n 2, 1) := by decide +kernel
theorem dX12_sheet_24 : decode cX12_sheet 24 = .ok (.bipush 32, 2) := by decide +kernel
theorem dX12_sheet_26 : decode cX12_sheet 26 = .ok (.if_icmp .eq 10, 3) := by decide +kernel
theorem dX12_sheet_29 : decode cX12_sheet 29 = .ok (.aload_n 0, 1) := by decide +kernel
theorem dX12_sheet_30 : decode cX12_sheet 30 = .ok (.ldc 79, 2) := by decide +kernel
theorem dX12_sheet_32 : decode cX12_sheet 32 = .ok (.invokevirtual 71, 3) := by decide +kernel
theorem dX12_sheet_35 : decode cX12_sheet 35 = .ok (.ireturn, 1) := by decide +kernel
theorem dX12_sheet_36 : decode cX12_sheet 36 = .ok (.iload_n 3, 1) := by decide +kernel
theorem dX12_sheet_37 : decode cX12_sheet 37 = .ok (.ifCond .ge 10, 3) := by decide +kernel
theorem dX12_sheet_40 : decode cX12_sheet 40 = .ok (.aload_n 0, 1) := by decide +kernel
theorem dX12_sheet_41 : decode cX12_sheet 41 = .ok (.ldc 108, 2) := by decide +kernel
theorem dX12_sheet_43 : decode cX12_sheet 43 = .ok (.invokevirtual 71, 3) := by decide +kernel
theorem dX12_sheet_46 : decode cX12_sheet 46 = .ok (.ireturn, 1) := by decide +kernel
theorem dX12_sheet_47 : decode cX12_sheet 47 = .ok (.iload_n 3, 1) := by decide +kernel
theorem dX12_sheet_48 : decode cX12_sheet 48 = .ok (.bipush 20, 2) := by decide +kernel
theorem dX12_sheet_50 : decode cX12_sheet 50 = .ok (.if_icmp .le 10, 3) := by decide +kernel
theorem dX12_sheet_53 : decode cX12_sheet 53 = .ok (.aload_n 0, 1) := by decide +kernel
theorem dX12_sheet_54 : decode cX12_sheet 54 = .ok (.ldc 79, 2) := by decide +kernel
theorem dX12_sheet_56 : decode cX12_sheet 56 = .ok (.invokevirtual 71, 3) := by decide +kernel
theorem dX12_sheet_59 : decode cX12_sheet 59 = .ok (.ireturn, 1) := by decide +kernel
theorem dX12_sheet_60 : decode cX12_sheet 60 = .ok (.aload_n 0, 1) := by decide +kernel
theorem dX12_sheet_61 : decode cX12_sheet 61 = .ok (.getfield 16, 3) := by decide +kernel
theorem dX12_sheet_64 : decode cX12_sheet 64 = .ok (.iload_n 1, 1) := by decide +kernel
theorem dX12_sheet_65 : decode cX12_sheet 65 = .ok (.iload_n 2, 1) := by decide +kernel
theorem dX12_sheet_66 : decode cX12_sheet 66 = .ok (.iastore, 1) := by decide +kernel
theorem dX12_sheet_67 : decode cX12_sheet 67 = .ok (.aload_n 0, 1) := by decide +kernel
theorem dX12_sheet_68 : decode cX12_sheet 68 = .ok (.getfield 19, 3) := by decide +kernel
theorem dX12_sheet_71 : decode cX12_sheet 71 = .ok (.iload_n 1, 1) := by decide +kernel
theorem dX12_sheet_72 : decode cX12_sheet 72 = .ok (.iload_n 2, 1) := by decide +kernel
theorem dX12_sheet_73 : decode cX12_sheet 73 = .ok (.ifCond .ne 7, 3) := by decide +kernel
theorem dX12_sheet_76 : decode cX12_sheet 76 = .ok (.iconst 0, 1) := by decide +kernel
theorem dX12_sheet_77 : decode cX12_sheet 77 = .ok (.goto 4, 3) := by decide +kernel
theorem dX12_sheet_80 : decode cX12_sheet 80 = .ok (.iload_n 3, 1) := by decide +kernel
theorem dX12_sheet_81 : decode cX12_sheet 81 = .ok (.iastore, 1) := by decide +kernel
theorem dX12_sheet_82 : decode cX12_sheet 82 = .ok (.iconst 0, 1) := by decide +kernel
theorem dX12_sheet_83 : decode cX12_sheet 83 = .ok (.istore 4, 2) := by decide +kernel
theorem dX12_sheet_85 : decode cX12_sheet 85 = .ok (.iload 4, 2) := by decide +kernel
theorem dX12_sheet_87 : decode cX12_sheet 87 = .ok (.bipush 20, 2) := by decide +kernel
theorem dX12_sheet_89 : decode cX12_sheet 89 = .ok (.if_icmp .ge 22, 3) := by decide +kernel
theorem dX12_sheet_92 : decode cX12_sheet 92 = .ok (.aload_n 0, 1) := by decide +kernel
theorem dX12_sheet_93 : decode cX12_sheet 93 = .ok (.getfield 22, 3) := by decide +kernel
theorem dX12_sheet_96 : decode cX12_sheet 96 = .ok (.bipush 20, 2) := by decide +kernel
theorem dX12_sheet_98 : decode cX12_sheet 98 = .ok (.iload_n 1, 1) := by decide +kernel
theorem dX12_sheet_99 : decode cX12_sheet 99 = .ok (.imul, 1) := by decide +kernel
theorem dX12_sheet_100 : decode cX12_sheet 100 = .ok (.iload 4, 2) := by decide +kernel
theorem dX12_sheet_102 : decode cX12_sheet 102 = .ok (.iadd, 1) := by decide +kernel
theorem dX12_sheet_103 : decode cX12_sheet 103 = .ok (.iconst 0, 1) := by decide +kernel
theorem dX12_sheet_104 : decode cX12_sheet 104 = .ok (.iastore, 1) := by decide +kernel
theorem dX12_sheet_105 : decode cX12_sheet 105 = .ok (.iinc 4 1, 3) := by decide +kernel
theorem dX12_sheet_108 : decode cX12_sheet 108 = .ok (.goto (-23), 3) := by decide +kernel
theorem dX12_sheet_111 : decode cX12_sheet 111 = .ok (.aload_n 0, 1) := by decide +kernel
theorem dX12_sheet_112 : decode cX12_sheet 112 = .ok (.getfield 19, 3) := by decide +kernel
theorem dX12_sheet_115 : decode cX12_sheet 115 = .ok (.iload_n 1, 1) := by decide +kernel
theorem dX12_sheet_116 : decode cX12_sheet 116 = .ok (.iaload, 1) := by decide +kernel
theorem dX12_sheet_117 : decode cX12_sheet 117 = .ok (.ireturn, 1) := by decide +kernel
theorem dX12_put_0 : decode cX12_put 0 = .ok (.iload_n 1, 1) := by decide +kernel
theorem dX12_put_1 : decode cX12_put 1 = .ok (.invokestatic 181, 3) := by decide +kernel
theorem dX12_put_4 : decode cX12_put 4 = .ok (.ifCond .ne 10, 3) := by decide +kernel
theorem dX12_put_7 : decode cX12_put 7 = .ok (.aload_n 0, 1) := by decide +kernel
theorem dX12_put_8 : decode cX12_put 8 = .ok (.ldc 79, 2) := by decide +kernel
theorem dX12_put_10 : decode cX12_put 10 = .ok (.invokevirtual 71, 3) := by decide +kernel
theorem dX12_put_13 : decode cX12_put 13 = .ok (.ireturn, 1) := by decide +kernel
theorem dX12_put_14 : decode cX12_put 14 = .ok (.aload_n 0, 1) := by decide +kernel
theorem dX12_put_15 : decode cX12_put 15 = .ok (.getfield 16, 3) := by decide +kernel
theorem dX12_put_18 : decode cX12_put 18 = .ok (.iload_n 1, 1) := by decide +kernel
theorem dX12_put_19 : decode cX12_put 19 = .ok (.iaload, 1) := by decide +kernel
theorem dX12_put_20 : decode cX12_put 20 = .ok (.ifCond .ne 10, 3) := by decide +kernel
theorem dX12_put_23 : decode cX12_put 23 = .ok (.aload_n 0, 1) := by decide +kernel
theorem dX12_put_24 : decode cX12_put 24 = .ok (.ldc 184, 2) := by decide +kernel
theorem dX12_put_26 : decode cX12_put 26 = .ok (.invokevirtual 71, 3) := by decide +kernel
theorem dX12_put_29 : decode cX12_put 29 = .ok (.ireturn, 1) := by decide +kernel
theorem dX12_put_30 : decode cX12_put 30 = .ok (.iload_n 2, 1) := by decide +kernel
theorem dX12_put_31 : decode cX12_put 31 = .ok (.iconst 0, 1) := by decide +kernel
theorem dX12_put_32 : decode cX12_put 32 = .ok (.aload_n 0, 1) := by decide +kernel
theorem dX12_put_33 : decode cX12_put 33 = .ok (.getfield 19, 3) := by decide +kernel
theorem dX12_put_36 : decode cX12_put 36 = .ok (.iload_n 1, 1) := by decide +kernel
theorem dX12_put_37 : decode cX12_put 37 = .ok (.iaload, 1) := by decide +kernel
theorem dX12_put_38 : decode cX12_put 38 = .ok (.iconst 1, 1) := by decide +kernel
theorem dX12_put_39 : decode cX12_put 39 = .ok (.isub, 1) := by decide +kernel
theorem dX12_put_40 : decode cX12_put 40 = .ok (.invokestatic 63, 3) := by decide +kernel
theorem dX12_put_43 : decode cX12_put 43 = .ok (.ifCond .ne 10, 3) := by decide +kernel
theorem dX12_put_46 : decode cX12_put 46 = .ok (.aload_n 0, 1) := by decide +kernel
theorem dX12_put_47 : decode cX12_put 47 = .ok (.ldc 79, 2) := by decide +kernel
theorem dX12_put_49 : decode cX12_put 49 = .ok (.invokevirtual 71, 3) := by decide +kernel
theorem dX12_put_52 : decode cX12_put 52 = .ok (.ireturn, 1) := by decide +kernel
theorem dX12_put_53 : decode cX12_put 53 = .ok (.bipush 32, 2) := by decide +kernel
theorem dX12_put_55 : decode cX12_put 55 = .ok (.aload_n 0, 1) := by decide +kernel
theorem dX12_put_56 : decode cX12_put 56 = .ok (.getfield 16, 3) := by decide +kernel
theorem dX12_put_59 : decode cX12_put 59 = .ok (.iload_n 1, 1) := by decide +kernel
theorem dX12_put_60 : decode cX12_put 60 = .ok (.iaload, 1) := by decide +kernel
theorem dX12_put_61 : decode cX12_put 61 = .ok (.isub, 1) := by decide +kernel
theorem dX12_put_62 : decode cX12_put 62 = .ok (.istore 4, 2) := by decide +kernel
theorem dX12_put_64 : decode cX12_put 64 = .ok (.aload_n 0, 1) := by decide +kernel
theorem dX12_put_65 : decode cX12_put 65 = .ok (.getfield 22, 3) := by decide +kernel
theorem dX12_put_68 : decode cX12_put 68 = .ok (.bipush 20, 2) := by decide +kernel
theorem dX12_put_70 : decode cX12_put 70 = .ok (.iload_n 1, 1) := by decide +kernel
theorem dX12_put_71 : decode cX12_put 71 = .ok (.imul, 1) := by decide +kernel
theorem dX12_put_72 : decode cX12_put 72 = .ok (.iload_n 2, 1) := by decide +kernel
theorem dX12_put_73 : decode cX12_put 73 = .ok (.iadd, 1) := by decide +kernel
theorem dX12_put_74 : decode cX12_put 74 = .ok (.iload_n 3, 1) := by decide +kernel
theorem dX12_put_75 : decode cX12_put 75 = .ok (.iload 4, 2) := by decide +kernel
theorem dX12_put_77 : decode cX12_put 77 = .ok (.ishl, 1) := by decide +kernel
theorem dX12_put_78 : decode cX12_put 78 = .ok (.iload 4, 2) := by decide +kernel
theorem dX12_put_80 : decode cX12_put 80 = .ok (.ishr, 1) := by decide +kernel
theorem dX12_put_81 : decode cX12_put 81 = .ok (.iastore, 1) := by decide +kernel
theorem dX12_put_82 : decode cX12_put 82 = .ok (.iconst 0, 1) := by decide +kernel
theorem dX12_put_83 : decode cX12_put 83 = .ok (.ireturn, 1) := by decide +kernel
theorem dX12_copy_0 : decode cX12_copy 0 = .ok (.iload_n 1, 1) := by decide +kernel
theorem dX12_copy_1 : decode cX12_copy 1 = .ok (.invokestatic 181, 3) := by decide +kernel
theorem dX12_copy_4 : decode cX12_copy 4 = .ok (.ifCond .eq 10, 3) := by decide +kernel
theorem dX12_copy_7 : decode cX12_copy 7 = .ok (.iload_n 3, 1) := by decide +kernel
theorem dX12_copy_8 : decode cX12_copy 8 = .ok (.invokestatic 181, 3) := by decide +kernel
theorem dX12_copy_11 : decode cX12_copy 11 = .ok (.ifCond .ne 10, 3) := by decide +kernel
theorem dX12_copy_14 : decode cX12_copy 14 = .ok (.aload_n 0, 1) := by decide +kernel
theorem dX12_copy_15 : decode cX12_copy 15 = .ok (.ldc 79, 2) := by decide +kernel
theorem dX12_copy_17 : decode cX12_copy 17 = .ok (.invokevirtual 71, 3) := by decide +kernel
theorem dX12_copy_20 : decode cX12_copy 20 = .ok (.ireturn, 1) := by decide +kernel
theorem dX12_copy_21 : decode cX12_copy 21 = .ok (.aload_n 0, 1) := by decide +kernel
theorem dX12_copy_22 : decode cX12_copy 22 = .ok (.getfield 16, 3) := by decide +kernel
theorem dX12_copy_25 : decode cX12_copy 25 = .ok (.iload_n 1, 1) := by decide +kernel
theorem dX12_copy_26 : decode cX12_copy 26 = .ok (.iaload, 1) := by decide +kernel
theorem dX12_copy_27 : decode cX12_copy 27 = .ok (.ifCond .eq 12, 3) := by decide +kernel
theorem dX12_copy_30 : decode cX12_copy 30 = .ok (.aload_n 0, 1) := by decide +kernel
theorem dX12_copy_31 : decode cX12_copy 31 = .ok (.getfield 16, 3) := by decide +kernel
theorem dX12_copy_34 : decode cX12_copy 34 = .ok (.iload_n 3, 1) := by decide +kernel
theorem dX12_copy_35 : decode cX12_copy 35 = .ok (.iaload, 1) := by decide +kernel
theorem dX12_copy_36 : decode cX12_copy 36 = .ok (.ifCond .ne 10, 3) := by decide +kernel
theorem dX12_copy_39 : decode cX12_copy 39 = .ok (.aload_n 0, 1) := by decide +kernel
theorem dX12_copy_40 : decode cX12_copy 40 = .ok (.ldc 184, 2) := by decide +kernel
theorem dX12_copy_42 : decode cX12_copy 42 = .ok (.invokevirtual 71, 3) := by decide +kernel
theorem dX12_copy_45 : decode cX12_copy 45 = .ok (.ireturn, 1) := by decide +kernel
theorem dX12_copy_46 : decode cX12_copy 46 = .ok (.aload_n 0, 1) := by decide +kernel
theorem dX12_copy_47 : decode cX12_copy 47 = .ok (.getfield 16, 3) := by decide +kernel
theorem dX12_copy_50 : decode cX12_copy 50 = .ok (.iload_n 1, 1) := by decide +kernel
theorem dX12_copy_51 : decode cX12_copy 51 = .ok (.iaload, 1) := by decide +kernel
theorem dX12_copy_52 : decode cX12_copy 52 = .ok (.aload_n 0, 1) := by decide +kernel
theorem dX12_copy_53 : decode cX12_copy 53 = .ok (.getfield 16, 3) := by decide +kernel
theorem dX12_copy_56 : decode cX12_copy 56 = .ok (.iload_n 3, 1) := by decide +kernel
theorem dX12_copy_57 : decode cX12_copy 57 = .ok (.iaload, 1) := by decide +kernel
theorem dX12_copy_58 : decode cX12_copy 58 = .ok (.if_icmp .eq 10, 3) := by decide +kernel
theorem dX12_copy_61 : decode cX12_copy 61 = .ok (.aload_n 0, 1) := by decide +kernel
theorem dX12_copy_62 : decode cX12_copy 62 = .ok (.ldc 104, 2) := by decide +kernel
theorem dX12_copy_64 : decode cX12_copy 64 = .ok (.invokevirtual 71, 3) := by decide +kernel
theorem dX12_copy_67 : decode cX12_copy 67 = .ok (.ireturn, 1) := by decide +kernel
theorem dX12_copy_68 : decode cX12_copy 68 = .ok (.iload_n 2, 1) := by decide +kernel
theorem dX12_copy_69 : decode cX12_copy 69 = .ok (.ifCond .lt 48, 3) := by decide +kernel
theorem dX12_copy_72 : decode cX12_copy 72 = .ok (.iload 4, 2) := by decide +kernel
theorem dX12_copy_74 : decode cX12_copy 74 = .ok (.ifCond .lt 43, 3) := by decide +kernel
theorem dX12_copy_77 : decode cX12_copy 77 = .ok (.iload 5, 2) := by decide +kernel
theorem dX12_copy_79 : decode cX12_copy 79 = .ok (.ifCond .lt 38, 3) := by decide +kernel
theorem dX12_copy_82 : decode cX12_copy 82 = .ok (.iload_n 2, 1) := by decide +kernel
theorem dX12_copy_83 : decode cX12_copy 83 = .ok (.i2l, 1) := by decide +kernel
theorem dX12_copy_84 : decode cX12_copy 84 = .ok (.iload 5, 2) := by decide +kernel
theorem dX12_copy_86 : decode cX12_copy 86 = .ok (.i2l, 1) := by decide +kernel
theorem dX12_copy_87 : decode cX12_copy 87 = .ok (.ladd, 1) := by decide +kernel
theorem dX12_copy_88 : decode cX12_copy 88 = .ok (.aload_n 0, 1) := by decide +kernel
theorem dX12_copy_89 : decode cX12_copy 89 = .ok (.getfield 19, 3) := by decide +kernel
theorem dX12_copy_92 : decode cX12_copy 92 = .ok (.iload_n 1, 1) := by decide +kernel
theorem dX12_copy_93 : decode cX12_copy 93 = .ok (.iaload, 1) := by decide +kernel
theorem dX12_copy_94 : decode cX12_copy 94 = .ok (.i2l, 1) := by decide +kernel
theorem dX12_copy_95 : decode cX12_copy 95 = .ok (.lcmp, 1) := by decide +kernel
theorem dX12_copy_96 : decode cX12_copy 96 = .ok (.ifCond .gt 21, 3) := by decide +kernel
theorem dX12_copy_99 : decode cX12_copy 99 = .ok (.iload 4, 2) := by decide +kernel
theorem dX12_copy_101 : decode cX12_copy 101 = .ok (.i2l, 1) := by decide +kernel
theorem dX12_copy_102 : decode cX12_copy 102 = .ok (.iload 5, 2) := by decide +kernel
theorem dX12_copy_104 : decode cX12_copy 104 = .ok (.i2l, 1) := by decide +kernel
theorem dX12_copy_105 : decode cX12_copy 105 = .ok (.ladd, 1) := by decide +kernel
theorem dX12_copy_106 : decode cX12_copy 106 = .ok (.aload_n 0, 1) := by decide +kernel
theorem dX12_copy_107 : decode cX12_copy 107 = .ok (.getfield 19, 3) := by decide +kernel
theorem dX12_copy_110 : decode cX12_copy 110 = .ok (.iload_n 3, 1) := by decide +kernel
theorem dX12_copy_111 : decode cX12_copy 111 = .ok (.iaload, 1) := by decide +kernel
theorem dX12_copy_112 : decode cX12_copy 112 = .ok (.i2l, 1) := by decide +kernel
theorem dX12_copy_113 : decode cX12_copy 113 = .ok (.lcmp, 1) := by decide +kernel
theorem dX12_copy_114 : decode cX12_copy 114 = .ok (.ifCond .le 10, 3) := by decide +kernel
theorem dX12_copy_117 : decode cX12_copy 117 = .ok (.aload_n 0, 1) := by decide +kernel
theorem dX12_copy_118 : decode cX12_copy 118 = .ok (.ldc 79, 2) := by decide +kernel
theorem dX12_copy_120 : decode cX12_copy 120 = .ok (.invokevirtual 71, 3) := by decide +kernel
theorem dX12_copy_123 : decode cX12_copy 123 = .ok (.ireturn, 1) := by decide +kernel
theorem dX12_copy_124 : decode cX12_copy 124 = .ok (.iconst 0, 1) := by decide +kernel
theorem dX12_copy_125 : decode cX12_copy 125 = .ok (.istore 6, 2) := by decide +kernel
theorem dX12_copy_127 : decode cX12_copy 127 = .ok (.iload 6, 2) := by decide +kernel
theorem dX12_copy_129 : decode cX12_copy 129 = .ok (.iload 5, 2) := by decide +kernel
theorem dX12_copy_131 : decode cX12_copy 131 = .ok (.if_icmp .ge 30, 3) := by decide +kernel
theorem dX12_copy_134 : decode cX12_copy 134 = .ok (.aload_n 0, 1) := by decide +kernel
theorem dX12_copy_135 : decode cX12_copy 135 = .ok (.getfield 56, 3) := by decide +kernel
theorem dX12_copy_138 : decode cX12_copy 138 = .ok (.iload 6, 2) := by decide +kernel
theorem dX12_copy_140 : decode cX12_copy 140 = .ok (.aload_n 0, 1) := by decide +kernel
theorem dX12_copy_141 : decode cX12_copy 141 = .ok (.getfield 22, 3) := by decide +kernel
theorem dX12_copy_144 : decode cX12_copy 144 = .ok (.bipush 20, 2) := by decide +kernel
theorem dX12_copy_146 : decode cX12_copy 146 = .ok (.iload_n 1, 1) := by decide +kernel
theorem dX12_copy_147 : decode cX12_copy 147 = .ok (.imul, 1) := by decide +kernel
theorem dX12_copy_148 : decode cX12_copy 148 = .ok (.iload_n 2, 1) := by decide +kernel
theorem dX12_copy_149 : decode cX12_copy 149 = .ok (.iadd, 1) := by decide +kernel
theorem dX12_copy_150 : decode cX12_copy 150 = .ok (.iload 6, 2) := by decide +kernel
theorem dX12_copy_152 : decode cX12_copy 152 = .ok (.iadd, 1) := by decide +kernel
theorem dX12_copy_153 : decode cX12_copy 153 = .ok (.iaload, 1) := by decide +kernel
theorem dX12_copy_154 : decode cX12_copy 154 = .ok (.iastore, 1) := by decide +kernel
theorem dX12_copy_155 : decode cX12_copy 155 = .ok (.iinc 6 1, 3) := by decide +kernel
theorem dX12_copy_158 : decode cX12_copy 158 = .ok (.goto (-31), 3) := by decide +kernel
theorem dX12_copy_161 : decode cX12_copy 161 = .ok (.iconst 0, 1) := by decide +kernel
theorem dX12_copy_162 : decode cX12_copy 162 = .ok (.istore 6, 2) := by decide +kernel
theorem dX12_copy_164 : decode cX12_copy 164 = .ok (.iload 6, 2) := by decide +kernel
theorem dX12_copy_166 : decode cX12_copy 166 = .ok (.iload 5, 2) := by decide +kernel
theorem dX12_copy_168 : decode cX12_copy 168 = .ok (.if_icmp .ge 31, 3) := by decide +kernel
theorem dX12_copy_171 : decode cX12_copy 171 = .ok (.aload_n 0, 1) := by decide +kernel
theorem dX12_copy_172 : decode cX12_copy 172 = .ok (.getfield 22, 3) := by decide +kernel
theorem dX12_copy_175 : decode cX12_copy 175 = .ok (.bipush 20, 2) := by decide +kernel
theorem dX12_copy_177 : decode cX12_copy 177 = .ok (.iload_n 3, 1) := by decide +kernel
theorem dX12_copy_178 : decode cX12_copy 178 = .ok (.imul, 1) := by decide +kernel
theorem dX12_copy_179 : decode cX12_copy 179 = .ok (.iload 4, 2) := by decide +kernel
theorem dX12_copy_181 : decode cX12_copy 181 = .ok (.iadd, 1) := by decide +kernel
theorem dX12_copy_182 : decode cX12_copy 182 = .ok (.iload 6, 2) := by decide +kernel
theorem dX12_copy_184 : decode cX12_copy 184 = .ok (.iadd, 1) := by decide +kernel
theorem dX12_copy_185 : decode cX12_copy 185 = .ok (.aload_n 0, 1) := by decide +kernel
theorem dX12_copy_186 : decode cX12_copy 186 = .ok (.getfield 56, 3) := by decide +kernel
theorem dX12_copy_189 : decode cX12_copy 189 = .ok (.iload 6, 2) := by decide +kernel
theorem dX12_copy_191 : decode cX12_copy 191 = .ok (.iaload, 1) := by decide +kernel
theorem dX12_copy_192 : decode cX12_copy 192 = .ok (.iastore, 1) := by decide +kernel
theorem dX12_copy_193 : decode cX12_copy 193 = .ok (.iinc 6 1, 3) := by decide +kernel
theorem dX12_copy_196 : decode cX12_copy 196 = .ok (.goto (-32), 3) := by decide +kernel
theorem dX12_copy_199 : decode cX12_copy 199 = .ok (.iload 5, 2) := by decide +kernel
theorem dX12_copy_201 : decode cX12_copy 201 = .ok (.ireturn, 1) := by decide +kernel
theorem dX12_all_0 : decode cX12_all 0 = .ok (.iload_n 1, 1) := by decide +kernel
theorem dX12_all_1 : decode cX12_all 1 = .ok (.iconst 0, 1) := by decide +kernel
theorem dX12_all_2 : decode cX12_all 2 = .ok (.iconst 4, 1) := by decide +kernel
theorem dX12_all_3 : decode cX12_all 3 = .ok (.invokestatic 63, 3) := by decide +kernel
theorem dX12_all_6 : decode cX12_all 6 = .ok (.ifCond .eq 15, 3) := by decide +kernel
theorem dX12_all_9 : decode cX12_all 9 = .ok (.aload_n 0, 1) := by decide +kernel
theorem dX12_all_10 : decode cX12_all 10 = .ok (.getfield 9, 3) := by decide +kernel
theorem dX12_all_13 : decode cX12_all 13 = .ok (.bipush 64, 2) := by decide +kernel
theorem dX12_all_15 : decode cX12_all 15 = .ok (.iload_n 1, 1) := by decide +kernel
theorem dX12_all_16 : decode cX12_all 16 = .ok (.iadd, 1) := by decide +kernel
theorem dX12_all_17 : decode cX12_all 17 = .ok (.iaload, 1) := by decide +kernel
theorem dX12_all_18 : decode cX12_all 18 = .ok (.goto 21, 3) := by decide +kernel
theorem dX12_all_21 : decode cX12_all 21 = .ok (.iload_n 1, 1) := by decide +kernel
theorem dX12_all_22 : decode cX12_all 22 = .ok (.iconst 5, 1) := by decide +kernel
theorem dX12_all_23 : decode cX12_all 23 = .ok (.if_icmp .ne 10, 3) := by decide +kernel
theorem dX12_all_26 : decode cX12_all 26 = .ok (.aload_n 0, 1) := by decide +kernel
theorem dX12_all_27 : decode cX12_all 27 = .ok (.getfield 59, 3) := by decide +kernel
theorem dX12_all_30 : decode cX12_all 30 = .ok (.goto 9, 3) := by decide +kernel
theorem dX12_all_33 : decode cX12_all 33 = .ok (.aload_n 0, 1) := by decide +kernel
theorem dX12_all_34 : decode cX12_all 34 = .ok (.ldc 79, 2) := by decide +kernel
theorem dX12_all_36 : decode cX12_all 36 = .ok (.invokevirtual 71, 3) := by decide +kernel
theorem dX12_all_39 : decode cX12_all 39 = .ok (.ireturn, 1) := by decide +kernel
theorem dJ6_bitCount_0f7a4_0 : decode cJ6_bitCount_0f7a4 0 = .ok (.iload_n 0, 1) := by decide +kernel
theorem dJ6_bitCount_0f7a4_1 : decode cJ6_bitCount_0f7a4 1 = .ok (.iload_n 0, 1) := by decide +kernel
theorem dJ6_bitCount_0f7a4_2 : decode cJ6_bitCount_0f7a4 2 = .ok (.iconst 1, 1) := by decide +kernel
theorem dJ6_bitCount_0f7a4_3 : decode cJ6_bitCount_0f7a4 3 = .ok (.iushr, 1) := by decide +kernel
theorem dJ6_bitCount_0f7a4_4 : decode cJ6_bitCount_0f7a4 4 = .ok (.ldc_w 265, 3) := by decide +kernel
theorem dJ6_bitCount_0f7a4_7 : decode cJ6_bitCount_0f7a4 7 = .ok (.iand, 1) := by decide +kernel
theorem dJ6_bitCount_0f7a4_8 : decode cJ6_bitCount_0f7a4 8 = .ok (.isub, 1) := by decide +kernel
theorem dJ6_bitCount_0f7a4_9 : decode cJ6_bitCount_0f7a4 9 = .ok (.istore_n 0, 1) := by decide +kernel
theorem dJ6_bitCount_0f7a4_10 : decode cJ6_bitCount_0f7a4 10 = .ok (.iload_n 0, 1) := by decide +kernel
theorem dJ6_bitCount_0f7a4_11 : decode cJ6_bitCount_0f7a4 11 = .ok (.ldc_w 266, 3) := by decide +kernel
theorem dJ6_bitCount_0f7a4_14 : decode cJ6_bitCount_0f7a4 14 = .ok (.iand, 1) := by decide +kernel
theorem dJ6_bitCount_0f7a4_15 : decode cJ6_bitCount_0f7a4 15 = .ok (.iload_n 0, 1) := by decide +kernel
theorem dJ6_bitCount_0f7a4_16 : decode cJ6_bitCount_0f7a4 16 = .ok (.iconst 2, 1) := by decide +kernel
theorem dJ6_bitCount_0f7a4_17 : decode cJ6_bitCount_0f7a4 17 = .ok (.iushr, 1) := by decide +kernel
theorem dJ6_bitCount_0f7a4_18 : decode cJ6_bitCount_0f7a4 18 = .ok (.ldc_w 266, 3) := by decide +kernel
theorem dJ6_bitCount_0f7a4_21 : decode cJ6_bitCount_0f7a4 21 = .ok (.iand, 1) := by decide +kernel
theorem dJ6_bitCount_0f7a4_22 : decode cJ6_bitCount_0f7a4 22 = .ok (.iadd, 1) := by decide +kernel
theorem dJ6_bitCount_0f7a4_23 : decode cJ6_bitCount_0f7a4 23 = .ok (.istore_n 0, 1) := by decide +kernel
theorem dJ6_bitCount_0f7a4_24 : decode cJ6_bitCount_0f7a4 24 = .ok (.iload_n 0, 1) := by decide +kernel
theorem dJ6_bitCount_0f7a4_25 : decode cJ6_bitCount_0f7a4 25 = .ok (.iload_n 0, 1) := by decide +kernel
theorem dJ6_bitCount_0f7a4_26 : decode cJ6_bitCount_0f7a4 26 = .ok (.iconst 4, 1) := by decide +kernel
theorem dJ6_bitCount_0f7a4_27 : decode cJ6_bitCount_0f7a4 27 = .ok (.iushr, 1) := by decide +kernel
theorem dJ6_bitCount_0f7a4_28 : decode cJ6_bitCount_0f7a4 28 = .ok (.iadd, 1) := by decide +kernel
theorem dJ6_bitCount_0f7a4_29 : decode cJ6_bitCount_0f7a4 29 = .ok (.ldc_w 267, 3) := by decide +kernel
theorem dJ6_bitCount_0f7a4_32 : decode cJ6_bitCount_0f7a4 32 = .ok (.iand, 1) := by decide +kernel
theorem dJ6_bitCount_0f7a4_33 : decode cJ6_bitCount_0f7a4 33 = .ok (.istore_n 0, 1) := by decide +kernel
theorem dJ6_bitCount_0f7a4_34 : decode cJ6_bitCount_0f7a4 34 = .ok (.iload_n 0, 1) := by decide +kernel
theorem dJ6_bitCount_0f7a4_35 : decode cJ6_bitCount_0f7a4 35 = .ok (.iload_n 0, 1) := by decide +kernel
theorem dJ6_bitCount_0f7a4_36 : decode cJ6_bitCount_0f7a4 36 = .ok (.bipush 8, 2) := by decide +kernel
theorem dJ6_bitCount_0f7a4_38 : decode cJ6_bitCount_0f7a4 38 = .ok (.iushr, 1) := by decide +kernel
theorem dJ6_bitCount_0f7a4_39 : decode cJ6_bitCount_0f7a4 39 = .ok (.iadd, 1) := by decide +kernel
theorem dJ6_bitCount_0f7a4_40 : decode cJ6_bitCount_0f7a4 40 = .ok (.istore_n 0, 1) := by decide +kernel
theorem dJ6_bitCount_0f7a4_41 : decode cJ6_bitCount_0f7a4 41 = .ok (.iload_n 0, 1) := by decide +kernel
theorem dJ6_bitCount_0f7a4_42 : decode cJ6_bitCount_0f7a4 42 = .ok (.iload_n 0, 1) := by decide +kernel
theorem dJ6_bitCount_0f7a4_43 : decode cJ6_bitCount_0f7a4 43 = .ok (.bipush 16, 2) := by decide +kernel
theorem dJ6_bitCount_0f7a4_45 : decode cJ6_bitCount_0f7a4 45 = .ok (.iushr, 1) := by decide +kernel
theorem dJ6_bitCount_0f7a4_46 : decode cJ6_bitCount_0f7a4 46 = .ok (.iadd, 1) := by decide +kernel
theorem dJ6_bitCount_0f7a4_47 : decode cJ6_bitCount_0f7a4 47 = .ok (.istore_n 0, 1) := by decide +kernel
theorem dJ6_bitCount_0f7a4_48 : decode cJ6_bitCount_0f7a4 48 = .ok (.iload_n 0, 1) := by decide +kernel
theorem dJ6_bitCount_0f7a4_49 : decode cJ6_bitCount_0f7a4 49 = .ok (.bipush 63, 2) := by decide +kernel
theorem dJ6_bitCount_0f7a4_51 : decode cJ6_bitCount_0f7a4 51 = .ok (.iand, 1) := by decide +kernel
theorem dJ6_bitCount_0f7a4_52 : decode cJ6_bitCount_0f7a4 52 = .ok (.ireturn, 1) := by decide +kernel
theorem dJ9_abs_0f7a4_0 : decode cJ9_abs_0f7a4 0 = .ok (.iload_n 0, 1) := by decide +kernel
theorem dJ9_abs_0f7a4_1 : decode cJ9_abs_0f7a4 1 = .ok (.ifCond .ge 8, 3) := by decide +kernel
theorem dJ9_abs_0f7a4_4 : decode cJ9_abs_0f7a4 4 = .ok (.iload_n 0, 1) := by decide +kernel
theorem dJ9_abs_0f7a4_5 : decode cJ9_abs_0f7a4 5 = .ok (.ineg, 1) := by decide +kernel
theorem dJ9_abs_0f7a4_6 : decode cJ9_abs_0f7a4 6 = .ok (.goto 4, 3) := by decide +kernel
theorem dJ9_abs_0f7a4_9 : decode cJ9_abs_0f7a4 9 = .ok (.iload_n 0, 1) := by decide +kernel
theorem dJ9_abs_0f7a4_10 : decode cJ9_abs_0f7a4 10 = .ok (.ireturn, 1) := by decide +kernel
theorem dJ9_max_7cf53_0 : decode cJ9_max_7cf53 0 = .ok (.iload_n 0, 1) := by decide +kernel
theorem dJ9_max_7cf53_1 : decode cJ9_max_7cf53 1 = .ok (.iload_n 1, 1) := by decide +kernel
theorem dJ9_max_7cf53_2 : decode cJ9_max_7cf53 2 = .ok (.if_icmp .lt 7, 3) := by decide +kernel
theorem dJ9_max_7cf53_5 : decode cJ9_max_7cf53 5 = .ok (.iload_n 0, 1) := by decide +kernel
theorem dJ9_max_7cf53_6 : decode cJ9_max_7cf53 6 = .ok (.goto 4, 3) := by decide +kernel
theorem dJ9_max_7cf53_9 : decode cJ9_max_7cf53 9 = .ok (.iload_n 1, 1) := by decide +kernel
theorem dJ9_max_7cf53_10 : decode cJ9_max_7cf53 10 = .ok (.ireturn, 1) := by decide +kernel
theorem dJ9_min_7cf53_0 : decode cJ9_min_7cf53 0 = .ok (.iload_n 0, 1) := by decide +kernel
theorem dJ9_min_7cf53_1 : decode cJ9_min_7cf53 1 = .ok (.iload_n 1, 1) := by decide +kernel
theorem dJ9_min_7cf53_2 : decode cJ9_min_7cf53 2 = .ok (.if_icmp .gt 7, 3) := by decide +kernel
theorem dJ9_min_7cf53_5 : decode cJ9_min_7cf53 5 = .ok (.iload_n 0, 1) := by decide +kernel
theorem dJ9_min_7cf53_6 : decode cJ9_min_7cf53 6 = .ok (.goto 4, 3) := by decide +kernel
theorem dJ9_min_7cf53_9 : decode cJ9_min_7cf53 9 = .ok (.iload_n 1, 1) := by decide +kernel
theorem dJ9_min_7cf53_10 : decode cJ9_min_7cf53 10 = .ok (.ireturn, 1) := by decide +kernel
theorem dJ7_fill_53178_0 : decode cJ7_fill_53178 0 = .ok (.iconst 0, 1) := by decide +kernel
theorem dJ7_fill_53178_1 : decode cJ7_fill_53178 1 = .ok (.istore_n 2, 1) := by decide +kernel
theorem dJ7_fill_53178_2 : decode cJ7_fill_53178 2 = .ok (.aload_n 0, 1) := by decide +kernel
theorem dJ7_fill_53178_3 : decode cJ7_fill_53178 3 = .ok (.arraylength, 1) := by decide +kernel
theorem dJ7_fill_53178_4 : decode cJ7_fill_53178 4 = .ok (.istore_n 3, 1) := by decide +kernel
theorem dJ7_fill_53178_5 : decode cJ7_fill_53178 5 = .ok (.iload_n 2, 1) := by decide +kernel
theorem dJ7_fill_53178_6 : decode cJ7_fill_53178 6 = .ok (.iload_n 3, 1) := by decide +kernel
theorem dJ7_fill_53178_7 : decode cJ7_fill_53178 7 = .ok (.if_icmp .ge 13, 3) := by decide +kernel
theorem dJ7_fill_53178_10 : decode cJ7_fill_53178 10 = .ok (.aload_n 0, 1) := by decide +kernel
theorem dJ7_fill_53178_11 : decode cJ7_fill_53178 11 = .ok (.iload_n 2, 1) := by decide +kernel
theorem dJ7_fill_53178_12 : decode cJ7_fill_53178 12 = .ok (.iload_n 1, 1) := by decide +kernel
theorem dJ7_fill_53178_13 : decode cJ7_fill_53178 13 = .ok (.iastore, 1) := by decide +kernel
theorem dJ7_fill_53178_14 : decode cJ7_fill_53178 14 = .ok (.iinc 2 1, 3) := by decide +kernel
theorem dJ7_fill_53178_17 : decode cJ7_fill_53178 17 = .ok (.goto (-12), 3) := by decide +kernel
theorem dJ7_fill_53178_20 : decode cJ7_fill_53178 20 = .ok (.return_, 1) := by decide +kernel
theorem dJ7_checkLength_df160_0 : decode cJ7_checkLength_df160 0 = .ok (.iload_n 1, 1) := by decide +kernel
theorem dJ7_checkLength_df160_1 : decode cJ7_checkLength_df160 1 = .ok (.iload_n 0, 1) := by decide +kernel
theorem dJ7_checkLength_df160_2 : decode cJ7_checkLength_df160 2 = .ok (.if_icmp .ge 35, 3) := by decide +kernel
theorem dJ7_checkLength_df160_5 : decode cJ7_checkLength_df160 5 = .ok (.new 43, 3) := by decide +kernel
theorem dJ7_checkLength_df160_8 : decode cJ7_checkLength_df160 8 = .ok (.dup, 1) := by decide +kernel
theorem dJ7_checkLength_df160_9 : decode cJ7_checkLength_df160 9 = .ok (.new 45, 3) := by decide +kernel
theorem dJ7_checkLength_df160_12 : decode cJ7_checkLength_df160 12 = .ok (.dup, 1) := by decide +kernel
theorem dJ7_checkLength_df160_13 : decode cJ7_checkLength_df160 13 = .ok (.invokespecial 47, 3) := by decide +kernel
theorem dJ7_checkLength_df160_16 : decode cJ7_checkLength_df160 16 = .ok (.iload_n 0, 1) := by decide +kernel
theorem dJ7_checkLength_df160_17 : decode cJ7_checkLength_df160 17 = .ok (.invokevirtual 54, 3) := by decide +kernel
theorem dJ7_checkLength_df160_20 : decode cJ7_checkLength_df160 20 = .ok (.ldc_w 337, 3) := by decide +kernel
theorem dJ7_checkLength_df160_23 : decode cJ7_checkLength_df160 23 = .ok (.invokevirtual 50, 3) := by decide +kernel
theorem dJ7_checkLength_df160_26 : decode cJ7_checkLength_df160 26 = .ok (.iload_n 1, 1) := by decide +kernel
theorem dJ7_checkLength_df160_27 : decode cJ7_checkLength_df160 27 = .ok (.invokevirtual 54, 3) := by decide +kernel
theorem dJ7_checkLength_df160_30 : decode cJ7_checkLength_df160 30 = .ok (.invokevirtual 61, 3) := by decide +kernel
theorem dJ7_checkLength_df160_33 : decode cJ7_checkLength_df160 33 = .ok (.invokespecial 65, 3) := by decide +kernel
theorem dJ7_checkLength_df160_36 : decode cJ7_checkLength_df160 36 = .ok (.athrow, 1) := by decide +kernel
theorem dJ7_checkLength_df160_37 : decode cJ7_checkLength_df160 37 = .ok (.return_, 1) := by decide +kernel
theorem dJ7_copyOfRange_feecc_0 : decode cJ7_copyOfRange_feecc 0 = .ok (.iload_n 1, 1) := by decide +kernel
theorem dJ7_copyOfRange_feecc_1 : decode cJ7_copyOfRange_feecc 1 = .ok (.ifCond .ne 9, 3) := by decide +kernel
theorem dJ7_copyOfRange_feecc_4 : decode cJ7_copyOfRange_feecc 4 = .ok (.iload_n 2, 1) := by decide +kernel
theorem dJ7_copyOfRange_feecc_5 : decode cJ7_copyOfRange_feecc 5 = .ok (.aload_n 0, 1) := by decide +kernel
theorem dJ7_copyOfRange_feecc_6 : decode cJ7_copyOfRange_feecc 6 = .ok (.arraylength, 1) := by decide +kernel
theorem dJ7_copyOfRange_feecc_7 : decode cJ7_copyOfRange_feecc 7 = .ok (.if_icmp .eq 10, 3) := by decide +kernel
theorem dJ7_copyOfRange_feecc_10 : decode cJ7_copyOfRange_feecc 10 = .ok (.aload_n 0, 1) := by decide +kernel
theorem dJ7_copyOfRange_feecc_11 : decode cJ7_copyOfRange_feecc 11 = .ok (.iload_n 1, 1) := by decide +kernel
theorem dJ7_copyOfRange_feecc_12 : decode cJ7_copyOfRange_feecc 12 = .ok (.iload_n 2, 1) := by decide +kernel
theorem dJ7_copyOfRange_feecc_13 : decode cJ7_copyOfRange_feecc 13 = .ok (.invokestatic 351, 3) := by decide +kernel
theorem dJ7_copyOfRange_feecc_16 : decode cJ7_copyOfRange_feecc 16 = .ok (.areturn, 1) := by decide +kernel
theorem dJ7_copyOfRange_feecc_17 : decode cJ7_copyOfRange_feecc 17 = .ok (.aload_n 0, 1) := by decide +kernel
theorem dJ7_copyOfRange_feecc_18 : decode cJ7_copyOfRange_feecc 18 = .ok (.invokevirtual 316, 3) := by decide +kernel
theorem dJ7_copyOfRange_feecc_21 : decode cJ7_copyOfRange_feecc 21 = .ok (.checkcast 317, 3) := by decide +kernel
theorem dJ7_copyOfRange_feecc_24 : decode cJ7_copyOfRange_feecc 24 = .ok (.areturn, 1) := by decide +kernel
theorem dJ7_copyOfRangeInt_feecc_0 : decode cJ7_copyOfRangeInt_feecc 0 = .ok (.iload_n 1, 1) := by decide +kernel
theorem dJ7_copyOfRangeInt_feecc_1 : decode cJ7_copyOfRangeInt_feecc 1 = .ok (.iload_n 2, 1) := by decide +kernel
theorem dJ7_copyOfRangeInt_feecc_2 : decode cJ7_copyOfRangeInt_feecc 2 = .ok (.invokestatic 343, 3) := by decide +kernel
theorem dJ7_copyOfRangeInt_feecc_5 : decode cJ7_copyOfRangeInt_feecc 5 = .ok (.iload_n 2, 1) := by decide +kernel
theorem dJ7_copyOfRangeInt_feecc_6 : decode cJ7_copyOfRangeInt_feecc 6 = .ok (.iload_n 1, 1) := by decide +kernel
theorem dJ7_copyOfRangeInt_feecc_7 : decode cJ7_copyOfRangeInt_feecc 7 = .ok (.isub, 1) := by decide +kernel
theorem dJ7_copyOfRangeInt_feecc_8 : decode cJ7_copyOfRangeInt_feecc 8 = .ok (.istore_n 3, 1) := by decide +kernel
theorem dJ7_copyOfRangeInt_feecc_9 : decode cJ7_copyOfRangeInt_feecc 9 = .ok (.iload_n 3, 1) := by decide +kernel
theorem dJ7_copyOfRangeInt_feecc_10 : decode cJ7_copyOfRangeInt_feecc 10 = .ok (.newarray .int, 2) := by decide +kernel
theorem dJ7_copyOfRangeInt_feecc_12 : decode cJ7_copyOfRangeInt_feecc 12 = .ok (.astore 4, 2) := by decide +kernel
theorem dJ7_copyOfRangeInt_feecc_14 : decode cJ7_copyOfRangeInt_feecc 14 = .ok (.aload_n 0, 1) := by decide +kernel
theorem dJ7_copyOfRangeInt_feecc_15 : decode cJ7_copyOfRangeInt_feecc 15 = .ok (.iload_n 1, 1) := by decide +kernel
theorem dJ7_copyOfRangeInt_feecc_16 : decode cJ7_copyOfRangeInt_feecc 16 = .ok (.aload 4, 2) := by decide +kernel
theorem dJ7_copyOfRangeInt_feecc_18 : decode cJ7_copyOfRangeInt_feecc 18 = .ok (.iconst 0, 1) := by decide +kernel
theorem dJ7_copyOfRangeInt_feecc_19 : decode cJ7_copyOfRangeInt_feecc 19 = .ok (.aload_n 0, 1) := by decide +kernel
theorem dJ7_copyOfRangeInt_feecc_20 : decode cJ7_copyOfRangeInt_feecc 20 = .ok (.arraylength, 1) := by decide +kernel
theorem dJ7_copyOfRangeInt_feecc_21 : decode cJ7_copyOfRangeInt_feecc 21 = .ok (.iload_n 1, 1) := by decide +kernel
theorem dJ7_copyOfRangeInt_feecc_22 : decode cJ7_copyOfRangeInt_feecc 22 = .ok (.isub, 1) := by decide +kernel
theorem dJ7_copyOfRangeInt_feecc_23 : decode cJ7_copyOfRangeInt_feecc 23 = .ok (.iload_n 3, 1) := by decide +kernel
theorem dJ7_copyOfRangeInt_feecc_24 : decode cJ7_copyOfRangeInt_feecc 24 = .ok (.invokestatic 304, 3) := by decide +kernel
theorem dJ7_copyOfRangeInt_feecc_27 : decode cJ7_copyOfRangeInt_feecc 27 = .ok (.invokestatic 150, 3) := by decide +kernel
theorem dJ7_copyOfRangeInt_feecc_30 : decode cJ7_copyOfRangeInt_feecc 30 = .ok (.aload 4, 2) := by decide +kernel
theorem dJ7_copyOfRangeInt_feecc_32 : decode cJ7_copyOfRangeInt_feecc 32 = .ok (.areturn, 1) := by decide +kernel
theorem dL_law_0 : decode cL_law 0 = .ok (.new 7, 3) := by decide +kernel
theorem dL_law_3 : decode cL_law 3 = .ok (.dup, 1) := by decide +kernel
theorem dL_law_4 : decode cL_law 4 = .ok (.invokespecial 9, 3) := by decide +kernel
theorem dL_law_7 : decode cL_law 7 = .ok (.astore_n 1, 1) := by decide +kernel
theorem dL_law_8 : decode cL_law 8 = .ok (.new 10, 3) := by decide +kernel
theorem dL_law_11 : decode cL_law 11 = .ok (.dup, 1) := by decide +kernel
theorem dL_law_12 : decode cL_law 12 = .ok (.invokespecial 12, 3) := by decide +kernel
theorem dL_law_15 : decode cL_law 15 = .ok (.astore_n 2, 1) := by decide +kernel
theorem dL_law_16 : decode cL_law 16 = .ok (.iconst 0, 1) := by decide +kernel
theorem dL_law_17 : decode cL_law 17 = .ok (.istore_n 3, 1) := by decide +kernel
theorem dL_law_18 : decode cL_law 18 = .ok (.iload_n 3, 1) := by decide +kernel
theorem dL_law_19 : decode cL_law 19 = .ok (.aload_n 0, 1) := by decide +kernel
theorem dL_law_20 : decode cL_law 20 = .ok (.arraylength, 1) := by decide +kernel
theorem dL_law_21 : decode cL_law 21 = .ok (.bipush 7, 2) := by decide +kernel
theorem dL_law_23 : decode cL_law 23 = .ok (.isub, 1) := by decide +kernel
