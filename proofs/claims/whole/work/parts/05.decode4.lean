theorem dX12_judgeSteps_4 : decode cX12_judgeSteps 4 = .ok (.getfield 124, 3) := by decide +kernel
theorem dX12_judgeSteps_7 : decode cX12_judgeSteps 7 = .ok (.iconst 1, 1) := by decide +kernel
theorem dX12_judgeSteps_8 : decode cX12_judgeSteps 8 = .ok (.isub, 1) := by decide +kernel
theorem dX12_judgeSteps_9 : decode cX12_judgeSteps 9 = .ok (.if_icmp .ge 119, 3) := by decide +kernel
theorem dX12_judgeSteps_12 : decode cX12_judgeSteps 12 = .ok (.iconst 0, 1) := by decide +kernel
theorem dX12_judgeSteps_13 : decode cX12_judgeSteps 13 = .ok (.istore_n 2, 1) := by decide +kernel
theorem dX12_judgeSteps_14 : decode cX12_judgeSteps 14 = .ok (.iload_n 2, 1) := by decide +kernel
theorem dX12_judgeSteps_15 : decode cX12_judgeSteps 15 = .ok (.iconst 5, 1) := by decide +kernel
theorem dX12_judgeSteps_16 : decode cX12_judgeSteps 16 = .ok (.if_icmp .ge 106, 3) := by decide +kernel
theorem dX12_judgeSteps_19 : decode cX12_judgeSteps 19 = .ok (.aload_n 0, 1) := by decide +kernel
theorem dX12_judgeSteps_20 : decode cX12_judgeSteps 20 = .ok (.iload_n 2, 1) := by decide +kernel
theorem dX12_judgeSteps_21 : decode cX12_judgeSteps 21 = .ok (.iload_n 1, 1) := by decide +kernel
theorem dX12_judgeSteps_22 : decode cX12_judgeSteps 22 = .ok (.invokevirtual 336, 3) := by decide +kernel
theorem dX12_judgeSteps_25 : decode cX12_judgeSteps 25 = .ok (.istore_n 3, 1) := by decide +kernel
theorem dX12_judgeSteps_26 : decode cX12_judgeSteps 26 = .ok (.iconst 0, 1) := by decide +kernel
theorem dX12_judgeSteps_27 : decode cX12_judgeSteps 27 = .ok (.istore 4, 2) := by decide +kernel
theorem dX12_judgeSteps_29 : decode cX12_judgeSteps 29 = .ok (.iload 4, 2) := by decide +kernel
theorem dX12_judgeSteps_31 : decode cX12_judgeSteps 31 = .ok (.iconst 5, 1) := by decide +kernel
theorem dX12_judgeSteps_32 : decode cX12_judgeSteps 32 = .ok (.if_icmp .ge 84, 3) := by decide +kernel
theorem dX12_judgeSteps_35 : decode cX12_judgeSteps 35 = .ok (.bipush 25, 2) := by decide +kernel
theorem dX12_judgeSteps_37 : decode cX12_judgeSteps 37 = .ok (.iload_n 1, 1) := by decide +kernel
theorem dX12_judgeSteps_38 : decode cX12_judgeSteps 38 = .ok (.imul, 1) := by decide +kernel
theorem dX12_judgeSteps_39 : decode cX12_judgeSteps 39 = .ok (.iconst 5, 1) := by decide +kernel
theorem dX12_judgeSteps_40 : decode cX12_judgeSteps 40 = .ok (.iload_n 2, 1) := by decide +kernel
theorem dX12_judgeSteps_41 : decode cX12_judgeSteps 41 = .ok (.imul, 1) := by decide +kernel
theorem dX12_judgeSteps_42 : decode cX12_judgeSteps 42 = .ok (.iadd, 1) := by decide +kernel
theorem dX12_judgeSteps_43 : decode cX12_judgeSteps 43 = .ok (.iload 4, 2) := by decide +kernel
theorem dX12_judgeSteps_45 : decode cX12_judgeSteps 45 = .ok (.iadd, 1) := by decide +kernel
theorem dX12_judgeSteps_46 : decode cX12_judgeSteps 46 = .ok (.istore 5, 2) := by decide +kernel
theorem dX12_judgeSteps_48 : decode cX12_judgeSteps 48 = .ok (.aload_n 0, 1) := by decide +kernel
theorem dX12_judgeSteps_49 : decode cX12_judgeSteps 49 = .ok (.getfield 82, 3) := by decide +kernel
theorem dX12_judgeSteps_52 : decode cX12_judgeSteps 52 = .ok (.iload 5, 2) := by decide +kernel
theorem dX12_judgeSteps_54 : decode cX12_judgeSteps 54 = .ok (.iload_n 2, 1) := by decide +kernel
theorem dX12_judgeSteps_55 : decode cX12_judgeSteps 55 = .ok (.iload 4, 2) := by decide +kernel
theorem dX12_judgeSteps_57 : decode cX12_judgeSteps 57 = .ok (.if_icmp .eq 51, 3) := by decide +kernel
theorem dX12_judgeSteps_60 : decode cX12_judgeSteps 60 = .ok (.aload_n 0, 1) := by decide +kernel
theorem dX12_judgeSteps_61 : decode cX12_judgeSteps 61 = .ok (.getfield 48, 3) := by decide +kernel
theorem dX12_judgeSteps_64 : decode cX12_judgeSteps 64 = .ok (.iload 5, 2) := by decide +kernel
theorem dX12_judgeSteps_66 : decode cX12_judgeSteps 66 = .ok (.baload, 1) := by decide +kernel
theorem dX12_judgeSteps_67 : decode cX12_judgeSteps 67 = .ok (.ifCond .eq 41, 3) := by decide +kernel
theorem dX12_judgeSteps_70 : decode cX12_judgeSteps 70 = .ok (.aload_n 0, 1) := by decide +kernel
theorem dX12_judgeSteps_71 : decode cX12_judgeSteps 71 = .ok (.iload_n 3, 1) := by decide +kernel
theorem dX12_judgeSteps_72 : decode cX12_judgeSteps 72 = .ok (.iload_n 2, 1) := by decide +kernel
theorem dX12_judgeSteps_73 : decode cX12_judgeSteps 73 = .ok (.iload 4, 2) := by decide +kernel
theorem dX12_judgeSteps_75 : decode cX12_judgeSteps 75 = .ok (.iload_n 1, 1) := by decide +kernel
theorem dX12_judgeSteps_76 : decode cX12_judgeSteps 76 = .ok (.iconst 0, 1) := by decide +kernel
theorem dX12_judgeSteps_77 : decode cX12_judgeSteps 77 = .ok (.invokevirtual 329, 3) := by decide +kernel
theorem dX12_judgeSteps_80 : decode cX12_judgeSteps 80 = .ok (.ifCond .ne 28, 3) := by decide +kernel
theorem dX12_judgeSteps_83 : decode cX12_judgeSteps 83 = .ok (.aload_n 0, 1) := by decide +kernel
theorem dX12_judgeSteps_84 : decode cX12_judgeSteps 84 = .ok (.getfield 124, 3) := by decide +kernel
theorem dX12_judgeSteps_87 : decode cX12_judgeSteps 87 = .ok (.iconst 1, 1) := by decide +kernel
theorem dX12_judgeSteps_88 : decode cX12_judgeSteps 88 = .ok (.isub, 1) := by decide +kernel
theorem dX12_judgeSteps_89 : decode cX12_judgeSteps 89 = .ok (.iload_n 1, 1) := by decide +kernel
theorem dX12_judgeSteps_90 : decode cX12_judgeSteps 90 = .ok (.isub, 1) := by decide +kernel
theorem dX12_judgeSteps_91 : decode cX12_judgeSteps 91 = .ok (.aload_n 0, 1) := by decide +kernel
theorem dX12_judgeSteps_92 : decode cX12_judgeSteps 92 = .ok (.iload_n 3, 1) := by decide +kernel
theorem dX12_judgeSteps_93 : decode cX12_judgeSteps 93 = .ok (.iload_n 2, 1) := by decide +kernel
theorem dX12_judgeSteps_94 : decode cX12_judgeSteps 94 = .ok (.iload 4, 2) := by decide +kernel
theorem dX12_judgeSteps_96 : decode cX12_judgeSteps 96 = .ok (.iload_n 1, 1) := by decide +kernel
theorem dX12_judgeSteps_97 : decode cX12_judgeSteps 97 = .ok (.iconst 1, 1) := by decide +kernel
theorem dX12_judgeSteps_98 : decode cX12_judgeSteps 98 = .ok (.invokevirtual 329, 3) := by decide +kernel
theorem dX12_judgeSteps_101 : decode cX12_judgeSteps 101 = .ok (.if_icmp .gt 7, 3) := by decide +kernel
theorem dX12_judgeSteps_104 : decode cX12_judgeSteps 104 = .ok (.iconst 1, 1) := by decide +kernel
theorem dX12_judgeSteps_105 : decode cX12_judgeSteps 105 = .ok (.goto 4, 3) := by decide +kernel
theorem dX12_judgeSteps_108 : decode cX12_judgeSteps 108 = .ok (.iconst 0, 1) := by decide +kernel
theorem dX12_judgeSteps_109 : decode cX12_judgeSteps 109 = .ok (.bastore, 1) := by decide +kernel
theorem dX12_judgeSteps_110 : decode cX12_judgeSteps 110 = .ok (.iinc 4 1, 3) := by decide +kernel
theorem dX12_judgeSteps_113 : decode cX12_judgeSteps 113 = .ok (.goto (-84), 3) := by decide +kernel
theorem dX12_judgeSteps_116 : decode cX12_judgeSteps 116 = .ok (.iinc 2 1, 3) := by decide +kernel
theorem dX12_judgeSteps_119 : decode cX12_judgeSteps 119 = .ok (.goto (-105), 3) := by decide +kernel
theorem dX12_judgeSteps_122 : decode cX12_judgeSteps 122 = .ok (.iinc 1 1, 3) := by decide +kernel
theorem dX12_judgeSteps_125 : decode cX12_judgeSteps 125 = .ok (.goto (-123), 3) := by decide +kernel
theorem dX12_judgeSteps_128 : decode cX12_judgeSteps 128 = .ok (.return_, 1) := by decide +kernel
theorem dX12_give_0 : decode cX12_give 0 = .ok (.aload_n 0, 1) := by decide +kernel
theorem dX12_give_1 : decode cX12_give 1 = .ok (.invokevirtual 193, 3) := by decide +kernel
theorem dX12_give_4 : decode cX12_give 4 = .ok (.lstore_n 1, 1) := by decide +kernel
theorem dX12_give_5 : decode cX12_give 5 = .ok (.aload_n 0, 1) := by decide +kernel
theorem dX12_give_6 : decode cX12_give 6 = .ok (.invokevirtual 340, 3) := by decide +kernel
theorem dX12_give_9 : decode cX12_give 9 = .ok (.iconst 0, 1) := by decide +kernel
theorem dX12_give_10 : decode cX12_give 10 = .ok (.istore_n 3, 1) := by decide +kernel
theorem dX12_give_11 : decode cX12_give 11 = .ok (.iload_n 3, 1) := by decide +kernel
theorem dX12_give_12 : decode cX12_give 12 = .ok (.iconst 5, 1) := by decide +kernel
theorem dX12_give_13 : decode cX12_give 13 = .ok (.if_icmp .ge 36, 3) := by decide +kernel
theorem dX12_give_16 : decode cX12_give 16 = .ok (.aload_n 0, 1) := by decide +kernel
theorem dX12_give_17 : decode cX12_give 17 = .ok (.getfield 88, 3) := by decide +kernel
theorem dX12_give_20 : decode cX12_give 20 = .ok (.iload_n 3, 1) := by decide +kernel
theorem dX12_give_21 : decode cX12_give 21 = .ok (.lconst 0, 1) := by decide +kernel
theorem dX12_give_22 : decode cX12_give 22 = .ok (.lastore, 1) := by decide +kernel
theorem dX12_give_23 : decode cX12_give 23 = .ok (.aload_n 0, 1) := by decide +kernel
theorem dX12_give_24 : decode cX12_give 24 = .ok (.getfield 85, 3) := by decide +kernel
theorem dX12_give_27 : decode cX12_give 27 = .ok (.iload_n 3, 1) := by decide +kernel
theorem dX12_give_28 : decode cX12_give 28 = .ok (.aload_n 0, 1) := by decide +kernel
theorem dX12_give_29 : decode cX12_give 29 = .ok (.getfield 45, 3) := by decide +kernel
theorem dX12_give_32 : decode cX12_give 32 = .ok (.iload_n 3, 1) := by decide +kernel
theorem dX12_give_33 : decode cX12_give 33 = .ok (.baload, 1) := by decide +kernel
theorem dX12_give_34 : decode cX12_give 34 = .ok (.ifCond .eq 7, 3) := by decide +kernel
theorem dX12_give_37 : decode cX12_give 37 = .ok (.lconst 1, 1) := by decide +kernel
theorem dX12_give_38 : decode cX12_give 38 = .ok (.goto 4, 3) := by decide +kernel
theorem dX12_give_41 : decode cX12_give 41 = .ok (.lconst 0, 1) := by decide +kernel
theorem dX12_give_42 : decode cX12_give 42 = .ok (.lastore, 1) := by decide +kernel
theorem dX12_give_43 : decode cX12_give 43 = .ok (.iinc 3 1, 3) := by decide +kernel
theorem dX12_give_46 : decode cX12_give 46 = .ok (.goto (-35), 3) := by decide +kernel
theorem dX12_give_49 : decode cX12_give 49 = .ok (.iconst 0, 1) := by decide +kernel
theorem dX12_give_50 : decode cX12_give 50 = .ok (.istore_n 3, 1) := by decide +kernel
theorem dX12_give_51 : decode cX12_give 51 = .ok (.iload_n 3, 1) := by decide +kernel
theorem dX12_give_52 : decode cX12_give 52 = .ok (.aload_n 0, 1) := by decide +kernel
theorem dX12_give_53 : decode cX12_give 53 = .ok (.getfield 124, 3) := by decide +kernel
theorem dX12_give_56 : decode cX12_give 56 = .ok (.iconst 1, 1) := by decide +kernel
theorem dX12_give_57 : decode cX12_give 57 = .ok (.isub, 1) := by decide +kernel
theorem dX12_give_58 : decode cX12_give 58 = .ok (.if_icmp .ge 178, 3) := by decide +kernel
theorem dX12_give_61 : decode cX12_give 61 = .ok (.iconst 0, 1) := by decide +kernel
theorem dX12_give_62 : decode cX12_give 62 = .ok (.istore 4, 2) := by decide +kernel
theorem dX12_give_64 : decode cX12_give 64 = .ok (.iload 4, 2) := by decide +kernel
theorem dX12_give_66 : decode cX12_give 66 = .ok (.iconst 5, 1) := by decide +kernel
theorem dX12_give_67 : decode cX12_give 67 = .ok (.if_icmp .ge 23, 3) := by decide +kernel
theorem dX12_give_70 : decode cX12_give 70 = .ok (.aload_n 0, 1) := by decide +kernel
theorem dX12_give_71 : decode cX12_give 71 = .ok (.getfield 85, 3) := by decide +kernel
theorem dX12_give_74 : decode cX12_give 74 = .ok (.iconst 5, 1) := by decide +kernel
theorem dX12_give_75 : decode cX12_give 75 = .ok (.iload_n 3, 1) := by decide +kernel
theorem dX12_give_76 : decode cX12_give 76 = .ok (.iconst 1, 1) := by decide +kernel
theorem dX12_give_77 : decode cX12_give 77 = .ok (.iadd, 1) := by decide +kernel
theorem dX12_give_78 : decode cX12_give 78 = .ok (.imul, 1) := by decide +kernel
theorem dX12_give_79 : decode cX12_give 79 = .ok (.iload 4, 2) := by decide +kernel
theorem dX12_give_81 : decode cX12_give 81 = .ok (.iadd, 1) := by decide +kernel
theorem dX12_give_82 : decode cX12_give 82 = .ok (.lconst 0, 1) := by decide +kernel
theorem dX12_give_83 : decode cX12_give 83 = .ok (.lastore, 1) := by decide +kernel
theorem dX12_give_84 : decode cX12_give 84 = .ok (.iinc 4 1, 3) := by decide +kernel
theorem dX12_give_87 : decode cX12_give 87 = .ok (.goto (-23), 3) := by decide +kernel
theorem dX12_give_90 : decode cX12_give 90 = .ok (.iconst 0, 1) := by decide +kernel
theorem dX12_give_91 : decode cX12_give 91 = .ok (.istore 4, 2) := by decide +kernel
theorem dX12_give_93 : decode cX12_give 93 = .ok (.iload 4, 2) := by decide +kernel
theorem dX12_give_95 : decode cX12_give 95 = .ok (.iconst 5, 1) := by decide +kernel
theorem dX12_give_96 : decode cX12_give 96 = .ok (.if_icmp .ge 134, 3) := by decide +kernel
theorem dX12_give_99 : decode cX12_give 99 = .ok (.iconst 0, 1) := by decide +kernel
theorem dX12_give_100 : decode cX12_give 100 = .ok (.istore 5, 2) := by decide +kernel
theorem dX12_give_102 : decode cX12_give 102 = .ok (.iload 5, 2) := by decide +kernel
theorem dX12_give_104 : decode cX12_give 104 = .ok (.iconst 5, 1) := by decide +kernel
theorem dX12_give_105 : decode cX12_give 105 = .ok (.if_icmp .ge 119, 3) := by decide +kernel
theorem dX12_give_108 : decode cX12_give 108 = .ok (.bipush 25, 2) := by decide +kernel
theorem dX12_give_110 : decode cX12_give 110 = .ok (.iload_n 3, 1) := by decide +kernel
theorem dX12_give_111 : decode cX12_give 111 = .ok (.imul, 1) := by decide +kernel
theorem dX12_give_112 : decode cX12_give 112 = .ok (.iconst 5, 1) := by decide +kernel
theorem dX12_give_113 : decode cX12_give 113 = .ok (.iload 4, 2) := by decide +kernel
theorem dX12_give_115 : decode cX12_give 115 = .ok (.imul, 1) := by decide +kernel
theorem dX12_give_116 : decode cX12_give 116 = .ok (.iadd, 1) := by decide +kernel
theorem dX12_give_117 : decode cX12_give 117 = .ok (.iload 5, 2) := by decide +kernel
theorem dX12_give_119 : decode cX12_give 119 = .ok (.iadd, 1) := by decide +kernel
theorem dX12_give_120 : decode cX12_give 120 = .ok (.istore 6, 2) := by decide +kernel
theorem dX12_give_122 : decode cX12_give 122 = .ok (.iconst 5, 1) := by decide +kernel
theorem dX12_give_123 : decode cX12_give 123 = .ok (.iload_n 3, 1) := by decide +kernel
theorem dX12_give_124 : decode cX12_give 124 = .ok (.iconst 1, 1) := by decide +kernel
theorem dX12_give_125 : decode cX12_give 125 = .ok (.iadd, 1) := by decide +kernel
theorem dX12_give_126 : decode cX12_give 126 = .ok (.imul, 1) := by decide +kernel
theorem dX12_give_127 : decode cX12_give 127 = .ok (.iload 5, 2) := by decide +kernel
theorem dX12_give_129 : decode cX12_give 129 = .ok (.iadd, 1) := by decide +kernel
theorem dX12_give_130 : decode cX12_give 130 = .ok (.istore 7, 2) := by decide +kernel
theorem dX12_give_132 : decode cX12_give 132 = .ok (.aload_n 0, 1) := by decide +kernel
theorem dX12_give_133 : decode cX12_give 133 = .ok (.getfield 48, 3) := by decide +kernel
theorem dX12_give_136 : decode cX12_give 136 = .ok (.iload 6, 2) := by decide +kernel
theorem dX12_give_138 : decode cX12_give 138 = .ok (.baload, 1) := by decide +kernel
theorem dX12_give_139 : decode cX12_give 139 = .ok (.ifCond .eq 79, 3) := by decide +kernel
theorem dX12_give_142 : decode cX12_give 142 = .ok (.aload_n 0, 1) := by decide +kernel
theorem dX12_give_143 : decode cX12_give 143 = .ok (.getfield 45, 3) := by decide +kernel
theorem dX12_give_146 : decode cX12_give 146 = .ok (.iload 7, 2) := by decide +kernel
theorem dX12_give_148 : decode cX12_give 148 = .ok (.baload, 1) := by decide +kernel
theorem dX12_give_149 : decode cX12_give 149 = .ok (.ifCond .ne 6, 3) := by decide +kernel
theorem dX12_give_152 : decode cX12_give 152 = .ok (.goto 66, 3) := by decide +kernel
theorem dX12_give_155 : decode cX12_give 155 = .ok (.aload_n 0, 1) := by decide +kernel
theorem dX12_give_156 : decode cX12_give 156 = .ok (.getfield 82, 3) := by decide +kernel
theorem dX12_give_159 : decode cX12_give 159 = .ok (.iload 6, 2) := by decide +kernel
theorem dX12_give_161 : decode cX12_give 161 = .ok (.baload, 1) := by decide +kernel
theorem dX12_give_162 : decode cX12_give 162 = .ok (.ifCond .eq 35, 3) := by decide +kernel
theorem dX12_give_165 : decode cX12_give 165 = .ok (.aload_n 0, 1) := by decide +kernel
theorem dX12_give_166 : decode cX12_give 166 = .ok (.getfield 88, 3) := by decide +kernel
theorem dX12_give_169 : decode cX12_give 169 = .ok (.iload 4, 2) := by decide +kernel
theorem dX12_give_171 : decode cX12_give 171 = .ok (.dup2, 1) := by decide +kernel
theorem dX12_give_172 : decode cX12_give 172 = .ok (.laload, 1) := by decide +kernel
theorem dX12_give_173 : decode cX12_give 173 = .ok (.aload_n 0, 1) := by decide +kernel
theorem dX12_give_174 : decode cX12_give 174 = .ok (.getfield 85, 3) := by decide +kernel
theorem dX12_give_177 : decode cX12_give 177 = .ok (.iconst 5, 1) := by decide +kernel
theorem dX12_give_178 : decode cX12_give 178 = .ok (.iload_n 3, 1) := by decide +kernel
theorem dX12_give_179 : decode cX12_give 179 = .ok (.imul, 1) := by decide +kernel
theorem dX12_give_180 : decode cX12_give 180 = .ok (.iload 4, 2) := by decide +kernel
theorem dX12_give_182 : decode cX12_give 182 = .ok (.iadd, 1) := by decide +kernel
theorem dX12_give_183 : decode cX12_give 183 = .ok (.laload, 1) := by decide +kernel
theorem dX12_give_184 : decode cX12_give 184 = .ok (.aload_n 0, 1) := by decide +kernel
theorem dX12_give_185 : decode cX12_give 185 = .ok (.getfield 55, 3) := by decide +kernel
theorem dX12_give_188 : decode cX12_give 188 = .ok (.iload 7, 2) := by decide +kernel
theorem dX12_give_190 : decode cX12_give 190 = .ok (.laload, 1) := by decide +kernel
theorem dX12_give_191 : decode cX12_give 191 = .ok (.lmul, 1) := by decide +kernel
theorem dX12_give_192 : decode cX12_give 192 = .ok (.ladd, 1) := by decide +kernel
theorem dX12_give_193 : decode cX12_give 193 = .ok (.lastore, 1) := by decide +kernel
theorem dX12_give_194 : decode cX12_give 194 = .ok (.goto 24, 3) := by decide +kernel
theorem dX12_give_197 : decode cX12_give 197 = .ok (.aload_n 0, 1) := by decide +kernel
theorem dX12_give_198 : decode cX12_give 198 = .ok (.getfield 85, 3) := by decide +kernel
theorem dX12_give_201 : decode cX12_give 201 = .ok (.iload 7, 2) := by decide +kernel
theorem dX12_give_203 : decode cX12_give 203 = .ok (.dup2, 1) := by decide +kernel
theorem dX12_give_204 : decode cX12_give 204 = .ok (.laload, 1) := by decide +kernel
theorem dX12_give_205 : decode cX12_give 205 = .ok (.aload_n 0, 1) := by decide +kernel
theorem dX12_give_206 : decode cX12_give 206 = .ok (.getfield 85, 3) := by decide +kernel
theorem dX12_give_209 : decode cX12_give 209 = .ok (.iconst 5, 1) := by decide +kernel
theorem dX12_give_210 : decode cX12_give 210 = .ok (.iload_n 3, 1) := by decide +kernel
theorem dX12_give_211 : decode cX12_give 211 = .ok (.imul, 1) := by decide +kernel
theorem dX12_give_212 : decode cX12_give 212 = .ok (.iload 4, 2) := by decide +kernel
theorem dX12_give_214 : decode cX12_give 214 = .ok (.iadd, 1) := by decide +kernel
theorem dX12_give_215 : decode cX12_give 215 = .ok (.laload, 1) := by decide +kernel
theorem dX12_give_216 : decode cX12_give 216 = .ok (.ladd, 1) := by decide +kernel
theorem dX12_give_217 : decode cX12_give 217 = .ok (.lastore, 1) := by decide +kernel
theorem dX12_give_218 : decode cX12_give 218 = .ok (.iinc 5 1, 3) := by decide +kernel
theorem dX12_give_221 : decode cX12_give 221 = .ok (.goto (-119), 3) := by decide +kernel
theorem dX12_give_224 : decode cX12_give 224 = .ok (.iinc 4 1, 3) := by decide +kernel
theorem dX12_give_227 : decode cX12_give 227 = .ok (.goto (-134), 3) := by decide +kernel
theorem dX12_give_230 : decode cX12_give 230 = .ok (.iinc 3 1, 3) := by decide +kernel
theorem dX12_give_233 : decode cX12_give 233 = .ok (.goto (-182), 3) := by decide +kernel
theorem dX12_give_236 : decode cX12_give 236 = .ok (.iconst 0, 1) := by decide +kernel
theorem dX12_give_237 : decode cX12_give 237 = .ok (.istore_n 3, 1) := by decide +kernel
theorem dX12_give_238 : decode cX12_give 238 = .ok (.iload_n 3, 1) := by decide +kernel
theorem dX12_give_239 : decode cX12_give 239 = .ok (.iconst 5, 1) := by decide +kernel
theorem dX12_give_240 : decode cX12_give 240 = .ok (.if_icmp .ge 33, 3) := by decide +kernel
theorem dX12_give_243 : decode cX12_give 243 = .ok (.aload_n 0, 1) := by decide +kernel
theorem dX12_give_244 : decode cX12_give 244 = .ok (.getfield 88, 3) := by decide +kernel
theorem dX12_give_247 : decode cX12_give 247 = .ok (.iload_n 3, 1) := by decide +kernel
theorem dX12_give_248 : decode cX12_give 248 = .ok (.dup2, 1) := by decide +kernel
theorem dX12_give_249 : decode cX12_give 249 = .ok (.laload, 1) := by decide +kernel
theorem dX12_give_250 : decode cX12_give 250 = .ok (.aload_n 0, 1) := by decide +kernel
theorem dX12_give_251 : decode cX12_give 251 = .ok (.getfield 85, 3) := by decide +kernel
theorem dX12_give_254 : decode cX12_give 254 = .ok (.iconst 5, 1) := by decide +kernel
theorem dX12_give_255 : decode cX12_give 255 = .ok (.aload_n 0, 1) := by decide +kernel
theorem dX12_give_256 : decode cX12_give 256 = .ok (.getfield 124, 3) := by decide +kernel
theorem dX12_give_259 : decode cX12_give 259 = .ok (.iconst 1, 1) := by decide +kernel
theorem dX12_give_260 : decode cX12_give 260 = .ok (.isub, 1) := by decide +kernel
theorem dX12_give_261 : decode cX12_give 261 = .ok (.imul, 1) := by decide +kernel
theorem dX12_give_262 : decode cX12_give 262 = .ok (.iload_n 3, 1) := by decide +kernel
theorem dX12_give_263 : decode cX12_give 263 = .ok (.iadd, 1) := by decide +kernel
theorem dX12_give_264 : decode cX12_give 264 = .ok (.laload, 1) := by decide +kernel
theorem dX12_give_265 : decode cX12_give 265 = .ok (.ladd, 1) := by decide +kernel
theorem dX12_give_266 : decode cX12_give 266 = .ok (.lastore, 1) := by decide +kernel
theorem dX12_give_267 : decode cX12_give 267 = .ok (.iinc 3 1, 3) := by decide +kernel
theorem dX12_give_270 : decode cX12_give 270 = .ok (.goto (-32), 3) := by decide +kernel
theorem dX12_give_273 : decode cX12_give 273 = .ok (.return_, 1) := by decide +kernel
theorem dX12_given_0 : decode cX12_given 0 = .ok (.iload_n 1, 1) := by decide +kernel
theorem dX12_given_1 : decode cX12_given 1 = .ok (.invokestatic 152, 3) := by decide +kernel
theorem dX12_given_4 : decode cX12_given 4 = .ok (.ifCond .ne 7, 3) := by decide +kernel
theorem dX12_given_7 : decode cX12_given 7 = .ok (.ldc2_w 196, 3) := by decide +kernel
theorem dX12_given_10 : decode cX12_given 10 = .ok (.lreturn, 1) := by decide +kernel
theorem dX12_given_11 : decode cX12_given 11 = .ok (.aload_n 0, 1) := by decide +kernel
theorem dX12_given_12 : decode cX12_given 12 = .ok (.invokevirtual 343, 3) := by decide +kernel
theorem dX12_given_15 : decode cX12_given 15 = .ok (.aload_n 0, 1) := by decide +kernel
theorem dX12_given_16 : decode cX12_given 16 = .ok (.getfield 88, 3) := by decide +kernel
theorem dX12_given_19 : decode cX12_given 19 = .ok (.iload_n 1, 1) := by decide +kernel
theorem dX12_given_20 : decode cX12_given 20 = .ok (.laload, 1) := by decide +kernel
theorem dX12_given_21 : decode cX12_given 21 = .ok (.lreturn, 1) := by decide +kernel
theorem dX12_claim_0 : decode cX12_claim 0 = .ok (.iload_n 1, 1) := by decide +kernel
theorem dX12_claim_1 : decode cX12_claim 1 = .ok (.invokestatic 152, 3) := by decide +kernel
theorem dX12_claim_4 : decode cX12_claim 4 = .ok (.ifCond .ne 7, 3) := by decide +kernel
theorem dX12_claim_7 : decode cX12_claim 7 = .ok (.ldc2_w 196, 3) := by decide +kernel
theorem dX12_claim_10 : decode cX12_claim 10 = .ok (.lreturn, 1) := by decide +kernel
theorem dX12_claim_11 : decode cX12_claim 11 = .ok (.aload_n 0, 1) := by decide +kernel
theorem dX12_claim_12 : decode cX12_claim 12 = .ok (.invokevirtual 193, 3) := by decide +kernel
theorem dX12_claim_15 : decode cX12_claim 15 = .ok (.lstore_n 2, 1) := by decide +kernel
theorem dX12_claim_16 : decode cX12_claim 16 = .ok (.aload_n 0, 1) := by decide +kernel
theorem dX12_claim_17 : decode cX12_claim 17 = .ok (.invokevirtual 340, 3) := by decide +kernel
theorem dX12_claim_20 : decode cX12_claim 20 = .ok (.iconst 0, 1) := by decide +kernel
theorem dX12_claim_21 : decode cX12_claim 21 = .ok (.istore 4, 2) := by decide +kernel
theorem dX12_claim_23 : decode cX12_claim 23 = .ok (.iload 4, 2) := by decide +kernel
theorem dX12_claim_25 : decode cX12_claim 25 = .ok (.aload_n 0, 1) := by decide +kernel
theorem dX12_claim_26 : decode cX12_claim 26 = .ok (.getfield 124, 3) := by decide +kernel
theorem dX12_claim_29 : decode cX12_claim 29 = .ok (.iconst 1, 1) := by decide +kernel
theorem dX12_claim_30 : decode cX12_claim 30 = .ok (.isub, 1) := by decide +kernel
theorem dX12_claim_31 : decode cX12_claim 31 = .ok (.if_icmp .ge 70, 3) := by decide +kernel
theorem dX12_claim_34 : decode cX12_claim 34 = .ok (.iconst 0, 1) := by decide +kernel
theorem dX12_claim_35 : decode cX12_claim 35 = .ok (.istore 5, 2) := by decide +kernel
theorem dX12_claim_37 : decode cX12_claim 37 = .ok (.iload 5, 2) := by decide +kernel
theorem dX12_claim_39 : decode cX12_claim 39 = .ok (.iconst 5, 1) := by decide +kernel
theorem dX12_claim_40 : decode cX12_claim 40 = .ok (.if_icmp .ge 55, 3) := by decide +kernel
theorem dX12_claim_43 : decode cX12_claim 43 = .ok (.bipush 25, 2) := by decide +kernel
theorem dX12_claim_45 : decode cX12_claim 45 = .ok (.iload 4, 2) := by decide +kernel
theorem dX12_claim_47 : decode cX12_claim 47 = .ok (.imul, 1) := by decide +kernel
theorem dX12_claim_48 : decode cX12_claim 48 = .ok (.iconst 5, 1) := by decide +kernel
theorem dX12_claim_49 : decode cX12_claim 49 = .ok (.iload_n 1, 1) := by decide +kernel
theorem dX12_claim_50 : decode cX12_claim 50 = .ok (.imul, 1) := by decide +kernel
theorem dX12_claim_51 : decode cX12_claim 51 = .ok (.iadd, 1) := by decide +kernel
theorem dX12_claim_52 : decode cX12_claim 52 = .ok (.iload 5, 2) := by decide +kernel
theorem dX12_claim_54 : decode cX12_claim 54 = .ok (.iadd, 1) := by decide +kernel
theorem dX12_claim_55 : decode cX12_claim 55 = .ok (.istore 6, 2) := by decide +kernel
theorem dX12_claim_57 : decode cX12_claim 57 = .ok (.aload_n 0, 1) := by decide +kernel
theorem dX12_claim_58 : decode cX12_claim 58 = .ok (.getfield 48, 3) := by decide +kernel
theorem dX12_claim_61 : decode cX12_claim 61 = .ok (.iload 6, 2) := by decide +kernel
theorem dX12_claim_63 : decode cX12_claim 63 = .ok (.aload_n 0, 1) := by decide +kernel
theorem dX12_claim_64 : decode cX12_claim 64 = .ok (.getfield 48, 3) := by decide +kernel
theorem dX12_claim_67 : decode cX12_claim 67 = .ok (.iload 6, 2) := by decide +kernel
theorem dX12_claim_69 : decode cX12_claim 69 = .ok (.baload, 1) := by decide +kernel
theorem dX12_claim_70 : decode cX12_claim 70 = .ok (.ifCond .eq 17, 3) := by decide +kernel
theorem dX12_claim_73 : decode cX12_claim 73 = .ok (.aload_n 0, 1) := by decide +kernel
theorem dX12_claim_74 : decode cX12_claim 74 = .ok (.getfield 82, 3) := by decide +kernel
theorem dX12_claim_77 : decode cX12_claim 77 = .ok (.iload 6, 2) := by decide +kernel
theorem dX12_claim_79 : decode cX12_claim 79 = .ok (.baload, 1) := by decide +kernel
theorem dX12_claim_80 : decode cX12_claim 80 = .ok (.ifCond .ne 7, 3) := by decide +kernel
theorem dX12_claim_83 : decode cX12_claim 83 = .ok (.iconst 1, 1) := by decide +kernel
theorem dX12_claim_84 : decode cX12_claim 84 = .ok (.goto 4, 3) := by decide +kernel
theorem dX12_claim_87 : decode cX12_claim 87 = .ok (.iconst 0, 1) := by decide +kernel
theorem dX12_claim_88 : decode cX12_claim 88 = .ok (.bastore, 1) := by decide +kernel
theorem dX12_claim_89 : decode cX12_claim 89 = .ok (.iinc 5 1, 3) := by decide +kernel
theorem dX12_claim_92 : decode cX12_claim 92 = .ok (.goto (-55), 3) := by decide +kernel
theorem dX12_claim_95 : decode cX12_claim 95 = .ok (.iinc 4 1, 3) := by decide +kernel
theorem dX12_claim_98 : decode cX12_claim 98 = .ok (.goto (-75), 3) := by decide +kernel
theorem dX12_claim_101 : decode cX12_claim 101 = .ok (.lload_n 2, 1) := by decide +kernel
theorem dX12_claim_102 : decode cX12_claim 102 = .ok (.aload_n 0, 1) := by decide +kernel
theorem dX12_claim_103 : decode cX12_claim 103 = .ok (.invokevirtual 189, 3) := by decide +kernel
theorem dX12_claim_106 : decode cX12_claim 106 = .ok (.lsub, 1) := by decide +kernel
theorem dX12_claim_107 : decode cX12_claim 107 = .ok (.lreturn, 1) := by decide +kernel
theorem dX12_judge_0 : decode cX12_judge 0 = .ok (.aload_n 0, 1) := by decide +kernel
theorem dX12_judge_1 : decode cX12_judge 1 = .ok (.getfield 346, 3) := by decide +kernel
theorem dX12_judge_4 : decode cX12_judge 4 = .ok (.bipush 12, 2) := by decide +kernel
theorem dX12_judge_6 : decode cX12_judge 6 = .ok (.if_icmp .ne 6, 3) := by decide +kernel
theorem dX12_judge_9 : decode cX12_judge 9 = .ok (.bipush (-4), 2) := by decide +kernel
theorem dX12_judge_11 : decode cX12_judge 11 = .ok (.ireturn, 1) := by decide +kernel
theorem dX12_judge_12 : decode cX12_judge 12 = .ok (.aload_n 0, 1) := by decide +kernel
theorem dX12_judge_13 : decode cX12_judge 13 = .ok (.invokevirtual 343, 3) := by decide +kernel
theorem dX12_judge_16 : decode cX12_judge 16 = .ok (.iconst 0, 1) := by decide +kernel
theorem dX12_judge_17 : decode cX12_judge 17 = .ok (.istore_n 1, 1) := by decide +kernel
theorem dX12_judge_18 : decode cX12_judge 18 = .ok (.iload_n 1, 1) := by decide +kernel
theorem dX12_judge_19 : decode cX12_judge 19 = .ok (.iconst 5, 1) := by decide +kernel
theorem dX12_judge_20 : decode cX12_judge 20 = .ok (.if_icmp .ge 28, 3) := by decide +kernel
theorem dX12_judge_23 : decode cX12_judge 23 = .ok (.aload_n 0, 1) := by decide +kernel
theorem dX12_judge_24 : decode cX12_judge 24 = .ok (.getfield 91, 3) := by decide +kernel
theorem dX12_judge_27 : decode cX12_judge 27 = .ok (.iconst 5, 1) := by decide +kernel
theorem dX12_judge_28 : decode cX12_judge 28 = .ok (.aload_n 0, 1) := by decide +kernel
theorem dX12_judge_29 : decode cX12_judge 29 = .ok (.getfield 346, 3) := by decide +kernel
theorem dX12_judge_32 : decode cX12_judge 32 = .ok (.imul, 1) := by decide +kernel
theorem dX12_judge_33 : decode cX12_judge 33 = .ok (.iload_n 1, 1) := by decide +kernel
theorem dX12_judge_34 : decode cX12_judge 34 = .ok (.iadd, 1) := by decide +kernel
theorem dX12_judge_35 : decode cX12_judge 35 = .ok (.aload_n 0, 1) := by decide +kernel
theorem dX12_judge_36 : decode cX12_judge 36 = .ok (.getfield 88, 3) := by decide +kernel
theorem dX12_judge_39 : decode cX12_judge 39 = .ok (.iload_n 1, 1) := by decide +kernel
theorem dX12_judge_40 : decode cX12_judge 40 = .ok (.laload, 1) := by decide +kernel
theorem dX12_judge_41 : decode cX12_judge 41 = .ok (.lastore, 1) := by decide +kernel
theorem dX12_judge_42 : decode cX12_judge 42 = .ok (.iinc 1 1, 3) := by decide +kernel
theorem dX12_judge_45 : decode cX12_judge 45 = .ok (.goto (-27), 3) := by decide +kernel
theorem dX12_judge_48 : decode cX12_judge 48 = .ok (.aload_n 0, 1) := by decide +kernel
theorem dX12_judge_49 : decode cX12_judge 49 = .ok (.dup, 1) := by decide +kernel
theorem dX12_judge_50 : decode cX12_judge 50 = .ok (.getfield 346, 3) := by decide +kernel
theorem dX12_judge_53 : decode cX12_judge 53 = .ok (.iconst 1, 1) := by decide +kernel
theorem dX12_judge_54 : decode cX12_judge 54 = .ok (.iadd, 1) := by decide +kernel
theorem dX12_judge_55 : decode cX12_judge 55 = .ok (.putfield 346, 3) := by decide +kernel
theorem dX12_judge_58 : decode cX12_judge 58 = .ok (.aload_n 0, 1) := by decide +kernel
theorem dX12_judge_59 : decode cX12_judge 59 = .ok (.getfield 346, 3) := by decide +kernel
theorem dX12_judge_62 : decode cX12_judge 62 = .ok (.iconst 1, 1) := by decide +kernel
theorem dX12_judge_63 : decode cX12_judge 63 = .ok (.isub, 1) := by decide +kernel
theorem dX12_judge_64 : decode cX12_judge 64 = .ok (.ireturn, 1) := by decide +kernel
theorem dX12_judged_0 : decode cX12_judged 0 = .ok (.iload_n 1, 1) := by decide +kernel
theorem dX12_judged_1 : decode cX12_judged 1 = .ok (.iconst 0, 1) := by decide +kernel
theorem dX12_judged_2 : decode cX12_judged 2 = .ok (.aload_n 0, 1) := by decide +kernel
theorem dX12_judged_3 : decode cX12_judged 3 = .ok (.getfield 346, 3) := by decide +kernel
theorem dX12_judged_6 : decode cX12_judged 6 = .ok (.iconst 1, 1) := by decide +kernel
theorem dX12_judged_7 : decode cX12_judged 7 = .ok (.isub, 1) := by decide +kernel
theorem dX12_judged_8 : decode cX12_judged 8 = .ok (.invokestatic 148, 3) := by decide +kernel
theorem dX12_judged_11 : decode cX12_judged 11 = .ok (.ifCond .eq 23, 3) := by decide +kernel
theorem dX12_judged_14 : decode cX12_judged 14 = .ok (.iload_n 2, 1) := by decide +kernel
theorem dX12_judged_15 : decode cX12_judged 15 = .ok (.invokestatic 152, 3) := by decide +kernel
theorem dX12_judged_18 : decode cX12_judged 18 = .ok (.ifCond .eq 16, 3) := by decide +kernel
theorem dX12_judged_21 : decode cX12_judged 21 = .ok (.aload_n 0, 1) := by decide +kernel
theorem dX12_judged_22 : decode cX12_judged 22 = .ok (.getfield 91, 3) := by decide +kernel
theorem dX12_judged_25 : decode cX12_judged 25 = .ok (.iconst 5, 1) := by decide +kernel
theorem dX12_judged_26 : decode cX12_judged 26 = .ok (.iload_n 1, 1) := by decide +kernel
theorem dX12_judged_27 : decode cX12_judged 27 = .ok (.imul, 1) := by decide +kernel
theorem dX12_judged_28 : decode cX12_judged 28 = .ok (.iload_n 2, 1) := by decide +kernel
theorem dX12_judged_29 : decode cX12_judged 29 = .ok (.iadd, 1) := by decide +kernel
theorem dX12_judged_30 : decode cX12_judged 30 = .ok (.laload, 1) := by decide +kernel
theorem dX12_judged_31 : decode cX12_judged 31 = .ok (.goto 6, 3) := by decide +kernel
theorem dX12_judged_34 : decode cX12_judged 34 = .ok (.ldc2_w 196, 3) := by decide +kernel
theorem dX12_judged_37 : decode cX12_judged 37 = .ok (.lreturn, 1) := by decide +kernel
theorem dX12_changed_0 : decode cX12_changed 0 = .ok (.iload_n 1, 1) := by decide +kernel
theorem dX12_changed_1 : decode cX12_changed 1 = .ok (.iconst 0, 1) := by decide +kernel
theorem dX12_changed_2 : decode cX12_changed 2 = .ok (.aload_n 0, 1) := by decide +kernel
theorem dX12_changed_3 : decode cX12_changed 3 = .ok (.getfield 346, 3) := by decide +kernel
theorem dX12_changed_6 : decode cX12_changed 6 = .ok (.iconst 1, 1) := by decide +kernel
theorem dX12_changed_7 : decode cX12_changed 7 = .ok (.isub, 1) := by decide +kernel
theorem dX12_changed_8 : decode cX12_changed 8 = .ok (.invokestatic 148, 3) := by decide +kernel
theorem dX12_changed_11 : decode cX12_changed 11 = .ok (.ifCond .ne 6, 3) := by decide +kernel
theorem dX12_changed_14 : decode cX12_changed 14 = .ok (.bipush (-2), 2) := by decide +kernel
theorem dX12_changed_16 : decode cX12_changed 16 = .ok (.ireturn, 1) := by decide +kernel
theorem dX12_changed_17 : decode cX12_changed 17 = .ok (.aload_n 0, 1) := by decide +kernel
theorem dX12_changed_18 : decode cX12_changed 18 = .ok (.invokevirtual 343, 3) := by decide +kernel
theorem dX12_changed_21 : decode cX12_changed 21 = .ok (.iconst 0, 1) := by decide +kernel
theorem dX12_changed_22 : decode cX12_changed 22 = .ok (.istore_n 2, 1) := by decide +kernel
theorem dX12_changed_23 : decode cX12_changed 23 = .ok (.iconst 0, 1) := by decide +kernel
theorem dX12_changed_24 : decode cX12_changed 24 = .ok (.istore_n 3, 1) := by decide +kernel
theorem dX12_changed_25 : decode cX12_changed 25 = .ok (.iload_n 3, 1) := by decide +kernel
theorem dX12_changed_26 : decode cX12_changed 26 = .ok (.iconst 5, 1) := by decide +kernel
theorem dX12_changed_27 : decode cX12_changed 27 = .ok (.if_icmp .ge 39, 3) := by decide +kernel
theorem dX12_changed_30 : decode cX12_changed 30 = .ok (.iload_n 2, 1) := by decide +kernel
theorem dX12_changed_31 : decode cX12_changed 31 = .ok (.aload_n 0, 1) := by decide +kernel
theorem dX12_changed_32 : decode cX12_changed 32 = .ok (.getfield 88, 3) := by decide +kernel
theorem dX12_changed_35 : decode cX12_changed 35 = .ok (.iload_n 3, 1) := by decide +kernel
theorem dX12_changed_36 : decode cX12_changed 36 = .ok (.laload, 1) := by decide +kernel
theorem dX12_changed_37 : decode cX12_changed 37 = .ok (.aload_n 0, 1) := by decide +kernel
theorem dX12_changed_38 : decode cX12_changed 38 = .ok (.getfield 91, 3) := by decide +kernel
theorem dX12_changed_41 : decode cX12_changed 41 = .ok (.iconst 5, 1) := by decide +kernel
theorem dX12_changed_42 : decode cX12_changed 42 = .ok (.iload_n 1, 1) := by decide +kernel
theorem dX12_changed_43 : decode cX12_changed 43 = .ok (.imul, 1) := by decide +kernel
theorem dX12_changed_44 : decode cX12_changed 44 = .ok (.iload_n 3, 1) := by decide +kernel
theorem dX12_changed_45 : decode cX12_changed 45 = .ok (.iadd, 1) := by decide +kernel
theorem dX12_changed_46 : decode cX12_changed 46 = .ok (.laload, 1) := by decide +kernel
theorem dX12_changed_47 : decode cX12_changed 47 = .ok (.lcmp, 1) := by decide +kernel
theorem dX12_changed_48 : decode cX12_changed 48 = .ok (.ifCond .eq 9, 3) := by decide +kernel
theorem dX12_changed_51 : decode cX12_changed 51 = .ok (.iconst 1, 1) := by decide +kernel
theorem dX12_changed_52 : decode cX12_changed 52 = .ok (.iload_n 3, 1) := by decide +kernel
theorem dX12_changed_53 : decode cX12_changed 53 = .ok (.ishl, 1) := by decide +kernel
theorem dX12_changed_54 : decode cX12_changed 54 = .ok (.goto 4, 3) := by decide +kernel
theorem dX12_changed_57 : decode cX12_changed 57 = .ok (.iconst 0, 1) := by decide +kernel
theorem dX12_changed_58 : decode cX12_changed 58 = .ok (.ior, 1) := by decide +kernel
theorem dX12_changed_59 : decode cX12_changed 59 = .ok (.istore_n 2, 1) := by decide +kernel
theorem dX12_changed_60 : decode cX12_changed 60 = .ok (.iinc 3 1, 3) := by decide +kernel
theorem dX12_changed_63 : decode cX12_changed 63 = .ok (.goto (-38), 3) := by decide +kernel
theorem dX12_changed_66 : decode cX12_changed 66 = .ok (.iload_n 2, 1) := by decide +kernel
theorem dX12_changed_67 : decode cX12_changed 67 = .ok (.ireturn, 1) := by decide +kernel
theorem dX12_greater_0 : decode cX12_greater 0 = .ok (.lload_n 0, 1) := by decide +kernel
theorem dX12_greater_1 : decode cX12_greater 1 = .ok (.lload_n 2, 1) := by decide +kernel
theorem dX12_greater_2 : decode cX12_greater 2 = .ok (.lcmp, 1) := by decide +kernel
theorem dX12_greater_3 : decode cX12_greater 3 = .ok (.ifCond .le 7, 3) := by decide +kernel
theorem dX12_greater_6 : decode cX12_greater 6 = .ok (.lload_n 0, 1) := by decide +kernel
theorem dX12_greater_7 : decode cX12_greater 7 = .ok (.goto 4, 3) := by decide +kernel
theorem dX12_greater_10 : decode cX12_greater 10 = .ok (.lload_n 2, 1) := by decide +kernel
theorem dX12_greater_11 : decode cX12_greater 11 = .ok (.lreturn, 1) := by decide +kernel
theorem dX12_worst_0 : decode cX12_worst 0 = .ok (.aload_n 0, 1) := by decide +kernel
theorem dX12_worst_1 : decode cX12_worst 1 = .ok (.iload_n 1, 1) := by decide +kernel
theorem dX12_worst_2 : decode cX12_worst 2 = .ok (.iload_n 2, 1) := by decide +kernel
theorem dX12_worst_3 : decode cX12_worst 3 = .ok (.invokevirtual 172, 3) := by decide +kernel
theorem dX12_worst_6 : decode cX12_worst 6 = .ok (.ifCond .ne 7, 3) := by decide +kernel
theorem dX12_worst_9 : decode cX12_worst 9 = .ok (.ldc2_w 196, 3) := by decide +kernel
theorem dX12_worst_12 : decode cX12_worst 12 = .ok (.lreturn, 1) := by decide +kernel
theorem dX12_worst_13 : decode cX12_worst 13 = .ok (.aload_n 0, 1) := by decide +kernel
theorem dX12_worst_14 : decode cX12_worst 14 = .ok (.invokevirtual 193, 3) := by decide +kernel
theorem dX12_worst_17 : decode cX12_worst 17 = .ok (.lstore_n 3, 1) := by decide +kernel
theorem dX12_worst_18 : decode cX12_worst 18 = .ok (.aload_n 0, 1) := by decide +kernel
theorem dX12_worst_19 : decode cX12_worst 19 = .ok (.iload_n 1, 1) := by decide +kernel
theorem dX12_worst_20 : decode cX12_worst 20 = .ok (.iload_n 2, 1) := by decide +kernel
theorem dX12_worst_21 : decode cX12_worst 21 = .ok (.invokevirtual 198, 3) := by decide +kernel
theorem dX12_worst_24 : decode cX12_worst 24 = .ok (.lload_n 3, 1) := by decide +kernel
theorem dX12_worst_25 : decode cX12_worst 25 = .ok (.aload_n 0, 1) := by decide +kernel
theorem dX12_worst_26 : decode cX12_worst 26 = .ok (.iload_n 1, 1) := by decide +kernel
theorem dX12_worst_27 : decode cX12_worst 27 = .ok (.iload_n 2, 1) := by decide +kernel
theorem dX12_worst_28 : decode cX12_worst 28 = .ok (.invokevirtual 198, 3) := by decide +kernel
theorem dX12_worst_31 : decode cX12_worst 31 = .ok (.lsub, 1) := by decide +kernel
theorem dX12_worst_32 : decode cX12_worst 32 = .ok (.invokestatic 349, 3) := by decide +kernel
theorem dX12_worst_35 : decode cX12_worst 35 = .ok (.lreturn, 1) := by decide +kernel
theorem dX12_question_0 : decode cX12_question 0 = .ok (.aload_n 0, 1) := by decide +kernel
theorem dX12_question_1 : decode cX12_question 1 = .ok (.invokevirtual 193, 3) := by decide +kernel
theorem dX12_question_4 : decode cX12_question 4 = .ok (.lstore_n 1, 1) := by decide +kernel
theorem dX12_question_5 : decode cX12_question 5 = .ok (.lload_n 1, 1) := by decide +kernel
theorem dX12_question_6 : decode cX12_question 6 = .ok (.lstore_n 3, 1) := by decide +kernel
theorem dX12_question_7 : decode cX12_question 7 = .ok (.iconst (-1), 1) := by decide +kernel
theorem dX12_question_8 : decode cX12_question 8 = .ok (.istore 5, 2) := by decide +kernel
theorem dX12_question_10 : decode cX12_question 10 = .ok (.iconst 0, 1) := by decide +kernel
theorem dX12_question_11 : decode cX12_question 11 = .ok (.istore 6, 2) := by decide +kernel
theorem dX12_question_13 : decode cX12_question 13 = .ok (.iload 6, 2) := by decide +kernel
theorem dX12_question_15 : decode cX12_question 15 = .ok (.iconst 5, 1) := by decide +kernel
theorem dX12_question_16 : decode cX12_question 16 = .ok (.aload_n 0, 1) := by decide +kernel
theorem dX12_question_17 : decode cX12_question 17 = .ok (.getfield 124, 3) := by decide +kernel
theorem dX12_question_20 : decode cX12_question 20 = .ok (.imul, 1) := by decide +kernel
theorem dX12_question_21 : decode cX12_question 21 = .ok (.if_icmp .ge 64, 3) := by decide +kernel
theorem dX12_question_24 : decode cX12_question 24 = .ok (.aload_n 0, 1) := by decide +kernel
theorem dX12_question_25 : decode cX12_question 25 = .ok (.iload 6, 2) := by decide +kernel
theorem dX12_question_27 : decode cX12_question 27 = .ok (.iconst 5, 1) := by decide +kernel
theorem dX12_question_28 : decode cX12_question 28 = .ok (.irem, 1) := by decide +kernel
theorem dX12_question_29 : decode cX12_question 29 = .ok (.iload 6, 2) := by decide +kernel
theorem dX12_question_31 : decode cX12_question 31 = .ok (.iconst 5, 1) := by decide +kernel
theorem dX12_question_32 : decode cX12_question 32 = .ok (.idiv, 1) := by decide +kernel
theorem dX12_question_33 : decode cX12_question 33 = .ok (.invokevirtual 198, 3) := by decide +kernel
theorem dX12_question_36 : decode cX12_question 36 = .ok (.lstore 7, 2) := by decide +kernel
theorem dX12_question_38 : decode cX12_question 38 = .ok (.lload 7, 2) := by decide +kernel
theorem dX12_question_40 : decode cX12_question 40 = .ok (.lload_n 3, 1) := by decide +kernel
theorem dX12_question_41 : decode cX12_question 41 = .ok (.lload 7, 2) := by decide +kernel
theorem dX12_question_43 : decode cX12_question 43 = .ok (.lsub, 1) := by decide +kernel
theorem dX12_question_44 : decode cX12_question 44 = .ok (.invokestatic 349, 3) := by decide +kernel
theorem dX12_question_47 : decode cX12_question 47 = .ok (.lload_n 1, 1) := by decide +kernel
theorem dX12_question_48 : decode cX12_question 48 = .ok (.lcmp, 1) := by decide +kernel
theorem dX12_question_49 : decode cX12_question 49 = .ok (.ifCond .lt 6, 3) := by decide +kernel
theorem dX12_question_52 : decode cX12_question 52 = .ok (.goto 27, 3) := by decide +kernel
theorem dX12_question_55 : decode cX12_question 55 = .ok (.lload 7, 2) := by decide +kernel
theorem dX12_question_57 : decode cX12_question 57 = .ok (.lload_n 3, 1) := by decide +kernel
theorem dX12_question_58 : decode cX12_question 58 = .ok (.lload 7, 2) := by decide +kernel
theorem dX12_question_60 : decode cX12_question 60 = .ok (.lsub, 1) := by decide +kernel
theorem dX12_question_61 : decode cX12_question 61 = .ok (.invokestatic 349, 3) := by decide +kernel
theorem dX12_question_64 : decode cX12_question 64 = .ok (.lstore_n 1, 1) := by decide +kernel
theorem dX12_question_65 : decode cX12_question 65 = .ok (.bipush 10, 2) := by decide +kernel
theorem dX12_question_67 : decode cX12_question 67 = .ok (.iload 6, 2) := by decide +kernel
theorem dX12_question_69 : decode cX12_question 69 = .ok (.iconst 5, 1) := by decide +kernel
theorem dX12_question_70 : decode cX12_question 70 = .ok (.idiv, 1) := by decide +kernel
theorem dX12_question_71 : decode cX12_question 71 = .ok (.imul, 1) := by decide +kernel
theorem dX12_question_72 : decode cX12_question 72 = .ok (.iload 6, 2) := by decide +kernel
theorem dX12_question_74 : decode cX12_question 74 = .ok (.iconst 5, 1) := by decide +kernel
theorem dX12_question_75 : decode cX12_question 75 = .ok (.irem, 1) := by decide +kernel
theorem dX12_question_76 : decode cX12_question 76 = .ok (.iadd, 1) := by decide +kernel
theorem dX12_question_77 : decode cX12_question 77 = .ok (.istore 5, 2) := by decide +kernel
theorem dX12_question_79 : decode cX12_question 79 = .ok (.iinc 6 1, 3) := by decide +kernel
theorem dX12_question_82 : decode cX12_question 82 = .ok (.goto (-69), 3) := by decide +kernel
theorem dX12_question_85 : decode cX12_question 85 = .ok (.iload 5, 2) := by decide +kernel
theorem dX12_question_87 : decode cX12_question 87 = .ok (.ireturn, 1) := by decide +kernel
theorem dX12_leastAmong_0 : decode cX12_leastAmong 0 = .ok (.aload_n 0, 1) := by decide +kernel
theorem dX12_leastAmong_1 : decode cX12_leastAmong 1 = .ok (.getfield 61, 3) := by decide +kernel
theorem dX12_leastAmong_4 : decode cX12_leastAmong 4 = .ok (.bipush 60, 2) := by decide +kernel
theorem dX12_leastAmong_6 : decode cX12_leastAmong 6 = .ok (.iload_n 1, 1) := by decide +kernel
theorem dX12_leastAmong_7 : decode cX12_leastAmong 7 = .ok (.imul, 1) := by decide +kernel
theorem dX12_leastAmong_8 : decode cX12_leastAmong 8 = .ok (.iload_n 1, 1) := by decide +kernel
theorem dX12_leastAmong_9 : decode cX12_leastAmong 9 = .ok (.iadd, 1) := by decide +kernel
theorem dX12_leastAmong_10 : decode cX12_leastAmong 10 = .ok (.laload, 1) := by decide +kernel
theorem dX12_leastAmong_11 : decode cX12_leastAmong 11 = .ok (.lstore 5, 2) := by decide +kernel
theorem dX12_leastAmong_13 : decode cX12_leastAmong 13 = .ok (.iload_n 2, 1) := by decide +kernel
theorem dX12_leastAmong_14 : decode cX12_leastAmong 14 = .ok (.ifCond .eq 8, 3) := by decide +kernel
theorem dX12_leastAmong_17 : decode cX12_leastAmong 17 = .ok (.lload 5, 2) := by decide +kernel
theorem dX12_leastAmong_19 : decode cX12_leastAmong 19 = .ok (.goto 7, 3) := by decide +kernel
theorem dX12_leastAmong_22 : decode cX12_leastAmong 22 = .ok (.lload_n 3, 1) := by decide +kernel
theorem dX12_leastAmong_23 : decode cX12_leastAmong 23 = .ok (.lload 5, 2) := by decide +kernel
theorem dX12_leastAmong_25 : decode cX12_leastAmong 25 = .ok (.lsub, 1) := by decide +kernel
theorem dX12_leastAmong_26 : decode cX12_leastAmong 26 = .ok (.lstore 7, 2) := by decide +kernel
theorem dX12_leastAmong_28 : decode cX12_leastAmong 28 = .ok (.lload 7, 2) := by decide +kernel
theorem dX12_leastAmong_30 : decode cX12_leastAmong 30 = .ok (.lstore 9, 2) := by decide +kernel
theorem dX12_leastAmong_32 : decode cX12_leastAmong 32 = .ok (.iconst 0, 1) := by decide +kernel
theorem dX12_leastAmong_33 : decode cX12_leastAmong 33 = .ok (.istore 11, 2) := by decide +kernel
theorem dX12_leastAmong_35 : decode cX12_leastAmong 35 = .ok (.iload 11, 2) := by decide +kernel
theorem dX12_leastAmong_37 : decode cX12_leastAmong 37 = .ok (.iconst 5, 1) := by decide +kernel
theorem dX12_leastAmong_38 : decode cX12_leastAmong 38 = .ok (.aload_n 0, 1) := by decide +kernel
theorem dX12_leastAmong_39 : decode cX12_leastAmong 39 = .ok (.getfield 124, 3) := by decide +kernel
theorem dX12_leastAmong_42 : decode cX12_leastAmong 42 = .ok (.imul, 1) := by decide +kernel
theorem dX12_leastAmong_43 : decode cX12_leastAmong 43 = .ok (.if_icmp .ge 85, 3) := by decide +kernel
theorem dX12_leastAmong_46 : decode cX12_leastAmong 46 = .ok (.iload_n 2, 1) := by decide +kernel
theorem dX12_leastAmong_47 : decode cX12_leastAmong 47 = .ok (.ifCond .eq 18, 3) := by decide +kernel
theorem dX12_leastAmong_50 : decode cX12_leastAmong 50 = .ok (.aload_n 0, 1) := by decide +kernel
theorem dX12_leastAmong_51 : decode cX12_leastAmong 51 = .ok (.getfield 61, 3) := by decide +kernel
theorem dX12_leastAmong_54 : decode cX12_leastAmong 54 = .ok (.bipush 60, 2) := by decide +kernel
theorem dX12_leastAmong_56 : decode cX12_leastAmong 56 = .ok (.iload_n 1, 1) := by decide +kernel
theorem dX12_leastAmong_57 : decode cX12_leastAmong 57 = .ok (.imul, 1) := by decide +kernel
theorem dX12_leastAmong_58 : decode cX12_leastAmong 58 = .ok (.iload 11, 2) := by decide +kernel
theorem dX12_leastAmong_60 : decode cX12_leastAmong 60 = .ok (.iadd, 1) := by decide +kernel
theorem dX12_leastAmong_61 : decode cX12_leastAmong 61 = .ok (.laload, 1) := by decide +kernel
theorem dX12_leastAmong_62 : decode cX12_leastAmong 62 = .ok (.goto 29, 3) := by decide +kernel
theorem dX12_leastAmong_65 : decode cX12_leastAmong 65 = .ok (.aload_n 0, 1) := by decide +kernel
theorem dX12_leastAmong_66 : decode cX12_leastAmong 66 = .ok (.getfield 61, 3) := by decide +kernel
theorem dX12_leastAmong_69 : decode cX12_leastAmong 69 = .ok (.bipush 60, 2) := by decide +kernel
theorem dX12_leastAmong_71 : decode cX12_leastAmong 71 = .ok (.iload 11, 2) := by decide +kernel
theorem dX12_leastAmong_73 : decode cX12_leastAmong 73 = .ok (.imul, 1) := by decide +kernel
theorem dX12_leastAmong_74 : decode cX12_leastAmong 74 = .ok (.iload 11, 2) := by decide +kernel
theorem dX12_leastAmong_76 : decode cX12_leastAmong 76 = .ok (.iadd, 1) := by decide +kernel
theorem dX12_leastAmong_77 : decode cX12_leastAmong 77 = .ok (.laload, 1) := by decide +kernel
theorem dX12_leastAmong_78 : decode cX12_leastAmong 78 = .ok (.aload_n 0, 1) := by decide +kernel
theorem dX12_leastAmong_79 : decode cX12_leastAmong 79 = .ok (.getfield 61, 3) := by decide +kernel
theorem dX12_leastAmong_82 : decode cX12_leastAmong 82 = .ok (.bipush 60, 2) := by decide +kernel
theorem dX12_leastAmong_84 : decode cX12_leastAmong 84 = .ok (.iload_n 1, 1) := by decide +kernel
theorem dX12_leastAmong_85 : decode cX12_leastAmong 85 = .ok (.imul, 1) := by decide +kernel
theorem dX12_leastAmong_86 : decode cX12_leastAmong 86 = .ok (.iload 11, 2) := by decide +kernel
theorem dX12_leastAmong_88 : decode cX12_leastAmong 88 = .ok (.iadd, 1) := by decide +kernel
theorem dX12_leastAmong_89 : decode cX12_leastAmong 89 = .ok (.laload, 1) := by decide +kernel
theorem dX12_leastAmong_90 : decode cX12_leastAmong 90 = .ok (.lsub, 1) := by decide +kernel
theorem dX12_leastAmong_91 : decode cX12_leastAmong 91 = .ok (.lstore 12, 2) := by decide +kernel
theorem dX12_leastAmong_93 : decode cX12_leastAmong 93 = .ok (.lload 12, 2) := by decide +kernel
theorem dX12_leastAmong_95 : decode cX12_leastAmong 95 = .ok (.lload 7, 2) := by decide +kernel
theorem dX12_leastAmong_97 : decode cX12_leastAmong 97 = .ok (.lload 12, 2) := by decide +kernel
theorem dX12_leastAmong_99 : decode cX12_leastAmong 99 = .ok (.lsub, 1) := by decide +kernel
theorem dX12_leastAmong_100 : decode cX12_leastAmong 100 = .ok (.invokestatic 349, 3) := by decide +kernel
theorem dX12_leastAmong_103 : decode cX12_leastAmong 103 = .ok (.lstore 14, 2) := by decide +kernel
theorem dX12_leastAmong_105 : decode cX12_leastAmong 105 = .ok (.lload 14, 2) := by decide +kernel
theorem dX12_leastAmong_107 : decode cX12_leastAmong 107 = .ok (.lload 9, 2) := by decide +kernel
theorem dX12_leastAmong_109 : decode cX12_leastAmong 109 = .ok (.lcmp, 1) := by decide +kernel
theorem dX12_leastAmong_110 : decode cX12_leastAmong 110 = .ok (.ifCond .ge 8, 3) := by decide +kernel
theorem dX12_leastAmong_113 : decode cX12_leastAmong 113 = .ok (.lload 14, 2) := by decide +kernel
theorem dX12_leastAmong_115 : decode cX12_leastAmong 115 = .ok (.goto 5, 3) := by decide +kernel
theorem dX12_leastAmong_118 : decode cX12_leastAmong 118 = .ok (.lload 9, 2) := by decide +kernel
theorem dX12_leastAmong_120 : decode cX12_leastAmong 120 = .ok (.lstore 9, 2) := by decide +kernel
theorem dX12_leastAmong_122 : decode cX12_leastAmong 122 = .ok (.iinc 11 1, 3) := by decide +kernel
theorem dX12_leastAmong_125 : decode cX12_leastAmong 125 = .ok (.goto (-90), 3) := by decide +kernel
theorem dX12_leastAmong_128 : decode cX12_leastAmong 128 = .ok (.lload 9, 2) := by decide +kernel
theorem dX12_leastAmong_130 : decode cX12_leastAmong 130 = .ok (.lreturn, 1) := by decide +kernel
theorem dX12_ofTwo_0 : decode cX12_ofTwo 0 = .ok (.aload_n 0, 1) := by decide +kernel
theorem dX12_ofTwo_1 : decode cX12_ofTwo 1 = .ok (.iload_n 1, 1) := by decide +kernel
theorem dX12_ofTwo_2 : decode cX12_ofTwo 2 = .ok (.iconst 1, 1) := by decide +kernel
theorem dX12_ofTwo_3 : decode cX12_ofTwo 3 = .ok (.lload_n 2, 1) := by decide +kernel
theorem dX12_ofTwo_4 : decode cX12_ofTwo 4 = .ok (.invokevirtual 353, 3) := by decide +kernel
theorem dX12_ofTwo_7 : decode cX12_ofTwo 7 = .ok (.aload_n 0, 1) := by decide +kernel
theorem dX12_ofTwo_8 : decode cX12_ofTwo 8 = .ok (.iload_n 1, 1) := by decide +kernel
theorem dX12_ofTwo_9 : decode cX12_ofTwo 9 = .ok (.iconst 0, 1) := by decide +kernel
theorem dX12_ofTwo_10 : decode cX12_ofTwo 10 = .ok (.lload_n 2, 1) := by decide +kernel
theorem dX12_ofTwo_11 : decode cX12_ofTwo 11 = .ok (.invokevirtual 353, 3) := by decide +kernel
theorem dX12_ofTwo_14 : decode cX12_ofTwo 14 = .ok (.invokestatic 349, 3) := by decide +kernel
theorem dX12_ofTwo_17 : decode cX12_ofTwo 17 = .ok (.lreturn, 1) := by decide +kernel
theorem dX12_worstOfTwo_0 : decode cX12_worstOfTwo 0 = .ok (.aload_n 0, 1) := by decide +kernel
theorem dX12_worstOfTwo_1 : decode cX12_worstOfTwo 1 = .ok (.iload_n 1, 1) := by decide +kernel
theorem dX12_worstOfTwo_2 : decode cX12_worstOfTwo 2 = .ok (.iload_n 2, 1) := by decide +kernel
theorem dX12_worstOfTwo_3 : decode cX12_worstOfTwo 3 = .ok (.invokevirtual 172, 3) := by decide +kernel
theorem dX12_worstOfTwo_6 : decode cX12_worstOfTwo 6 = .ok (.ifCond .ne 7, 3) := by decide +kernel
theorem dX12_worstOfTwo_9 : decode cX12_worstOfTwo 9 = .ok (.ldc2_w 196, 3) := by decide +kernel
theorem dX12_worstOfTwo_12 : decode cX12_worstOfTwo 12 = .ok (.lreturn, 1) := by decide +kernel
theorem dX12_worstOfTwo_13 : decode cX12_worstOfTwo 13 = .ok (.aload_n 0, 1) := by decide +kernel
theorem dX12_worstOfTwo_14 : decode cX12_worstOfTwo 14 = .ok (.invokevirtual 193, 3) := by decide +kernel
theorem dX12_worstOfTwo_17 : decode cX12_worstOfTwo 17 = .ok (.lstore_n 3, 1) := by decide +kernel
theorem dX12_worstOfTwo_18 : decode cX12_worstOfTwo 18 = .ok (.aload_n 0, 1) := by decide +kernel
theorem dX12_worstOfTwo_19 : decode cX12_worstOfTwo 19 = .ok (.invokevirtual 357, 3) := by decide +kernel
theorem dX12_worstOfTwo_22 : decode cX12_worstOfTwo 22 = .ok (.aload_n 0, 1) := by decide +kernel
theorem dX12_worstOfTwo_23 : decode cX12_worstOfTwo 23 = .ok (.iconst 5, 1) := by decide +kernel
theorem dX12_worstOfTwo_24 : decode cX12_worstOfTwo 24 = .ok (.iload_n 2, 1) := by decide +kernel
theorem dX12_worstOfTwo_25 : decode cX12_worstOfTwo 25 = .ok (.imul, 1) := by decide +kernel
theorem dX12_worstOfTwo_26 : decode cX12_worstOfTwo 26 = .ok (.iload_n 1, 1) := by decide +kernel
theorem dX12_worstOfTwo_27 : decode cX12_worstOfTwo 27 = .ok (.iadd, 1) := by decide +kernel
theorem dX12_worstOfTwo_28 : decode cX12_worstOfTwo 28 = .ok (.lload_n 3, 1) := by decide +kernel
theorem dX12_worstOfTwo_29 : decode cX12_worstOfTwo 29 = .ok (.invokevirtual 360, 3) := by decide +kernel
theorem dX12_worstOfTwo_32 : decode cX12_worstOfTwo 32 = .ok (.lreturn, 1) := by decide +kernel
theorem dX12_firstOfTwo_0 : decode cX12_firstOfTwo 0 = .ok (.aload_n 0, 1) := by decide +kernel
theorem dX12_firstOfTwo_1 : decode cX12_firstOfTwo 1 = .ok (.invokevirtual 193, 3) := by decide +kernel
theorem dX12_firstOfTwo_4 : decode cX12_firstOfTwo 4 = .ok (.lstore_n 1, 1) := by decide +kernel
theorem dX12_firstOfTwo_5 : decode cX12_firstOfTwo 5 = .ok (.aload_n 0, 1) := by decide +kernel
theorem dX12_firstOfTwo_6 : decode cX12_firstOfTwo 6 = .ok (.invokevirtual 357, 3) := by decide +kernel
theorem dX12_firstOfTwo_9 : decode cX12_firstOfTwo 9 = .ok (.lload_n 1, 1) := by decide +kernel
theorem dX12_firstOfTwo_10 : decode cX12_firstOfTwo 10 = .ok (.lstore_n 3, 1) := by decide +kernel
theorem dX12_firstOfTwo_11 : decode cX12_firstOfTwo 11 = .ok (.iconst (-1), 1) := by decide +kernel
theorem dX12_firstOfTwo_12 : decode cX12_firstOfTwo 12 = .ok (.istore 5, 2) := by decide +kernel
theorem dX12_firstOfTwo_14 : decode cX12_firstOfTwo 14 = .ok (.iconst 0, 1) := by decide +kernel
theorem dX12_firstOfTwo_15 : decode cX12_firstOfTwo 15 = .ok (.istore 6, 2) := by decide +kernel
theorem dX12_firstOfTwo_17 : decode cX12_firstOfTwo 17 = .ok (.iload 6, 2) := by decide +kernel
theorem dX12_firstOfTwo_19 : decode cX12_firstOfTwo 19 = .ok (.iconst 5, 1) := by decide +kernel
theorem dX12_firstOfTwo_20 : decode cX12_firstOfTwo 20 = .ok (.aload_n 0, 1) := by decide +kernel
theorem dX12_firstOfTwo_21 : decode cX12_firstOfTwo 21 = .ok (.getfield 124, 3) := by decide +kernel
theorem dX12_firstOfTwo_24 : decode cX12_firstOfTwo 24 = .ok (.imul, 1) := by decide +kernel
theorem dX12_firstOfTwo_25 : decode cX12_firstOfTwo 25 = .ok (.if_icmp .ge 45, 3) := by decide +kernel
theorem dX12_firstOfTwo_28 : decode cX12_firstOfTwo 28 = .ok (.aload_n 0, 1) := by decide +kernel
theorem dX12_firstOfTwo_29 : decode cX12_firstOfTwo 29 = .ok (.iload 6, 2) := by decide +kernel
theorem dX12_firstOfTwo_31 : decode cX12_firstOfTwo 31 = .ok (.lload_n 1, 1) := by decide +kernel
theorem dX12_firstOfTwo_32 : decode cX12_firstOfTwo 32 = .ok (.invokevirtual 360, 3) := by decide +kernel
theorem dX12_firstOfTwo_35 : decode cX12_firstOfTwo 35 = .ok (.lstore 7, 2) := by decide +kernel
theorem dX12_firstOfTwo_37 : decode cX12_firstOfTwo 37 = .ok (.lload 7, 2) := by decide +kernel
theorem dX12_firstOfTwo_39 : decode cX12_firstOfTwo 39 = .ok (.lload_n 3, 1) := by decide +kernel
theorem dX12_firstOfTwo_40 : decode cX12_firstOfTwo 40 = .ok (.lcmp, 1) := by decide +kernel
theorem dX12_firstOfTwo_41 : decode cX12_firstOfTwo 41 = .ok (.ifCond .lt 6, 3) := by decide +kernel
theorem dX12_firstOfTwo_44 : decode cX12_firstOfTwo 44 = .ok (.goto 20, 3) := by decide +kernel
theorem dX12_firstOfTwo_47 : decode cX12_firstOfTwo 47 = .ok (.lload 7, 2) := by decide +kernel
theorem dX12_firstOfTwo_49 : decode cX12_firstOfTwo 49 = .ok (.lstore_n 3, 1) := by decide +kernel
theorem dX12_firstOfTwo_50 : decode cX12_firstOfTwo 50 = .ok (.bipush 10, 2) := by decide +kernel
theorem dX12_firstOfTwo_52 : decode cX12_firstOfTwo 52 = .ok (.iload 6, 2) := by decide +kernel
theorem dX12_firstOfTwo_54 : decode cX12_firstOfTwo 54 = .ok (.iconst 5, 1) := by decide +kernel
theorem dX12_firstOfTwo_55 : decode cX12_firstOfTwo 55 = .ok (.idiv, 1) := by decide +kernel
theorem dX12_firstOfTwo_56 : decode cX12_firstOfTwo 56 = .ok (.imul, 1) := by decide +kernel
theorem dX12_firstOfTwo_57 : decode cX12_firstOfTwo 57 = .ok (.iload 6, 2) := by decide +kernel
theorem dX12_firstOfTwo_59 : decode cX12_firstOfTwo 59 = .ok (.iconst 5, 1) := by decide +kernel
theorem dX12_firstOfTwo_60 : decode cX12_firstOfTwo 60 = .ok (.irem, 1) := by decide +kernel
theorem dX12_firstOfTwo_61 : decode cX12_firstOfTwo 61 = .ok (.iadd, 1) := by decide +kernel
theorem dX12_firstOfTwo_62 : decode cX12_firstOfTwo 62 = .ok (.istore 5, 2) := by decide +kernel
theorem dX12_firstOfTwo_64 : decode cX12_firstOfTwo 64 = .ok (.iinc 6 1, 3) := by decide +kernel
theorem dX12_firstOfTwo_67 : decode cX12_firstOfTwo 67 = .ok (.goto (-50), 3) := by decide +kernel
theorem dX12_firstOfTwo_70 : decode cX12_firstOfTwo 70 = .ok (.iload 5, 2) := by decide +kernel
theorem dX12_firstOfTwo_72 : decode cX12_firstOfTwo 72 = .ok (.ireturn, 1) := by decide +kernel
theorem dX12_sherd_0 : decode cX12_sherd 0 = .ok (.iload_n 1, 1) := by decide +kernel
theorem dX12_sherd_1 : decode cX12_sherd 1 = .ok (.iconst 0, 1) := by decide +kernel
theorem dX12_sherd_2 : decode cX12_sherd 2 = .ok (.sipush 9999, 3) := by decide +kernel
theorem dX12_sherd_5 : decode cX12_sherd 5 = .ok (.invokestatic 148, 3) := by decide +kernel
theorem dX12_sherd_8 : decode cX12_sherd 8 = .ok (.ifCond .eq 14, 3) := by decide +kernel
theorem dX12_sherd_11 : decode cX12_sherd 11 = .ok (.iload_n 2, 1) := by decide +kernel
theorem dX12_sherd_12 : decode cX12_sherd 12 = .ok (.iconst 0, 1) := by decide +kernel
theorem dX12_sherd_13 : decode cX12_sherd 13 = .ok (.sipush 9999, 3) := by decide +kernel
theorem dX12_sherd_16 : decode cX12_sherd 16 = .ok (.invokestatic 148, 3) := by decide +kernel
theorem dX12_sherd_19 : decode cX12_sherd 19 = .ok (.ifCond .ne 6, 3) := by decide +kernel
theorem dX12_sherd_22 : decode cX12_sherd 22 = .ok (.bipush (-2), 2) := by decide +kernel
theorem dX12_sherd_24 : decode cX12_sherd 24 = .ok (.ireturn, 1) := by decide +kernel
theorem dX12_sherd_25 : decode cX12_sherd 25 = .ok (.aload_n 0, 1) := by decide +kernel
theorem dX12_sherd_26 : decode cX12_sherd 26 = .ok (.getfield 364, 3) := by decide +kernel
theorem dX12_sherd_29 : decode cX12_sherd 29 = .ok (.bipush 8, 2) := by decide +kernel
theorem dX12_sherd_31 : decode cX12_sherd 31 = .ok (.if_icmp .ne 6, 3) := by decide +kernel
theorem dX12_sherd_34 : decode cX12_sherd 34 = .ok (.bipush (-4), 2) := by decide +kernel
theorem dX12_sherd_36 : decode cX12_sherd 36 = .ok (.ireturn, 1) := by decide +kernel
theorem dX12_sherd_37 : decode cX12_sherd 37 = .ok (.aload_n 0, 1) := by decide +kernel
theorem dX12_sherd_38 : decode cX12_sherd 38 = .ok (.getfield 94, 3) := by decide +kernel
theorem dX12_sherd_41 : decode cX12_sherd 41 = .ok (.aload_n 0, 1) := by decide +kernel
theorem dX12_sherd_42 : decode cX12_sherd 42 = .ok (.getfield 364, 3) := by decide +kernel
theorem dX12_sherd_45 : decode cX12_sherd 45 = .ok (.iload_n 1, 1) := by decide +kernel
theorem dX12_sherd_46 : decode cX12_sherd 46 = .ok (.iastore, 1) := by decide +kernel
theorem dX12_sherd_47 : decode cX12_sherd 47 = .ok (.aload_n 0, 1) := by decide +kernel
theorem dX12_sherd_48 : decode cX12_sherd 48 = .ok (.getfield 97, 3) := by decide +kernel
theorem dX12_sherd_51 : decode cX12_sherd 51 = .ok (.aload_n 0, 1) := by decide +kernel
theorem dX12_sherd_52 : decode cX12_sherd 52 = .ok (.getfield 364, 3) := by decide +kernel
theorem dX12_sherd_55 : decode cX12_sherd 55 = .ok (.iload_n 2, 1) := by decide +kernel
theorem dX12_sherd_56 : decode cX12_sherd 56 = .ok (.iastore, 1) := by decide +kernel
theorem dX12_sherd_57 : decode cX12_sherd 57 = .ok (.aload_n 0, 1) := by decide +kernel
theorem dX12_sherd_58 : decode cX12_sherd 58 = .ok (.dup, 1) := by decide +kernel
theorem dX12_sherd_59 : decode cX12_sherd 59 = .ok (.getfield 364, 3) := by decide +kernel
theorem dX12_sherd_62 : decode cX12_sherd 62 = .ok (.iconst 1, 1) := by decide +kernel
theorem dX12_sherd_63 : decode cX12_sherd 63 = .ok (.iadd, 1) := by decide +kernel
theorem dX12_sherd_64 : decode cX12_sherd 64 = .ok (.putfield 364, 3) := by decide +kernel
theorem dX12_sherd_67 : decode cX12_sherd 67 = .ok (.aload_n 0, 1) := by decide +kernel
theorem dX12_sherd_68 : decode cX12_sherd 68 = .ok (.getfield 364, 3) := by decide +kernel
theorem dX12_sherd_71 : decode cX12_sherd 71 = .ok (.iconst 1, 1) := by decide +kernel
theorem dX12_sherd_72 : decode cX12_sherd 72 = .ok (.isub, 1) := by decide +kernel
theorem dX12_sherd_73 : decode cX12_sherd 73 = .ok (.ireturn, 1) := by decide +kernel
theorem dX12_set_0 : decode cX12_set 0 = .ok (.iload_n 1, 1) := by decide +kernel
theorem dX12_set_1 : decode cX12_set 1 = .ok (.ifCond .ne 15, 3) := by decide +kernel
theorem dX12_set_4 : decode cX12_set 4 = .ok (.iload_n 2, 1) := by decide +kernel
theorem dX12_set_5 : decode cX12_set 5 = .ok (.iconst 0, 1) := by decide +kernel
theorem dX12_set_6 : decode cX12_set 6 = .ok (.iconst 4, 1) := by decide +kernel
theorem dX12_set_7 : decode cX12_set 7 = .ok (.invokestatic 148, 3) := by decide +kernel
theorem dX12_set_10 : decode cX12_set 10 = .ok (.ifCond .ne 24, 3) := by decide +kernel
theorem dX12_set_13 : decode cX12_set 13 = .ok (.goto 18, 3) := by decide +kernel
theorem dX12_set_16 : decode cX12_set 16 = .ok (.iload_n 1, 1) := by decide +kernel
theorem dX12_set_17 : decode cX12_set 17 = .ok (.iconst 1, 1) := by decide +kernel
theorem dX12_set_18 : decode cX12_set 18 = .ok (.if_icmp .ne 13, 3) := by decide +kernel
theorem dX12_set_21 : decode cX12_set 21 = .ok (.iload_n 2, 1) := by decide +kernel
theorem dX12_set_22 : decode cX12_set 22 = .ok (.iconst 1, 1) := by decide +kernel
theorem dX12_set_23 : decode cX12_set 23 = .ok (.bipush 10, 2) := by decide +kernel
theorem dX12_set_25 : decode cX12_set 25 = .ok (.invokestatic 148, 3) := by decide +kernel
theorem dX12_set_28 : decode cX12_set 28 = .ok (.ifCond .ne 6, 3) := by decide +kernel
theorem dX12_set_31 : decode cX12_set 31 = .ok (.bipush (-2), 2) := by decide +kernel
theorem dX12_set_33 : decode cX12_set 33 = .ok (.ireturn, 1) := by decide +kernel
theorem dX12_set_34 : decode cX12_set 34 = .ok (.iload_n 1, 1) := by decide +kernel
theorem dX12_set_35 : decode cX12_set 35 = .ok (.ifCond .ne 10, 3) := by decide +kernel
theorem dX12_set_38 : decode cX12_set 38 = .ok (.aload_n 0, 1) := by decide +kernel
theorem dX12_set_39 : decode cX12_set 39 = .ok (.getfield 367, 3) := by decide +kernel
theorem dX12_set_42 : decode cX12_set 42 = .ok (.goto 7, 3) := by decide +kernel
theorem dX12_set_45 : decode cX12_set 45 = .ok (.aload_n 0, 1) := by decide +kernel
theorem dX12_set_46 : decode cX12_set 46 = .ok (.getfield 143, 3) := by decide +kernel
theorem dX12_set_49 : decode cX12_set 49 = .ok (.istore_n 3, 1) := by decide +kernel
theorem dX12_set_50 : decode cX12_set 50 = .ok (.iload_n 1, 1) := by decide +kernel
theorem dX12_set_51 : decode cX12_set 51 = .ok (.ifCond .ne 11, 3) := by decide +kernel
theorem dX12_set_54 : decode cX12_set 54 = .ok (.aload_n 0, 1) := by decide +kernel
theorem dX12_set_55 : decode cX12_set 55 = .ok (.iload_n 2, 1) := by decide +kernel
theorem dX12_set_56 : decode cX12_set 56 = .ok (.putfield 367, 3) := by decide +kernel
theorem dX12_set_59 : decode cX12_set 59 = .ok (.goto 8, 3) := by decide +kernel
theorem dX12_set_62 : decode cX12_set 62 = .ok (.aload_n 0, 1) := by decide +kernel
theorem dX12_set_63 : decode cX12_set 63 = .ok (.iload_n 2, 1) := by decide +kernel
theorem dX12_set_64 : decode cX12_set 64 = .ok (.putfield 143, 3) := by decide +kernel
theorem dX12_set_67 : decode cX12_set 67 = .ok (.iload_n 3, 1) := by decide +kernel
theorem dX12_set_68 : decode cX12_set 68 = .ok (.ireturn, 1) := by decide +kernel
theorem dX12_isJoined_0 : decode cX12_isJoined 0 = .ok (.iconst 0, 1) := by decide +kernel
theorem dX12_isJoined_1 : decode cX12_isJoined 1 = .ok (.istore_n 3, 1) := by decide +kernel
theorem dX12_isJoined_2 : decode cX12_isJoined 2 = .ok (.aload_n 0, 1) := by decide +kernel
theorem dX12_isJoined_3 : decode cX12_isJoined 3 = .ok (.getfield 97, 3) := by decide +kernel
theorem dX12_isJoined_6 : decode cX12_isJoined 6 = .ok (.iload_n 1, 1) := by decide +kernel
theorem dX12_isJoined_7 : decode cX12_isJoined 7 = .ok (.iaload, 1) := by decide +kernel
theorem dX12_isJoined_8 : decode cX12_isJoined 8 = .ok (.istore 4, 2) := by decide +kernel
theorem dX12_isJoined_10 : decode cX12_isJoined 10 = .ok (.aload_n 0, 1) := by decide +kernel
theorem dX12_isJoined_11 : decode cX12_isJoined 11 = .ok (.getfield 94, 3) := by decide +kernel
theorem dX12_isJoined_14 : decode cX12_isJoined 14 = .ok (.iload_n 2, 1) := by decide +kernel
theorem dX12_isJoined_15 : decode cX12_isJoined 15 = .ok (.iaload, 1) := by decide +kernel
theorem dX12_isJoined_16 : decode cX12_isJoined 16 = .ok (.istore 5, 2) := by decide +kernel
theorem dX12_isJoined_18 : decode cX12_isJoined 18 = .ok (.iconst 0, 1) := by decide +kernel
theorem dX12_isJoined_19 : decode cX12_isJoined 19 = .ok (.istore 6, 2) := by decide +kernel
theorem dX12_isJoined_21 : decode cX12_isJoined 21 = .ok (.iload 6, 2) := by decide +kernel
theorem dX12_isJoined_23 : decode cX12_isJoined 23 = .ok (.iconst 4, 1) := by decide +kernel
theorem dX12_isJoined_24 : decode cX12_isJoined 24 = .ok (.if_icmp .ge 47, 3) := by decide +kernel
theorem dX12_isJoined_27 : decode cX12_isJoined 27 = .ok (.iload_n 3, 1) := by decide +kernel
theorem dX12_isJoined_28 : decode cX12_isJoined 28 = .ok (.iload 4, 2) := by decide +kernel
theorem dX12_isJoined_30 : decode cX12_isJoined 30 = .ok (.bipush 10, 2) := by decide +kernel
theorem dX12_isJoined_32 : decode cX12_isJoined 32 = .ok (.irem, 1) := by decide +kernel
theorem dX12_isJoined_33 : decode cX12_isJoined 33 = .ok (.iload 5, 2) := by decide +kernel
theorem dX12_isJoined_35 : decode cX12_isJoined 35 = .ok (.bipush 10, 2) := by decide +kernel
theorem dX12_isJoined_37 : decode cX12_isJoined 37 = .ok (.irem, 1) := by decide +kernel
theorem dX12_isJoined_38 : decode cX12_isJoined 38 = .ok (.iadd, 1) := by decide +kernel
theorem dX12_isJoined_39 : decode cX12_isJoined 39 = .ok (.bipush 9, 2) := by decide +kernel
theorem dX12_isJoined_41 : decode cX12_isJoined 41 = .ok (.if_icmp .eq 7, 3) := by decide +kernel
theorem dX12_isJoined_44 : decode cX12_isJoined 44 = .ok (.iconst 1, 1) := by decide +kernel
theorem dX12_isJoined_45 : decode cX12_isJoined 45 = .ok (.goto 4, 3) := by decide +kernel
theorem dX12_isJoined_48 : decode cX12_isJoined 48 = .ok (.iconst 0, 1) := by decide +kernel
theorem dX12_isJoined_49 : decode cX12_isJoined 49 = .ok (.iadd, 1) := by decide +kernel
theorem dX12_isJoined_50 : decode cX12_isJoined 50 = .ok (.istore_n 3, 1) := by decide +kernel
theorem dX12_isJoined_51 : decode cX12_isJoined 51 = .ok (.iload 4, 2) := by decide +kernel
theorem dX12_isJoined_53 : decode cX12_isJoined 53 = .ok (.bipush 10, 2) := by decide +kernel
theorem dX12_isJoined_55 : decode cX12_isJoined 55 = .ok (.idiv, 1) := by decide +kernel
theorem dX12_isJoined_56 : decode cX12_isJoined 56 = .ok (.istore 4, 2) := by decide +kernel
theorem dX12_isJoined_58 : decode cX12_isJoined 58 = .ok (.iload 5, 2) := by decide +kernel
theorem dX12_isJoined_60 : decode cX12_isJoined 60 = .ok (.bipush 10, 2) := by decide +kernel
theorem dX12_isJoined_62 : decode cX12_isJoined 62 = .ok (.idiv, 1) := by decide +kernel
theorem dX12_isJoined_63 : decode cX12_isJoined 63 = .ok (.istore 5, 2) := by decide +kernel
theorem dX12_isJoined_65 : decode cX12_isJoined 65 = .ok (.iinc 6 1, 3) := by decide +kernel
theorem dX12_isJoined_68 : decode cX12_isJoined 68 = .ok (.goto (-47), 3) := by decide +kernel
theorem dX12_isJoined_71 : decode cX12_isJoined 71 = .ok (.iload_n 3, 1) := by decide +kernel
theorem dX12_isJoined_72 : decode cX12_isJoined 72 = .ok (.aload_n 0, 1) := by decide +kernel
theorem dX12_isJoined_73 : decode cX12_isJoined 73 = .ok (.getfield 367, 3) := by decide +kernel
theorem dX12_isJoined_76 : decode cX12_isJoined 76 = .ok (.if_icmp .gt 7, 3) := by decide +kernel
theorem dX12_isJoined_79 : decode cX12_isJoined 79 = .ok (.iconst 1, 1) := by decide +kernel
theorem dX12_isJoined_80 : decode cX12_isJoined 80 = .ok (.goto 4, 3) := by decide +kernel
theorem dX12_isJoined_83 : decode cX12_isJoined 83 = .ok (.iconst 0, 1) := by decide +kernel
theorem dX12_isJoined_84 : decode cX12_isJoined 84 = .ok (.ireturn, 1) := by decide +kernel
theorem dX12_joined_0 : decode cX12_joined 0 = .ok (.iload_n 1, 1) := by decide +kernel
theorem dX12_joined_1 : decode cX12_joined 1 = .ok (.iconst 0, 1) := by decide +kernel
theorem dX12_joined_2 : decode cX12_joined 2 = .ok (.aload_n 0, 1) := by decide +kernel
theorem dX12_joined_3 : decode cX12_joined 3 = .ok (.getfield 364, 3) := by decide +kernel
theorem dX12_joined_6 : decode cX12_joined 6 = .ok (.iconst 1, 1) := by decide +kernel
theorem dX12_joined_7 : decode cX12_joined 7 = .ok (.isub, 1) := by decide +kernel
theorem dX12_joined_8 : decode cX12_joined 8 = .ok (.invokestatic 148, 3) := by decide +kernel
theorem dX12_joined_11 : decode cX12_joined 11 = .ok (.ifCond .eq 22, 3) := by decide +kernel
theorem dX12_joined_14 : decode cX12_joined 14 = .ok (.iload_n 2, 1) := by decide +kernel
theorem dX12_joined_15 : decode cX12_joined 15 = .ok (.iconst 0, 1) := by decide +kernel
theorem dX12_joined_16 : decode cX12_joined 16 = .ok (.aload_n 0, 1) := by decide +kernel
theorem dX12_joined_17 : decode cX12_joined 17 = .ok (.getfield 364, 3) := by decide +kernel
theorem dX12_joined_20 : decode cX12_joined 20 = .ok (.iconst 1, 1) := by decide +kernel
theorem dX12_joined_21 : decode cX12_joined 21 = .ok (.isub, 1) := by decide +kernel
theorem dX12_joined_22 : decode cX12_joined 22 = .ok (.invokestatic 148, 3) := by decide +kernel
theorem dX12_joined_25 : decode cX12_joined 25 = .ok (.ifCond .eq 8, 3) := by decide +kernel
theorem dX12_joined_28 : decode cX12_joined 28 = .ok (.iload_n 1, 1) := by decide +kernel
theorem dX12_joined_29 : decode cX12_joined 29 = .ok (.iload_n 2, 1) := by decide +kernel
theorem dX12_joined_30 : decode cX12_joined 30 = .ok (.if_icmp .ne 6, 3) := by decide +kernel
theorem dX12_joined_33 : decode cX12_joined 33 = .ok (.bipush (-2), 2) := by decide +kernel
theorem dX12_joined_35 : decode cX12_joined 35 = .ok (.ireturn, 1) := by decide +kernel
theorem dX12_joined_36 : decode cX12_joined 36 = .ok (.aload_n 0, 1) := by decide +kernel
theorem dX12_joined_37 : decode cX12_joined 37 = .ok (.iload_n 1, 1) := by decide +kernel
theorem dX12_joined_38 : decode cX12_joined 38 = .ok (.iload_n 2, 1) := by decide +kernel
theorem dX12_joined_39 : decode cX12_joined 39 = .ok (.invokevirtual 370, 3) := by decide +kernel
theorem dX12_joined_42 : decode cX12_joined 42 = .ok (.ifCond .eq 7, 3) := by decide +kernel
theorem dX12_joined_45 : decode cX12_joined 45 = .ok (.iconst 1, 1) := by decide +kernel
theorem dX12_joined_46 : decode cX12_joined 46 = .ok (.goto 4, 3) := by decide +kernel
theorem dX12_joined_49 : decode cX12_joined 49 = .ok (.iconst 0, 1) := by decide +kernel
theorem dX12_joined_50 : decode cX12_joined 50 = .ok (.ireturn, 1) := by decide +kernel
theorem dX12_findRow_0 : decode cX12_findRow 0 = .ok (.iconst 1, 1) := by decide +kernel
theorem dX12_findRow_1 : decode cX12_findRow 1 = .ok (.aload_n 0, 1) := by decide +kernel
theorem dX12_findRow_2 : decode cX12_findRow 2 = .ok (.getfield 364, 3) := by decide +kernel
theorem dX12_findRow_5 : decode cX12_findRow 5 = .ok (.ishl, 1) := by decide +kernel
theorem dX12_findRow_6 : decode cX12_findRow 6 = .ok (.iconst 1, 1) := by decide +kernel
theorem dX12_findRow_7 : decode cX12_findRow 7 = .ok (.isub, 1) := by decide +kernel
theorem dX12_findRow_8 : decode cX12_findRow 8 = .ok (.istore_n 1, 1) := by decide +kernel
theorem dX12_findRow_9 : decode cX12_findRow 9 = .ok (.iload_n 1, 1) := by decide +kernel
theorem dX12_findRow_10 : decode cX12_findRow 10 = .ok (.istore_n 2, 1) := by decide +kernel
theorem dX12_findRow_11 : decode cX12_findRow 11 = .ok (.iload_n 2, 1) := by decide +kernel
theorem dX12_findRow_12 : decode cX12_findRow 12 = .ok (.ifCond .le 119, 3) := by decide +kernel
theorem dX12_findRow_15 : decode cX12_findRow 15 = .ok (.iconst 0, 1) := by decide +kernel
theorem dX12_findRow_16 : decode cX12_findRow 16 = .ok (.istore_n 3, 1) := by decide +kernel
theorem dX12_findRow_17 : decode cX12_findRow 17 = .ok (.iload_n 3, 1) := by decide +kernel
theorem dX12_findRow_18 : decode cX12_findRow 18 = .ok (.aload_n 0, 1) := by decide +kernel
theorem dX12_findRow_19 : decode cX12_findRow 19 = .ok (.getfield 364, 3) := by decide +kernel
theorem dX12_findRow_22 : decode cX12_findRow 22 = .ok (.if_icmp .ge 103, 3) := by decide +kernel
theorem dX12_findRow_25 : decode cX12_findRow 25 = .ok (.iconst 0, 1) := by decide +kernel
theorem dX12_findRow_26 : decode cX12_findRow 26 = .ok (.istore 4, 2) := by decide +kernel
theorem dX12_findRow_28 : decode cX12_findRow 28 = .ok (.iconst 0, 1) := by decide +kernel
theorem dX12_findRow_29 : decode cX12_findRow 29 = .ok (.istore 5, 2) := by decide +kernel
theorem dX12_findRow_31 : decode cX12_findRow 31 = .ok (.iload 5, 2) := by decide +kernel
theorem dX12_findRow_33 : decode cX12_findRow 33 = .ok (.aload_n 0, 1) := by decide +kernel
theorem dX12_findRow_34 : decode cX12_findRow 34 = .ok (.getfield 364, 3) := by decide +kernel
theorem dX12_findRow_37 : decode cX12_findRow 37 = .ok (.if_icmp .ge 69, 3) := by decide +kernel
theorem dX12_findRow_40 : decode cX12_findRow 40 = .ok (.iload_n 2, 1) := by decide +kernel
theorem dX12_findRow_41 : decode cX12_findRow 41 = .ok (.iload 5, 2) := by decide +kernel
theorem dX12_findRow_43 : decode cX12_findRow 43 = .ok (.ishr, 1) := by decide +kernel
theorem dX12_findRow_44 : decode cX12_findRow 44 = .ok (.iconst 1, 1) := by decide +kernel
theorem dX12_findRow_45 : decode cX12_findRow 45 = .ok (.iand, 1) := by decide +kernel
theorem dX12_findRow_46 : decode cX12_findRow 46 = .ok (.iconst 1, 1) := by decide +kernel
theorem dX12_findRow_47 : decode cX12_findRow 47 = .ok (.if_icmp .eq 53, 3) := by decide +kernel
theorem dX12_findRow_50 : decode cX12_findRow 50 = .ok (.aload_n 0, 1) := by decide +kernel
theorem dX12_findRow_51 : decode cX12_findRow 51 = .ok (.iload_n 3, 1) := by decide +kernel
theorem dX12_findRow_52 : decode cX12_findRow 52 = .ok (.iload 5, 2) := by decide +kernel
theorem dX12_findRow_54 : decode cX12_findRow 54 = .ok (.invokevirtual 370, 3) := by decide +kernel
theorem dX12_findRow_57 : decode cX12_findRow 57 = .ok (.ifCond .ne 6, 3) := by decide +kernel
theorem dX12_findRow_60 : decode cX12_findRow 60 = .ok (.goto 40, 3) := by decide +kernel
theorem dX12_findRow_63 : decode cX12_findRow 63 = .ok (.iconst 1, 1) := by decide +kernel
theorem dX12_findRow_64 : decode cX12_findRow 64 = .ok (.aload_n 0, 1) := by decide +kernel
theorem dX12_findRow_65 : decode cX12_findRow 65 = .ok (.getfield 100, 3) := by decide +kernel
theorem dX12_findRow_68 : decode cX12_findRow 68 = .ok (.bipush 8, 2) := by decide +kernel
theorem dX12_findRow_70 : decode cX12_findRow 70 = .ok (.iload_n 2, 1) := by decide +kernel
theorem dX12_findRow_71 : decode cX12_findRow 71 = .ok (.iconst 1, 1) := by decide +kernel
theorem dX12_findRow_72 : decode cX12_findRow 72 = .ok (.iload 5, 2) := by decide +kernel
theorem dX12_findRow_74 : decode cX12_findRow 74 = .ok (.ishl, 1) := by decide +kernel
theorem dX12_findRow_75 : decode cX12_findRow 75 = .ok (.ior, 1) := by decide +kernel
theorem dX12_findRow_76 : decode cX12_findRow 76 = .ok (.imul, 1) := by decide +kernel
theorem dX12_findRow_77 : decode cX12_findRow 77 = .ok (.iload 5, 2) := by decide +kernel
theorem dX12_findRow_79 : decode cX12_findRow 79 = .ok (.iadd, 1) := by decide +kernel
theorem dX12_findRow_80 : decode cX12_findRow 80 = .ok (.iaload, 1) := by decide +kernel
theorem dX12_findRow_81 : decode cX12_findRow 81 = .ok (.iadd, 1) := by decide +kernel
theorem dX12_findRow_82 : decode cX12_findRow 82 = .ok (.istore 6, 2) := by decide +kernel
theorem dX12_findRow_84 : decode cX12_findRow 84 = .ok (.iload 6, 2) := by decide +kernel
theorem dX12_findRow_86 : decode cX12_findRow 86 = .ok (.iload 4, 2) := by decide +kernel
theorem dX12_findRow_88 : decode cX12_findRow 88 = .ok (.if_icmp .le 8, 3) := by decide +kernel
theorem dX12_findRow_91 : decode cX12_findRow 91 = .ok (.iload 6, 2) := by decide +kernel
theorem dX12_findRow_93 : decode cX12_findRow 93 = .ok (.goto 5, 3) := by decide +kernel
theorem dX12_findRow_96 : decode cX12_findRow 96 = .ok (.iload 4, 2) := by decide +kernel
theorem dX12_findRow_98 : decode cX12_findRow 98 = .ok (.istore 4, 2) := by decide +kernel
theorem dX12_findRow_100 : decode cX12_findRow 100 = .ok (.iinc 5 1, 3) := by decide +kernel
theorem dX12_findRow_103 : decode cX12_findRow 103 = .ok (.goto (-72), 3) := by decide +kernel
theorem dX12_findRow_106 : decode cX12_findRow 106 = .ok (.aload_n 0, 1) := by decide +kernel
theorem dX12_findRow_107 : decode cX12_findRow 107 = .ok (.getfield 100, 3) := by decide +kernel
theorem dX12_findRow_110 : decode cX12_findRow 110 = .ok (.bipush 8, 2) := by decide +kernel
theorem dX12_findRow_112 : decode cX12_findRow 112 = .ok (.iload_n 2, 1) := by decide +kernel
theorem dX12_findRow_113 : decode cX12_findRow 113 = .ok (.imul, 1) := by decide +kernel
theorem dX12_findRow_114 : decode cX12_findRow 114 = .ok (.iload_n 3, 1) := by decide +kernel
theorem dX12_findRow_115 : decode cX12_findRow 115 = .ok (.iadd, 1) := by decide +kernel
theorem dX12_findRow_116 : decode cX12_findRow 116 = .ok (.iload 4, 2) := by decide +kernel
theorem dX12_findRow_118 : decode cX12_findRow 118 = .ok (.iastore, 1) := by decide +kernel
theorem dX12_findRow_119 : decode cX12_findRow 119 = .ok (.iinc 3 1, 3) := by decide +kernel
theorem dX12_findRow_122 : decode cX12_findRow 122 = .ok (.goto (-105), 3) := by decide +kernel
theorem dX12_findRow_125 : decode cX12_findRow 125 = .ok (.iinc 2 (-1), 3) := by decide +kernel
theorem dX12_findRow_128 : decode cX12_findRow 128 = .ok (.goto (-117), 3) := by decide +kernel
theorem dX12_findRow_131 : decode cX12_findRow 131 = .ok (.return_, 1) := by decide +kernel
theorem dX12_row_0 : decode cX12_row 0 = .ok (.aload_n 0, 1) := by decide +kernel
theorem dX12_row_1 : decode cX12_row 1 = .ok (.invokevirtual 373, 3) := by decide +kernel
theorem dX12_row_4 : decode cX12_row 4 = .ok (.iconst 0, 1) := by decide +kernel
theorem dX12_row_5 : decode cX12_row 5 = .ok (.istore_n 2, 1) := by decide +kernel
theorem dX12_row_6 : decode cX12_row 6 = .ok (.iconst 0, 1) := by decide +kernel
theorem dX12_row_7 : decode cX12_row 7 = .ok (.istore_n 3, 1) := by decide +kernel
theorem dX12_row_8 : decode cX12_row 8 = .ok (.iload_n 3, 1) := by decide +kernel
theorem dX12_row_9 : decode cX12_row 9 = .ok (.aload_n 0, 1) := by decide +kernel
theorem dX12_row_10 : decode cX12_row 10 = .ok (.getfield 364, 3) := by decide +kernel
theorem dX12_row_13 : decode cX12_row 13 = .ok (.if_icmp .ge 39, 3) := by decide +kernel
theorem dX12_row_16 : decode cX12_row 16 = .ok (.iconst 1, 1) := by decide +kernel
theorem dX12_row_17 : decode cX12_row 17 = .ok (.aload_n 0, 1) := by decide +kernel
theorem dX12_row_18 : decode cX12_row 18 = .ok (.getfield 100, 3) := by decide +kernel
theorem dX12_row_21 : decode cX12_row 21 = .ok (.bipush 8, 2) := by decide +kernel
theorem dX12_row_23 : decode cX12_row 23 = .ok (.iconst 1, 1) := by decide +kernel
theorem dX12_row_24 : decode cX12_row 24 = .ok (.iload_n 3, 1) := by decide +kernel
theorem dX12_row_25 : decode cX12_row 25 = .ok (.ishl, 1) := by decide +kernel
theorem dX12_row_26 : decode cX12_row 26 = .ok (.imul, 1) := by decide +kernel
theorem dX12_row_27 : decode cX12_row 27 = .ok (.iload_n 3, 1) := by decide +kernel
theorem dX12_row_28 : decode cX12_row 28 = .ok (.iadd, 1) := by decide +kernel
theorem dX12_row_29 : decode cX12_row 29 = .ok (.iaload, 1) := by decide +kernel
theorem dX12_row_30 : decode cX12_row 30 = .ok (.iadd, 1) := by decide +kernel
theorem dX12_row_31 : decode cX12_row 31 = .ok (.istore 4, 2) := by decide +kernel
theorem dX12_row_33 : decode cX12_row 33 = .ok (.iload 4, 2) := by decide +kernel
theorem dX12_row_35 : decode cX12_row 35 = .ok (.iload_n 2, 1) := by decide +kernel
theorem dX12_row_36 : decode cX12_row 36 = .ok (.if_icmp .le 8, 3) := by decide +kernel
theorem dX12_row_39 : decode cX12_row 39 = .ok (.iload 4, 2) := by decide +kernel
theorem dX12_row_41 : decode cX12_row 41 = .ok (.goto 4, 3) := by decide +kernel
theorem dX12_row_44 : decode cX12_row 44 = .ok (.iload_n 2, 1) := by decide +kernel
theorem dX12_row_45 : decode cX12_row 45 = .ok (.istore_n 2, 1) := by decide +kernel
theorem dX12_row_46 : decode cX12_row 46 = .ok (.iinc 3 1, 3) := by decide +kernel
theorem dX12_row_49 : decode cX12_row 49 = .ok (.goto (-41), 3) := by decide +kernel
theorem dX12_row_52 : decode cX12_row 52 = .ok (.iload_n 1, 1) := by decide +kernel
theorem dX12_row_53 : decode cX12_row 53 = .ok (.iconst (-1), 1) := by decide +kernel
theorem dX12_row_54 : decode cX12_row 54 = .ok (.if_icmp .ne 5, 3) := by decide +kernel
theorem dX12_row_57 : decode cX12_row 57 = .ok (.iload_n 2, 1) := by decide +kernel
theorem dX12_row_58 : decode cX12_row 58 = .ok (.ireturn, 1) := by decide +kernel
theorem dX12_row_59 : decode cX12_row 59 = .ok (.iload_n 1, 1) := by decide +kernel
theorem dX12_row_60 : decode cX12_row 60 = .ok (.iconst 0, 1) := by decide +kernel
theorem dX12_row_61 : decode cX12_row 61 = .ok (.iload_n 2, 1) := by decide +kernel
theorem dX12_row_62 : decode cX12_row 62 = .ok (.iconst 1, 1) := by decide +kernel
theorem dX12_row_63 : decode cX12_row 63 = .ok (.isub, 1) := by decide +kernel
theorem dX12_row_64 : decode cX12_row 64 = .ok (.invokestatic 148, 3) := by decide +kernel
theorem dX12_row_67 : decode cX12_row 67 = .ok (.ifCond .ne 5, 3) := by decide +kernel
theorem dX12_row_70 : decode cX12_row 70 = .ok (.iconst (-1), 1) := by decide +kernel
theorem dX12_row_71 : decode cX12_row 71 = .ok (.ireturn, 1) := by decide +kernel
theorem dX12_row_72 : decode cX12_row 72 = .ok (.iconst 0, 1) := by decide +kernel
theorem dX12_row_73 : decode cX12_row 73 = .ok (.istore_n 3, 1) := by decide +kernel
theorem dX12_row_74 : decode cX12_row 74 = .ok (.iconst (-1), 1) := by decide +kernel
theorem dX12_row_75 : decode cX12_row 75 = .ok (.istore 4, 2) := by decide +kernel
theorem dX12_row_77 : decode cX12_row 77 = .ok (.iconst 0, 1) := by decide +kernel
theorem dX12_row_78 : decode cX12_row 78 = .ok (.istore 5, 2) := by decide +kernel
theorem dX12_row_80 : decode cX12_row 80 = .ok (.iload 5, 2) := by decide +kernel
theorem dX12_row_82 : decode cX12_row 82 = .ok (.iload_n 1, 1) := by decide +kernel
theorem dX12_row_83 : decode cX12_row 83 = .ok (.if_icmp .gt 81, 3) := by decide +kernel
theorem dX12_row_86 : decode cX12_row 86 = .ok (.iconst 0, 1) := by decide +kernel
theorem dX12_row_87 : decode cX12_row 87 = .ok (.istore 6, 2) := by decide +kernel
theorem dX12_row_89 : decode cX12_row 89 = .ok (.iload_n 3, 1) := by decide +kernel
theorem dX12_row_90 : decode cX12_row 90 = .ok (.iload 6, 2) := by decide +kernel
theorem dX12_row_92 : decode cX12_row 92 = .ok (.ishr, 1) := by decide +kernel
theorem dX12_row_93 : decode cX12_row 93 = .ok (.iconst 1, 1) := by decide +kernel
theorem dX12_row_94 : decode cX12_row 94 = .ok (.iand, 1) := by decide +kernel
theorem dX12_row_95 : decode cX12_row 95 = .ok (.iconst 1, 1) := by decide +kernel
theorem dX12_row_96 : decode cX12_row 96 = .ok (.if_icmp .eq 45, 3) := by decide +kernel
theorem dX12_row_99 : decode cX12_row 99 = .ok (.iload 5, 2) := by decide +kernel
theorem dX12_row_101 : decode cX12_row 101 = .ok (.ifCond .le 14, 3) := by decide +kernel
theorem dX12_row_104 : decode cX12_row 104 = .ok (.aload_n 0, 1) := by decide +kernel
theorem dX12_row_105 : decode cX12_row 105 = .ok (.iload 4, 2) := by decide +kernel
theorem dX12_row_107 : decode cX12_row 107 = .ok (.iload 6, 2) := by decide +kernel
theorem dX12_row_109 : decode cX12_row 109 = .ok (.invokevirtual 370, 3) := by decide +kernel
theorem dX12_row_112 : decode cX12_row 112 = .ok (.ifCond .eq 29, 3) := by decide +kernel
theorem dX12_row_115 : decode cX12_row 115 = .ok (.aload_n 0, 1) := by decide +kernel
theorem dX12_row_116 : decode cX12_row 116 = .ok (.getfield 100, 3) := by decide +kernel
theorem dX12_row_119 : decode cX12_row 119 = .ok (.bipush 8, 2) := by decide +kernel
theorem dX12_row_121 : decode cX12_row 121 = .ok (.iload_n 3, 1) := by decide +kernel
theorem dX12_row_122 : decode cX12_row 122 = .ok (.iconst 1, 1) := by decide +kernel
theorem dX12_row_123 : decode cX12_row 123 = .ok (.iload 6, 2) := by decide +kernel
theorem dX12_row_125 : decode cX12_row 125 = .ok (.ishl, 1) := by decide +kernel
theorem dX12_row_126 : decode cX12_row 126 = .ok (.ior, 1) := by decide +kernel
theorem dX12_row_127 : decode cX12_row 127 = .ok (.imul, 1) := by decide +kernel
theorem dX12_row_128 : decode cX12_row 128 = .ok (.iload 6, 2) := by decide +kernel
theorem dX12_row_130 : decode cX12_row 130 = .ok (.iadd, 1) := by decide +kernel
theorem dX12_row_131 : decode cX12_row 131 = .ok (.iaload, 1) := by decide +kernel
theorem dX12_row_132 : decode cX12_row 132 = .ok (.iload_n 2, 1) := by decide +kernel
theorem dX12_row_133 : decode cX12_row 133 = .ok (.iload 5, 2) := by decide +kernel
theorem dX12_row_135 : decode cX12_row 135 = .ok (.isub, 1) := by decide +kernel
theorem dX12_row_136 : decode cX12_row 136 = .ok (.iconst 1, 1) := by decide +kernel
theorem dX12_row_137 : decode cX12_row 137 = .ok (.isub, 1) := by decide +kernel
theorem dX12_row_138 : decode cX12_row 138 = .ok (.if_icmp .eq 9, 3) := by decide +kernel
theorem dX12_row_141 : decode cX12_row 141 = .ok (.iinc 6 1, 3) := by decide +kernel
theorem dX12_row_144 : decode cX12_row 144 = .ok (.goto (-55), 3) := by decide +kernel
theorem dX12_row_147 : decode cX12_row 147 = .ok (.iload_n 3, 1) := by decide +kernel
theorem dX12_row_148 : decode cX12_row 148 = .ok (.iconst 1, 1) := by decide +kernel
theorem dX12_row_149 : decode cX12_row 149 = .ok (.iload 6, 2) := by decide +kernel
theorem dX12_row_151 : decode cX12_row 151 = .ok (.ishl, 1) := by decide +kernel
theorem dX12_row_152 : decode cX12_row 152 = .ok (.ior, 1) := by decide +kernel
theorem dX12_row_153 : decode cX12_row 153 = .ok (.istore_n 3, 1) := by decide +kernel
theorem dX12_row_154 : decode cX12_row 154 = .ok (.iload 6, 2) := by decide +kernel
theorem dX12_row_156 : decode cX12_row 156 = .ok (.istore 4, 2) := by decide +kernel
theorem dX12_row_158 : decode cX12_row 158 = .ok (.iinc 5 1, 3) := by decide +kernel
theorem dX12_row_161 : decode cX12_row 161 = .ok (.goto (-81), 3) := by decide +kernel
theorem dX12_row_164 : decode cX12_row 164 = .ok (.iload 4, 2) := by decide +kernel
theorem dX12_row_166 : decode cX12_row 166 = .ok (.ireturn, 1) := by decide +kernel
theorem dX12_record_0 : decode cX12_record 0 = .ok (.iload_n 1, 1) := by decide +kernel
theorem dX12_record_1 : decode cX12_record 1 = .ok (.iconst 0, 1) := by decide +kernel
theorem dX12_record_2 : decode cX12_record 2 = .ok (.sipush 1023, 3) := by decide +kernel
theorem dX12_record_5 : decode cX12_record 5 = .ok (.invokestatic 148, 3) := by decide +kernel
theorem dX12_record_8 : decode cX12_record 8 = .ok (.ifCond .eq 14, 3) := by decide +kernel
theorem dX12_record_11 : decode cX12_record 11 = .ok (.iload_n 2, 1) := by decide +kernel
theorem dX12_record_12 : decode cX12_record 12 = .ok (.iconst 0, 1) := by decide +kernel
theorem dX12_record_13 : decode cX12_record 13 = .ok (.sipush 1023, 3) := by decide +kernel
theorem dX12_record_16 : decode cX12_record 16 = .ok (.invokestatic 148, 3) := by decide +kernel
theorem dX12_record_19 : decode cX12_record 19 = .ok (.ifCond .ne 6, 3) := by decide +kernel
theorem dX12_record_22 : decode cX12_record 22 = .ok (.bipush (-2), 2) := by decide +kernel
theorem dX12_record_24 : decode cX12_record 24 = .ok (.ireturn, 1) := by decide +kernel
theorem dX12_record_25 : decode cX12_record 25 = .ok (.aload_n 0, 1) := by decide +kernel
theorem dX12_record_26 : decode cX12_record 26 = .ok (.getfield 376, 3) := by decide +kernel
theorem dX12_record_29 : decode cX12_record 29 = .ok (.bipush 10, 2) := by decide +kernel
theorem dX12_record_31 : decode cX12_record 31 = .ok (.if_icmp .ne 6, 3) := by decide +kernel
theorem dX12_record_34 : decode cX12_record 34 = .ok (.bipush (-4), 2) := by decide +kernel
theorem dX12_record_36 : decode cX12_record 36 = .ok (.ireturn, 1) := by decide +kernel
theorem dX12_record_37 : decode cX12_record 37 = .ok (.aload_n 0, 1) := by decide +kernel
theorem dX12_record_38 : decode cX12_record 38 = .ok (.getfield 103, 3) := by decide +kernel
theorem dX12_record_41 : decode cX12_record 41 = .ok (.aload_n 0, 1) := by decide +kernel
theorem dX12_record_42 : decode cX12_record 42 = .ok (.getfield 376, 3) := by decide +kernel
theorem dX12_record_45 : decode cX12_record 45 = .ok (.iload_n 1, 1) := by decide +kernel
theorem dX12_record_46 : decode cX12_record 46 = .ok (.iload_n 2, 1) := by decide +kernel
theorem dX12_record_47 : decode cX12_record 47 = .ok (.iand, 1) := by decide +kernel
theorem dX12_record_48 : decode cX12_record 48 = .ok (.iastore, 1) := by decide +kernel
theorem dX12_record_49 : decode cX12_record 49 = .ok (.aload_n 0, 1) := by decide +kernel
theorem dX12_record_50 : decode cX12_record 50 = .ok (.getfield 106, 3) := by decide +kernel
theorem dX12_record_53 : decode cX12_record 53 = .ok (.aload_n 0, 1) := by decide +kernel
theorem dX12_record_54 : decode cX12_record 54 = .ok (.getfield 376, 3) := by decide +kernel
theorem dX12_record_57 : decode cX12_record 57 = .ok (.iload_n 2, 1) := by decide +kernel
theorem dX12_record_58 : decode cX12_record 58 = .ok (.iastore, 1) := by decide +kernel
theorem dX12_record_59 : decode cX12_record 59 = .ok (.aload_n 0, 1) := by decide +kernel
theorem dX12_record_60 : decode cX12_record 60 = .ok (.dup, 1) := by decide +kernel
theorem dX12_record_61 : decode cX12_record 61 = .ok (.getfield 376, 3) := by decide +kernel
theorem dX12_record_64 : decode cX12_record 64 = .ok (.iconst 1, 1) := by decide +kernel
theorem dX12_record_65 : decode cX12_record 65 = .ok (.iadd, 1) := by decide +kernel
theorem dX12_record_66 : decode cX12_record 66 = .ok (.putfield 376, 3) := by decide +kernel
theorem dX12_record_69 : decode cX12_record 69 = .ok (.aload_n 0, 1) := by decide +kernel
theorem dX12_record_70 : decode cX12_record 70 = .ok (.getfield 376, 3) := by decide +kernel
theorem dX12_record_73 : decode cX12_record 73 = .ok (.iconst 1, 1) := by decide +kernel
theorem dX12_record_74 : decode cX12_record 74 = .ok (.isub, 1) := by decide +kernel
theorem dX12_record_75 : decode cX12_record 75 = .ok (.ireturn, 1) := by decide +kernel
theorem dX12_areAtOdds_0 : decode cX12_areAtOdds 0 = .ok (.aload_n 0, 1) := by decide +kernel
theorem dX12_areAtOdds_1 : decode cX12_areAtOdds 1 = .ok (.getfield 103, 3) := by decide +kernel
theorem dX12_areAtOdds_4 : decode cX12_areAtOdds 4 = .ok (.iload_n 1, 1) := by decide +kernel
theorem dX12_areAtOdds_5 : decode cX12_areAtOdds 5 = .ok (.iaload, 1) := by decide +kernel
theorem dX12_areAtOdds_6 : decode cX12_areAtOdds 6 = .ok (.aload_n 0, 1) := by decide +kernel
theorem dX12_areAtOdds_7 : decode cX12_areAtOdds 7 = .ok (.getfield 103, 3) := by decide +kernel
theorem dX12_areAtOdds_10 : decode cX12_areAtOdds 10 = .ok (.iload_n 2, 1) := by decide +kernel
theorem dX12_areAtOdds_11 : decode cX12_areAtOdds 11 = .ok (.iaload, 1) := by decide +kernel
theorem dX12_areAtOdds_12 : decode cX12_areAtOdds 12 = .ok (.ixor, 1) := by decide +kernel
theorem dX12_areAtOdds_13 : decode cX12_areAtOdds 13 = .ok (.aload_n 0, 1) := by decide +kernel
theorem dX12_areAtOdds_14 : decode cX12_areAtOdds 14 = .ok (.getfield 106, 3) := by decide +kernel
theorem dX12_areAtOdds_17 : decode cX12_areAtOdds 17 = .ok (.iload_n 1, 1) := by decide +kernel
theorem dX12_areAtOdds_18 : decode cX12_areAtOdds 18 = .ok (.iaload, 1) := by decide +kernel
theorem dX12_areAtOdds_19 : decode cX12_areAtOdds 19 = .ok (.iand, 1) := by decide +kernel
theorem dX12_areAtOdds_20 : decode cX12_areAtOdds 20 = .ok (.aload_n 0, 1) := by decide +kernel
theorem dX12_areAtOdds_21 : decode cX12_areAtOdds 21 = .ok (.getfield 106, 3) := by decide +kernel
theorem dX12_areAtOdds_24 : decode cX12_areAtOdds 24 = .ok (.iload_n 2, 1) := by decide +kernel
theorem dX12_areAtOdds_25 : decode cX12_areAtOdds 25 = .ok (.iaload, 1) := by decide +kernel
theorem dX12_areAtOdds_26 : decode cX12_areAtOdds 26 = .ok (.iand, 1) := by decide +kernel
theorem dX12_areAtOdds_27 : decode cX12_areAtOdds 27 = .ok (.ifCond .eq 7, 3) := by decide +kernel
theorem dX12_areAtOdds_30 : decode cX12_areAtOdds 30 = .ok (.iconst 1, 1) := by decide +kernel
theorem dX12_areAtOdds_31 : decode cX12_areAtOdds 31 = .ok (.goto 4, 3) := by decide +kernel
theorem dX12_areAtOdds_34 : decode cX12_areAtOdds 34 = .ok (.iconst 0, 1) := by decide +kernel
theorem dX12_areAtOdds_35 : decode cX12_areAtOdds 35 = .ok (.ireturn, 1) := by decide +kernel
theorem dX12_match_0 : decode cX12_match 0 = .ok (.aload_n 0, 1) := by decide +kernel
theorem dX12_match_1 : decode cX12_match 1 = .ok (.iload_n 1, 1) := by decide +kernel
theorem dX12_match_2 : decode cX12_match 2 = .ok (.iload_n 2, 1) := by decide +kernel
theorem dX12_match_3 : decode cX12_match 3 = .ok (.invokevirtual 379, 3) := by decide +kernel
theorem dX12_match_6 : decode cX12_match 6 = .ok (.ifCond .ne 30, 3) := by decide +kernel
theorem dX12_match_9 : decode cX12_match 9 = .ok (.aload_n 0, 1) := by decide +kernel
theorem dX12_match_10 : decode cX12_match 10 = .ok (.getfield 106, 3) := by decide +kernel
theorem dX12_match_13 : decode cX12_match 13 = .ok (.iload_n 1, 1) := by decide +kernel
theorem dX12_match_14 : decode cX12_match 14 = .ok (.iaload, 1) := by decide +kernel
theorem dX12_match_15 : decode cX12_match 15 = .ok (.aload_n 0, 1) := by decide +kernel
theorem dX12_match_16 : decode cX12_match 16 = .ok (.getfield 106, 3) := by decide +kernel
theorem dX12_match_19 : decode cX12_match 19 = .ok (.iload_n 2, 1) := by decide +kernel
theorem dX12_match_20 : decode cX12_match 20 = .ok (.iaload, 1) := by decide +kernel
theorem dX12_match_21 : decode cX12_match 21 = .ok (.iand, 1) := by decide +kernel
theorem dX12_match_22 : decode cX12_match 22 = .ok (.invokestatic 179, 3) := by decide +kernel
theorem dX12_match_25 : decode cX12_match 25 = .ok (.aload_n 0, 1) := by decide +kernel
theorem dX12_match_26 : decode cX12_match 26 = .ok (.getfield 143, 3) := by decide +kernel
theorem dX12_match_29 : decode cX12_match 29 = .ok (.if_icmp .lt 7, 3) := by decide +kernel
theorem dX12_match_32 : decode cX12_match 32 = .ok (.iconst 1, 1) := by decide +kernel
theorem dX12_match_33 : decode cX12_match 33 = .ok (.goto 4, 3) := by decide +kernel
theorem dX12_match_36 : decode cX12_match 36 = .ok (.iconst 0, 1) := by decide +kernel
theorem dX12_match_37 : decode cX12_match 37 = .ok (.ireturn, 1) := by decide +kernel
theorem dX12_findThings_0 : decode cX12_findThings 0 = .ok (.iconst 0, 1) := by decide +kernel
theorem dX12_findThings_1 : decode cX12_findThings 1 = .ok (.istore_n 1, 1) := by decide +kernel
theorem dX12_findThings_2 : decode cX12_findThings 2 = .ok (.iload_n 1, 1) := by decide +kernel
theorem dX12_findThings_3 : decode cX12_findThings 3 = .ok (.aload_n 0, 1) := by decide +kernel
theorem dX12_findThings_4 : decode cX12_findThings 4 = .ok (.getfield 376, 3) := by decide +kernel
theorem dX12_findThings_7 : decode cX12_findThings 7 = .ok (.if_icmp .ge 16, 3) := by decide +kernel
theorem dX12_findThings_10 : decode cX12_findThings 10 = .ok (.aload_n 0, 1) := by decide +kernel
theorem dX12_findThings_11 : decode cX12_findThings 11 = .ok (.getfield 109, 3) := by decide +kernel
theorem dX12_findThings_14 : decode cX12_findThings 14 = .ok (.iload_n 1, 1) := by decide +kernel
theorem dX12_findThings_15 : decode cX12_findThings 15 = .ok (.iload_n 1, 1) := by decide +kernel
theorem dX12_findThings_16 : decode cX12_findThings 16 = .ok (.iastore, 1) := by decide +kernel
theorem dX12_findThings_17 : decode cX12_findThings 17 = .ok (.iinc 1 1, 3) := by decide +kernel
theorem dX12_findThings_20 : decode cX12_findThings 20 = .ok (.goto (-18), 3) := by decide +kernel
theorem dX12_findThings_23 : decode cX12_findThings 23 = .ok (.iconst 1, 1) := by decide +kernel
theorem dX12_findThings_24 : decode cX12_findThings 24 = .ok (.istore_n 1, 1) := by decide +kernel
theorem dX12_findThings_25 : decode cX12_findThings 25 = .ok (.iload_n 1, 1) := by decide +kernel
theorem dX12_findThings_26 : decode cX12_findThings 26 = .ok (.ifCond .eq 78, 3) := by decide +kernel
theorem dX12_findThings_29 : decode cX12_findThings 29 = .ok (.iconst 0, 1) := by decide +kernel
theorem dX12_findThings_30 : decode cX12_findThings 30 = .ok (.istore_n 1, 1) := by decide +kernel
theorem dX12_findThings_31 : decode cX12_findThings 31 = .ok (.iconst 0, 1) := by decide +kernel
theorem dX12_findThings_32 : decode cX12_findThings 32 = .ok (.istore_n 2, 1) := by decide +kernel
theorem dX12_findThings_33 : decode cX12_findThings 33 = .ok (.iload_n 2, 1) := by decide +kernel
theorem dX12_findThings_34 : decode cX12_findThings 34 = .ok (.aload_n 0, 1) := by decide +kernel
theorem dX12_findThings_35 : decode cX12_findThings 35 = .ok (.getfield 376, 3) := by decide +kernel
theorem dX12_findThings_38 : decode cX12_findThings 38 = .ok (.if_icmp .ge 63, 3) := by decide +kernel
theorem dX12_findThings_41 : decode cX12_findThings 41 = .ok (.iconst 0, 1) := by decide +kernel
theorem dX12_findThings_42 : decode cX12_findThings 42 = .ok (.istore_n 3, 1) := by decide +kernel
theorem dX12_findThings_43 : decode cX12_findThings 43 = .ok (.iload_n 3, 1) := by decide +kernel
theorem dX12_findThings_44 : decode cX12_findThings 44 = .ok (.aload_n 0, 1) := by decide +kernel
theorem dX12_findThings_45 : decode cX12_findThings 45 = .ok (.getfield 376, 3) := by decide +kernel
theorem dX12_findThings_48 : decode cX12_findThings 48 = .ok (.if_icmp .ge 47, 3) := by decide +kernel
theorem dX12_findThings_51 : decode cX12_findThings 51 = .ok (.aload_n 0, 1) := by decide +kernel
theorem dX12_findThings_52 : decode cX12_findThings 52 = .ok (.getfield 109, 3) := by decide +kernel
theorem dX12_findThings_55 : decode cX12_findThings 55 = .ok (.iload_n 3, 1) := by decide +kernel
theorem dX12_findThings_56 : decode cX12_findThings 56 = .ok (.iaload, 1) := by decide +kernel
theorem dX12_findThings_57 : decode cX12_findThings 57 = .ok (.aload_n 0, 1) := by decide +kernel
theorem dX12_findThings_58 : decode cX12_findThings 58 = .ok (.getfield 109, 3) := by decide +kernel
theorem dX12_findThings_61 : decode cX12_findThings 61 = .ok (.iload_n 2, 1) := by decide +kernel
theorem dX12_findThings_62 : decode cX12_findThings 62 = .ok (.iaload, 1) := by decide +kernel
theorem dX12_findThings_63 : decode cX12_findThings 63 = .ok (.if_icmp .ge 26, 3) := by decide +kernel
theorem dX12_findThings_66 : decode cX12_findThings 66 = .ok (.aload_n 0, 1) := by decide +kernel
theorem dX12_findThings_67 : decode cX12_findThings 67 = .ok (.iload_n 2, 1) := by decide +kernel
theorem dX12_findThings_68 : decode cX12_findThings 68 = .ok (.iload_n 3, 1) := by decide +kernel
theorem dX12_findThings_69 : decode cX12_findThings 69 = .ok (.invokevirtual 382, 3) := by decide +kernel
theorem dX12_findThings_72 : decode cX12_findThings 72 = .ok (.ifCond .eq 17, 3) := by decide +kernel
theorem dX12_findThings_75 : decode cX12_findThings 75 = .ok (.aload_n 0, 1) := by decide +kernel
theorem dX12_findThings_76 : decode cX12_findThings 76 = .ok (.getfield 109, 3) := by decide +kernel
theorem dX12_findThings_79 : decode cX12_findThings 79 = .ok (.iload_n 2, 1) := by decide +kernel
theorem dX12_findThings_80 : decode cX12_findThings 80 = .ok (.aload_n 0, 1) := by decide +kernel
theorem dX12_findThings_81 : decode cX12_findThings 81 = .ok (.getfield 109, 3) := by decide +kernel
theorem dX12_findThings_84 : decode cX12_findThings 84 = .ok (.iload_n 3, 1) := by decide +kernel
theorem dX12_findThings_85 : decode cX12_findThings 85 = .ok (.iaload, 1) := by decide +kernel
theorem dX12_findThings_86 : decode cX12_findThings 86 = .ok (.iastore, 1) := by decide +kernel
theorem dX12_findThings_87 : decode cX12_findThings 87 = .ok (.iconst 1, 1) := by decide +kernel
theorem dX12_findThings_88 : decode cX12_findThings 88 = .ok (.istore_n 1, 1) := by decide +kernel
theorem dX12_findThings_89 : decode cX12_findThings 89 = .ok (.iinc 3 1, 3) := by decide +kernel
theorem dX12_findThings_92 : decode cX12_findThings 92 = .ok (.goto (-49), 3) := by decide +kernel
theorem dX12_findThings_95 : decode cX12_findThings 95 = .ok (.iinc 2 1, 3) := by decide +kernel
theorem dX12_findThings_98 : decode cX12_findThings 98 = .ok (.goto (-65), 3) := by decide +kernel
theorem dX12_findThings_101 : decode cX12_findThings 101 = .ok (.goto (-76), 3) := by decide +kernel
theorem dX12_findThings_104 : decode cX12_findThings 104 = .ok (.return_, 1) := by decide +kernel
theorem dX12_same_0 : decode cX12_same 0 = .ok (.iload_n 1, 1) := by decide +kernel
theorem dX12_same_1 : decode cX12_same 1 = .ok (.iconst 0, 1) := by decide +kernel
theorem dX12_same_2 : decode cX12_same 2 = .ok (.aload_n 0, 1) := by decide +kernel
theorem dX12_same_3 : decode cX12_same 3 = .ok (.getfield 376, 3) := by decide +kernel
theorem dX12_same_6 : decode cX12_same 6 = .ok (.iconst 1, 1) := by decide +kernel
theorem dX12_same_7 : decode cX12_same 7 = .ok (.isub, 1) := by decide +kernel
theorem dX12_same_8 : decode cX12_same 8 = .ok (.invokestatic 148, 3) := by decide +kernel
theorem dX12_same_11 : decode cX12_same 11 = .ok (.ifCond .eq 26, 3) := by decide +kernel
theorem dX12_same_14 : decode cX12_same 14 = .ok (.iload_n 2, 1) := by decide +kernel
theorem dX12_same_15 : decode cX12_same 15 = .ok (.iconst 0, 1) := by decide +kernel
theorem dX12_same_16 : decode cX12_same 16 = .ok (.aload_n 0, 1) := by decide +kernel
theorem dX12_same_17 : decode cX12_same 17 = .ok (.getfield 376, 3) := by decide +kernel
theorem dX12_same_20 : decode cX12_same 20 = .ok (.iconst 1, 1) := by decide +kernel
theorem dX12_same_21 : decode cX12_same 21 = .ok (.isub, 1) := by decide +kernel
theorem dX12_same_22 : decode cX12_same 22 = .ok (.invokestatic 148, 3) := by decide +kernel
theorem dX12_same_25 : decode cX12_same 25 = .ok (.ifCond .eq 12, 3) := by decide +kernel
theorem dX12_same_28 : decode cX12_same 28 = .ok (.iload_n 3, 1) := by decide +kernel
theorem dX12_same_29 : decode cX12_same 29 = .ok (.iconst 0, 1) := by decide +kernel
theorem dX12_same_30 : decode cX12_same 30 = .ok (.iconst 2, 1) := by decide +kernel
theorem dX12_same_31 : decode cX12_same 31 = .ok (.invokestatic 148, 3) := by decide +kernel
theorem dX12_same_34 : decode cX12_same 34 = .ok (.ifCond .ne 6, 3) := by decide +kernel
theorem dX12_same_37 : decode cX12_same 37 = .ok (.bipush (-2), 2) := by decide +kernel
theorem dX12_same_39 : decode cX12_same 39 = .ok (.ireturn, 1) := by decide +kernel
theorem dX12_same_40 : decode cX12_same 40 = .ok (.aload_n 0, 1) := by decide +kernel
theorem dX12_same_41 : decode cX12_same 41 = .ok (.invokevirtual 385, 3) := by decide +kernel
theorem dX12_same_44 : decode cX12_same 44 = .ok (.iload_n 3, 1) := by decide +kernel
theorem dX12_same_45 : decode cX12_same 45 = .ok (.ifCond .ne 15, 3) := by decide +kernel
theorem dX12_same_48 : decode cX12_same 48 = .ok (.aload_n 0, 1) := by decide +kernel
theorem dX12_same_49 : decode cX12_same 49 = .ok (.iload_n 1, 1) := by decide +kernel
theorem dX12_same_50 : decode cX12_same 50 = .ok (.iload_n 2, 1) := by decide +kernel
theorem dX12_same_51 : decode cX12_same 51 = .ok (.invokevirtual 382, 3) := by decide +kernel
theorem dX12_same_54 : decode cX12_same 54 = .ok (.ifCond .eq 42, 3) := by decide +kernel
theorem dX12_same_57 : decode cX12_same 57 = .ok (.goto 35, 3) := by decide +kernel
theorem dX12_same_60 : decode cX12_same 60 = .ok (.iload_n 3, 1) := by decide +kernel
theorem dX12_same_61 : decode cX12_same 61 = .ok (.iconst 1, 1) := by decide +kernel
theorem dX12_same_62 : decode cX12_same 62 = .ok (.if_icmp .ne 15, 3) := by decide +kernel
theorem dX12_same_65 : decode cX12_same 65 = .ok (.aload_n 0, 1) := by decide +kernel
theorem dX12_same_66 : decode cX12_same 66 = .ok (.iload_n 1, 1) := by decide +kernel
theorem dX12_same_67 : decode cX12_same 67 = .ok (.iload_n 2, 1) := by decide +kernel
theorem dX12_same_68 : decode cX12_same 68 = .ok (.invokevirtual 379, 3) := by decide +kernel
theorem dX12_same_71 : decode cX12_same 71 = .ok (.ifCond .eq 25, 3) := by decide +kernel
theorem dX12_same_74 : decode cX12_same 74 = .ok (.goto 18, 3) := by decide +kernel
theorem dX12_same_77 : decode cX12_same 77 = .ok (.aload_n 0, 1) := by decide +kernel
theorem dX12_same_78 : decode cX12_same 78 = .ok (.getfield 109, 3) := by decide +kernel
theorem dX12_same_81 : decode cX12_same 81 = .ok (.iload_n 1, 1) := by decide +kernel
theorem dX12_same_82 : decode cX12_same 82 = .ok (.iaload, 1) := by decide +kernel
theorem dX12_same_83 : decode cX12_same 83 = .ok (.aload_n 0, 1) := by decide +kernel
theorem dX12_same_84 : decode cX12_same 84 = .ok (.getfield 109, 3) := by decide +kernel
theorem dX12_same_87 : decode cX12_same 87 = .ok (.iload_n 2, 1) := by decide +kernel
theorem dX12_same_88 : decode cX12_same 88 = .ok (.iaload, 1) := by decide +kernel
theorem dX12_same_89 : decode cX12_same 89 = .ok (.if_icmp .ne 7, 3) := by decide +kernel
theorem dX12_same_92 : decode cX12_same 92 = .ok (.iconst 1, 1) := by decide +kernel
theorem dX12_same_93 : decode cX12_same 93 = .ok (.goto 4, 3) := by decide +kernel
theorem dX12_same_96 : decode cX12_same 96 = .ok (.iconst 0, 1) := by decide +kernel
theorem dX12_same_97 : decode cX12_same 97 = .ok (.ireturn, 1) := by decide +kernel
theorem dX12_hasCopy_0 : decode cX12_hasCopy 0 = .ok (.iconst 0, 1) := by decide +kernel
theorem dX12_hasCopy_1 : decode cX12_hasCopy 1 = .ok (.istore_n 2, 1) := by decide +kernel
theorem dX12_hasCopy_2 : decode cX12_hasCopy 2 = .ok (.iload_n 2, 1) := by decide +kernel
theorem dX12_hasCopy_3 : decode cX12_hasCopy 3 = .ok (.aload_n 0, 1) := by decide +kernel
theorem dX12_hasCopy_4 : decode cX12_hasCopy 4 = .ok (.getfield 376, 3) := by decide +kernel
theorem dX12_hasCopy_7 : decode cX12_hasCopy 7 = .ok (.if_icmp .ge 58, 3) := by decide +kernel
theorem dX12_hasCopy_10 : decode cX12_hasCopy 10 = .ok (.iload_n 2, 1) := by decide +kernel
theorem dX12_hasCopy_11 : decode cX12_hasCopy 11 = .ok (.iconst 1, 1) := by decide +kernel
theorem dX12_hasCopy_12 : decode cX12_hasCopy 12 = .ok (.iadd, 1) := by decide +kernel
theorem dX12_hasCopy_13 : decode cX12_hasCopy 13 = .ok (.istore_n 3, 1) := by decide +kernel
theorem dX12_hasCopy_14 : decode cX12_hasCopy 14 = .ok (.iload_n 3, 1) := by decide +kernel
theorem dX12_hasCopy_15 : decode cX12_hasCopy 15 = .ok (.aload_n 0, 1) := by decide +kernel
theorem dX12_hasCopy_16 : decode cX12_hasCopy 16 = .ok (.getfield 376, 3) := by decide +kernel
theorem dX12_hasCopy_19 : decode cX12_hasCopy 19 = .ok (.if_icmp .ge 40, 3) := by decide +kernel
theorem dX12_hasCopy_22 : decode cX12_hasCopy 22 = .ok (.aload_n 0, 1) := by decide +kernel
theorem dX12_hasCopy_23 : decode cX12_hasCopy 23 = .ok (.getfield 109, 3) := by decide +kernel
theorem dX12_hasCopy_26 : decode cX12_hasCopy 26 = .ok (.iload_n 2, 1) := by decide +kernel
theorem dX12_hasCopy_27 : decode cX12_hasCopy 27 = .ok (.iaload, 1) := by decide +kernel
theorem dX12_hasCopy_28 : decode cX12_hasCopy 28 = .ok (.iload_n 1, 1) := by decide +kernel
theorem dX12_hasCopy_29 : decode cX12_hasCopy 29 = .ok (.if_icmp .ne 24, 3) := by decide +kernel
theorem dX12_hasCopy_32 : decode cX12_hasCopy 32 = .ok (.aload_n 0, 1) := by decide +kernel
theorem dX12_hasCopy_33 : decode cX12_hasCopy 33 = .ok (.getfield 109, 3) := by decide +kernel
theorem dX12_hasCopy_36 : decode cX12_hasCopy 36 = .ok (.iload_n 3, 1) := by decide +kernel
theorem dX12_hasCopy_37 : decode cX12_hasCopy 37 = .ok (.iaload, 1) := by decide +kernel
theorem dX12_hasCopy_38 : decode cX12_hasCopy 38 = .ok (.iload_n 1, 1) := by decide +kernel
theorem dX12_hasCopy_39 : decode cX12_hasCopy 39 = .ok (.if_icmp .ne 14, 3) := by decide +kernel
theorem dX12_hasCopy_42 : decode cX12_hasCopy 42 = .ok (.aload_n 0, 1) := by decide +kernel
theorem dX12_hasCopy_43 : decode cX12_hasCopy 43 = .ok (.iload_n 2, 1) := by decide +kernel
theorem dX12_hasCopy_44 : decode cX12_hasCopy 44 = .ok (.iload_n 3, 1) := by decide +kernel
theorem dX12_hasCopy_45 : decode cX12_hasCopy 45 = .ok (.invokevirtual 379, 3) := by decide +kernel
theorem dX12_hasCopy_48 : decode cX12_hasCopy 48 = .ok (.ifCond .eq 5, 3) := by decide +kernel
theorem dX12_hasCopy_51 : decode cX12_hasCopy 51 = .ok (.iconst 1, 1) := by decide +kernel
theorem dX12_hasCopy_52 : decode cX12_hasCopy 52 = .ok (.ireturn, 1) := by decide +kernel
theorem dX12_hasCopy_53 : decode cX12_hasCopy 53 = .ok (.iinc 3 1, 3) := by decide +kernel
theorem dX12_hasCopy_56 : decode cX12_hasCopy 56 = .ok (.goto (-42), 3) := by decide +kernel
theorem dX12_hasCopy_59 : decode cX12_hasCopy 59 = .ok (.iinc 2 1, 3) := by decide +kernel
theorem dX12_hasCopy_62 : decode cX12_hasCopy 62 = .ok (.goto (-60), 3) := by decide +kernel
theorem dX12_hasCopy_65 : decode cX12_hasCopy 65 = .ok (.iconst 0, 1) := by decide +kernel
theorem dX12_hasCopy_66 : decode cX12_hasCopy 66 = .ok (.ireturn, 1) := by decide +kernel
theorem dX12_things_0 : decode cX12_things 0 = .ok (.iload_n 1, 1) := by decide +kernel
theorem dX12_things_1 : decode cX12_things 1 = .ok (.iconst (-1), 1) := by decide +kernel
theorem dX12_things_2 : decode cX12_things 2 = .ok (.if_icmp .eq 12, 3) := by decide +kernel
theorem dX12_things_5 : decode cX12_things 5 = .ok (.iload_n 1, 1) := by decide +kernel
theorem dX12_things_6 : decode cX12_things 6 = .ok (.bipush (-2), 2) := by decide +kernel
theorem dX12_things_8 : decode cX12_things 8 = .ok (.if_icmp .eq 6, 3) := by decide +kernel
theorem dX12_things_11 : decode cX12_things 11 = .ok (.bipush (-2), 2) := by decide +kernel
theorem dX12_things_13 : decode cX12_things 13 = .ok (.ireturn, 1) := by decide +kernel
theorem dX12_things_14 : decode cX12_things 14 = .ok (.aload_n 0, 1) := by decide +kernel
theorem dX12_things_15 : decode cX12_things 15 = .ok (.invokevirtual 385, 3) := by decide +kernel
theorem dX12_things_18 : decode cX12_things 18 = .ok (.iconst 0, 1) := by decide +kernel
theorem dX12_things_19 : decode cX12_things 19 = .ok (.istore_n 2, 1) := by decide +kernel
theorem dX12_things_20 : decode cX12_things 20 = .ok (.iconst 0, 1) := by decide +kernel
theorem dX12_things_21 : decode cX12_things 21 = .ok (.istore_n 3, 1) := by decide +kernel
theorem dX12_things_22 : decode cX12_things 22 = .ok (.iload_n 3, 1) := by decide +kernel
theorem dX12_things_23 : decode cX12_things 23 = .ok (.aload_n 0, 1) := by decide +kernel
theorem dX12_things_24 : decode cX12_things 24 = .ok (.getfield 376, 3) := by decide +kernel
theorem dX12_things_27 : decode cX12_things 27 = .ok (.if_icmp .ge 40, 3) := by decide +kernel
theorem dX12_things_30 : decode cX12_things 30 = .ok (.iload_n 2, 1) := by decide +kernel
theorem dX12_things_31 : decode cX12_things 31 = .ok (.aload_n 0, 1) := by decide +kernel
theorem dX12_things_32 : decode cX12_things 32 = .ok (.getfield 109, 3) := by decide +kernel
theorem dX12_things_35 : decode cX12_things 35 = .ok (.iload_n 3, 1) := by decide +kernel
theorem dX12_things_36 : decode cX12_things 36 = .ok (.iaload, 1) := by decide +kernel
theorem dX12_things_37 : decode cX12_things 37 = .ok (.iload_n 3, 1) := by decide +kernel
theorem dX12_things_38 : decode cX12_things 38 = .ok (.if_icmp .ne 20, 3) := by decide +kernel
theorem dX12_things_41 : decode cX12_things 41 = .ok (.iload_n 1, 1) := by decide +kernel
theorem dX12_things_42 : decode cX12_things 42 = .ok (.iconst (-1), 1) := by decide +kernel
theorem dX12_things_43 : decode cX12_things 43 = .ok (.if_icmp .eq 11, 3) := by decide +kernel
theorem dX12_things_46 : decode cX12_things 46 = .ok (.aload_n 0, 1) := by decide +kernel
theorem dX12_things_47 : decode cX12_things 47 = .ok (.iload_n 3, 1) := by decide +kernel
theorem dX12_things_48 : decode cX12_things 48 = .ok (.invokevirtual 388, 3) := by decide +kernel
theorem dX12_things_51 : decode cX12_things 51 = .ok (.ifCond .eq 7, 3) := by decide +kernel
theorem dX12_things_54 : decode cX12_things 54 = .ok (.iconst 1, 1) := by decide +kernel
theorem dX12_things_55 : decode cX12_things 55 = .ok (.goto 4, 3) := by decide +kernel
theorem dX12_things_58 : decode cX12_things 58 = .ok (.iconst 0, 1) := by decide +kernel
theorem dX12_things_59 : decode cX12_things 59 = .ok (.iadd, 1) := by decide +kernel
theorem dX12_things_60 : decode cX12_things 60 = .ok (.istore_n 2, 1) := by decide +kernel
theorem dX12_things_61 : decode cX12_things 61 = .ok (.iinc 3 1, 3) := by decide +kernel
theorem dX12_things_64 : decode cX12_things 64 = .ok (.goto (-42), 3) := by decide +kernel
theorem dX12_things_67 : decode cX12_things 67 = .ok (.iload_n 2, 1) := by decide +kernel
theorem dX12_things_68 : decode cX12_things 68 = .ok (.ireturn, 1) := by decide +kernel
theorem dX12_count_0 : decode cX12_count 0 = .ok (.iload_n 1, 1) := by decide +kernel
theorem dX12_count_1 : decode cX12_count 1 = .ok (.tableswitch 118 0 10 #[59, 64, 69, 74, 83, 88, 93, 98, 103, 108, 113], 59) := by decide +kernel
theorem dX12_count_60 : decode cX12_count 60 = .ok (.aload_n 0, 1) := by decide +kernel
theorem dX12_count_61 : decode cX12_count 61 = .ok (.getfield 124, 3) := by decide +kernel
theorem dX12_count_64 : decode cX12_count 64 = .ok (.ireturn, 1) := by decide +kernel
theorem dX12_count_65 : decode cX12_count 65 = .ok (.aload_n 0, 1) := by decide +kernel
theorem dX12_count_66 : decode cX12_count 66 = .ok (.getfield 159, 3) := by decide +kernel
theorem dX12_count_69 : decode cX12_count 69 = .ok (.ireturn, 1) := by decide +kernel
theorem dX12_count_70 : decode cX12_count 70 = .ok (.aload_n 0, 1) := by decide +kernel
theorem dX12_count_71 : decode cX12_count 71 = .ok (.getfield 162, 3) := by decide +kernel
theorem dX12_count_74 : decode cX12_count 74 = .ok (.ireturn, 1) := by decide +kernel
theorem dX12_count_75 : decode cX12_count 75 = .ok (.aload_n 0, 1) := by decide +kernel
theorem dX12_count_76 : decode cX12_count 76 = .ok (.iconst (-1), 1) := by decide +kernel
theorem dX12_count_77 : decode cX12_count 77 = .ok (.invokevirtual 168, 3) := by decide +kernel
theorem dX12_count_80 : decode cX12_count 80 = .ok (.invokestatic 179, 3) := by decide +kernel
theorem dX12_count_83 : decode cX12_count 83 = .ok (.ireturn, 1) := by decide +kernel
theorem dX12_count_84 : decode cX12_count 84 = .ok (.aload_n 0, 1) := by decide +kernel
theorem dX12_count_85 : decode cX12_count 85 = .ok (.getfield 333, 3) := by decide +kernel
theorem dX12_count_88 : decode cX12_count 88 = .ok (.ireturn, 1) := by decide +kernel
theorem dX12_count_89 : decode cX12_count 89 = .ok (.aload_n 0, 1) := by decide +kernel
theorem dX12_count_90 : decode cX12_count 90 = .ok (.getfield 346, 3) := by decide +kernel
theorem dX12_count_93 : decode cX12_count 93 = .ok (.ireturn, 1) := by decide +kernel
theorem dX12_count_94 : decode cX12_count 94 = .ok (.aload_n 0, 1) := by decide +kernel
theorem dX12_count_95 : decode cX12_count 95 = .ok (.getfield 364, 3) := by decide +kernel
theorem dX12_count_98 : decode cX12_count 98 = .ok (.ireturn, 1) := by decide +kernel
theorem dX12_count_99 : decode cX12_count 99 = .ok (.aload_n 0, 1) := by decide +kernel
theorem dX12_count_100 : decode cX12_count 100 = .ok (.getfield 376, 3) := by decide +kernel
theorem dX12_count_103 : decode cX12_count 103 = .ok (.ireturn, 1) := by decide +kernel
theorem dX12_count_104 : decode cX12_count 104 = .ok (.aload_n 0, 1) := by decide +kernel
theorem dX12_count_105 : decode cX12_count 105 = .ok (.getfield 137, 3) := by decide +kernel
theorem dX12_count_108 : decode cX12_count 108 = .ok (.ireturn, 1) := by decide +kernel
theorem dX12_count_109 : decode cX12_count 109 = .ok (.aload_n 0, 1) := by decide +kernel
theorem dX12_count_110 : decode cX12_count 110 = .ok (.getfield 206, 3) := by decide +kernel
theorem dX12_count_113 : decode cX12_count 113 = .ok (.ireturn, 1) := by decide +kernel
theorem dX12_count_114 : decode cX12_count 114 = .ok (.aload_n 0, 1) := by decide +kernel
theorem dX12_count_115 : decode cX12_count 115 = .ok (.getfield 140, 3) := by decide +kernel
theorem dX12_count_118 : decode cX12_count 118 = .ok (.ireturn, 1) := by decide +kernel
theorem dX12_count_119 : decode cX12_count 119 = .ok (.bipush (-2), 2) := by decide +kernel
theorem dX12_count_121 : decode cX12_count 121 = .ok (.ireturn, 1) := by decide +kernel
theorem dX12_isSheet_0 : decode cX12_isSheet 0 = .ok (.iload_n 0, 1) := by decide +kernel
theorem dX12_isSheet_1 : decode cX12_isSheet 1 = .ok (.iconst 0, 1) := by decide +kernel
theorem dX12_isSheet_2 : decode cX12_isSheet 2 = .ok (.iconst 3, 1) := by decide +kernel
theorem dX12_isSheet_3 : decode cX12_isSheet 3 = .ok (.invokestatic 148, 3) := by decide +kernel
theorem dX12_isSheet_6 : decode cX12_isSheet 6 = .ok (.ireturn, 1) := by decide +kernel
theorem dX12_sheet_0 : decode cX12_sheet 0 = .ok (.iload_n 1, 1) := by decide +kernel
theorem dX12_sheet_1 : decode cX12_sheet 1 = .ok (.invokestatic 391, 3) := by decide +kernel
theorem dX12_sheet_4 : decode cX12_sheet 4 = .ok (.ifCond .eq 22, 3) := by decide +kernel
theorem dX12_sheet_7 : decode cX12_sheet 7 = .ok (.iload_n 2, 1) := by decide +kernel
theorem dX12_sheet_8 : decode cX12_sheet 8 = .ok (.iconst (-1), 1) := by decide +kernel
theorem dX12_sheet_9 : decode cX12_sheet 9 = .ok (.iconst 2, 1) := by decide +kernel
theorem dX12_sheet_10 : decode cX12_sheet 10 = .ok (.invokestatic 148, 3) := by decide +kernel
theorem dX12_sheet_13 : decode cX12_sheet 13 = .ok (.ifCond .eq 13, 3) := by decide +kernel
theorem dX12_sheet_16 : decode cX12_sheet 16 = .ok (.iload_n 2, 1) := by decide +kernel
theorem dX12_sheet_17 : decode cX12_sheet 17 = .ok (.ifCond .lt 12, 3) := by decide +kernel
theorem dX12_sheet_20 : decode cX12_sheet 20 = .ok (.iload_n 3, 1) := by decide +kernel
theorem dX12_sheet_21 : decode cX12_sheet 21 = .ok (.bipush 40, 2) := by decide +kernel
theorem dX12_sheet_23 : decode cX12_sheet 23 = .ok (.if_icmp .le 6, 3) := by decide +kernel
theorem dX12_sheet_26 : decode cX12_sheet 26 = .ok (.bipush (-2), 2) := by decide +kernel
theorem dX12_sheet_28 : decode cX12_sheet 28 = .ok (.ireturn, 1) := by decide +kernel
theorem dX12_sheet_29 : decode cX12_sheet 29 = .ok (.iload_n 2, 1) := by decide +kernel
theorem dX12_sheet_30 : decode cX12_sheet 30 = .ok (.ifCond .lt 10, 3) := by decide +kernel
theorem dX12_sheet_33 : decode cX12_sheet 33 = .ok (.iload_n 3, 1) := by decide +kernel
theorem dX12_sheet_34 : decode cX12_sheet 34 = .ok (.ifCond .ge 6, 3) := by decide +kernel
theorem dX12_sheet_37 : decode cX12_sheet 37 = .ok (.bipush (-14), 2) := by decide +kernel
theorem dX12_sheet_39 : decode cX12_sheet 39 = .ok (.ireturn, 1) := by decide +kernel
theorem dX12_sheet_40 : decode cX12_sheet 40 = .ok (.aload_n 0, 1) := by decide +kernel
theorem dX12_sheet_41 : decode cX12_sheet 41 = .ok (.getfield 112, 3) := by decide +kernel
theorem dX12_sheet_44 : decode cX12_sheet 44 = .ok (.iload_n 1, 1) := by decide +kernel
theorem dX12_sheet_45 : decode cX12_sheet 45 = .ok (.iload_n 2, 1) := by decide +kernel
theorem dX12_sheet_46 : decode cX12_sheet 46 = .ok (.ifCond .lt 7, 3) := by decide +kernel
theorem dX12_sheet_49 : decode cX12_sheet 49 = .ok (.iconst 1, 1) := by decide +kernel
theorem dX12_sheet_50 : decode cX12_sheet 50 = .ok (.goto 4, 3) := by decide +kernel
theorem dX12_sheet_53 : decode cX12_sheet 53 = .ok (.iconst 0, 1) := by decide +kernel
theorem dX12_sheet_54 : decode cX12_sheet 54 = .ok (.bastore, 1) := by decide +kernel
theorem dX12_sheet_55 : decode cX12_sheet 55 = .ok (.aload_n 0, 1) := by decide +kernel
theorem dX12_sheet_56 : decode cX12_sheet 56 = .ok (.getfield 115, 3) := by decide +kernel
theorem dX12_sheet_59 : decode cX12_sheet 59 = .ok (.iload_n 1, 1) := by decide +kernel
theorem dX12_sheet_60 : decode cX12_sheet 60 = .ok (.iload_n 2, 1) := by decide +kernel
theorem dX12_sheet_61 : decode cX12_sheet 61 = .ok (.iastore, 1) := by decide +kernel
theorem dX12_sheet_62 : decode cX12_sheet 62 = .ok (.aload_n 0, 1) := by decide +kernel
theorem dX12_sheet_63 : decode cX12_sheet 63 = .ok (.getfield 118, 3) := by decide +kernel
theorem dX12_sheet_66 : decode cX12_sheet 66 = .ok (.iload_n 1, 1) := by decide +kernel
theorem dX12_sheet_67 : decode cX12_sheet 67 = .ok (.iload_n 3, 1) := by decide +kernel
theorem dX12_sheet_68 : decode cX12_sheet 68 = .ok (.iastore, 1) := by decide +kernel
theorem dX12_sheet_69 : decode cX12_sheet 69 = .ok (.iconst 0, 1) := by decide +kernel
theorem dX12_sheet_70 : decode cX12_sheet 70 = .ok (.istore 4, 2) := by decide +kernel
theorem dX12_sheet_72 : decode cX12_sheet 72 = .ok (.iload 4, 2) := by decide +kernel
theorem dX12_sheet_74 : decode cX12_sheet 74 = .ok (.iload_n 3, 1) := by decide +kernel
theorem dX12_sheet_75 : decode cX12_sheet 75 = .ok (.if_icmp .ge 26, 3) := by decide +kernel
theorem dX12_sheet_78 : decode cX12_sheet 78 = .ok (.iload_n 2, 1) := by decide +kernel
theorem dX12_sheet_79 : decode cX12_sheet 79 = .ok (.ifCond .lt 22, 3) := by decide +kernel
theorem dX12_sheet_82 : decode cX12_sheet 82 = .ok (.aload_n 0, 1) := by decide +kernel
theorem dX12_sheet_83 : decode cX12_sheet 83 = .ok (.getfield 121, 3) := by decide +kernel
theorem dX12_sheet_86 : decode cX12_sheet 86 = .ok (.bipush 40, 2) := by decide +kernel
theorem dX12_sheet_88 : decode cX12_sheet 88 = .ok (.iload_n 1, 1) := by decide +kernel
theorem dX12_sheet_89 : decode cX12_sheet 89 = .ok (.imul, 1) := by decide +kernel
theorem dX12_sheet_90 : decode cX12_sheet 90 = .ok (.iload 4, 2) := by decide +kernel
theorem dX12_sheet_92 : decode cX12_sheet 92 = .ok (.iadd, 1) := by decide +kernel
theorem dX12_sheet_93 : decode cX12_sheet 93 = .ok (.iconst 0, 1) := by decide +kernel
theorem dX12_sheet_94 : decode cX12_sheet 94 = .ok (.iastore, 1) := by decide +kernel
theorem dX12_sheet_95 : decode cX12_sheet 95 = .ok (.iinc 4 1, 3) := by decide +kernel
theorem dX12_sheet_98 : decode cX12_sheet 98 = .ok (.goto (-26), 3) := by decide +kernel
theorem dX12_sheet_101 : decode cX12_sheet 101 = .ok (.iconst 1, 1) := by decide +kernel
theorem dX12_sheet_102 : decode cX12_sheet 102 = .ok (.ireturn, 1) := by decide +kernel
theorem dX12_cell_0 : decode cX12_cell 0 = .ok (.iload_n 1, 1) := by decide +kernel
theorem dX12_cell_1 : decode cX12_cell 1 = .ok (.invokestatic 391, 3) := by decide +kernel
theorem dX12_cell_4 : decode cX12_cell 4 = .ok (.ifCond .ne 6, 3) := by decide +kernel
theorem dX12_cell_7 : decode cX12_cell 7 = .ok (.bipush (-2), 2) := by decide +kernel
theorem dX12_cell_9 : decode cX12_cell 9 = .ok (.ireturn, 1) := by decide +kernel
theorem dX12_cell_10 : decode cX12_cell 10 = .ok (.aload_n 0, 1) := by decide +kernel
theorem dX12_cell_11 : decode cX12_cell 11 = .ok (.getfield 112, 3) := by decide +kernel
theorem dX12_cell_14 : decode cX12_cell 14 = .ok (.iload_n 1, 1) := by decide +kernel
theorem dX12_cell_15 : decode cX12_cell 15 = .ok (.baload, 1) := by decide +kernel
theorem dX12_cell_16 : decode cX12_cell 16 = .ok (.ifCond .ne 6, 3) := by decide +kernel
theorem dX12_cell_19 : decode cX12_cell 19 = .ok (.bipush (-11), 2) := by decide +kernel
theorem dX12_cell_21 : decode cX12_cell 21 = .ok (.ireturn, 1) := by decide +kernel
theorem dX12_cell_22 : decode cX12_cell 22 = .ok (.iload_n 2, 1) := by decide +kernel
theorem dX12_cell_23 : decode cX12_cell 23 = .ok (.iconst 0, 1) := by decide +kernel
theorem dX12_cell_24 : decode cX12_cell 24 = .ok (.aload_n 0, 1) := by decide +kernel
theorem dX12_cell_25 : decode cX12_cell 25 = .ok (.getfield 118, 3) := by decide +kernel
theorem dX12_cell_28 : decode cX12_cell 28 = .ok (.iload_n 1, 1) := by decide +kernel
theorem dX12_cell_29 : decode cX12_cell 29 = .ok (.iaload, 1) := by decide +kernel
theorem dX12_cell_30 : decode cX12_cell 30 = .ok (.iconst 1, 1) := by decide +kernel
theorem dX12_cell_31 : decode cX12_cell 31 = .ok (.isub, 1) := by decide +kernel
theorem dX12_cell_32 : decode cX12_cell 32 = .ok (.invokestatic 148, 3) := by decide +kernel
theorem dX12_cell_35 : decode cX12_cell 35 = .ok (.ifCond .ne 6, 3) := by decide +kernel
theorem dX12_cell_38 : decode cX12_cell 38 = .ok (.bipush (-12), 2) := by decide +kernel
theorem dX12_cell_40 : decode cX12_cell 40 = .ok (.ireturn, 1) := by decide +kernel
theorem dX12_cell_41 : decode cX12_cell 41 = .ok (.aload_n 0, 1) := by decide +kernel
theorem dX12_cell_42 : decode cX12_cell 42 = .ok (.getfield 121, 3) := by decide +kernel
theorem dX12_cell_45 : decode cX12_cell 45 = .ok (.bipush 40, 2) := by decide +kernel
theorem dX12_cell_47 : decode cX12_cell 47 = .ok (.iload_n 1, 1) := by decide +kernel
theorem dX12_cell_48 : decode cX12_cell 48 = .ok (.imul, 1) := by decide +kernel
theorem dX12_cell_49 : decode cX12_cell 49 = .ok (.iload_n 2, 1) := by decide +kernel
theorem dX12_cell_50 : decode cX12_cell 50 = .ok (.iadd, 1) := by decide +kernel
theorem dX12_cell_51 : decode cX12_cell 51 = .ok (.aload_n 0, 1) := by decide +kernel
theorem dX12_cell_52 : decode cX12_cell 52 = .ok (.getfield 115, 3) := by decide +kernel
theorem dX12_cell_55 : decode cX12_cell 55 = .ok (.iload_n 1, 1) := by decide +kernel
theorem dX12_cell_56 : decode cX12_cell 56 = .ok (.iaload, 1) := by decide +kernel
theorem dX12_cell_57 : decode cX12_cell 57 = .ok (.ifCond .ne 8, 3) := by decide +kernel
theorem dX12_cell_60 : decode cX12_cell 60 = .ok (.iload_n 3, 1) := by decide +kernel
theorem dX12_cell_61 : decode cX12_cell 61 = .ok (.i2b, 1) := by decide +kernel
theorem dX12_cell_62 : decode cX12_cell 62 = .ok (.goto 19, 3) := by decide +kernel
theorem dX12_cell_65 : decode cX12_cell 65 = .ok (.aload_n 0, 1) := by decide +kernel
theorem dX12_cell_66 : decode cX12_cell 66 = .ok (.getfield 115, 3) := by decide +kernel
theorem dX12_cell_69 : decode cX12_cell 69 = .ok (.iload_n 1, 1) := by decide +kernel
theorem dX12_cell_70 : decode cX12_cell 70 = .ok (.iaload, 1) := by decide +kernel
theorem dX12_cell_71 : decode cX12_cell 71 = .ok (.iconst 1, 1) := by decide +kernel
theorem dX12_cell_72 : decode cX12_cell 72 = .ok (.if_icmp .ne 8, 3) := by decide +kernel
theorem dX12_cell_75 : decode cX12_cell 75 = .ok (.iload_n 3, 1) := by decide +kernel
theorem dX12_cell_76 : decode cX12_cell 76 = .ok (.i2s, 1) := by decide +kernel
theorem dX12_cell_77 : decode cX12_cell 77 = .ok (.goto 4, 3) := by decide +kernel
theorem dX12_cell_80 : decode cX12_cell 80 = .ok (.iload_n 3, 1) := by decide +kernel
theorem dX12_cell_81 : decode cX12_cell 81 = .ok (.iastore, 1) := by decide +kernel
theorem dX12_cell_82 : decode cX12_cell 82 = .ok (.iconst 1, 1) := by decide +kernel
theorem dX12_cell_83 : decode cX12_cell 83 = .ok (.ireturn, 1) := by decide +kernel
theorem dX12_copy_0 : decode cX12_copy 0 = .ok (.iload_n 1, 1) := by decide +kernel
theorem dX12_copy_1 : decode cX12_copy 1 = .ok (.invokestatic 391, 3) := by decide +kernel
theorem dX12_copy_4 : decode cX12_copy 4 = .ok (.ifCond .eq 10, 3) := by decide +kernel
theorem dX12_copy_7 : decode cX12_copy 7 = .ok (.iload_n 3, 1) := by decide +kernel
theorem dX12_copy_8 : decode cX12_copy 8 = .ok (.invokestatic 391, 3) := by decide +kernel
theorem dX12_copy_11 : decode cX12_copy 11 = .ok (.ifCond .ne 6, 3) := by decide +kernel
theorem dX12_copy_14 : decode cX12_copy 14 = .ok (.bipush (-2), 2) := by decide +kernel
theorem dX12_copy_16 : decode cX12_copy 16 = .ok (.ireturn, 1) := by decide +kernel
theorem dX12_copy_17 : decode cX12_copy 17 = .ok (.aload_n 0, 1) := by decide +kernel
theorem dX12_copy_18 : decode cX12_copy 18 = .ok (.getfield 112, 3) := by decide +kernel
theorem dX12_copy_21 : decode cX12_copy 21 = .ok (.iload_n 1, 1) := by decide +kernel
theorem dX12_copy_22 : decode cX12_copy 22 = .ok (.baload, 1) := by decide +kernel
theorem dX12_copy_23 : decode cX12_copy 23 = .ok (.ifCond .eq 12, 3) := by decide +kernel
theorem dX12_copy_26 : decode cX12_copy 26 = .ok (.aload_n 0, 1) := by decide +kernel
theorem dX12_copy_27 : decode cX12_copy 27 = .ok (.getfield 112, 3) := by decide +kernel
theorem dX12_copy_30 : decode cX12_copy 30 = .ok (.iload_n 3, 1) := by decide +kernel
theorem dX12_copy_31 : decode cX12_copy 31 = .ok (.baload, 1) := by decide +kernel
theorem dX12_copy_32 : decode cX12_copy 32 = .ok (.ifCond .ne 6, 3) := by decide +kernel
theorem dX12_copy_35 : decode cX12_copy 35 = .ok (.bipush (-11), 2) := by decide +kernel
theorem dX12_copy_37 : decode cX12_copy 37 = .ok (.ireturn, 1) := by decide +kernel
theorem dX12_copy_38 : decode cX12_copy 38 = .ok (.aload_n 0, 1) := by decide +kernel
theorem dX12_copy_39 : decode cX12_copy 39 = .ok (.getfield 115, 3) := by decide +kernel
theorem dX12_copy_42 : decode cX12_copy 42 = .ok (.iload_n 1, 1) := by decide +kernel
theorem dX12_copy_43 : decode cX12_copy 43 = .ok (.iaload, 1) := by decide +kernel
theorem dX12_copy_44 : decode cX12_copy 44 = .ok (.aload_n 0, 1) := by decide +kernel
theorem dX12_copy_45 : decode cX12_copy 45 = .ok (.getfield 115, 3) := by decide +kernel
theorem dX12_copy_48 : decode cX12_copy 48 = .ok (.iload_n 3, 1) := by decide +kernel
theorem dX12_copy_49 : decode cX12_copy 49 = .ok (.iaload, 1) := by decide +kernel
theorem dX12_copy_50 : decode cX12_copy 50 = .ok (.if_icmp .eq 6, 3) := by decide +kernel
theorem dX12_copy_53 : decode cX12_copy 53 = .ok (.bipush (-13), 2) := by decide +kernel
theorem dX12_copy_55 : decode cX12_copy 55 = .ok (.ireturn, 1) := by decide +kernel
theorem dX12_copy_56 : decode cX12_copy 56 = .ok (.iload 5, 2) := by decide +kernel
theorem dX12_copy_58 : decode cX12_copy 58 = .ok (.ifCond .lt 39, 3) := by decide +kernel
theorem dX12_copy_61 : decode cX12_copy 61 = .ok (.iload_n 2, 1) := by decide +kernel
theorem dX12_copy_62 : decode cX12_copy 62 = .ok (.ifCond .lt 35, 3) := by decide +kernel
theorem dX12_copy_65 : decode cX12_copy 65 = .ok (.iload 4, 2) := by decide +kernel
theorem dX12_copy_67 : decode cX12_copy 67 = .ok (.ifCond .lt 30, 3) := by decide +kernel
theorem dX12_copy_70 : decode cX12_copy 70 = .ok (.iload_n 2, 1) := by decide +kernel
theorem dX12_copy_71 : decode cX12_copy 71 = .ok (.aload_n 0, 1) := by decide +kernel
theorem dX12_copy_72 : decode cX12_copy 72 = .ok (.getfield 118, 3) := by decide +kernel
theorem dX12_copy_75 : decode cX12_copy 75 = .ok (.iload_n 1, 1) := by decide +kernel
theorem dX12_copy_76 : decode cX12_copy 76 = .ok (.iaload, 1) := by decide +kernel
theorem dX12_copy_77 : decode cX12_copy 77 = .ok (.iload 5, 2) := by decide +kernel
theorem dX12_copy_79 : decode cX12_copy 79 = .ok (.isub, 1) := by decide +kernel
theorem dX12_copy_80 : decode cX12_copy 80 = .ok (.if_icmp .gt 17, 3) := by decide +kernel
theorem dX12_copy_83 : decode cX12_copy 83 = .ok (.iload 4, 2) := by decide +kernel
theorem dX12_copy_85 : decode cX12_copy 85 = .ok (.aload_n 0, 1) := by decide +kernel
theorem dX12_copy_86 : decode cX12_copy 86 = .ok (.getfield 118, 3) := by decide +kernel
theorem dX12_copy_89 : decode cX12_copy 89 = .ok (.iload_n 3, 1) := by decide +kernel
theorem dX12_copy_90 : decode cX12_copy 90 = .ok (.iaload, 1) := by decide +kernel
theorem dX12_copy_91 : decode cX12_copy 91 = .ok (.iload 5, 2) := by decide +kernel
theorem dX12_copy_93 : decode cX12_copy 93 = .ok (.isub, 1) := by decide +kernel
theorem dX12_copy_94 : decode cX12_copy 94 = .ok (.if_icmp .le 6, 3) := by decide +kernel
theorem dX12_copy_97 : decode cX12_copy 97 = .ok (.bipush (-12), 2) := by decide +kernel
theorem dX12_copy_99 : decode cX12_copy 99 = .ok (.ireturn, 1) := by decide +kernel
theorem dX12_copy_100 : decode cX12_copy 100 = .ok (.iconst 0, 1) := by decide +kernel
theorem dX12_copy_101 : decode cX12_copy 101 = .ok (.istore 6, 2) := by decide +kernel
theorem dX12_copy_103 : decode cX12_copy 103 = .ok (.iload 6, 2) := by decide +kernel
theorem dX12_copy_105 : decode cX12_copy 105 = .ok (.iload 5, 2) := by decide +kernel
theorem dX12_copy_107 : decode cX12_copy 107 = .ok (.if_icmp .ge 49, 3) := by decide +kernel
theorem dX12_copy_110 : decode cX12_copy 110 = .ok (.iload_n 1, 1) := by decide +kernel
theorem dX12_copy_111 : decode cX12_copy 111 = .ok (.iload_n 3, 1) := by decide +kernel
theorem dX12_copy_112 : decode cX12_copy 112 = .ok (.if_icmp .ne 9, 3) := by decide +kernel
theorem dX12_copy_115 : decode cX12_copy 115 = .ok (.iload_n 2, 1) := by decide +kernel
theorem dX12_copy_116 : decode cX12_copy 116 = .ok (.iload 4, 2) := by decide +kernel
theorem dX12_copy_118 : decode cX12_copy 118 = .ok (.if_icmp .lt 38, 3) := by decide +kernel
theorem dX12_copy_121 : decode cX12_copy 121 = .ok (.aload_n 0, 1) := by decide +kernel
theorem dX12_copy_122 : decode cX12_copy 122 = .ok (.getfield 121, 3) := by decide +kernel
theorem dX12_copy_125 : decode cX12_copy 125 = .ok (.bipush 40, 2) := by decide +kernel
theorem dX12_copy_127 : decode cX12_copy 127 = .ok (.iload_n 3, 1) := by decide +kernel
theorem dX12_copy_128 : decode cX12_copy 128 = .ok (.imul, 1) := by decide +kernel
theorem dX12_copy_129 : decode cX12_copy 129 = .ok (.iload 4, 2) := by decide +kernel
theorem dX12_copy_131 : decode cX12_copy 131 = .ok (.iadd, 1) := by decide +kernel
theorem dX12_copy_132 : decode cX12_copy 132 = .ok (.iload 6, 2) := by decide +kernel
theorem dX12_copy_134 : decode cX12_copy 134 = .ok (.iadd, 1) := by decide +kernel
theorem dX12_copy_135 : decode cX12_copy 135 = .ok (.aload_n 0, 1) := by decide +kernel
theorem dX12_copy_136 : decode cX12_copy 136 = .ok (.getfield 121, 3) := by decide +kernel
theorem dX12_copy_139 : decode cX12_copy 139 = .ok (.bipush 40, 2) := by decide +kernel
theorem dX12_copy_141 : decode cX12_copy 141 = .ok (.iload_n 1, 1) := by decide +kernel
theorem dX12_copy_142 : decode cX12_copy 142 = .ok (.imul, 1) := by decide +kernel
theorem dX12_copy_143 : decode cX12_copy 143 = .ok (.iload_n 2, 1) := by decide +kernel
theorem dX12_copy_144 : decode cX12_copy 144 = .ok (.iadd, 1) := by decide +kernel
theorem dX12_copy_145 : decode cX12_copy 145 = .ok (.iload 6, 2) := by decide +kernel
theorem dX12_copy_147 : decode cX12_copy 147 = .ok (.iadd, 1) := by decide +kernel
theorem dX12_copy_148 : decode cX12_copy 148 = .ok (.iaload, 1) := by decide +kernel
theorem dX12_copy_149 : decode cX12_copy 149 = .ok (.iastore, 1) := by decide +kernel
theorem dX12_copy_150 : decode cX12_copy 150 = .ok (.iinc 6 1, 3) := by decide +kernel
theorem dX12_copy_153 : decode cX12_copy 153 = .ok (.goto (-50), 3) := by decide +kernel
theorem dX12_copy_156 : decode cX12_copy 156 = .ok (.iload 5, 2) := by decide +kernel
theorem dX12_copy_158 : decode cX12_copy 158 = .ok (.iconst 1, 1) := by decide +kernel
theorem dX12_copy_159 : decode cX12_copy 159 = .ok (.isub, 1) := by decide +kernel
theorem dX12_copy_160 : decode cX12_copy 160 = .ok (.istore 6, 2) := by decide +kernel
theorem dX12_copy_162 : decode cX12_copy 162 = .ok (.iload 6, 2) := by decide +kernel
theorem dX12_copy_164 : decode cX12_copy 164 = .ok (.ifCond .lt 49, 3) := by decide +kernel
theorem dX12_copy_167 : decode cX12_copy 167 = .ok (.iload_n 1, 1) := by decide +kernel
theorem dX12_copy_168 : decode cX12_copy 168 = .ok (.iload_n 3, 1) := by decide +kernel
theorem dX12_copy_169 : decode cX12_copy 169 = .ok (.if_icmp .ne 44, 3) := by decide +kernel
theorem dX12_copy_172 : decode cX12_copy 172 = .ok (.iload_n 2, 1) := by decide +kernel
theorem dX12_copy_173 : decode cX12_copy 173 = .ok (.iload 4, 2) := by decide +kernel
theorem dX12_copy_175 : decode cX12_copy 175 = .ok (.if_icmp .ge 38, 3) := by decide +kernel
theorem dX12_copy_178 : decode cX12_copy 178 = .ok (.aload_n 0, 1) := by decide +kernel
theorem dX12_copy_179 : decode cX12_copy 179 = .ok (.getfield 121, 3) := by decide +kernel
theorem dX12_copy_182 : decode cX12_copy 182 = .ok (.bipush 40, 2) := by decide +kernel
theorem dX12_copy_184 : decode cX12_copy 184 = .ok (.iload_n 3, 1) := by decide +kernel
theorem dX12_copy_185 : decode cX12_copy 185 = .ok (.imul, 1) := by decide +kernel
theorem dX12_copy_186 : decode cX12_copy 186 = .ok (.iload 4, 2) := by decide +kernel
theorem dX12_copy_188 : decode cX12_copy 188 = .ok (.iadd, 1) := by decide +kernel
theorem dX12_copy_189 : decode cX12_copy 189 = .ok (.iload 6, 2) := by decide +kernel
theorem dX12_copy_191 : decode cX12_copy 191 = .ok (.iadd, 1) := by decide +kernel
theorem dX12_copy_192 : decode cX12_copy 192 = .ok (.aload_n 0, 1) := by decide +kernel
theorem dX12_copy_193 : decode cX12_copy 193 = .ok (.getfield 121, 3) := by decide +kernel
theorem dX12_copy_196 : decode cX12_copy 196 = .ok (.bipush 40, 2) := by decide +kernel
theorem dX12_copy_198 : decode cX12_copy 198 = .ok (.iload_n 1, 1) := by decide +kernel
theorem dX12_copy_199 : decode cX12_copy 199 = .ok (.imul, 1) := by decide +kernel
theorem dX12_copy_200 : decode cX12_copy 200 = .ok (.iload_n 2, 1) := by decide +kernel
theorem dX12_copy_201 : decode cX12_copy 201 = .ok (.iadd, 1) := by decide +kernel
theorem dX12_copy_202 : decode cX12_copy 202 = .ok (.iload 6, 2) := by decide +kernel
theorem dX12_copy_204 : decode cX12_copy 204 = .ok (.iadd, 1) := by decide +kernel
theorem dX12_copy_205 : decode cX12_copy 205 = .ok (.iaload, 1) := by decide +kernel
theorem dX12_copy_206 : decode cX12_copy 206 = .ok (.iastore, 1) := by decide +kernel
theorem dX12_copy_207 : decode cX12_copy 207 = .ok (.iinc 6 (-1), 3) := by decide +kernel
theorem dX12_copy_210 : decode cX12_copy 210 = .ok (.goto (-48), 3) := by decide +kernel
theorem dX12_copy_213 : decode cX12_copy 213 = .ok (.iload 5, 2) := by decide +kernel
theorem dX12_copy_215 : decode cX12_copy 215 = .ok (.ireturn, 1) := by decide +kernel
theorem dX12_papers_0 : decode cX12_papers 0 = .ok (.iload_n 1, 1) := by decide +kernel
theorem dX12_papers_1 : decode cX12_papers 1 = .ok (.invokestatic 391, 3) := by decide +kernel
theorem dX12_papers_4 : decode cX12_papers 4 = .ok (.ifCond .eq 23, 3) := by decide +kernel
theorem dX12_papers_7 : decode cX12_papers 7 = .ok (.iload_n 2, 1) := by decide +kernel
theorem dX12_papers_8 : decode cX12_papers 8 = .ok (.iconst 0, 1) := by decide +kernel
theorem dX12_papers_9 : decode cX12_papers 9 = .ok (.iconst 2, 1) := by decide +kernel
theorem dX12_papers_10 : decode cX12_papers 10 = .ok (.invokestatic 148, 3) := by decide +kernel
theorem dX12_papers_13 : decode cX12_papers 13 = .ok (.ifCond .eq 14, 3) := by decide +kernel
theorem dX12_papers_16 : decode cX12_papers 16 = .ok (.iload 4, 2) := by decide +kernel
theorem dX12_papers_18 : decode cX12_papers 18 = .ok (.iconst 0, 1) := by decide +kernel
theorem dX12_papers_19 : decode cX12_papers 19 = .ok (.bipush 8, 2) := by decide +kernel
theorem dX12_papers_21 : decode cX12_papers 21 = .ok (.invokestatic 148, 3) := by decide +kernel
theorem dX12_papers_24 : decode cX12_papers 24 = .ok (.ifCond .ne 6, 3) := by decide +kernel
theorem dX12_papers_27 : decode cX12_papers 27 = .ok (.bipush (-2), 2) := by decide +kernel
theorem dX12_papers_29 : decode cX12_papers 29 = .ok (.ireturn, 1) := by decide +kernel
theorem dX12_papers_30 : decode cX12_papers 30 = .ok (.aload_n 0, 1) := by decide +kernel
theorem dX12_papers_31 : decode cX12_papers 31 = .ok (.getfield 112, 3) := by decide +kernel
theorem dX12_papers_34 : decode cX12_papers 34 = .ok (.iload_n 1, 1) := by decide +kernel
theorem dX12_papers_35 : decode cX12_papers 35 = .ok (.baload, 1) := by decide +kernel
theorem dX12_papers_36 : decode cX12_papers 36 = .ok (.ifCond .eq 16, 3) := by decide +kernel
theorem dX12_papers_39 : decode cX12_papers 39 = .ok (.aload_n 0, 1) := by decide +kernel
theorem dX12_papers_40 : decode cX12_papers 40 = .ok (.getfield 115, 3) := by decide +kernel
theorem dX12_papers_43 : decode cX12_papers 43 = .ok (.iload_n 1, 1) := by decide +kernel
theorem dX12_papers_44 : decode cX12_papers 44 = .ok (.iaload, 1) := by decide +kernel
theorem dX12_papers_45 : decode cX12_papers 45 = .ok (.iload_n 2, 1) := by decide +kernel
theorem dX12_papers_46 : decode cX12_papers 46 = .ok (.if_icmp .eq 6, 3) := by decide +kernel
theorem dX12_papers_49 : decode cX12_papers 49 = .ok (.bipush (-13), 2) := by decide +kernel
theorem dX12_papers_51 : decode cX12_papers 51 = .ok (.ireturn, 1) := by decide +kernel
theorem dX12_papers_52 : decode cX12_papers 52 = .ok (.aload_n 0, 1) := by decide +kernel
theorem dX12_papers_53 : decode cX12_papers 53 = .ok (.getfield 112, 3) := by decide +kernel
theorem dX12_papers_56 : decode cX12_papers 56 = .ok (.iload_n 1, 1) := by decide +kernel
theorem dX12_papers_57 : decode cX12_papers 57 = .ok (.baload, 1) := by decide +kernel
theorem dX12_papers_58 : decode cX12_papers 58 = .ok (.ifCond .ne 6, 3) := by decide +kernel
theorem dX12_papers_61 : decode cX12_papers 61 = .ok (.bipush (-11), 2) := by decide +kernel
theorem dX12_papers_63 : decode cX12_papers 63 = .ok (.ireturn, 1) := by decide +kernel
theorem dX12_papers_64 : decode cX12_papers 64 = .ok (.iload 4, 2) := by decide +kernel
theorem dX12_papers_66 : decode cX12_papers 66 = .ok (.ifCond .le 10, 3) := by decide +kernel
theorem dX12_papers_69 : decode cX12_papers 69 = .ok (.iload_n 3, 1) := by decide +kernel
theorem dX12_papers_70 : decode cX12_papers 70 = .ok (.ifCond .ge 6, 3) := by decide +kernel
theorem dX12_papers_73 : decode cX12_papers 73 = .ok (.bipush (-12), 2) := by decide +kernel
theorem dX12_papers_75 : decode cX12_papers 75 = .ok (.ireturn, 1) := by decide +kernel
theorem dX12_papers_76 : decode cX12_papers 76 = .ok (.iconst 0, 1) := by decide +kernel
theorem dX12_papers_77 : decode cX12_papers 77 = .ok (.istore 5, 2) := by decide +kernel
theorem dX12_papers_79 : decode cX12_papers 79 = .ok (.iconst 0, 1) := by decide +kernel
theorem dX12_papers_80 : decode cX12_papers 80 = .ok (.istore 6, 2) := by decide +kernel
theorem dX12_papers_82 : decode cX12_papers 82 = .ok (.iload 6, 2) := by decide +kernel
theorem dX12_papers_84 : decode cX12_papers 84 = .ok (.iload 4, 2) := by decide +kernel
theorem dX12_papers_86 : decode cX12_papers 86 = .ok (.if_icmp .ge 95, 3) := by decide +kernel
theorem dX12_papers_89 : decode cX12_papers 89 = .ok (.iload_n 3, 1) := by decide +kernel
theorem dX12_papers_90 : decode cX12_papers 90 = .ok (.aload_n 0, 1) := by decide +kernel
theorem dX12_papers_91 : decode cX12_papers 91 = .ok (.getfield 118, 3) := by decide +kernel
theorem dX12_papers_94 : decode cX12_papers 94 = .ok (.iload_n 1, 1) := by decide +kernel
theorem dX12_papers_95 : decode cX12_papers 95 = .ok (.iaload, 1) := by decide +kernel
theorem dX12_papers_96 : decode cX12_papers 96 = .ok (.iconst 5, 1) := by decide +kernel
theorem dX12_papers_97 : decode cX12_papers 97 = .ok (.iload 6, 2) := by decide +kernel
theorem dX12_papers_99 : decode cX12_papers 99 = .ok (.imul, 1) := by decide +kernel
theorem dX12_papers_100 : decode cX12_papers 100 = .ok (.isub, 1) := by decide +kernel
theorem dX12_papers_101 : decode cX12_papers 101 = .ok (.iconst 5, 1) := by decide +kernel
theorem dX12_papers_102 : decode cX12_papers 102 = .ok (.isub, 1) := by decide +kernel
theorem dX12_papers_103 : decode cX12_papers 103 = .ok (.if_icmp .le 6, 3) := by decide +kernel
theorem dX12_papers_106 : decode cX12_papers 106 = .ok (.bipush (-12), 2) := by decide +kernel
theorem dX12_papers_108 : decode cX12_papers 108 = .ok (.ireturn, 1) := by decide +kernel
theorem dX12_papers_109 : decode cX12_papers 109 = .ok (.bipush 40, 2) := by decide +kernel
theorem dX12_papers_111 : decode cX12_papers 111 = .ok (.iload_n 1, 1) := by decide +kernel
theorem dX12_papers_112 : decode cX12_papers 112 = .ok (.imul, 1) := by decide +kernel
theorem dX12_papers_113 : decode cX12_papers 113 = .ok (.iload_n 3, 1) := by decide +kernel
theorem dX12_papers_114 : decode cX12_papers 114 = .ok (.iadd, 1) := by decide +kernel
theorem dX12_papers_115 : decode cX12_papers 115 = .ok (.iconst 5, 1) := by decide +kernel
theorem dX12_papers_116 : decode cX12_papers 116 = .ok (.iload 6, 2) := by decide +kernel
theorem dX12_papers_118 : decode cX12_papers 118 = .ok (.imul, 1) := by decide +kernel
theorem dX12_papers_119 : decode cX12_papers 119 = .ok (.iadd, 1) := by decide +kernel
theorem dX12_papers_120 : decode cX12_papers 120 = .ok (.istore 7, 2) := by decide +kernel
theorem dX12_papers_122 : decode cX12_papers 122 = .ok (.aload_n 0, 1) := by decide +kernel
theorem dX12_papers_123 : decode cX12_papers 123 = .ok (.aload_n 0, 1) := by decide +kernel
theorem dX12_papers_124 : decode cX12_papers 124 = .ok (.getfield 121, 3) := by decide +kernel
theorem dX12_papers_127 : decode cX12_papers 127 = .ok (.iload 7, 2) := by decide +kernel
theorem dX12_papers_129 : decode cX12_papers 129 = .ok (.iaload, 1) := by decide +kernel
theorem dX12_papers_130 : decode cX12_papers 130 = .ok (.aload_n 0, 1) := by decide +kernel
theorem dX12_papers_131 : decode cX12_papers 131 = .ok (.getfield 121, 3) := by decide +kernel
theorem dX12_papers_134 : decode cX12_papers 134 = .ok (.iload 7, 2) := by decide +kernel
theorem dX12_papers_136 : decode cX12_papers 136 = .ok (.iconst 1, 1) := by decide +kernel
theorem dX12_papers_137 : decode cX12_papers 137 = .ok (.iadd, 1) := by decide +kernel
theorem dX12_papers_138 : decode cX12_papers 138 = .ok (.iaload, 1) := by decide +kernel
theorem dX12_papers_139 : decode cX12_papers 139 = .ok (.aload_n 0, 1) := by decide +kernel
theorem dX12_papers_140 : decode cX12_papers 140 = .ok (.getfield 121, 3) := by decide +kernel
theorem dX12_papers_143 : decode cX12_papers 143 = .ok (.iload 7, 2) := by decide +kernel
theorem dX12_papers_145 : decode cX12_papers 145 = .ok (.iconst 2, 1) := by decide +kernel
theorem dX12_papers_146 : decode cX12_papers 146 = .ok (.iadd, 1) := by decide +kernel
theorem dX12_papers_147 : decode cX12_papers 147 = .ok (.iaload, 1) := by decide +kernel
theorem dX12_papers_148 : decode cX12_papers 148 = .ok (.aload_n 0, 1) := by decide +kernel
theorem dX12_papers_149 : decode cX12_papers 149 = .ok (.getfield 121, 3) := by decide +kernel
theorem dX12_papers_152 : decode cX12_papers 152 = .ok (.iload 7, 2) := by decide +kernel
theorem dX12_papers_154 : decode cX12_papers 154 = .ok (.iconst 3, 1) := by decide +kernel
theorem dX12_papers_155 : decode cX12_papers 155 = .ok (.iadd, 1) := by decide +kernel
theorem dX12_papers_156 : decode cX12_papers 156 = .ok (.iaload, 1) := by decide +kernel
theorem dX12_papers_157 : decode cX12_papers 157 = .ok (.aload_n 0, 1) := by decide +kernel
theorem dX12_papers_158 : decode cX12_papers 158 = .ok (.getfield 121, 3) := by decide +kernel
theorem dX12_papers_161 : decode cX12_papers 161 = .ok (.iload 7, 2) := by decide +kernel
theorem dX12_papers_163 : decode cX12_papers 163 = .ok (.iconst 4, 1) := by decide +kernel
theorem dX12_papers_164 : decode cX12_papers 164 = .ok (.iadd, 1) := by decide +kernel
theorem dX12_papers_165 : decode cX12_papers 165 = .ok (.iaload, 1) := by decide +kernel
theorem dX12_papers_166 : decode cX12_papers 166 = .ok (.invokevirtual 394, 3) := by decide +kernel
theorem dX12_papers_169 : decode cX12_papers 169 = .ok (.ifCond .lt 6, 3) := by decide +kernel
theorem dX12_papers_172 : decode cX12_papers 172 = .ok (.iinc 5 1, 3) := by decide +kernel
theorem dX12_papers_175 : decode cX12_papers 175 = .ok (.iinc 6 1, 3) := by decide +kernel
theorem dX12_papers_178 : decode cX12_papers 178 = .ok (.goto (-96), 3) := by decide +kernel
theorem dX12_papers_181 : decode cX12_papers 181 = .ok (.iload 5, 2) := by decide +kernel
theorem dX12_papers_183 : decode cX12_papers 183 = .ok (.ireturn, 1) := by decide +kernel
theorem dX12_over_0 : decode cX12_over 0 = .ok (.iload_n 0, 1) := by decide +kernel
theorem dX12_over_1 : decode cX12_over 1 = .ok (.ifCond .ne 7, 3) := by decide +kernel
theorem dX12_over_4 : decode cX12_over 4 = .ok (.iconst (-1), 1) := by decide +kernel
theorem dX12_over_5 : decode cX12_over 5 = .ok (.goto 22, 3) := by decide +kernel
theorem dX12_over_8 : decode cX12_over 8 = .ok (.iload_n 0, 1) := by decide +kernel
theorem dX12_over_9 : decode cX12_over 9 = .ok (.iconst 3, 1) := by decide +kernel
theorem dX12_over_10 : decode cX12_over 10 = .ok (.if_icmp .ne 7, 3) := by decide +kernel
theorem dX12_over_13 : decode cX12_over 13 = .ok (.iconst 1, 1) := by decide +kernel
theorem dX12_over_14 : decode cX12_over 14 = .ok (.goto 13, 3) := by decide +kernel
theorem dX12_over_17 : decode cX12_over 17 = .ok (.iload_n 0, 1) := by decide +kernel
theorem dX12_over_18 : decode cX12_over 18 = .ok (.iconst 4, 1) := by decide +kernel
theorem dX12_over_19 : decode cX12_over 19 = .ok (.if_icmp .ne 7, 3) := by decide +kernel
theorem dX12_over_22 : decode cX12_over 22 = .ok (.iconst 2, 1) := by decide +kernel
theorem dX12_over_23 : decode cX12_over 23 = .ok (.goto 4, 3) := by decide +kernel
theorem dX12_over_26 : decode cX12_over 26 = .ok (.iconst 0, 1) := by decide +kernel
theorem dX12_over_27 : decode cX12_over 27 = .ok (.ireturn, 1) := by decide +kernel
theorem dX12_taken_0 : decode cX12_taken 0 = .ok (.iload_n 2, 1) := by decide +kernel
theorem dX12_taken_1 : decode cX12_taken 1 = .ok (.iconst 0, 1) := by decide +kernel
theorem dX12_taken_2 : decode cX12_taken 2 = .ok (.iconst 5, 1) := by decide +kernel
theorem dX12_taken_3 : decode cX12_taken 3 = .ok (.invokestatic 148, 3) := by decide +kernel
theorem dX12_taken_6 : decode cX12_taken 6 = .ok (.ifCond .ne 6, 3) := by decide +kernel
theorem dX12_taken_9 : decode cX12_taken 9 = .ok (.bipush (-2), 2) := by decide +kernel
theorem dX12_taken_11 : decode cX12_taken 11 = .ok (.ireturn, 1) := by decide +kernel
theorem dX12_taken_12 : decode cX12_taken 12 = .ok (.aload_n 0, 1) := by decide +kernel
theorem dX12_taken_13 : decode cX12_taken 13 = .ok (.iload_n 1, 1) := by decide +kernel
theorem dX12_taken_14 : decode cX12_taken 14 = .ok (.invokevirtual 165, 3) := by decide +kernel
theorem dX12_taken_17 : decode cX12_taken 17 = .ok (.ifCond .ne 6, 3) := by decide +kernel
theorem dX12_taken_20 : decode cX12_taken 20 = .ok (.bipush (-11), 2) := by decide +kernel
theorem dX12_taken_22 : decode cX12_taken 22 = .ok (.ireturn, 1) := by decide +kernel
theorem dX12_taken_23 : decode cX12_taken 23 = .ok (.aload_n 0, 1) := by decide +kernel
theorem dX12_taken_24 : decode cX12_taken 24 = .ok (.getfield 26, 3) := by decide +kernel
theorem dX12_taken_27 : decode cX12_taken 27 = .ok (.iload_n 1, 1) := by decide +kernel
theorem dX12_taken_28 : decode cX12_taken 28 = .ok (.iaload, 1) := by decide +kernel
theorem dX12_taken_29 : decode cX12_taken 29 = .ok (.istore_n 3, 1) := by decide +kernel
theorem dX12_taken_30 : decode cX12_taken 30 = .ok (.iload_n 3, 1) := by decide +kernel
theorem dX12_taken_31 : decode cX12_taken 31 = .ok (.iconst (-1), 1) := by decide +kernel
theorem dX12_taken_32 : decode cX12_taken 32 = .ok (.if_icmp .eq 16, 3) := by decide +kernel
theorem dX12_taken_35 : decode cX12_taken 35 = .ok (.iload_n 3, 1) := by decide +kernel
theorem dX12_taken_36 : decode cX12_taken 36 = .ok (.iload_n 2, 1) := by decide +kernel
theorem dX12_taken_37 : decode cX12_taken 37 = .ok (.if_icmp .eq 11, 3) := by decide +kernel
theorem dX12_taken_40 : decode cX12_taken 40 = .ok (.iload_n 3, 1) := by decide +kernel
theorem dX12_taken_41 : decode cX12_taken 41 = .ok (.invokestatic 397, 3) := by decide +kernel
theorem dX12_taken_44 : decode cX12_taken 44 = .ok (.istore_n 3, 1) := by decide +kernel
theorem dX12_taken_45 : decode cX12_taken 45 = .ok (.goto (-15), 3) := by decide +kernel
theorem dX12_taken_48 : decode cX12_taken 48 = .ok (.iload_n 3, 1) := by decide +kernel
theorem dX12_taken_49 : decode cX12_taken 49 = .ok (.iload_n 2, 1) := by decide +kernel
theorem dX12_taken_50 : decode cX12_taken 50 = .ok (.if_icmp .ne 12, 3) := by decide +kernel
theorem dX12_taken_53 : decode cX12_taken 53 = .ok (.aload_n 0, 1) := by decide +kernel
theorem dX12_taken_54 : decode cX12_taken 54 = .ok (.getfield 29, 3) := by decide +kernel
theorem dX12_taken_57 : decode cX12_taken 57 = .ok (.iload_n 1, 1) := by decide +kernel
theorem dX12_taken_58 : decode cX12_taken 58 = .ok (.iaload, 1) := by decide +kernel
theorem dX12_taken_59 : decode cX12_taken 59 = .ok (.goto 5, 3) := by decide +kernel
theorem dX12_taken_62 : decode cX12_taken 62 = .ok (.bipush (-13), 2) := by decide +kernel
theorem dX12_taken_64 : decode cX12_taken 64 = .ok (.ireturn, 1) := by decide +kernel
theorem dJ6_numberOfTrailingZeros_0f7a4_0 : decode cJ6_numberOfTrailingZeros_0f7a4 0 = .ok (.iload_n 0, 1) := by decide +kernel
theorem dJ6_numberOfTrailingZeros_0f7a4_1 : decode cJ6_numberOfTrailingZeros_0f7a4 1 = .ok (.iconst (-1), 1) := by decide +kernel
theorem dJ6_numberOfTrailingZeros_0f7a4_2 : decode cJ6_numberOfTrailingZeros_0f7a4 2 = .ok (.ixor, 1) := by decide +kernel
theorem dJ6_numberOfTrailingZeros_0f7a4_3 : decode cJ6_numberOfTrailingZeros_0f7a4 3 = .ok (.iload_n 0, 1) := by decide +kernel
theorem dJ6_numberOfTrailingZeros_0f7a4_4 : decode cJ6_numberOfTrailingZeros_0f7a4 4 = .ok (.iconst 1, 1) := by decide +kernel
theorem dJ6_numberOfTrailingZeros_0f7a4_5 : decode cJ6_numberOfTrailingZeros_0f7a4 5 = .ok (.isub, 1) := by decide +kernel
theorem dJ6_numberOfTrailingZeros_0f7a4_6 : decode cJ6_numberOfTrailingZeros_0f7a4 6 = .ok (.iand, 1) := by decide +kernel
theorem dJ6_numberOfTrailingZeros_0f7a4_7 : decode cJ6_numberOfTrailingZeros_0f7a4 7 = .ok (.istore_n 0, 1) := by decide +kernel
theorem dJ6_numberOfTrailingZeros_0f7a4_8 : decode cJ6_numberOfTrailingZeros_0f7a4 8 = .ok (.iload_n 0, 1) := by decide +kernel
theorem dJ6_numberOfTrailingZeros_0f7a4_9 : decode cJ6_numberOfTrailingZeros_0f7a4 9 = .ok (.ifCond .gt 8, 3) := by decide +kernel
theorem dJ6_numberOfTrailingZeros_0f7a4_12 : decode cJ6_numberOfTrailingZeros_0f7a4 12 = .ok (.iload_n 0, 1) := by decide +kernel
theorem dJ6_numberOfTrailingZeros_0f7a4_13 : decode cJ6_numberOfTrailingZeros_0f7a4 13 = .ok (.bipush 32, 2) := by decide +kernel
theorem dJ6_numberOfTrailingZeros_0f7a4_15 : decode cJ6_numberOfTrailingZeros_0f7a4 15 = .ok (.iand, 1) := by decide +kernel
theorem dJ6_numberOfTrailingZeros_0f7a4_16 : decode cJ6_numberOfTrailingZeros_0f7a4 16 = .ok (.ireturn, 1) := by decide +kernel
theorem dJ6_numberOfTrailingZeros_0f7a4_17 : decode cJ6_numberOfTrailingZeros_0f7a4 17 = .ok (.iconst 1, 1) := by decide +kernel
theorem dJ6_numberOfTrailingZeros_0f7a4_18 : decode cJ6_numberOfTrailingZeros_0f7a4 18 = .ok (.istore_n 1, 1) := by decide +kernel
theorem dJ6_numberOfTrailingZeros_0f7a4_19 : decode cJ6_numberOfTrailingZeros_0f7a4 19 = .ok (.iload_n 0, 1) := by decide +kernel
theorem dJ6_numberOfTrailingZeros_0f7a4_20 : decode cJ6_numberOfTrailingZeros_0f7a4 20 = .ok (.ldc_w 264, 3) := by decide +kernel
theorem dJ6_numberOfTrailingZeros_0f7a4_23 : decode cJ6_numberOfTrailingZeros_0f7a4 23 = .ok (.if_icmp .le 11, 3) := by decide +kernel
theorem dJ6_numberOfTrailingZeros_0f7a4_26 : decode cJ6_numberOfTrailingZeros_0f7a4 26 = .ok (.iinc 1 16, 3) := by decide +kernel
theorem dJ6_numberOfTrailingZeros_0f7a4_29 : decode cJ6_numberOfTrailingZeros_0f7a4 29 = .ok (.iload_n 0, 1) := by decide +kernel
theorem dJ6_numberOfTrailingZeros_0f7a4_30 : decode cJ6_numberOfTrailingZeros_0f7a4 30 = .ok (.bipush 16, 2) := by decide +kernel
theorem dJ6_numberOfTrailingZeros_0f7a4_32 : decode cJ6_numberOfTrailingZeros_0f7a4 32 = .ok (.iushr, 1) := by decide +kernel
theorem dJ6_numberOfTrailingZeros_0f7a4_33 : decode cJ6_numberOfTrailingZeros_0f7a4 33 = .ok (.istore_n 0, 1) := by decide +kernel
theorem dJ6_numberOfTrailingZeros_0f7a4_34 : decode cJ6_numberOfTrailingZeros_0f7a4 34 = .ok (.iload_n 0, 1) := by decide +kernel
theorem dJ6_numberOfTrailingZeros_0f7a4_35 : decode cJ6_numberOfTrailingZeros_0f7a4 35 = .ok (.sipush 256, 3) := by decide +kernel
theorem dJ6_numberOfTrailingZeros_0f7a4_38 : decode cJ6_numberOfTrailingZeros_0f7a4 38 = .ok (.if_icmp .le 11, 3) := by decide +kernel
theorem dJ6_numberOfTrailingZeros_0f7a4_41 : decode cJ6_numberOfTrailingZeros_0f7a4 41 = .ok (.iinc 1 8, 3) := by decide +kernel
theorem dJ6_numberOfTrailingZeros_0f7a4_44 : decode cJ6_numberOfTrailingZeros_0f7a4 44 = .ok (.iload_n 0, 1) := by decide +kernel
theorem dJ6_numberOfTrailingZeros_0f7a4_45 : decode cJ6_numberOfTrailingZeros_0f7a4 45 = .ok (.bipush 8, 2) := by decide +kernel
theorem dJ6_numberOfTrailingZeros_0f7a4_47 : decode cJ6_numberOfTrailingZeros_0f7a4 47 = .ok (.iushr, 1) := by decide +kernel
theorem dJ6_numberOfTrailingZeros_0f7a4_48 : decode cJ6_numberOfTrailingZeros_0f7a4 48 = .ok (.istore_n 0, 1) := by decide +kernel
theorem dJ6_numberOfTrailingZeros_0f7a4_49 : decode cJ6_numberOfTrailingZeros_0f7a4 49 = .ok (.iload_n 0, 1) := by decide +kernel
theorem dJ6_numberOfTrailingZeros_0f7a4_50 : decode cJ6_numberOfTrailingZeros_0f7a4 50 = .ok (.bipush 16, 2) := by decide +kernel
theorem dJ6_numberOfTrailingZeros_0f7a4_52 : decode cJ6_numberOfTrailingZeros_0f7a4 52 = .ok (.if_icmp .le 10, 3) := by decide +kernel
theorem dJ6_numberOfTrailingZeros_0f7a4_55 : decode cJ6_numberOfTrailingZeros_0f7a4 55 = .ok (.iinc 1 4, 3) := by decide +kernel
theorem dJ6_numberOfTrailingZeros_0f7a4_58 : decode cJ6_numberOfTrailingZeros_0f7a4 58 = .ok (.iload_n 0, 1) := by decide +kernel
theorem dJ6_numberOfTrailingZeros_0f7a4_59 : decode cJ6_numberOfTrailingZeros_0f7a4 59 = .ok (.iconst 4, 1) := by decide +kernel
theorem dJ6_numberOfTrailingZeros_0f7a4_60 : decode cJ6_numberOfTrailingZeros_0f7a4 60 = .ok (.iushr, 1) := by decide +kernel
theorem dJ6_numberOfTrailingZeros_0f7a4_61 : decode cJ6_numberOfTrailingZeros_0f7a4 61 = .ok (.istore_n 0, 1) := by decide +kernel
theorem dJ6_numberOfTrailingZeros_0f7a4_62 : decode cJ6_numberOfTrailingZeros_0f7a4 62 = .ok (.iload_n 0, 1) := by decide +kernel
theorem dJ6_numberOfTrailingZeros_0f7a4_63 : decode cJ6_numberOfTrailingZeros_0f7a4 63 = .ok (.iconst 4, 1) := by decide +kernel
theorem dJ6_numberOfTrailingZeros_0f7a4_64 : decode cJ6_numberOfTrailingZeros_0f7a4 64 = .ok (.if_icmp .le 10, 3) := by decide +kernel
theorem dJ6_numberOfTrailingZeros_0f7a4_67 : decode cJ6_numberOfTrailingZeros_0f7a4 67 = .ok (.iinc 1 2, 3) := by decide +kernel
theorem dJ6_numberOfTrailingZeros_0f7a4_70 : decode cJ6_numberOfTrailingZeros_0f7a4 70 = .ok (.iload_n 0, 1) := by decide +kernel
theorem dJ6_numberOfTrailingZeros_0f7a4_71 : decode cJ6_numberOfTrailingZeros_0f7a4 71 = .ok (.iconst 2, 1) := by decide +kernel
theorem dJ6_numberOfTrailingZeros_0f7a4_72 : decode cJ6_numberOfTrailingZeros_0f7a4 72 = .ok (.iushr, 1) := by decide +kernel
theorem dJ6_numberOfTrailingZeros_0f7a4_73 : decode cJ6_numberOfTrailingZeros_0f7a4 73 = .ok (.istore_n 0, 1) := by decide +kernel
theorem dJ6_numberOfTrailingZeros_0f7a4_74 : decode cJ6_numberOfTrailingZeros_0f7a4 74 = .ok (.iload_n 1, 1) := by decide +kernel
theorem dJ6_numberOfTrailingZeros_0f7a4_75 : decode cJ6_numberOfTrailingZeros_0f7a4 75 = .ok (.iload_n 0, 1) := by decide +kernel
theorem dJ6_numberOfTrailingZeros_0f7a4_76 : decode cJ6_numberOfTrailingZeros_0f7a4 76 = .ok (.iconst 1, 1) := by decide +kernel
theorem dJ6_numberOfTrailingZeros_0f7a4_77 : decode cJ6_numberOfTrailingZeros_0f7a4 77 = .ok (.iushr, 1) := by decide +kernel
theorem dJ6_numberOfTrailingZeros_0f7a4_78 : decode cJ6_numberOfTrailingZeros_0f7a4 78 = .ok (.iadd, 1) := by decide +kernel
theorem dJ6_numberOfTrailingZeros_0f7a4_79 : decode cJ6_numberOfTrailingZeros_0f7a4 79 = .ok (.ireturn, 1) := by decide +kernel
theorem dJ6_bitCount_0f7a4_0 : decode cJ6_bitCount_0f7a4 0 = .ok (.iload_n 0, 1) := by decide +kernel
theorem dJ6_bitCount_0f7a4_1 : decode cJ6_bitCount_0f7a4 1 = .ok (.iload_n 0, 1) := by decide +kernel
theorem dJ6_bitCount_0f7a4_2 : decode cJ6_bitCount_0f7a4 2 = .ok (.iconst 1, 1) := by decide +kernel
theorem dJ6_bitCount_0f7a4_3 : decode cJ6_bitCount_0f7a4 3 = .ok (.iushr, 1) := by decide +kernel
theorem dJ6_bitCount_0f7a4_4 : decode cJ6_bitCount_0f7a4 4 = .ok (.ldc_w 265, 3) := by decide +kernel
theorem dJ6_bitCount_0f7a4_7 : decode cJ6_bitCount_0f7a4 7 = .ok (.iand, 1) := by decide +kernel
theorem dJ6_bitCount_0f7a4_8 : decode cJ6_bitCount_0f7a4 8 = .ok (.isub, 1) := by decide +kernel
theorem dJ6_bitCount_0f7a4_9 : decode cJ6_bitCount_0f7a4 9 = .ok (.istore_n 0, 1) := by decide +kernel
theorem dJ6_bitCount_0f7a4_10 : decode cJ6_bitCount_0f7a4 10 = .ok (.iload_n 0, 1) := by decide +kernel
theorem dJ6_bitCount_0f7a4_11 : decode cJ6_bitCount_0f7a4 11 = .ok (.ldc_w 266, 3) := by decide +kernel
theorem dJ6_bitCount_0f7a4_14 : decode cJ6_bitCount_0f7a4 14 = .ok (.iand, 1) := by decide +kernel
theorem dJ6_bitCount_0f7a4_15 : decode cJ6_bitCount_0f7a4 15 = .ok (.iload_n 0, 1) := by decide +kernel
theorem dJ6_bitCount_0f7a4_16 : decode cJ6_bitCount_0f7a4 16 = .ok (.iconst 2, 1) := by decide +kernel
theorem dJ6_bitCount_0f7a4_17 : decode cJ6_bitCount_0f7a4 17 = .ok (.iushr, 1) := by decide +kernel
theorem dJ6_bitCount_0f7a4_18 : decode cJ6_bitCount_0f7a4 18 = .ok (.ldc_w 266, 3) := by decide +kernel
theorem dJ6_bitCount_0f7a4_21 : decode cJ6_bitCount_0f7a4 21 = .ok (.iand, 1) := by decide +kernel
theorem dJ6_bitCount_0f7a4_22 : decode cJ6_bitCount_0f7a4 22 = .ok (.iadd, 1) := by decide +kernel
theorem dJ6_bitCount_0f7a4_23 : decode cJ6_bitCount_0f7a4 23 = .ok (.istore_n 0, 1) := by decide +kernel
theorem dJ6_bitCount_0f7a4_24 : decode cJ6_bitCount_0f7a4 24 = .ok (.iload_n 0, 1) := by decide +kernel
theorem dJ6_bitCount_0f7a4_25 : decode cJ6_bitCount_0f7a4 25 = .ok (.iload_n 0, 1) := by decide +kernel
theorem dJ6_bitCount_0f7a4_26 : decode cJ6_bitCount_0f7a4 26 = .ok (.iconst 4, 1) := by decide +kernel
theorem dJ6_bitCount_0f7a4_27 : decode cJ6_bitCount_0f7a4 27 = .ok (.iushr, 1) := by decide +kernel
theorem dJ6_bitCount_0f7a4_28 : decode cJ6_bitCount_0f7a4 28 = .ok (.iadd, 1) := by decide +kernel
theorem dJ6_bitCount_0f7a4_29 : decode cJ6_bitCount_0f7a4 29 = .ok (.ldc_w 267, 3) := by decide +kernel
theorem dJ6_bitCount_0f7a4_32 : decode cJ6_bitCount_0f7a4 32 = .ok (.iand, 1) := by decide +kernel
theorem dJ6_bitCount_0f7a4_33 : decode cJ6_bitCount_0f7a4 33 = .ok (.istore_n 0, 1) := by decide +kernel
theorem dJ6_bitCount_0f7a4_34 : decode cJ6_bitCount_0f7a4 34 = .ok (.iload_n 0, 1) := by decide +kernel
theorem dJ6_bitCount_0f7a4_35 : decode cJ6_bitCount_0f7a4 35 = .ok (.iload_n 0, 1) := by decide +kernel
theorem dJ6_bitCount_0f7a4_36 : decode cJ6_bitCount_0f7a4 36 = .ok (.bipush 8, 2) := by decide +kernel
theorem dJ6_bitCount_0f7a4_38 : decode cJ6_bitCount_0f7a4 38 = .ok (.iushr, 1) := by decide +kernel
theorem dJ6_bitCount_0f7a4_39 : decode cJ6_bitCount_0f7a4 39 = .ok (.iadd, 1) := by decide +kernel
theorem dJ6_bitCount_0f7a4_40 : decode cJ6_bitCount_0f7a4 40 = .ok (.istore_n 0, 1) := by decide +kernel
theorem dJ6_bitCount_0f7a4_41 : decode cJ6_bitCount_0f7a4 41 = .ok (.iload_n 0, 1) := by decide +kernel
theorem dJ6_bitCount_0f7a4_42 : decode cJ6_bitCount_0f7a4 42 = .ok (.iload_n 0, 1) := by decide +kernel
theorem dJ6_bitCount_0f7a4_43 : decode cJ6_bitCount_0f7a4 43 = .ok (.bipush 16, 2) := by decide +kernel
theorem dJ6_bitCount_0f7a4_45 : decode cJ6_bitCount_0f7a4 45 = .ok (.iushr, 1) := by decide +kernel
theorem dJ6_bitCount_0f7a4_46 : decode cJ6_bitCount_0f7a4 46 = .ok (.iadd, 1) := by decide +kernel
theorem dJ6_bitCount_0f7a4_47 : decode cJ6_bitCount_0f7a4 47 = .ok (.istore_n 0, 1) := by decide +kernel
theorem dJ6_bitCount_0f7a4_48 : decode cJ6_bitCount_0f7a4 48 = .ok (.iload_n 0, 1) := by decide +kernel
theorem dJ6_bitCount_0f7a4_49 : decode cJ6_bitCount_0f7a4 49 = .ok (.bipush 63, 2) := by decide +kernel
theorem dJ6_bitCount_0f7a4_51 : decode cJ6_bitCount_0f7a4 51 = .ok (.iand, 1) := by decide +kernel
theorem dJ6_bitCount_0f7a4_52 : decode cJ6_bitCount_0f7a4 52 = .ok (.ireturn, 1) := by decide +kernel
theorem dJ9_floorMod_7cf53_0 : decode cJ9_floorMod_7cf53 0 = .ok (.iload_n 0, 1) := by decide +kernel
theorem dJ9_floorMod_7cf53_1 : decode cJ9_floorMod_7cf53 1 = .ok (.iload_n 1, 1) := by decide +kernel
theorem dJ9_floorMod_7cf53_2 : decode cJ9_floorMod_7cf53 2 = .ok (.irem, 1) := by decide +kernel
theorem dJ9_floorMod_7cf53_3 : decode cJ9_floorMod_7cf53 3 = .ok (.istore_n 2, 1) := by decide +kernel
theorem dJ9_floorMod_7cf53_4 : decode cJ9_floorMod_7cf53 4 = .ok (.iload_n 0, 1) := by decide +kernel
theorem dJ9_floorMod_7cf53_5 : decode cJ9_floorMod_7cf53 5 = .ok (.iload_n 1, 1) := by decide +kernel
theorem dJ9_floorMod_7cf53_6 : decode cJ9_floorMod_7cf53 6 = .ok (.ixor, 1) := by decide +kernel
theorem dJ9_floorMod_7cf53_7 : decode cJ9_floorMod_7cf53 7 = .ok (.ifCond .ge 11, 3) := by decide +kernel
theorem dJ9_floorMod_7cf53_10 : decode cJ9_floorMod_7cf53 10 = .ok (.iload_n 2, 1) := by decide +kernel
theorem dJ9_floorMod_7cf53_11 : decode cJ9_floorMod_7cf53 11 = .ok (.ifCond .eq 7, 3) := by decide +kernel
theorem dJ9_floorMod_7cf53_14 : decode cJ9_floorMod_7cf53 14 = .ok (.iload_n 2, 1) := by decide +kernel
theorem dJ9_floorMod_7cf53_15 : decode cJ9_floorMod_7cf53 15 = .ok (.iload_n 1, 1) := by decide +kernel
theorem dJ9_floorMod_7cf53_16 : decode cJ9_floorMod_7cf53 16 = .ok (.iadd, 1) := by decide +kernel
theorem dJ9_floorMod_7cf53_17 : decode cJ9_floorMod_7cf53 17 = .ok (.ireturn, 1) := by decide +kernel
theorem dJ9_floorMod_7cf53_18 : decode cJ9_floorMod_7cf53 18 = .ok (.iload_n 2, 1) := by decide +kernel
theorem dJ9_floorMod_7cf53_19 : decode cJ9_floorMod_7cf53 19 = .ok (.ireturn, 1) := by decide +kernel
theorem dJ9_max_7cf53_0 : decode cJ9_max_7cf53 0 = .ok (.iload_n 0, 1) := by decide +kernel
theorem dJ9_max_7cf53_1 : decode cJ9_max_7cf53 1 = .ok (.iload_n 1, 1) := by decide +kernel
theorem dJ9_max_7cf53_2 : decode cJ9_max_7cf53 2 = .ok (.if_icmp .lt 7, 3) := by decide +kernel
theorem dJ9_max_7cf53_5 : decode cJ9_max_7cf53 5 = .ok (.iload_n 0, 1) := by decide +kernel
theorem dJ9_max_7cf53_6 : decode cJ9_max_7cf53 6 = .ok (.goto 4, 3) := by decide +kernel
theorem dJ9_max_7cf53_9 : decode cJ9_max_7cf53 9 = .ok (.iload_n 1, 1) := by decide +kernel
theorem dJ9_max_7cf53_10 : decode cJ9_max_7cf53 10 = .ok (.ireturn, 1) := by decide +kernel
theorem dJ9_max_f86c9_0 : decode cJ9_max_f86c9 0 = .ok (.lload_n 0, 1) := by decide +kernel
theorem dJ9_max_f86c9_1 : decode cJ9_max_f86c9 1 = .ok (.lload_n 2, 1) := by decide +kernel
theorem dJ9_max_f86c9_2 : decode cJ9_max_f86c9 2 = .ok (.lcmp, 1) := by decide +kernel
theorem dJ9_max_f86c9_3 : decode cJ9_max_f86c9 3 = .ok (.ifCond .lt 7, 3) := by decide +kernel
theorem dJ9_max_f86c9_6 : decode cJ9_max_f86c9 6 = .ok (.lload_n 0, 1) := by decide +kernel
theorem dJ9_max_f86c9_7 : decode cJ9_max_f86c9 7 = .ok (.goto 4, 3) := by decide +kernel
theorem dJ9_max_f86c9_10 : decode cJ9_max_f86c9 10 = .ok (.lload_n 2, 1) := by decide +kernel
theorem dJ9_max_f86c9_11 : decode cJ9_max_f86c9 11 = .ok (.lreturn, 1) := by decide +kernel
theorem dJ9_min_7cf53_0 : decode cJ9_min_7cf53 0 = .ok (.iload_n 0, 1) := by decide +kernel
theorem dJ9_min_7cf53_1 : decode cJ9_min_7cf53 1 = .ok (.iload_n 1, 1) := by decide +kernel
theorem dJ9_min_7cf53_2 : decode cJ9_min_7cf53 2 = .ok (.if_icmp .gt 7, 3) := by decide +kernel
theorem dJ9_min_7cf53_5 : decode cJ9_min_7cf53 5 = .ok (.iload_n 0, 1) := by decide +kernel
theorem dJ9_min_7cf53_6 : decode cJ9_min_7cf53 6 = .ok (.goto 4, 3) := by decide +kernel
theorem dJ9_min_7cf53_9 : decode cJ9_min_7cf53 9 = .ok (.iload_n 1, 1) := by decide +kernel
theorem dJ9_min_7cf53_10 : decode cJ9_min_7cf53 10 = .ok (.ireturn, 1) := by decide +kernel
theorem dJ9_min_f86c9_0 : decode cJ9_min_f86c9 0 = .ok (.lload_n 0, 1) := by decide +kernel
theorem dJ9_min_f86c9_1 : decode cJ9_min_f86c9 1 = .ok (.lload_n 2, 1) := by decide +kernel
theorem dJ9_min_f86c9_2 : decode cJ9_min_f86c9 2 = .ok (.lcmp, 1) := by decide +kernel
theorem dJ9_min_f86c9_3 : decode cJ9_min_f86c9 3 = .ok (.ifCond .gt 7, 3) := by decide +kernel
theorem dJ9_min_f86c9_6 : decode cJ9_min_f86c9 6 = .ok (.lload_n 0, 1) := by decide +kernel
theorem dJ9_min_f86c9_7 : decode cJ9_min_f86c9 7 = .ok (.goto 4, 3) := by decide +kernel
theorem dJ9_min_f86c9_10 : decode cJ9_min_f86c9 10 = .ok (.lload_n 2, 1) := by decide +kernel
theorem dJ9_min_f86c9_11 : decode cJ9_min_f86c9 11 = .ok (.lreturn, 1) := by decide +kernel
theorem dJ0_length_8abf5_0 : decode cJ0_length_8abf5 0 = .ok (.aload_n 0, 1) := by decide +kernel
theorem dJ0_length_8abf5_1 : decode cJ0_length_8abf5 1 = .ok (.getfield 9, 3) := by decide +kernel
theorem dJ0_length_8abf5_4 : decode cJ0_length_8abf5 4 = .ok (.arraylength, 1) := by decide +kernel
theorem dJ0_length_8abf5_5 : decode cJ0_length_8abf5 5 = .ok (.aload_n 0, 1) := by decide +kernel
theorem dJ0_length_8abf5_6 : decode cJ0_length_8abf5 6 = .ok (.invokevirtual 335, 3) := by decide +kernel
theorem dJ0_length_8abf5_9 : decode cJ0_length_8abf5 9 = .ok (.ishr, 1) := by decide +kernel
theorem dJ0_length_8abf5_10 : decode cJ0_length_8abf5 10 = .ok (.ireturn, 1) := by decide +kernel
theorem dJ0_charAt_5068e_0 : decode cJ0_charAt_5068e 0 = .ok (.aload_n 0, 1) := by decide +kernel
theorem dJ0_charAt_5068e_1 : decode cJ0_charAt_5068e 1 = .ok (.invokevirtual 492, 3) := by decide +kernel
theorem dJ0_charAt_5068e_4 : decode cJ0_charAt_5068e 4 = .ok (.ifCond .eq 12, 3) := by decide +kernel
theorem dJ0_charAt_5068e_7 : decode cJ0_charAt_5068e 7 = .ok (.aload_n 0, 1) := by decide +kernel
theorem dJ0_charAt_5068e_8 : decode cJ0_charAt_5068e 8 = .ok (.getfield 9, 3) := by decide +kernel
theorem dJ0_charAt_5068e_11 : decode cJ0_charAt_5068e 11 = .ok (.iload_n 1, 1) := by decide +kernel
theorem dJ0_charAt_5068e_12 : decode cJ0_charAt_5068e 12 = .ok (.invokestatic 495, 3) := by decide +kernel
theorem dJ0_charAt_5068e_15 : decode cJ0_charAt_5068e 15 = .ok (.ireturn, 1) := by decide +kernel
theorem dJ0_charAt_5068e_16 : decode cJ0_charAt_5068e 16 = .ok (.aload_n 0, 1) := by decide +kernel
theorem dJ0_charAt_5068e_17 : decode cJ0_charAt_5068e 17 = .ok (.getfield 9, 3) := by decide +kernel
theorem dJ0_charAt_5068e_20 : decode cJ0_charAt_5068e 20 = .ok (.iload_n 1, 1) := by decide +kernel
theorem dJ0_charAt_5068e_21 : decode cJ0_charAt_5068e 21 = .ok (.invokestatic 498, 3) := by decide +kernel
theorem dJ0_charAt_5068e_24 : decode cJ0_charAt_5068e 24 = .ok (.ireturn, 1) := by decide +kernel
theorem dJ0_coder_7d493_0 : decode cJ0_coder_7d493 0 = .ok (.getstatic 38, 3) := by decide +kernel
theorem dJ0_coder_7d493_3 : decode cJ0_coder_7d493 3 = .ok (.ifCond .eq 10, 3) := by decide +kernel
theorem dJ0_coder_7d493_6 : decode cJ0_coder_7d493 6 = .ok (.aload_n 0, 1) := by decide +kernel
theorem dJ0_coder_7d493_7 : decode cJ0_coder_7d493 7 = .ok (.getfield 15, 3) := by decide +kernel
theorem dJ0_coder_7d493_10 : decode cJ0_coder_7d493 10 = .ok (.goto 4, 3) := by decide +kernel
theorem dJ0_coder_7d493_13 : decode cJ0_coder_7d493 13 = .ok (.iconst 1, 1) := by decide +kernel
theorem dJ0_coder_7d493_14 : decode cJ0_coder_7d493 14 = .ok (.ireturn, 1) := by decide +kernel
theorem dJ0_isLatin1_aae02_0 : decode cJ0_isLatin1_aae02 0 = .ok (.getstatic 38, 3) := by decide +kernel
theorem dJ0_isLatin1_aae02_3 : decode cJ0_isLatin1_aae02 3 = .ok (.ifCond .eq 14, 3) := by decide +kernel
theorem dJ0_isLatin1_aae02_6 : decode cJ0_isLatin1_aae02 6 = .ok (.aload_n 0, 1) := by decide +kernel
theorem dJ0_isLatin1_aae02_7 : decode cJ0_isLatin1_aae02 7 = .ok (.getfield 15, 3) := by decide +kernel
theorem dJ0_isLatin1_aae02_10 : decode cJ0_isLatin1_aae02 10 = .ok (.ifCond .ne 7, 3) := by decide +kernel
theorem dJ0_isLatin1_aae02_13 : decode cJ0_isLatin1_aae02 13 = .ok (.iconst 1, 1) := by decide +kernel
theorem dJ0_isLatin1_aae02_14 : decode cJ0_isLatin1_aae02 14 = .ok (.goto 4, 3) := by decide +kernel
theorem dJ0_isLatin1_aae02_17 : decode cJ0_isLatin1_aae02 17 = .ok (.iconst 0, 1) := by decide +kernel
theorem dJ0_isLatin1_aae02_18 : decode cJ0_isLatin1_aae02 18 = .ok (.ireturn, 1) := by decide +kernel
theorem dJ0_checkIndex_df160_0 : decode cJ0_checkIndex_df160 0 = .ok (.iload_n 0, 1) := by decide +kernel
theorem dJ0_checkIndex_df160_1 : decode cJ0_checkIndex_df160 1 = .ok (.iload_n 1, 1) := by decide +kernel
theorem dJ0_checkIndex_df160_2 : decode cJ0_checkIndex_df160 2 = .ok (.getstatic 1053, 3) := by decide +kernel
theorem dJ0_checkIndex_df160_5 : decode cJ0_checkIndex_df160 5 = .ok (.invokestatic 1059, 3) := by decide +kernel
theorem dJ0_checkIndex_df160_8 : decode cJ0_checkIndex_df160 8 = .ok (.pop, 1) := by decide +kernel
theorem dJ0_checkIndex_df160_9 : decode cJ0_checkIndex_df160 9 = .ok (.return_, 1) := by decide +kernel
theorem dJ1_charAt_3b067_0 : decode cJ1_charAt_3b067 0 = .ok (.iload_n 1, 1) := by decide +kernel
theorem dJ1_charAt_3b067_1 : decode cJ1_charAt_3b067 1 = .ok (.aload_n 0, 1) := by decide +kernel
theorem dJ1_charAt_3b067_2 : decode cJ1_charAt_3b067 2 = .ok (.arraylength, 1) := by decide +kernel
theorem dJ1_charAt_3b067_3 : decode cJ1_charAt_3b067 3 = .ok (.invokestatic 9, 3) := by decide +kernel
theorem dJ1_charAt_3b067_6 : decode cJ1_charAt_3b067 6 = .ok (.aload_n 0, 1) := by decide +kernel
theorem dJ1_charAt_3b067_7 : decode cJ1_charAt_3b067 7 = .ok (.iload_n 1, 1) := by decide +kernel
theorem dJ1_charAt_3b067_8 : decode cJ1_charAt_3b067 8 = .ok (.baload, 1) := by decide +kernel
theorem dJ1_charAt_3b067_9 : decode cJ1_charAt_3b067 9 = .ok (.sipush 255, 3) := by decide +kernel
theorem dJ1_charAt_3b067_12 : decode cJ1_charAt_3b067 12 = .ok (.iand, 1) := by decide +kernel
theorem dJ1_charAt_3b067_13 : decode cJ1_charAt_3b067 13 = .ok (.i2c, 1) := by decide +kernel
theorem dJ1_charAt_3b067_14 : decode cJ1_charAt_3b067 14 = .ok (.ireturn, 1) := by decide +kernel
theorem dJ2_getChar_3b067_0 : decode cJ2_getChar_3b067 0 = .ok (.getstatic 44, 3) := by decide +kernel
theorem dJ2_getChar_3b067_3 : decode cJ2_getChar_3b067 3 = .ok (.ifCond .ne 25, 3) := by decide +kernel
theorem dJ2_getChar_3b067_6 : decode cJ2_getChar_3b067 6 = .ok (.iload_n 1, 1) := by decide +kernel
theorem dJ2_getChar_3b067_7 : decode cJ2_getChar_3b067 7 = .ok (.ifCond .lt 11, 3) := by decide +kernel
theorem dJ2_getChar_3b067_10 : decode cJ2_getChar_3b067 10 = .ok (.iload_n 1, 1) := by decide +kernel
theorem dJ2_getChar_3b067_11 : decode cJ2_getChar_3b067 11 = .ok (.aload_n 0, 1) := by decide +kernel
theorem dJ2_getChar_3b067_12 : decode cJ2_getChar_3b067 12 = .ok (.invokestatic 48, 3) := by decide +kernel
theorem dJ2_getChar_3b067_15 : decode cJ2_getChar_3b067 15 = .ok (.if_icmp .lt 13, 3) := by decide +kernel
theorem dJ2_getChar_3b067_18 : decode cJ2_getChar_3b067 18 = .ok (.new 52, 3) := by decide +kernel
theorem dJ2_getChar_3b067_21 : decode cJ2_getChar_3b067 21 = .ok (.dup, 1) := by decide +kernel
theorem dJ2_getChar_3b067_22 : decode cJ2_getChar_3b067 22 = .ok (.ldc 54, 2) := by decide +kernel
theorem dJ2_getChar_3b067_24 : decode cJ2_getChar_3b067 24 = .ok (.invokespecial 56, 3) := by decide +kernel
theorem dJ2_getChar_3b067_27 : decode cJ2_getChar_3b067 27 = .ok (.athrow, 1) := by decide +kernel
theorem dJ2_getChar_3b067_28 : decode cJ2_getChar_3b067 28 = .ok (.iload_n 1, 1) := by decide +kernel
theorem dJ2_getChar_3b067_29 : decode cJ2_getChar_3b067 29 = .ok (.iconst 1, 1) := by decide +kernel
theorem dJ2_getChar_3b067_30 : decode cJ2_getChar_3b067 30 = .ok (.ishl, 1) := by decide +kernel
theorem dJ2_getChar_3b067_31 : decode cJ2_getChar_3b067 31 = .ok (.istore_n 1, 1) := by decide +kernel
theorem dJ2_getChar_3b067_32 : decode cJ2_getChar_3b067 32 = .ok (.aload_n 0, 1) := by decide +kernel
theorem dJ2_getChar_3b067_33 : decode cJ2_getChar_3b067 33 = .ok (.iload_n 1, 1) := by decide +kernel
theorem dJ2_getChar_3b067_34 : decode cJ2_getChar_3b067 34 = .ok (.iinc 1 1, 3) := by decide +kernel
theorem dJ2_getChar_3b067_37 : decode cJ2_getChar_3b067 37 = .ok (.baload, 1) := by decide +kernel
theorem dJ2_getChar_3b067_38 : decode cJ2_getChar_3b067 38 = .ok (.sipush 255, 3) := by decide +kernel
theorem dJ2_getChar_3b067_41 : decode cJ2_getChar_3b067 41 = .ok (.iand, 1) := by decide +kernel
theorem dJ2_getChar_3b067_42 : decode cJ2_getChar_3b067 42 = .ok (.getstatic 59, 3) := by decide +kernel
theorem dJ2_getChar_3b067_45 : decode cJ2_getChar_3b067 45 = .ok (.ishl, 1) := by decide +kernel
theorem dJ2_getChar_3b067_46 : decode cJ2_getChar_3b067 46 = .ok (.aload_n 0, 1) := by decide +kernel
theorem dJ2_getChar_3b067_47 : decode cJ2_getChar_3b067 47 = .ok (.iload_n 1, 1) := by decide +kernel
theorem dJ2_getChar_3b067_48 : decode cJ2_getChar_3b067 48 = .ok (.baload, 1) := by decide +kernel
theorem dJ2_getChar_3b067_49 : decode cJ2_getChar_3b067 49 = .ok (.sipush 255, 3) := by decide +kernel
theorem dJ2_getChar_3b067_52 : decode cJ2_getChar_3b067 52 = .ok (.iand, 1) := by decide +kernel
theorem dJ2_getChar_3b067_53 : decode cJ2_getChar_3b067 53 = .ok (.getstatic 63, 3) := by decide +kernel
theorem dJ2_getChar_3b067_56 : decode cJ2_getChar_3b067 56 = .ok (.ishl, 1) := by decide +kernel
theorem dJ2_getChar_3b067_57 : decode cJ2_getChar_3b067 57 = .ok (.ior, 1) := by decide +kernel
theorem dJ2_getChar_3b067_58 : decode cJ2_getChar_3b067 58 = .ok (.i2c, 1) := by decide +kernel
theorem dJ2_getChar_3b067_59 : decode cJ2_getChar_3b067 59 = .ok (.ireturn, 1) := by decide +kernel
theorem dJ2_length_9d52b_0 : decode cJ2_length_9d52b 0 = .ok (.aload_n 0, 1) := by decide +kernel
theorem dJ2_length_9d52b_1 : decode cJ2_length_9d52b 1 = .ok (.arraylength, 1) := by decide +kernel
theorem dJ2_length_9d52b_2 : decode cJ2_length_9d52b 2 = .ok (.iconst 1, 1) := by decide +kernel
theorem dJ2_length_9d52b_3 : decode cJ2_length_9d52b 3 = .ok (.ishr, 1) := by decide +kernel
theorem dJ2_length_9d52b_4 : decode cJ2_length_9d52b 4 = .ok (.ireturn, 1) := by decide +kernel
theorem dJ2_charAt_3b067_0 : decode cJ2_charAt_3b067 0 = .ok (.iload_n 1, 1) := by decide +kernel
theorem dJ2_charAt_3b067_1 : decode cJ2_charAt_3b067 1 = .ok (.aload_n 0, 1) := by decide +kernel
theorem dJ2_charAt_3b067_2 : decode cJ2_charAt_3b067 2 = .ok (.invokestatic 67, 3) := by decide +kernel
theorem dJ2_charAt_3b067_5 : decode cJ2_charAt_3b067 5 = .ok (.aload_n 0, 1) := by decide +kernel
theorem dJ2_charAt_3b067_6 : decode cJ2_charAt_3b067 6 = .ok (.iload_n 1, 1) := by decide +kernel
theorem dJ2_charAt_3b067_7 : decode cJ2_charAt_3b067 7 = .ok (.invokestatic 71, 3) := by decide +kernel
theorem dJ2_charAt_3b067_10 : decode cJ2_charAt_3b067 10 = .ok (.ireturn, 1) := by decide +kernel
theorem dJ2_checkIndex_2214a_0 : decode cJ2_checkIndex_2214a 0 = .ok (.iload_n 0, 1) := by decide +kernel
theorem dJ2_checkIndex_2214a_1 : decode cJ2_checkIndex_2214a 1 = .ok (.aload_n 1, 1) := by decide +kernel
theorem dJ2_checkIndex_2214a_2 : decode cJ2_checkIndex_2214a 2 = .ok (.invokestatic 48, 3) := by decide +kernel
theorem dJ2_checkIndex_2214a_5 : decode cJ2_checkIndex_2214a 5 = .ok (.invokestatic 414, 3) := by decide +kernel
theorem dJ2_checkIndex_2214a_8 : decode cJ2_checkIndex_2214a 8 = .ok (.return_, 1) := by decide +kernel
theorem dJ7_fill_d0a16_0 : decode cJ7_fill_d0a16 0 = .ok (.iconst 0, 1) := by decide +kernel
theorem dJ7_fill_d0a16_1 : decode cJ7_fill_d0a16 1 = .ok (.istore_n 3, 1) := by decide +kernel
theorem dJ7_fill_d0a16_2 : decode cJ7_fill_d0a16 2 = .ok (.aload_n 0, 1) := by decide +kernel
theorem dJ7_fill_d0a16_3 : decode cJ7_fill_d0a16 3 = .ok (.arraylength, 1) := by decide +kernel
theorem dJ7_fill_d0a16_4 : decode cJ7_fill_d0a16 4 = .ok (.istore 4, 2) := by decide +kernel
theorem dJ7_fill_d0a16_6 : decode cJ7_fill_d0a16 6 = .ok (.iload_n 3, 1) := by decide +kernel
theorem dJ7_fill_d0a16_7 : decode cJ7_fill_d0a16 7 = .ok (.iload 4, 2) := by decide +kernel
theorem dJ7_fill_d0a16_9 : decode cJ7_fill_d0a16 9 = .ok (.if_icmp .ge 13, 3) := by decide +kernel
theorem dJ7_fill_d0a16_12 : decode cJ7_fill_d0a16 12 = .ok (.aload_n 0, 1) := by decide +kernel
theorem dJ7_fill_d0a16_13 : decode cJ7_fill_d0a16 13 = .ok (.iload_n 3, 1) := by decide +kernel
theorem dJ7_fill_d0a16_14 : decode cJ7_fill_d0a16 14 = .ok (.lload_n 1, 1) := by decide +kernel
theorem dJ7_fill_d0a16_15 : decode cJ7_fill_d0a16 15 = .ok (.lastore, 1) := by decide +kernel
theorem dJ7_fill_d0a16_16 : decode cJ7_fill_d0a16 16 = .ok (.iinc 3 1, 3) := by decide +kernel
theorem dJ7_fill_d0a16_19 : decode cJ7_fill_d0a16 19 = .ok (.goto (-13), 3) := by decide +kernel
theorem dJ7_fill_d0a16_22 : decode cJ7_fill_d0a16 22 = .ok (.return_, 1) := by decide +kernel
theorem dJ7_copyOf_59c91_0 : decode cJ7_copyOf_59c91 0 = .ok (.iload_n 1, 1) := by decide +kernel
theorem dJ7_copyOf_59c91_1 : decode cJ7_copyOf_59c91 1 = .ok (.aload_n 0, 1) := by decide +kernel
theorem dJ7_copyOf_59c91_2 : decode cJ7_copyOf_59c91 2 = .ok (.arraylength, 1) := by decide +kernel
theorem dJ7_copyOf_59c91_3 : decode cJ7_copyOf_59c91 3 = .ok (.if_icmp .ne 11, 3) := by decide +kernel
theorem dJ7_copyOf_59c91_6 : decode cJ7_copyOf_59c91 6 = .ok (.aload_n 0, 1) := by decide +kernel
theorem dJ7_copyOf_59c91_7 : decode cJ7_copyOf_59c91 7 = .ok (.invokevirtual 316, 3) := by decide +kernel
theorem dJ7_copyOf_59c91_10 : decode cJ7_copyOf_59c91 10 = .ok (.checkcast 317, 3) := by decide +kernel
theorem dJ7_copyOf_59c91_13 : decode cJ7_copyOf_59c91 13 = .ok (.areturn, 1) := by decide +kernel
theorem dJ7_copyOf_59c91_14 : decode cJ7_copyOf_59c91 14 = .ok (.iload_n 1, 1) := by decide +kernel
theorem dJ7_copyOf_59c91_15 : decode cJ7_copyOf_59c91 15 = .ok (.newarray .int, 2) := by decide +kernel
theorem dJ7_copyOf_59c91_17 : decode cJ7_copyOf_59c91 17 = .ok (.astore_n 2, 1) := by decide +kernel
theorem dJ7_copyOf_59c91_18 : decode cJ7_copyOf_59c91 18 = .ok (.aload_n 0, 1) := by decide +kernel
theorem dJ7_copyOf_59c91_19 : decode cJ7_copyOf_59c91 19 = .ok (.iconst 0, 1) := by decide +kernel
theorem dJ7_copyOf_59c91_20 : decode cJ7_copyOf_59c91 20 = .ok (.aload_n 2, 1) := by decide +kernel
theorem dJ7_copyOf_59c91_21 : decode cJ7_copyOf_59c91 21 = .ok (.iconst 0, 1) := by decide +kernel
theorem dJ7_copyOf_59c91_22 : decode cJ7_copyOf_59c91 22 = .ok (.aload_n 0, 1) := by decide +kernel
theorem dJ7_copyOf_59c91_23 : decode cJ7_copyOf_59c91 23 = .ok (.arraylength, 1) := by decide +kernel
theorem dJ7_copyOf_59c91_24 : decode cJ7_copyOf_59c91 24 = .ok (.iload_n 1, 1) := by decide +kernel
theorem dJ7_copyOf_59c91_25 : decode cJ7_copyOf_59c91 25 = .ok (.invokestatic 304, 3) := by decide +kernel
theorem dJ7_copyOf_59c91_28 : decode cJ7_copyOf_59c91 28 = .ok (.invokestatic 150, 3) := by decide +kernel
theorem dJ7_copyOf_59c91_31 : decode cJ7_copyOf_59c91 31 = .ok (.aload_n 2, 1) := by decide +kernel
theorem dJ7_copyOf_59c91_32 : decode cJ7_copyOf_59c91 32 = .ok (.areturn, 1) := by decide +kernel
theorem dJ3_checkIndex_8e157_0 : decode cJ3_checkIndex_8e157 0 = .ok (.iload_n 0, 1) := by decide +kernel
theorem dJ3_checkIndex_8e157_1 : decode cJ3_checkIndex_8e157 1 = .ok (.ifCond .lt 8, 3) := by decide +kernel
theorem dJ3_checkIndex_8e157_4 : decode cJ3_checkIndex_8e157 4 = .ok (.iload_n 0, 1) := by decide +kernel
theorem dJ3_checkIndex_8e157_5 : decode cJ3_checkIndex_8e157 5 = .ok (.iload_n 1, 1) := by decide +kernel
theorem dJ3_checkIndex_8e157_6 : decode cJ3_checkIndex_8e157 6 = .ok (.if_icmp .lt 10, 3) := by decide +kernel
theorem dJ3_checkIndex_8e157_9 : decode cJ3_checkIndex_8e157 9 = .ok (.aload_n 2, 1) := by decide +kernel
theorem dJ3_checkIndex_8e157_10 : decode cJ3_checkIndex_8e157 10 = .ok (.iload_n 0, 1) := by decide +kernel
theorem dJ3_checkIndex_8e157_11 : decode cJ3_checkIndex_8e157 11 = .ok (.iload_n 1, 1) := by decide +kernel
theorem dJ3_checkIndex_8e157_12 : decode cJ3_checkIndex_8e157 12 = .ok (.invokestatic 95, 3) := by decide +kernel
theorem dJ3_checkIndex_8e157_15 : decode cJ3_checkIndex_8e157 15 = .ok (.athrow, 1) := by decide +kernel
theorem dJ3_checkIndex_8e157_16 : decode cJ3_checkIndex_8e157 16 = .ok (.iload_n 0, 1) := by decide +kernel
theorem dJ3_checkIndex_8e157_17 : decode cJ3_checkIndex_8e157 17 = .ok (.ireturn, 1) := by decide +kernel
