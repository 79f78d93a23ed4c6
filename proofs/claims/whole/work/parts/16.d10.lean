/-! the code by its places, by program -/
theorem i181_20 : gm_I cX12_restart 20 = some (.ireturn) := by decide +kernel
theorem i182_0 : gm_I cX12_find 0 = some (.iconst 0) := by decide +kernel
theorem i182_1 : gm_I cX12_find 1 = some (.istore_n 3) := by decide +kernel
theorem i182_2 : gm_I cX12_find 2 = some (.iload_n 3) := by decide +kernel
theorem i182_3 : gm_I cX12_find 3 = some (.aload_n 0) := by decide +kernel
theorem i182_4 : gm_I cX12_find 4 = some (.getfield 301) := by decide +kernel
theorem i182_7 : gm_I cX12_find 7 = some (.if_icmp .ge 80) := by decide +kernel
theorem i182_10 : gm_I cX12_find 10 = some (.aload_n 0) := by decide +kernel
theorem i182_11 : gm_I cX12_find 11 = some (.getfield 85) := by decide +kernel
theorem i182_14 : gm_I cX12_find 14 = some (.iload_n 3) := by decide +kernel
theorem i182_15 : gm_I cX12_find 15 = some (.iaload) := by decide +kernel
theorem i182_16 : gm_I cX12_find 16 = some (.iload_n 2) := by decide +kernel
theorem i182_17 : gm_I cX12_find 17 = some (.if_icmp .ne 7) := by decide +kernel
theorem i182_20 : gm_I cX12_find 20 = some (.iconst 1) := by decide +kernel
theorem i182_21 : gm_I cX12_find 21 = some (.goto 4) := by decide +kernel
theorem i182_24 : gm_I cX12_find 24 = some (.iconst 0) := by decide +kernel
theorem i182_25 : gm_I cX12_find 25 = some (.istore 4) := by decide +kernel
theorem i182_27 : gm_I cX12_find 27 = some (.iconst 0) := by decide +kernel
theorem i182_28 : gm_I cX12_find 28 = some (.istore 5) := by decide +kernel
theorem i182_30 : gm_I cX12_find 30 = some (.iload 5) := by decide +kernel
theorem i182_32 : gm_I cX12_find 32 = some (.iload_n 2) := by decide +kernel
theorem i182_33 : gm_I cX12_find 33 = some (.if_icmp .ge 41) := by decide +kernel
theorem i182_36 : gm_I cX12_find 36 = some (.iload 4) := by decide +kernel
theorem i182_38 : gm_I cX12_find 38 = some (.ifCond .eq 36) := by decide +kernel
theorem i182_41 : gm_I cX12_find 41 = some (.aload_n 0) := by decide +kernel
theorem i182_42 : gm_I cX12_find 42 = some (.getfield 82) := by decide +kernel
theorem i182_45 : gm_I cX12_find 45 = some (.bipush 24) := by decide +kernel
theorem i182_47 : gm_I cX12_find 47 = some (.iload_n 3) := by decide +kernel
theorem i182_48 : gm_I cX12_find 48 = some (.imul) := by decide +kernel
theorem i182_49 : gm_I cX12_find 49 = some (.iload 5) := by decide +kernel
theorem i182_51 : gm_I cX12_find 51 = some (.iadd) := by decide +kernel
theorem i182_52 : gm_I cX12_find 52 = some (.laload) := by decide +kernel
theorem i182_53 : gm_I cX12_find 53 = some (.aload_n 1) := by decide +kernel
theorem i182_54 : gm_I cX12_find 54 = some (.iload 5) := by decide +kernel
theorem i182_56 : gm_I cX12_find 56 = some (.laload) := by decide +kernel
theorem i182_57 : gm_I cX12_find 57 = some (.lcmp) := by decide +kernel
theorem i182_58 : gm_I cX12_find 58 = some (.ifCond .ne 7) := by decide +kernel
theorem i182_61 : gm_I cX12_find 61 = some (.iconst 1) := by decide +kernel
theorem i182_62 : gm_I cX12_find 62 = some (.goto 4) := by decide +kernel
theorem i182_65 : gm_I cX12_find 65 = some (.iconst 0) := by decide +kernel
theorem i182_66 : gm_I cX12_find 66 = some (.istore 4) := by decide +kernel
theorem i182_68 : gm_I cX12_find 68 = some (.iinc 5 1) := by decide +kernel
theorem i182_71 : gm_I cX12_find 71 = some (.goto (-41)) := by decide +kernel
theorem i182_74 : gm_I cX12_find 74 = some (.iload 4) := by decide +kernel
theorem i182_76 : gm_I cX12_find 76 = some (.ifCond .eq 5) := by decide +kernel
theorem i182_79 : gm_I cX12_find 79 = some (.iload_n 3) := by decide +kernel
theorem i182_80 : gm_I cX12_find 80 = some (.ireturn) := by decide +kernel
theorem i182_81 : gm_I cX12_find 81 = some (.iinc 3 1) := by decide +kernel
theorem i182_84 : gm_I cX12_find 84 = some (.goto (-82)) := by decide +kernel
theorem i182_87 : gm_I cX12_find 87 = some (.iconst (-1)) := by decide +kernel
theorem i182_88 : gm_I cX12_find 88 = some (.ireturn) := by decide +kernel
theorem i183_0 : gm_I cX12_comes 0 = some (.aload_n 0) := by decide +kernel
theorem i183_1 : gm_I cX12_comes 1 = some (.getfield 85) := by decide +kernel
theorem i183_4 : gm_I cX12_comes 4 = some (.aload_n 0) := by decide +kernel
theorem i183_5 : gm_I cX12_comes 5 = some (.getfield 301) := by decide +kernel
theorem i183_8 : gm_I cX12_comes 8 = some (.iload_n 2) := by decide +kernel
theorem i183_9 : gm_I cX12_comes 9 = some (.iastore) := by decide +kernel
theorem i183_10 : gm_I cX12_comes 10 = some (.iconst 0) := by decide +kernel
theorem i183_11 : gm_I cX12_comes 11 = some (.istore_n 3) := by decide +kernel
theorem i183_12 : gm_I cX12_comes 12 = some (.iload_n 3) := by decide +kernel
theorem i183_13 : gm_I cX12_comes 13 = some (.iload_n 2) := by decide +kernel
theorem i183_14 : gm_I cX12_comes 14 = some (.if_icmp .ge 26) := by decide +kernel
theorem i183_17 : gm_I cX12_comes 17 = some (.aload_n 0) := by decide +kernel
theorem i183_18 : gm_I cX12_comes 18 = some (.getfield 82) := by decide +kernel
theorem i183_21 : gm_I cX12_comes 21 = some (.bipush 24) := by decide +kernel
theorem i183_23 : gm_I cX12_comes 23 = some (.aload_n 0) := by decide +kernel
theorem i183_24 : gm_I cX12_comes 24 = some (.getfield 301) := by decide +kernel
theorem i183_27 : gm_I cX12_comes 27 = some (.imul) := by decide +kernel
theorem i183_28 : gm_I cX12_comes 28 = some (.iload_n 3) := by decide +kernel
theorem i183_29 : gm_I cX12_comes 29 = some (.iadd) := by decide +kernel
theorem i183_30 : gm_I cX12_comes 30 = some (.aload_n 1) := by decide +kernel
theorem i183_31 : gm_I cX12_comes 31 = some (.iload_n 3) := by decide +kernel
theorem i183_32 : gm_I cX12_comes 32 = some (.laload) := by decide +kernel
theorem i183_33 : gm_I cX12_comes 33 = some (.lastore) := by decide +kernel
theorem i183_34 : gm_I cX12_comes 34 = some (.iinc 3 1) := by decide +kernel
theorem i183_37 : gm_I cX12_comes 37 = some (.goto (-25)) := by decide +kernel
theorem i183_40 : gm_I cX12_comes 40 = some (.aload_n 0) := by decide +kernel
theorem i183_41 : gm_I cX12_comes 41 = some (.dup) := by decide +kernel
theorem i183_42 : gm_I cX12_comes 42 = some (.getfield 301) := by decide +kernel
theorem i183_45 : gm_I cX12_comes 45 = some (.iconst 1) := by decide +kernel
theorem i183_46 : gm_I cX12_comes 46 = some (.iadd) := by decide +kernel
theorem i183_47 : gm_I cX12_comes 47 = some (.putfield 301) := by decide +kernel
theorem i183_50 : gm_I cX12_comes 50 = some (.return_) := by decide +kernel
theorem i184_0 : gm_I cX12_looksAt 0 = some (.aload_n 0) := by decide +kernel
theorem i184_1 : gm_I cX12_looksAt 1 = some (.getfield 88) := by decide +kernel
theorem i184_4 : gm_I cX12_looksAt 4 = some (.iload_n 1) := by decide +kernel
theorem i184_5 : gm_I cX12_looksAt 5 = some (.iconst 1) := by decide +kernel
theorem i184_6 : gm_I cX12_looksAt 6 = some (.iadd) := by decide +kernel
theorem i184_7 : gm_I cX12_looksAt 7 = some (.aload_n 0) := by decide +kernel
theorem i184_8 : gm_I cX12_looksAt 8 = some (.getfield 88) := by decide +kernel
theorem i184_11 : gm_I cX12_looksAt 11 = some (.iload_n 1) := by decide +kernel
theorem i184_12 : gm_I cX12_looksAt 12 = some (.iaload) := by decide +kernel
theorem i184_13 : gm_I cX12_looksAt 13 = some (.iastore) := by decide +kernel
theorem i184_14 : gm_I cX12_looksAt 14 = some (.aload_n 0) := by decide +kernel
theorem i184_15 : gm_I cX12_looksAt 15 = some (.getfield 94) := by decide +kernel
theorem i184_18 : gm_I cX12_looksAt 18 = some (.iload_n 1) := by decide +kernel
theorem i184_19 : gm_I cX12_looksAt 19 = some (.iconst 0) := by decide +kernel
theorem i184_20 : gm_I cX12_looksAt 20 = some (.iastore) := by decide +kernel
theorem i184_21 : gm_I cX12_looksAt 21 = some (.aload_n 0) := by decide +kernel
theorem i184_22 : gm_I cX12_looksAt 22 = some (.aload_n 0) := by decide +kernel
theorem i184_23 : gm_I cX12_looksAt 23 = some (.getfield 82) := by decide +kernel
theorem i184_26 : gm_I cX12_looksAt 26 = some (.bipush 24) := by decide +kernel
theorem i184_28 : gm_I cX12_looksAt 28 = some (.iload_n 1) := by decide +kernel
theorem i184_29 : gm_I cX12_looksAt 29 = some (.imul) := by decide +kernel
theorem i184_30 : gm_I cX12_looksAt 30 = some (.aload_n 0) := by decide +kernel
theorem i184_31 : gm_I cX12_looksAt 31 = some (.getfield 85) := by decide +kernel
theorem i184_34 : gm_I cX12_looksAt 34 = some (.iload_n 1) := by decide +kernel
theorem i184_35 : gm_I cX12_looksAt 35 = some (.iaload) := by decide +kernel
theorem i184_36 : gm_I cX12_looksAt 36 = some (.invokevirtual 266) := by decide +kernel
theorem i184_39 : gm_I cX12_looksAt 39 = some (.aload_n 0) := by decide +kernel
theorem i184_40 : gm_I cX12_looksAt 40 = some (.getfield 193) := by decide +kernel
theorem i184_43 : gm_I cX12_looksAt 43 = some (.ifCond .eq 6) := by decide +kernel
theorem i184_46 : gm_I cX12_looksAt 46 = some (.bipush 7) := by decide +kernel
theorem i184_48 : gm_I cX12_looksAt 48 = some (.ireturn) := by decide +kernel
theorem i184_49 : gm_I cX12_looksAt 49 = some (.aload_n 0) := by decide +kernel
theorem i184_50 : gm_I cX12_looksAt 50 = some (.invokevirtual 322) := by decide +kernel
theorem i184_53 : gm_I cX12_looksAt 53 = some (.ifCond .eq 48) := by decide +kernel
theorem i184_56 : gm_I cX12_looksAt 56 = some (.aload_n 0) := by decide +kernel
theorem i184_57 : gm_I cX12_looksAt 57 = some (.iconst 0) := by decide +kernel
theorem i184_58 : gm_I cX12_looksAt 58 = some (.invokevirtual 325) := by decide +kernel
theorem i184_61 : gm_I cX12_looksAt 61 = some (.istore_n 2) := by decide +kernel
theorem i184_62 : gm_I cX12_looksAt 62 = some (.aload_n 0) := by decide +kernel
theorem i184_63 : gm_I cX12_looksAt 63 = some (.iconst 1) := by decide +kernel
theorem i184_64 : gm_I cX12_looksAt 64 = some (.invokevirtual 325) := by decide +kernel
theorem i184_67 : gm_I cX12_looksAt 67 = some (.istore_n 3) := by decide +kernel
theorem i184_68 : gm_I cX12_looksAt 68 = some (.aload_n 0) := by decide +kernel
theorem i184_69 : gm_I cX12_looksAt 69 = some (.getfield 97) := by decide +kernel
theorem i184_72 : gm_I cX12_looksAt 72 = some (.iload_n 1) := by decide +kernel
theorem i184_73 : gm_I cX12_looksAt 73 = some (.iload_n 2) := by decide +kernel
theorem i184_74 : gm_I cX12_looksAt 74 = some (.iastore) := by decide +kernel
theorem i184_75 : gm_I cX12_looksAt 75 = some (.iload_n 2) := by decide +kernel
theorem i184_76 : gm_I cX12_looksAt 76 = some (.ifCond .lt 7) := by decide +kernel
theorem i184_79 : gm_I cX12_looksAt 79 = some (.iload_n 3) := by decide +kernel
theorem i184_80 : gm_I cX12_looksAt 80 = some (.ifCond .ge 7) := by decide +kernel
theorem i184_83 : gm_I cX12_looksAt 83 = some (.iconst 4) := by decide +kernel
theorem i184_84 : gm_I cX12_looksAt 84 = some (.goto 16) := by decide +kernel
theorem i184_87 : gm_I cX12_looksAt 87 = some (.iload_n 2) := by decide +kernel
theorem i184_88 : gm_I cX12_looksAt 88 = some (.iload_n 3) := by decide +kernel
theorem i184_89 : gm_I cX12_looksAt 89 = some (.iadd) := by decide +kernel
theorem i184_90 : gm_I cX12_looksAt 90 = some (.bipush 8) := by decide +kernel
theorem i184_92 : gm_I cX12_looksAt 92 = some (.if_icmp .eq 7) := by decide +kernel
theorem i184_95 : gm_I cX12_looksAt 95 = some (.iconst 5) := by decide +kernel
theorem i184_96 : gm_I cX12_looksAt 96 = some (.goto 4) := by decide +kernel
theorem i184_99 : gm_I cX12_looksAt 99 = some (.iconst 0) := by decide +kernel
theorem i184_100 : gm_I cX12_looksAt 100 = some (.ireturn) := by decide +kernel
theorem i184_101 : gm_I cX12_looksAt 101 = some (.aload_n 0) := by decide +kernel
theorem i184_102 : gm_I cX12_looksAt 102 = some (.iconst 0) := by decide +kernel
theorem i184_103 : gm_I cX12_looksAt 103 = some (.invokevirtual 319) := by decide +kernel
theorem i184_106 : gm_I cX12_looksAt 106 = some (.aload_n 0) := by decide +kernel
theorem i184_107 : gm_I cX12_looksAt 107 = some (.getfield 270) := by decide +kernel
theorem i184_110 : gm_I cX12_looksAt 110 = some (.istore_n 2) := by decide +kernel
theorem i184_111 : gm_I cX12_looksAt 111 = some (.iconst 0) := by decide +kernel
theorem i184_112 : gm_I cX12_looksAt 112 = some (.istore_n 3) := by decide +kernel
theorem i184_113 : gm_I cX12_looksAt 113 = some (.iload_n 3) := by decide +kernel
theorem i184_114 : gm_I cX12_looksAt 114 = some (.iload_n 2) := by decide +kernel
theorem i184_115 : gm_I cX12_looksAt 115 = some (.if_icmp .ge 21) := by decide +kernel
theorem i184_118 : gm_I cX12_looksAt 118 = some (.aload_n 0) := by decide +kernel
theorem i184_119 : gm_I cX12_looksAt 119 = some (.getfield 76) := by decide +kernel
theorem i184_122 : gm_I cX12_looksAt 122 = some (.iload_n 3) := by decide +kernel
theorem i184_123 : gm_I cX12_looksAt 123 = some (.aload_n 0) := by decide +kernel
theorem i184_124 : gm_I cX12_looksAt 124 = some (.getfield 73) := by decide +kernel
theorem i184_127 : gm_I cX12_looksAt 127 = some (.iload_n 3) := by decide +kernel
theorem i184_128 : gm_I cX12_looksAt 128 = some (.laload) := by decide +kernel
theorem i184_129 : gm_I cX12_looksAt 129 = some (.lastore) := by decide +kernel
theorem i184_130 : gm_I cX12_looksAt 130 = some (.iinc 3 1) := by decide +kernel
theorem i184_133 : gm_I cX12_looksAt 133 = some (.goto (-20)) := by decide +kernel
theorem i184_136 : gm_I cX12_looksAt 136 = some (.aload_n 0) := by decide +kernel
theorem i184_137 : gm_I cX12_looksAt 137 = some (.iconst 1) := by decide +kernel
theorem i184_138 : gm_I cX12_looksAt 138 = some (.invokevirtual 319) := by decide +kernel
theorem i184_141 : gm_I cX12_looksAt 141 = some (.aload_n 0) := by decide +kernel
theorem i184_142 : gm_I cX12_looksAt 142 = some (.getfield 270) := by decide +kernel
theorem i184_145 : gm_I cX12_looksAt 145 = some (.istore_n 3) := by decide +kernel
theorem i184_146 : gm_I cX12_looksAt 146 = some (.iconst 0) := by decide +kernel
theorem i184_147 : gm_I cX12_looksAt 147 = some (.istore 4) := by decide +kernel
theorem i184_149 : gm_I cX12_looksAt 149 = some (.iload 4) := by decide +kernel
theorem i184_151 : gm_I cX12_looksAt 151 = some (.iload_n 3) := by decide +kernel
theorem i184_152 : gm_I cX12_looksAt 152 = some (.if_icmp .ge 23) := by decide +kernel
theorem i184_155 : gm_I cX12_looksAt 155 = some (.aload_n 0) := by decide +kernel
theorem i184_156 : gm_I cX12_looksAt 156 = some (.getfield 79) := by decide +kernel
theorem i184_159 : gm_I cX12_looksAt 159 = some (.iload 4) := by decide +kernel
theorem i184_161 : gm_I cX12_looksAt 161 = some (.aload_n 0) := by decide +kernel
theorem i184_162 : gm_I cX12_looksAt 162 = some (.getfield 73) := by decide +kernel
theorem i184_165 : gm_I cX12_looksAt 165 = some (.iload 4) := by decide +kernel
theorem i184_167 : gm_I cX12_looksAt 167 = some (.laload) := by decide +kernel
theorem i184_168 : gm_I cX12_looksAt 168 = some (.lastore) := by decide +kernel
theorem i184_169 : gm_I cX12_looksAt 169 = some (.iinc 4 1) := by decide +kernel
theorem i184_172 : gm_I cX12_looksAt 172 = some (.goto (-23)) := by decide +kernel
theorem i184_175 : gm_I cX12_looksAt 175 = some (.iload_n 2) := by decide +kernel
theorem i184_176 : gm_I cX12_looksAt 176 = some (.ifCond .eq 7) := by decide +kernel
theorem i184_179 : gm_I cX12_looksAt 179 = some (.iload_n 3) := by decide +kernel
theorem i184_180 : gm_I cX12_looksAt 180 = some (.ifCond .ne 5) := by decide +kernel
theorem i184_183 : gm_I cX12_looksAt 183 = some (.iconst 2) := by decide +kernel
theorem i184_184 : gm_I cX12_looksAt 184 = some (.ireturn) := by decide +kernel
theorem i184_185 : gm_I cX12_looksAt 185 = some (.iload_n 2) := by decide +kernel
theorem i184_186 : gm_I cX12_looksAt 186 = some (.iconst 1) := by decide +kernel
theorem i184_187 : gm_I cX12_looksAt 187 = some (.if_icmp .le 10) := by decide +kernel
theorem i184_190 : gm_I cX12_looksAt 190 = some (.iload_n 3) := by decide +kernel
theorem i184_191 : gm_I cX12_looksAt 191 = some (.iconst 1) := by decide +kernel
theorem i184_192 : gm_I cX12_looksAt 192 = some (.if_icmp .le 5) := by decide +kernel
theorem i184_195 : gm_I cX12_looksAt 195 = some (.iconst 3) := by decide +kernel
theorem i184_196 : gm_I cX12_looksAt 196 = some (.ireturn) := by decide +kernel
theorem i184_197 : gm_I cX12_looksAt 197 = some (.aload_n 0) := by decide +kernel
theorem i184_198 : gm_I cX12_looksAt 198 = some (.getfield 94) := by decide +kernel
theorem i184_201 : gm_I cX12_looksAt 201 = some (.iload_n 1) := by decide +kernel
theorem i184_202 : gm_I cX12_looksAt 202 = some (.iload_n 3) := by decide +kernel
theorem i184_203 : gm_I cX12_looksAt 203 = some (.iastore) := by decide +kernel
theorem i184_204 : gm_I cX12_looksAt 204 = some (.iconst 0) := by decide +kernel
theorem i184_205 : gm_I cX12_looksAt 205 = some (.istore 4) := by decide +kernel
theorem i184_207 : gm_I cX12_looksAt 207 = some (.iload 4) := by decide +kernel
theorem i184_209 : gm_I cX12_looksAt 209 = some (.iload_n 2) := by decide +kernel
theorem i184_210 : gm_I cX12_looksAt 210 = some (.iload_n 3) := by decide +kernel
theorem i184_211 : gm_I cX12_looksAt 211 = some (.imul) := by decide +kernel
theorem i184_212 : gm_I cX12_looksAt 212 = some (.if_icmp .ge 132) := by decide +kernel
theorem i184_215 : gm_I cX12_looksAt 215 = some (.aload_n 0) := by decide +kernel
theorem i184_216 : gm_I cX12_looksAt 216 = some (.aload_n 0) := by decide +kernel
theorem i184_217 : gm_I cX12_looksAt 217 = some (.getfield 82) := by decide +kernel
theorem i184_220 : gm_I cX12_looksAt 220 = some (.bipush 24) := by decide +kernel
theorem i184_222 : gm_I cX12_looksAt 222 = some (.iload_n 1) := by decide +kernel
theorem i184_223 : gm_I cX12_looksAt 223 = some (.imul) := by decide +kernel
theorem i184_224 : gm_I cX12_looksAt 224 = some (.aload_n 0) := by decide +kernel
theorem i184_225 : gm_I cX12_looksAt 225 = some (.getfield 85) := by decide +kernel
theorem i184_228 : gm_I cX12_looksAt 228 = some (.iload_n 1) := by decide +kernel
theorem i184_229 : gm_I cX12_looksAt 229 = some (.iaload) := by decide +kernel
theorem i184_230 : gm_I cX12_looksAt 230 = some (.aload_n 0) := by decide +kernel
theorem i184_231 : gm_I cX12_looksAt 231 = some (.getfield 76) := by decide +kernel
theorem i184_234 : gm_I cX12_looksAt 234 = some (.iload 4) := by decide +kernel
theorem i184_236 : gm_I cX12_looksAt 236 = some (.iload_n 3) := by decide +kernel
theorem i184_237 : gm_I cX12_looksAt 237 = some (.idiv) := by decide +kernel
theorem i184_238 : gm_I cX12_looksAt 238 = some (.laload) := by decide +kernel
theorem i184_239 : gm_I cX12_looksAt 239 = some (.aload_n 0) := by decide +kernel
theorem i184_240 : gm_I cX12_looksAt 240 = some (.getfield 79) := by decide +kernel
theorem i184_243 : gm_I cX12_looksAt 243 = some (.iload 4) := by decide +kernel
theorem i184_245 : gm_I cX12_looksAt 245 = some (.iload_n 3) := by decide +kernel
theorem i184_246 : gm_I cX12_looksAt 246 = some (.irem) := by decide +kernel
theorem i184_247 : gm_I cX12_looksAt 247 = some (.laload) := by decide +kernel
theorem i184_248 : gm_I cX12_looksAt 248 = some (.invokevirtual 331) := by decide +kernel
theorem i184_251 : gm_I cX12_looksAt 251 = some (.ifCond .ne 6) := by decide +kernel
theorem i184_254 : gm_I cX12_looksAt 254 = some (.bipush 7) := by decide +kernel
theorem i184_256 : gm_I cX12_looksAt 256 = some (.ireturn) := by decide +kernel
theorem i184_257 : gm_I cX12_looksAt 257 = some (.aload_n 0) := by decide +kernel
theorem i184_258 : gm_I cX12_looksAt 258 = some (.aload_n 0) := by decide +kernel
theorem i184_259 : gm_I cX12_looksAt 259 = some (.getfield 67) := by decide +kernel
theorem i184_262 : gm_I cX12_looksAt 262 = some (.aload_n 0) := by decide +kernel
theorem i184_263 : gm_I cX12_looksAt 263 = some (.getfield 273) := by decide +kernel
theorem i184_266 : gm_I cX12_looksAt 266 = some (.invokevirtual 335) := by decide +kernel
theorem i184_269 : gm_I cX12_looksAt 269 = some (.istore 5) := by decide +kernel
theorem i184_271 : gm_I cX12_looksAt 271 = some (.iload 5) := by decide +kernel
theorem i184_273 : gm_I cX12_looksAt 273 = some (.ifCond .ge 15) := by decide +kernel
theorem i184_276 : gm_I cX12_looksAt 276 = some (.aload_n 0) := by decide +kernel
theorem i184_277 : gm_I cX12_looksAt 277 = some (.getfield 301) := by decide +kernel
theorem i184_280 : gm_I cX12_looksAt 280 = some (.bipush 60) := by decide +kernel
theorem i184_282 : gm_I cX12_looksAt 282 = some (.if_icmp .ne 6) := by decide +kernel
theorem i184_285 : gm_I cX12_looksAt 285 = some (.bipush 7) := by decide +kernel
theorem i184_287 : gm_I cX12_looksAt 287 = some (.ireturn) := by decide +kernel
theorem i184_288 : gm_I cX12_looksAt 288 = some (.iload 5) := by decide +kernel
theorem i184_290 : gm_I cX12_looksAt 290 = some (.ifCond .ge 21) := by decide +kernel
theorem i184_293 : gm_I cX12_looksAt 293 = some (.aload_n 0) := by decide +kernel
theorem i184_294 : gm_I cX12_looksAt 294 = some (.getfield 301) := by decide +kernel
theorem i184_297 : gm_I cX12_looksAt 297 = some (.istore 5) := by decide +kernel
theorem i184_299 : gm_I cX12_looksAt 299 = some (.aload_n 0) := by decide +kernel
theorem i184_300 : gm_I cX12_looksAt 300 = some (.aload_n 0) := by decide +kernel
theorem i184_301 : gm_I cX12_looksAt 301 = some (.getfield 67) := by decide +kernel
theorem i184_304 : gm_I cX12_looksAt 304 = some (.aload_n 0) := by decide +kernel
theorem i184_305 : gm_I cX12_looksAt 305 = some (.getfield 273) := by decide +kernel
theorem i184_308 : gm_I cX12_looksAt 308 = some (.invokevirtual 339) := by decide +kernel
theorem i184_311 : gm_I cX12_looksAt 311 = some (.aload_n 0) := by decide +kernel
theorem i184_312 : gm_I cX12_looksAt 312 = some (.getfield 91) := by decide +kernel
theorem i184_315 : gm_I cX12_looksAt 315 = some (.aload_n 0) := by decide +kernel
theorem i184_316 : gm_I cX12_looksAt 316 = some (.getfield 88) := by decide +kernel
theorem i184_319 : gm_I cX12_looksAt 319 = some (.iload_n 1) := by decide +kernel
theorem i184_320 : gm_I cX12_looksAt 320 = some (.iconst 1) := by decide +kernel
theorem i184_321 : gm_I cX12_looksAt 321 = some (.iadd) := by decide +kernel
theorem i184_322 : gm_I cX12_looksAt 322 = some (.iaload) := by decide +kernel
theorem i184_323 : gm_I cX12_looksAt 323 = some (.iload 5) := by decide +kernel
theorem i184_325 : gm_I cX12_looksAt 325 = some (.iastore) := by decide +kernel
theorem i184_326 : gm_I cX12_looksAt 326 = some (.aload_n 0) := by decide +kernel
theorem i184_327 : gm_I cX12_looksAt 327 = some (.getfield 88) := by decide +kernel
theorem i184_330 : gm_I cX12_looksAt 330 = some (.iload_n 1) := by decide +kernel
theorem i184_331 : gm_I cX12_looksAt 331 = some (.iconst 1) := by decide +kernel
theorem i184_332 : gm_I cX12_looksAt 332 = some (.iadd) := by decide +kernel
theorem i184_333 : gm_I cX12_looksAt 333 = some (.dup2) := by decide +kernel
theorem i184_334 : gm_I cX12_looksAt 334 = some (.iaload) := by decide +kernel
theorem i184_335 : gm_I cX12_looksAt 335 = some (.iconst 1) := by decide +kernel
theorem i184_336 : gm_I cX12_looksAt 336 = some (.iadd) := by decide +kernel
theorem i184_337 : gm_I cX12_looksAt 337 = some (.iastore) := by decide +kernel
theorem i184_338 : gm_I cX12_looksAt 338 = some (.iinc 4 1) := by decide +kernel
theorem i184_341 : gm_I cX12_looksAt 341 = some (.goto (-134)) := by decide +kernel
theorem i184_344 : gm_I cX12_looksAt 344 = some (.iconst 0) := by decide +kernel
theorem i184_345 : gm_I cX12_looksAt 345 = some (.ireturn) := by decide +kernel
theorem i185_0 : gm_I cX12_weighs 0 = some (.iconst 1) := by decide +kernel
theorem i185_1 : gm_I cX12_weighs 1 = some (.istore_n 1) := by decide +kernel
theorem i185_2 : gm_I cX12_weighs 2 = some (.iconst 0) := by decide +kernel
theorem i185_3 : gm_I cX12_weighs 3 = some (.istore_n 2) := by decide +kernel
theorem i185_4 : gm_I cX12_weighs 4 = some (.iconst 0) := by decide +kernel
theorem i185_5 : gm_I cX12_weighs 5 = some (.istore_n 3) := by decide +kernel
theorem i185_6 : gm_I cX12_weighs 6 = some (.iload_n 3) := by decide +kernel
theorem i185_7 : gm_I cX12_weighs 7 = some (.aload_n 0) := by decide +kernel
theorem i185_8 : gm_I cX12_weighs 8 = some (.getfield 301) := by decide +kernel
theorem i185_11 : gm_I cX12_weighs 11 = some (.if_icmp .ge 25) := by decide +kernel
theorem i185_14 : gm_I cX12_weighs 14 = some (.aload_n 0) := by decide +kernel
theorem i185_15 : gm_I cX12_weighs 15 = some (.getfield 94) := by decide +kernel
theorem i185_18 : gm_I cX12_weighs 18 = some (.iload_n 3) := by decide +kernel
theorem i185_19 : gm_I cX12_weighs 19 = some (.iaload) := by decide +kernel
theorem i185_20 : gm_I cX12_weighs 20 = some (.ifCond .le 10) := by decide +kernel
theorem i185_23 : gm_I cX12_weighs 23 = some (.aload_n 0) := by decide +kernel
theorem i185_24 : gm_I cX12_weighs 24 = some (.getfield 97) := by decide +kernel
theorem i185_27 : gm_I cX12_weighs 27 = some (.iload_n 3) := by decide +kernel
theorem i185_28 : gm_I cX12_weighs 28 = some (.iconst (-1)) := by decide +kernel
theorem i185_29 : gm_I cX12_weighs 29 = some (.iastore) := by decide +kernel
theorem i185_30 : gm_I cX12_weighs 30 = some (.iinc 3 1) := by decide +kernel
theorem i185_33 : gm_I cX12_weighs 33 = some (.goto (-27)) := by decide +kernel
theorem i185_36 : gm_I cX12_weighs 36 = some (.iload_n 1) := by decide +kernel
theorem i185_37 : gm_I cX12_weighs 37 = some (.ifCond .eq 178) := by decide +kernel
theorem i185_40 : gm_I cX12_weighs 40 = some (.iconst 0) := by decide +kernel
theorem i185_41 : gm_I cX12_weighs 41 = some (.istore_n 1) := by decide +kernel
theorem i185_42 : gm_I cX12_weighs 42 = some (.iconst 0) := by decide +kernel
theorem i185_43 : gm_I cX12_weighs 43 = some (.istore_n 2) := by decide +kernel
theorem i185_44 : gm_I cX12_weighs 44 = some (.iconst 0) := by decide +kernel
theorem i185_45 : gm_I cX12_weighs 45 = some (.istore_n 3) := by decide +kernel
theorem i185_46 : gm_I cX12_weighs 46 = some (.iload_n 3) := by decide +kernel
theorem i185_47 : gm_I cX12_weighs 47 = some (.aload_n 0) := by decide +kernel
theorem i185_48 : gm_I cX12_weighs 48 = some (.getfield 301) := by decide +kernel
theorem i185_51 : gm_I cX12_weighs 51 = some (.if_icmp .ge 161) := by decide +kernel
theorem i185_54 : gm_I cX12_weighs 54 = some (.aload_n 0) := by decide +kernel
theorem i185_55 : gm_I cX12_weighs 55 = some (.getfield 97) := by decide +kernel
theorem i185_58 : gm_I cX12_weighs 58 = some (.iload_n 3) := by decide +kernel
theorem i185_59 : gm_I cX12_weighs 59 = some (.iaload) := by decide +kernel
theorem i185_60 : gm_I cX12_weighs 60 = some (.ifCond .lt 6) := by decide +kernel
theorem i185_63 : gm_I cX12_weighs 63 = some (.goto 143) := by decide +kernel
theorem i185_66 : gm_I cX12_weighs 66 = some (.iinc 2 1) := by decide +kernel
theorem i185_69 : gm_I cX12_weighs 69 = some (.iconst (-1)) := by decide +kernel
theorem i185_70 : gm_I cX12_weighs 70 = some (.istore 4) := by decide +kernel
theorem i185_72 : gm_I cX12_weighs 72 = some (.iconst 1) := by decide +kernel
theorem i185_73 : gm_I cX12_weighs 73 = some (.istore 5) := by decide +kernel
theorem i185_75 : gm_I cX12_weighs 75 = some (.aload_n 0) := by decide +kernel
theorem i185_76 : gm_I cX12_weighs 76 = some (.getfield 88) := by decide +kernel
theorem i185_79 : gm_I cX12_weighs 79 = some (.iload_n 3) := by decide +kernel
theorem i185_80 : gm_I cX12_weighs 80 = some (.iaload) := by decide +kernel
theorem i185_81 : gm_I cX12_weighs 81 = some (.istore 6) := by decide +kernel
theorem i185_83 : gm_I cX12_weighs 83 = some (.iload 6) := by decide +kernel
theorem i185_85 : gm_I cX12_weighs 85 = some (.aload_n 0) := by decide +kernel
theorem i185_86 : gm_I cX12_weighs 86 = some (.getfield 88) := by decide +kernel
theorem i185_89 : gm_I cX12_weighs 89 = some (.iload_n 3) := by decide +kernel
theorem i185_90 : gm_I cX12_weighs 90 = some (.iconst 1) := by decide +kernel
theorem i185_91 : gm_I cX12_weighs 91 = some (.iadd) := by decide +kernel
theorem i185_92 : gm_I cX12_weighs 92 = some (.iaload) := by decide +kernel
theorem i185_93 : gm_I cX12_weighs 93 = some (.if_icmp .ge 81) := by decide +kernel
theorem i185_96 : gm_I cX12_weighs 96 = some (.aload_n 0) := by decide +kernel
theorem i185_97 : gm_I cX12_weighs 97 = some (.getfield 97) := by decide +kernel
theorem i185_100 : gm_I cX12_weighs 100 = some (.aload_n 0) := by decide +kernel
theorem i185_101 : gm_I cX12_weighs 101 = some (.getfield 91) := by decide +kernel
theorem i185_104 : gm_I cX12_weighs 104 = some (.iload 6) := by decide +kernel
theorem i185_106 : gm_I cX12_weighs 106 = some (.iaload) := by decide +kernel
theorem i185_107 : gm_I cX12_weighs 107 = some (.iaload) := by decide +kernel
theorem i185_108 : gm_I cX12_weighs 108 = some (.istore 7) := by decide +kernel
theorem i185_110 : gm_I cX12_weighs 110 = some (.iload 5) := by decide +kernel
theorem i185_112 : gm_I cX12_weighs 112 = some (.ifCond .eq 12) := by decide +kernel
theorem i185_115 : gm_I cX12_weighs 115 = some (.iload 7) := by decide +kernel
theorem i185_117 : gm_I cX12_weighs 117 = some (.ifCond .lt 7) := by decide +kernel
theorem i185_120 : gm_I cX12_weighs 120 = some (.iconst 1) := by decide +kernel
theorem i185_121 : gm_I cX12_weighs 121 = some (.goto 4) := by decide +kernel
theorem i185_124 : gm_I cX12_weighs 124 = some (.iconst 0) := by decide +kernel
theorem i185_125 : gm_I cX12_weighs 125 = some (.istore 5) := by decide +kernel
theorem i185_127 : gm_I cX12_weighs 127 = some (.iload 4) := by decide +kernel
theorem i185_129 : gm_I cX12_weighs 129 = some (.ifCond .lt 30) := by decide +kernel
theorem i185_132 : gm_I cX12_weighs 132 = some (.aload_n 0) := by decide +kernel
theorem i185_133 : gm_I cX12_weighs 133 = some (.getfield 94) := by decide +kernel
theorem i185_136 : gm_I cX12_weighs 136 = some (.iload_n 3) := by decide +kernel
theorem i185_137 : gm_I cX12_weighs 137 = some (.iaload) := by decide +kernel
theorem i185_138 : gm_I cX12_weighs 138 = some (.iconst 1) := by decide +kernel
theorem i185_139 : gm_I cX12_weighs 139 = some (.if_icmp .ne 13) := by decide +kernel
theorem i185_142 : gm_I cX12_weighs 142 = some (.iload 7) := by decide +kernel
theorem i185_144 : gm_I cX12_weighs 144 = some (.iload 4) := by decide +kernel
theorem i185_146 : gm_I cX12_weighs 146 = some (.if_icmp .le 18) := by decide +kernel
theorem i185_149 : gm_I cX12_weighs 149 = some (.goto 10) := by decide +kernel
theorem i185_152 : gm_I cX12_weighs 152 = some (.iload 7) := by decide +kernel
theorem i185_154 : gm_I cX12_weighs 154 = some (.iload 4) := by decide +kernel
theorem i185_156 : gm_I cX12_weighs 156 = some (.if_icmp .ge 8) := by decide +kernel
theorem i185_159 : gm_I cX12_weighs 159 = some (.iload 7) := by decide +kernel
theorem i185_161 : gm_I cX12_weighs 161 = some (.goto 5) := by decide +kernel
theorem i185_164 : gm_I cX12_weighs 164 = some (.iload 4) := by decide +kernel
theorem i185_166 : gm_I cX12_weighs 166 = some (.istore 4) := by decide +kernel
theorem i185_168 : gm_I cX12_weighs 168 = some (.iinc 6 1) := by decide +kernel
theorem i185_171 : gm_I cX12_weighs 171 = some (.goto (-88)) := by decide +kernel
theorem i185_174 : gm_I cX12_weighs 174 = some (.aload_n 0) := by decide +kernel
theorem i185_175 : gm_I cX12_weighs 175 = some (.getfield 97) := by decide +kernel
theorem i185_178 : gm_I cX12_weighs 178 = some (.iload_n 3) := by decide +kernel
theorem i185_179 : gm_I cX12_weighs 179 = some (.iload 5) := by decide +kernel
theorem i185_181 : gm_I cX12_weighs 181 = some (.ifCond .eq 8) := by decide +kernel
theorem i185_184 : gm_I cX12_weighs 184 = some (.iload 4) := by decide +kernel
theorem i185_186 : gm_I cX12_weighs 186 = some (.goto 4) := by decide +kernel
theorem i185_189 : gm_I cX12_weighs 189 = some (.iconst (-1)) := by decide +kernel
theorem i185_190 : gm_I cX12_weighs 190 = some (.iastore) := by decide +kernel
theorem i185_191 : gm_I cX12_weighs 191 = some (.iload_n 1) := by decide +kernel
theorem i185_192 : gm_I cX12_weighs 192 = some (.ifCond .ne 8) := by decide +kernel
theorem i185_195 : gm_I cX12_weighs 195 = some (.iload 5) := by decide +kernel
theorem i185_197 : gm_I cX12_weighs 197 = some (.ifCond .eq 7) := by decide +kernel
theorem i185_200 : gm_I cX12_weighs 200 = some (.iconst 1) := by decide +kernel
theorem i185_201 : gm_I cX12_weighs 201 = some (.goto 4) := by decide +kernel
theorem i185_204 : gm_I cX12_weighs 204 = some (.iconst 0) := by decide +kernel
theorem i185_205 : gm_I cX12_weighs 205 = some (.istore_n 1) := by decide +kernel
theorem i185_206 : gm_I cX12_weighs 206 = some (.iinc 3 1) := by decide +kernel
theorem i185_209 : gm_I cX12_weighs 209 = some (.goto (-163)) := by decide +kernel
theorem i185_212 : gm_I cX12_weighs 212 = some (.goto (-176)) := by decide +kernel
theorem i185_215 : gm_I cX12_weighs 215 = some (.iload_n 2) := by decide +kernel
theorem i185_216 : gm_I cX12_weighs 216 = some (.ifCond .ne 7) := by decide +kernel
theorem i185_219 : gm_I cX12_weighs 219 = some (.iconst 1) := by decide +kernel
theorem i185_220 : gm_I cX12_weighs 220 = some (.goto 4) := by decide +kernel
theorem i185_223 : gm_I cX12_weighs 223 = some (.iconst 0) := by decide +kernel
theorem i185_224 : gm_I cX12_weighs 224 = some (.ireturn) := by decide +kernel
theorem i186_0 : gm_I cX12_examine 0 = some (.aload_n 0) := by decide +kernel
theorem i186_1 : gm_I cX12_examine 1 = some (.iconst 1) := by decide +kernel
theorem i186_2 : gm_I cX12_examine 2 = some (.putfield 298) := by decide +kernel
theorem i186_5 : gm_I cX12_examine 5 = some (.aload_n 0) := by decide +kernel
theorem i186_6 : gm_I cX12_examine 6 = some (.iconst 0) := by decide +kernel
theorem i186_7 : gm_I cX12_examine 7 = some (.putfield 254) := by decide +kernel
theorem i186_10 : gm_I cX12_examine 10 = some (.aload_n 0) := by decide +kernel
theorem i186_11 : gm_I cX12_examine 11 = some (.iconst 0) := by decide +kernel
theorem i186_12 : gm_I cX12_examine 12 = some (.putfield 301) := by decide +kernel
theorem i186_15 : gm_I cX12_examine 15 = some (.aload_n 0) := by decide +kernel
theorem i186_16 : gm_I cX12_examine 16 = some (.aload_n 0) := by decide +kernel
theorem i186_17 : gm_I cX12_examine 17 = some (.getfield 64) := by decide +kernel
theorem i186_20 : gm_I cX12_examine 20 = some (.aload_n 0) := by decide +kernel
theorem i186_21 : gm_I cX12_examine 21 = some (.getfield 304) := by decide +kernel
theorem i186_24 : gm_I cX12_examine 24 = some (.invokevirtual 339) := by decide +kernel
theorem i186_27 : gm_I cX12_examine 27 = some (.aload_n 0) := by decide +kernel
theorem i186_28 : gm_I cX12_examine 28 = some (.getfield 313) := by decide +kernel
theorem i186_31 : gm_I cX12_examine 31 = some (.iconst 2) := by decide +kernel
theorem i186_32 : gm_I cX12_examine 32 = some (.if_icmp .eq 5) := by decide +kernel
theorem i186_35 : gm_I cX12_examine 35 = some (.iconst 1) := by decide +kernel
theorem i186_36 : gm_I cX12_examine 36 = some (.ireturn) := by decide +kernel
theorem i186_37 : gm_I cX12_examine 37 = some (.aload_n 0) := by decide +kernel
theorem i186_38 : gm_I cX12_examine 38 = some (.getfield 88) := by decide +kernel
theorem i186_41 : gm_I cX12_examine 41 = some (.iconst 0) := by decide +kernel
theorem i186_42 : gm_I cX12_examine 42 = some (.iconst 0) := by decide +kernel
theorem i186_43 : gm_I cX12_examine 43 = some (.iastore) := by decide +kernel
theorem i186_44 : gm_I cX12_examine 44 = some (.iconst 0) := by decide +kernel
theorem i186_45 : gm_I cX12_examine 45 = some (.istore_n 1) := by decide +kernel
theorem i186_46 : gm_I cX12_examine 46 = some (.iload_n 1) := by decide +kernel
theorem i186_47 : gm_I cX12_examine 47 = some (.aload_n 0) := by decide +kernel
theorem i186_48 : gm_I cX12_examine 48 = some (.getfield 301) := by decide +kernel
theorem i186_51 : gm_I cX12_examine 51 = some (.if_icmp .ge 21) := by decide +kernel
theorem i186_54 : gm_I cX12_examine 54 = some (.aload_n 0) := by decide +kernel
theorem i186_55 : gm_I cX12_examine 55 = some (.iload_n 1) := by decide +kernel
theorem i186_56 : gm_I cX12_examine 56 = some (.invokevirtual 343) := by decide +kernel
theorem i186_59 : gm_I cX12_examine 59 = some (.istore_n 2) := by decide +kernel
theorem i186_60 : gm_I cX12_examine 60 = some (.iload_n 2) := by decide +kernel
theorem i186_61 : gm_I cX12_examine 61 = some (.ifCond .le 5) := by decide +kernel
theorem i186_64 : gm_I cX12_examine 64 = some (.iload_n 2) := by decide +kernel
theorem i186_65 : gm_I cX12_examine 65 = some (.ireturn) := by decide +kernel
theorem i186_66 : gm_I cX12_examine 66 = some (.iinc 1 1) := by decide +kernel
theorem i186_69 : gm_I cX12_examine 69 = some (.goto (-23)) := by decide +kernel
theorem i186_72 : gm_I cX12_examine 72 = some (.aload_n 0) := by decide +kernel
theorem i186_73 : gm_I cX12_examine 73 = some (.invokevirtual 346) := by decide +kernel
theorem i186_76 : gm_I cX12_examine 76 = some (.ifCond .eq 7) := by decide +kernel
theorem i186_79 : gm_I cX12_examine 79 = some (.iconst 0) := by decide +kernel
theorem i186_80 : gm_I cX12_examine 80 = some (.goto 5) := by decide +kernel
theorem i186_83 : gm_I cX12_examine 83 = some (.bipush 6) := by decide +kernel
theorem i186_85 : gm_I cX12_examine 85 = some (.ireturn) := by decide +kernel
theorem i187_0 : gm_I cX12_audit 0 = some (.aload_n 0) := by decide +kernel
theorem i187_1 : gm_I cX12_audit 1 = some (.iconst 0) := by decide +kernel
theorem i187_2 : gm_I cX12_audit 2 = some (.putfield 100) := by decide +kernel
theorem i187_5 : gm_I cX12_audit 5 = some (.aload_n 0) := by decide +kernel
theorem i187_6 : gm_I cX12_audit 6 = some (.getfield 295) := by decide +kernel
theorem i187_9 : gm_I cX12_audit 9 = some (.ifCond .ne 9) := by decide +kernel
theorem i187_12 : gm_I cX12_audit 12 = some (.aload_n 0) := by decide +kernel
theorem i187_13 : gm_I cX12_audit 13 = some (.iconst 1) := by decide +kernel
theorem i187_14 : gm_I cX12_audit 14 = some (.invokevirtual 328) := by decide +kernel
theorem i187_17 : gm_I cX12_audit 17 = some (.ireturn) := by decide +kernel
theorem i187_18 : gm_I cX12_audit 18 = some (.aload_n 0) := by decide +kernel
theorem i187_19 : gm_I cX12_audit 19 = some (.aload_n 0) := by decide +kernel
theorem i187_20 : gm_I cX12_audit 20 = some (.invokevirtual 349) := by decide +kernel
theorem i187_23 : gm_I cX12_audit 23 = some (.putfield 352) := by decide +kernel
theorem i187_26 : gm_I cX12_audit 26 = some (.aload_n 0) := by decide +kernel
theorem i187_27 : gm_I cX12_audit 27 = some (.iconst 0) := by decide +kernel
theorem i187_28 : gm_I cX12_audit 28 = some (.putfield 254) := by decide +kernel
theorem i187_31 : gm_I cX12_audit 31 = some (.aload_n 0) := by decide +kernel
theorem i187_32 : gm_I cX12_audit 32 = some (.getfield 352) := by decide +kernel
theorem i187_35 : gm_I cX12_audit 35 = some (.ireturn) := by decide +kernel
theorem i188_0 : gm_I cX12_refuses 0 = some (.aload_n 0) := by decide +kernel
theorem i188_1 : gm_I cX12_refuses 1 = some (.getfield 295) := by decide +kernel
theorem i188_4 : gm_I cX12_refuses 4 = some (.ifCond .ne 5) := by decide +kernel
theorem i188_7 : gm_I cX12_refuses 7 = some (.iconst 1) := by decide +kernel
theorem i188_8 : gm_I cX12_refuses 8 = some (.ireturn) := by decide +kernel
theorem i188_9 : gm_I cX12_refuses 9 = some (.aload_n 0) := by decide +kernel
theorem i188_10 : gm_I cX12_refuses 10 = some (.getfield 298) := by decide +kernel
theorem i188_13 : gm_I cX12_refuses 13 = some (.ifCond .ne 11) := by decide +kernel
theorem i188_16 : gm_I cX12_refuses 16 = some (.aload_n 0) := by decide +kernel
theorem i188_17 : gm_I cX12_refuses 17 = some (.aload_n 0) := by decide +kernel
theorem i188_18 : gm_I cX12_refuses 18 = some (.invokevirtual 349) := by decide +kernel
theorem i188_21 : gm_I cX12_refuses 21 = some (.putfield 352) := by decide +kernel
theorem i188_24 : gm_I cX12_refuses 24 = some (.aload_n 0) := by decide +kernel
theorem i188_25 : gm_I cX12_refuses 25 = some (.getfield 352) := by decide +kernel
theorem i188_28 : gm_I cX12_refuses 28 = some (.ifCond .eq 7) := by decide +kernel
theorem i188_31 : gm_I cX12_refuses 31 = some (.iconst 2) := by decide +kernel
theorem i188_32 : gm_I cX12_refuses 32 = some (.goto 4) := by decide +kernel
theorem i188_35 : gm_I cX12_refuses 35 = some (.iconst 0) := by decide +kernel
theorem i188_36 : gm_I cX12_refuses 36 = some (.ireturn) := by decide +kernel
theorem i189_0 : gm_I cX12_worth 0 = some (.aload_n 0) := by decide +kernel
theorem i189_1 : gm_I cX12_worth 1 = some (.aload_n 0) := by decide +kernel
theorem i189_2 : gm_I cX12_worth 2 = some (.invokevirtual 355) := by decide +kernel
theorem i189_5 : gm_I cX12_worth 5 = some (.putfield 100) := by decide +kernel
theorem i189_8 : gm_I cX12_worth 8 = some (.aload_n 0) := by decide +kernel
theorem i189_9 : gm_I cX12_worth 9 = some (.iconst 0) := by decide +kernel
theorem i189_10 : gm_I cX12_worth 10 = some (.putfield 254) := by decide +kernel
theorem i189_13 : gm_I cX12_worth 13 = some (.aload_n 0) := by decide +kernel
theorem i189_14 : gm_I cX12_worth 14 = some (.getfield 100) := by decide +kernel
theorem i189_17 : gm_I cX12_worth 17 = some (.ifCond .le 7) := by decide +kernel
theorem i189_20 : gm_I cX12_worth 20 = some (.iconst 0) := by decide +kernel
theorem i189_21 : gm_I cX12_worth 21 = some (.goto 20) := by decide +kernel
theorem i189_24 : gm_I cX12_worth 24 = some (.aload_n 0) := by decide +kernel
theorem i189_25 : gm_I cX12_worth 25 = some (.getfield 97) := by decide +kernel
theorem i189_28 : gm_I cX12_worth 28 = some (.aload_n 0) := by decide +kernel
theorem i189_29 : gm_I cX12_worth 29 = some (.aload_n 0) := by decide +kernel
theorem i189_30 : gm_I cX12_worth 30 = some (.getfield 61) := by decide +kernel
theorem i189_33 : gm_I cX12_worth 33 = some (.aload_n 0) := by decide +kernel
theorem i189_34 : gm_I cX12_worth 34 = some (.getfield 263) := by decide +kernel
theorem i189_37 : gm_I cX12_worth 37 = some (.invokevirtual 335) := by decide +kernel
theorem i189_40 : gm_I cX12_worth 40 = some (.iaload) := by decide +kernel
theorem i189_41 : gm_I cX12_worth 41 = some (.ireturn) := by decide +kernel
theorem i190_0 : gm_I cX12_best 0 = some (.aload_n 0) := by decide +kernel
theorem i190_1 : gm_I cX12_best 1 = some (.aload_n 0) := by decide +kernel
theorem i190_2 : gm_I cX12_best 2 = some (.invokevirtual 355) := by decide +kernel
theorem i190_5 : gm_I cX12_best 5 = some (.putfield 100) := by decide +kernel
theorem i190_8 : gm_I cX12_best 8 = some (.aload_n 0) := by decide +kernel
theorem i190_9 : gm_I cX12_best 9 = some (.iconst 0) := by decide +kernel
theorem i190_10 : gm_I cX12_best 10 = some (.putfield 254) := by decide +kernel
theorem i190_13 : gm_I cX12_best 13 = some (.aload_n 0) := by decide +kernel
theorem i190_14 : gm_I cX12_best 14 = some (.getfield 100) := by decide +kernel
theorem i190_17 : gm_I cX12_best 17 = some (.ifCond .le 5) := by decide +kernel
theorem i190_20 : gm_I cX12_best 20 = some (.iconst 0) := by decide +kernel
theorem i190_21 : gm_I cX12_best 21 = some (.ireturn) := by decide +kernel
theorem i190_22 : gm_I cX12_best 22 = some (.aload_n 0) := by decide +kernel
theorem i190_23 : gm_I cX12_best 23 = some (.aload_n 0) := by decide +kernel
theorem i190_24 : gm_I cX12_best 24 = some (.getfield 61) := by decide +kernel
theorem i190_27 : gm_I cX12_best 27 = some (.aload_n 0) := by decide +kernel
theorem i190_28 : gm_I cX12_best 28 = some (.getfield 263) := by decide +kernel
theorem i190_31 : gm_I cX12_best 31 = some (.invokevirtual 335) := by decide +kernel
theorem i190_34 : gm_I cX12_best 34 = some (.istore_n 1) := by decide +kernel
theorem i190_35 : gm_I cX12_best 35 = some (.aload_n 0) := by decide +kernel
theorem i190_36 : gm_I cX12_best 36 = some (.getfield 94) := by decide +kernel
theorem i190_39 : gm_I cX12_best 39 = some (.iload_n 1) := by decide +kernel
theorem i190_40 : gm_I cX12_best 40 = some (.iaload) := by decide +kernel
theorem i190_41 : gm_I cX12_best 41 = some (.ifCond .ne 9) := by decide +kernel
theorem i190_44 : gm_I cX12_best 44 = some (.aload_n 0) := by decide +kernel
theorem i190_45 : gm_I cX12_best 45 = some (.iconst 3) := by decide +kernel
theorem i190_46 : gm_I cX12_best 46 = some (.invokevirtual 328) := by decide +kernel
theorem i190_49 : gm_I cX12_best 49 = some (.ireturn) := by decide +kernel
theorem i190_50 : gm_I cX12_best 50 = some (.aload_n 0) := by decide +kernel
theorem i190_51 : gm_I cX12_best 51 = some (.getfield 88) := by decide +kernel
theorem i190_54 : gm_I cX12_best 54 = some (.iload_n 1) := by decide +kernel
theorem i190_55 : gm_I cX12_best 55 = some (.iaload) := by decide +kernel
theorem i190_56 : gm_I cX12_best 56 = some (.istore_n 2) := by decide +kernel
theorem i190_57 : gm_I cX12_best 57 = some (.iload_n 2) := by decide +kernel
theorem i190_58 : gm_I cX12_best 58 = some (.aload_n 0) := by decide +kernel
theorem i190_59 : gm_I cX12_best 59 = some (.getfield 88) := by decide +kernel
theorem i190_62 : gm_I cX12_best 62 = some (.iload_n 1) := by decide +kernel
theorem i190_63 : gm_I cX12_best 63 = some (.iconst 1) := by decide +kernel
theorem i190_64 : gm_I cX12_best 64 = some (.iadd) := by decide +kernel
theorem i190_65 : gm_I cX12_best 65 = some (.iaload) := by decide +kernel
theorem i190_66 : gm_I cX12_best 66 = some (.if_icmp .ge 60) := by decide +kernel
theorem i190_69 : gm_I cX12_best 69 = some (.iload_n 2) := by decide +kernel
theorem i190_70 : gm_I cX12_best 70 = some (.aload_n 0) := by decide +kernel
theorem i190_71 : gm_I cX12_best 71 = some (.getfield 88) := by decide +kernel
theorem i190_74 : gm_I cX12_best 74 = some (.iload_n 1) := by decide +kernel
theorem i190_75 : gm_I cX12_best 75 = some (.iaload) := by decide +kernel
theorem i190_76 : gm_I cX12_best 76 = some (.isub) := by decide +kernel
theorem i190_77 : gm_I cX12_best 77 = some (.istore_n 3) := by decide +kernel
theorem i190_78 : gm_I cX12_best 78 = some (.aload_n 0) := by decide +kernel
theorem i190_79 : gm_I cX12_best 79 = some (.getfield 97) := by decide +kernel
theorem i190_82 : gm_I cX12_best 82 = some (.aload_n 0) := by decide +kernel
theorem i190_83 : gm_I cX12_best 83 = some (.getfield 91) := by decide +kernel
theorem i190_86 : gm_I cX12_best 86 = some (.iload_n 2) := by decide +kernel
theorem i190_87 : gm_I cX12_best 87 = some (.iaload) := by decide +kernel
theorem i190_88 : gm_I cX12_best 88 = some (.iaload) := by decide +kernel
theorem i190_89 : gm_I cX12_best 89 = some (.aload_n 0) := by decide +kernel
theorem i190_90 : gm_I cX12_best 90 = some (.getfield 97) := by decide +kernel
theorem i190_93 : gm_I cX12_best 93 = some (.iload_n 1) := by decide +kernel
theorem i190_94 : gm_I cX12_best 94 = some (.iaload) := by decide +kernel
theorem i190_95 : gm_I cX12_best 95 = some (.if_icmp .ne 25) := by decide +kernel
theorem i190_98 : gm_I cX12_best 98 = some (.sipush 256) := by decide +kernel
theorem i190_101 : gm_I cX12_best 101 = some (.iload_n 3) := by decide +kernel
theorem i190_102 : gm_I cX12_best 102 = some (.aload_n 0) := by decide +kernel
theorem i190_103 : gm_I cX12_best 103 = some (.getfield 94) := by decide +kernel
theorem i190_106 : gm_I cX12_best 106 = some (.iload_n 1) := by decide +kernel
theorem i190_107 : gm_I cX12_best 107 = some (.iaload) := by decide +kernel
theorem i190_108 : gm_I cX12_best 108 = some (.idiv) := by decide +kernel
theorem i190_109 : gm_I cX12_best 109 = some (.imul) := by decide +kernel
theorem i190_110 : gm_I cX12_best 110 = some (.iload_n 3) := by decide +kernel
theorem i190_111 : gm_I cX12_best 111 = some (.aload_n 0) := by decide +kernel
theorem i190_112 : gm_I cX12_best 112 = some (.getfield 94) := by decide +kernel
theorem i190_115 : gm_I cX12_best 115 = some (.iload_n 1) := by decide +kernel
theorem i190_116 : gm_I cX12_best 116 = some (.iaload) := by decide +kernel
theorem i190_117 : gm_I cX12_best 117 = some (.irem) := by decide +kernel
theorem i190_118 : gm_I cX12_best 118 = some (.iadd) := by decide +kernel
theorem i190_119 : gm_I cX12_best 119 = some (.ireturn) := by decide +kernel
theorem i190_120 : gm_I cX12_best 120 = some (.iinc 2 1) := by decide +kernel
theorem i190_123 : gm_I cX12_best 123 = some (.goto (-66)) := by decide +kernel
theorem i190_126 : gm_I cX12_best 126 = some (.iconst 0) := by decide +kernel
theorem i190_127 : gm_I cX12_best 127 = some (.ireturn) := by decide +kernel
theorem i191_0 : gm_I cJ6_bitCount_0f7a4 0 = some (.iload_n 0) := by decide +kernel
theorem i191_1 : gm_I cJ6_bitCount_0f7a4 1 = some (.iload_n 0) := by decide +kernel
theorem i191_2 : gm_I cJ6_bitCount_0f7a4 2 = some (.iconst 1) := by decide +kernel
theorem i191_3 : gm_I cJ6_bitCount_0f7a4 3 = some (.iushr) := by decide +kernel
theorem i191_4 : gm_I cJ6_bitCount_0f7a4 4 = some (.ldc_w 265) := by decide +kernel
theorem i191_7 : gm_I cJ6_bitCount_0f7a4 7 = some (.iand) := by decide +kernel
theorem i191_8 : gm_I cJ6_bitCount_0f7a4 8 = some (.isub) := by decide +kernel
theorem i191_9 : gm_I cJ6_bitCount_0f7a4 9 = some (.istore_n 0) := by decide +kernel
theorem i191_10 : gm_I cJ6_bitCount_0f7a4 10 = some (.iload_n 0) := by decide +kernel
theorem i191_11 : gm_I cJ6_bitCount_0f7a4 11 = some (.ldc_w 266) := by decide +kernel
theorem i191_14 : gm_I cJ6_bitCount_0f7a4 14 = some (.iand) := by decide +kernel
theorem i191_15 : gm_I cJ6_bitCount_0f7a4 15 = some (.iload_n 0) := by decide +kernel
theorem i191_16 : gm_I cJ6_bitCount_0f7a4 16 = some (.iconst 2) := by decide +kernel
theorem i191_17 : gm_I cJ6_bitCount_0f7a4 17 = some (.iushr) := by decide +kernel
theorem i191_18 : gm_I cJ6_bitCount_0f7a4 18 = some (.ldc_w 266) := by decide +kernel
theorem i191_21 : gm_I cJ6_bitCount_0f7a4 21 = some (.iand) := by decide +kernel
theorem i191_22 : gm_I cJ6_bitCount_0f7a4 22 = some (.iadd) := by decide +kernel
theorem i191_23 : gm_I cJ6_bitCount_0f7a4 23 = some (.istore_n 0) := by decide +kernel
theorem i191_24 : gm_I cJ6_bitCount_0f7a4 24 = some (.iload_n 0) := by decide +kernel
theorem i191_25 : gm_I cJ6_bitCount_0f7a4 25 = some (.iload_n 0) := by decide +kernel
theorem i191_26 : gm_I cJ6_bitCount_0f7a4 26 = some (.iconst 4) := by decide +kernel
theorem i191_27 : gm_I cJ6_bitCount_0f7a4 27 = some (.iushr) := by decide +kernel
theorem i191_28 : gm_I cJ6_bitCount_0f7a4 28 = some (.iadd) := by decide +kernel
theorem i191_29 : gm_I cJ6_bitCount_0f7a4 29 = some (.ldc_w 267) := by decide +kernel
theorem i191_32 : gm_I cJ6_bitCount_0f7a4 32 = some (.iand) := by decide +kernel
theorem i191_33 : gm_I cJ6_bitCount_0f7a4 33 = some (.istore_n 0) := by decide +kernel
theorem i191_34 : gm_I cJ6_bitCount_0f7a4 34 = some (.iload_n 0) := by decide +kernel
theorem i191_35 : gm_I cJ6_bitCount_0f7a4 35 = some (.iload_n 0) := by decide +kernel
theorem i191_36 : gm_I cJ6_bitCount_0f7a4 36 = some (.bipush 8) := by decide +kernel
theorem i191_38 : gm_I cJ6_bitCount_0f7a4 38 = some (.iushr) := by decide +kernel
theorem i191_39 : gm_I cJ6_bitCount_0f7a4 39 = some (.iadd) := by decide +kernel
theorem i191_40 : gm_I cJ6_bitCount_0f7a4 40 = some (.istore_n 0) := by decide +kernel
theorem i191_41 : gm_I cJ6_bitCount_0f7a4 41 = some (.iload_n 0) := by decide +kernel
theorem i191_42 : gm_I cJ6_bitCount_0f7a4 42 = some (.iload_n 0) := by decide +kernel
theorem i191_43 : gm_I cJ6_bitCount_0f7a4 43 = some (.bipush 16) := by decide +kernel
theorem i191_45 : gm_I cJ6_bitCount_0f7a4 45 = some (.iushr) := by decide +kernel
theorem i191_46 : gm_I cJ6_bitCount_0f7a4 46 = some (.iadd) := by decide +kernel
theorem i191_47 : gm_I cJ6_bitCount_0f7a4 47 = some (.istore_n 0) := by decide +kernel
theorem i191_48 : gm_I cJ6_bitCount_0f7a4 48 = some (.iload_n 0) := by decide +kernel
theorem i191_49 : gm_I cJ6_bitCount_0f7a4 49 = some (.bipush 63) := by decide +kernel
theorem i191_51 : gm_I cJ6_bitCount_0f7a4 51 = some (.iand) := by decide +kernel
theorem i191_52 : gm_I cJ6_bitCount_0f7a4 52 = some (.ireturn) := by decide +kernel
theorem i192_0 : gm_I cJ7_fill_53178 0 = some (.iconst 0) := by decide +kernel
theorem i192_1 : gm_I cJ7_fill_53178 1 = some (.istore_n 2) := by decide +kernel
theorem i192_2 : gm_I cJ7_fill_53178 2 = some (.aload_n 0) := by decide +kernel
theorem i192_3 : gm_I cJ7_fill_53178 3 = some (.arraylength) := by decide +kernel
theorem i192_4 : gm_I cJ7_fill_53178 4 = some (.istore_n 3) := by decide +kernel
theorem i192_5 : gm_I cJ7_fill_53178 5 = some (.iload_n 2) := by decide +kernel
theorem i192_6 : gm_I cJ7_fill_53178 6 = some (.iload_n 3) := by decide +kernel
theorem i192_7 : gm_I cJ7_fill_53178 7 = some (.if_icmp .ge 13) := by decide +kernel
theorem i192_10 : gm_I cJ7_fill_53178 10 = some (.aload_n 0) := by decide +kernel
theorem i192_11 : gm_I cJ7_fill_53178 11 = some (.iload_n 2) := by decide +kernel
theorem i192_12 : gm_I cJ7_fill_53178 12 = some (.iload_n 1) := by decide +kernel
theorem i192_13 : gm_I cJ7_fill_53178 13 = some (.iastore) := by decide +kernel
theorem i192_14 : gm_I cJ7_fill_53178 14 = some (.iinc 2 1) := by decide +kernel
theorem i192_17 : gm_I cJ7_fill_53178 17 = some (.goto (-12)) := by decide +kernel
theorem i192_20 : gm_I cJ7_fill_53178 20 = some (.return_) := by decide +kernel
