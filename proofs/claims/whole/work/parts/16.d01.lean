/-! the code by its places, by program -/
theorem i10_0 : gm_I cX0_init 0 = some (.aload_n 0) := by decide +kernel
theorem i10_1 : gm_I cX0_init 1 = some (.invokespecial 3) := by decide +kernel
theorem i10_4 : gm_I cX0_init 4 = some (.aload_n 0) := by decide +kernel
theorem i10_5 : gm_I cX0_init 5 = some (.bipush 60) := by decide +kernel
theorem i10_7 : gm_I cX0_init 7 = some (.anewarray 11) := by decide +kernel
theorem i10_10 : gm_I cX0_init 10 = some (.putfield 13) := by decide +kernel
theorem i10_13 : gm_I cX0_init 13 = some (.aload_n 0) := by decide +kernel
theorem i10_14 : gm_I cX0_init 14 = some (.sipush 3600) := by decide +kernel
theorem i10_17 : gm_I cX0_init 17 = some (.newarray .int) := by decide +kernel
theorem i10_19 : gm_I cX0_init 19 = some (.putfield 17) := by decide +kernel
theorem i10_22 : gm_I cX0_init 22 = some (.aload_n 0) := by decide +kernel
theorem i10_23 : gm_I cX0_init 23 = some (.bipush 60) := by decide +kernel
theorem i10_25 : gm_I cX0_init 25 = some (.newarray .int) := by decide +kernel
theorem i10_27 : gm_I cX0_init 27 = some (.putfield 21) := by decide +kernel
theorem i10_30 : gm_I cX0_init 30 = some (.aload_n 0) := by decide +kernel
theorem i10_31 : gm_I cX0_init 31 = some (.bipush 60) := by decide +kernel
theorem i10_33 : gm_I cX0_init 33 = some (.newarray .boolean) := by decide +kernel
theorem i10_35 : gm_I cX0_init 35 = some (.putfield 24) := by decide +kernel
theorem i10_38 : gm_I cX0_init 38 = some (.iconst 0) := by decide +kernel
theorem i10_39 : gm_I cX0_init 39 = some (.istore_n 1) := by decide +kernel
theorem i10_40 : gm_I cX0_init 40 = some (.iload_n 1) := by decide +kernel
theorem i10_41 : gm_I cX0_init 41 = some (.bipush 60) := by decide +kernel
theorem i10_43 : gm_I cX0_init 43 = some (.if_icmp .ge 24) := by decide +kernel
theorem i10_46 : gm_I cX0_init 46 = some (.aload_n 0) := by decide +kernel
theorem i10_47 : gm_I cX0_init 47 = some (.getfield 13) := by decide +kernel
theorem i10_50 : gm_I cX0_init 50 = some (.iload_n 1) := by decide +kernel
theorem i10_51 : gm_I cX0_init 51 = some (.new 11) := by decide +kernel
theorem i10_54 : gm_I cX0_init 54 = some (.dup) := by decide +kernel
theorem i10_55 : gm_I cX0_init 55 = some (.bipush 24) := by decide +kernel
theorem i10_57 : gm_I cX0_init 57 = some (.invokespecial 28) := by decide +kernel
theorem i10_60 : gm_I cX0_init 60 = some (.aastore) := by decide +kernel
theorem i10_61 : gm_I cX0_init 61 = some (.iinc 1 1) := by decide +kernel
theorem i10_64 : gm_I cX0_init 64 = some (.goto (-24)) := by decide +kernel
theorem i10_67 : gm_I cX0_init 67 = some (.return_) := by decide +kernel
theorem i11_0 : gm_I cX0_forget 0 = some (.aload_n 0) := by decide +kernel
theorem i11_1 : gm_I cX0_forget 1 = some (.iconst 0) := by decide +kernel
theorem i11_2 : gm_I cX0_forget 2 = some (.putfield 31) := by decide +kernel
theorem i11_5 : gm_I cX0_forget 5 = some (.aload_n 0) := by decide +kernel
theorem i11_6 : gm_I cX0_forget 6 = some (.iconst 0) := by decide +kernel
theorem i11_7 : gm_I cX0_forget 7 = some (.putfield 35) := by decide +kernel
theorem i11_10 : gm_I cX0_forget 10 = some (.return_) := by decide +kernel
theorem i12_0 : gm_I cX0_run 0 = some (.aload_n 0) := by decide +kernel
theorem i12_1 : gm_I cX0_run 1 = some (.getfield 31) := by decide +kernel
theorem i12_4 : gm_I cX0_run 4 = some (.ifCond .eq 8) := by decide +kernel
theorem i12_7 : gm_I cX0_run 7 = some (.aload_n 0) := by decide +kernel
theorem i12_8 : gm_I cX0_run 8 = some (.getfield 39) := by decide +kernel
theorem i12_11 : gm_I cX0_run 11 = some (.ireturn) := by decide +kernel
theorem i12_12 : gm_I cX0_run 12 = some (.aload_n 0) := by decide +kernel
theorem i12_13 : gm_I cX0_run 13 = some (.iconst 1) := by decide +kernel
theorem i12_14 : gm_I cX0_run 14 = some (.putfield 31) := by decide +kernel
theorem i12_17 : gm_I cX0_run 17 = some (.aload_n 0) := by decide +kernel
theorem i12_18 : gm_I cX0_run 18 = some (.iconst 1) := by decide +kernel
theorem i12_19 : gm_I cX0_run 19 = some (.putfield 35) := by decide +kernel
theorem i12_22 : gm_I cX0_run 22 = some (.aload_n 0) := by decide +kernel
theorem i12_23 : gm_I cX0_run 23 = some (.getfield 13) := by decide +kernel
theorem i12_26 : gm_I cX0_run 26 = some (.iconst 0) := by decide +kernel
theorem i12_27 : gm_I cX0_run 27 = some (.aaload) := by decide +kernel
theorem i12_28 : gm_I cX0_run 28 = some (.aload_n 1) := by decide +kernel
theorem i12_29 : gm_I cX0_run 29 = some (.getfield 42) := by decide +kernel
theorem i12_32 : gm_I cX0_run 32 = some (.invokevirtual 48) := by decide +kernel
theorem i12_35 : gm_I cX0_run 35 = some (.aload_n 0) := by decide +kernel
theorem i12_36 : gm_I cX0_run 36 = some (.getfield 17) := by decide +kernel
theorem i12_39 : gm_I cX0_run 39 = some (.iconst (-1)) := by decide +kernel
theorem i12_40 : gm_I cX0_run 40 = some (.invokestatic 52) := by decide +kernel
theorem i12_43 : gm_I cX0_run 43 = some (.aload_n 0) := by decide +kernel
theorem i12_44 : gm_I cX0_run 44 = some (.aload_n 1) := by decide +kernel
theorem i12_45 : gm_I cX0_run 45 = some (.getfield 58) := by decide +kernel
theorem i12_48 : gm_I cX0_run 48 = some (.getfield 61) := by decide +kernel
theorem i12_51 : gm_I cX0_run 51 = some (.iconst 2) := by decide +kernel
theorem i12_52 : gm_I cX0_run 52 = some (.if_icmp .ne 7) := by decide +kernel
theorem i12_55 : gm_I cX0_run 55 = some (.iconst 0) := by decide +kernel
theorem i12_56 : gm_I cX0_run 56 = some (.goto 4) := by decide +kernel
theorem i12_59 : gm_I cX0_run 59 = some (.iconst 1) := by decide +kernel
theorem i12_60 : gm_I cX0_run 60 = some (.putfield 39) := by decide +kernel
theorem i12_63 : gm_I cX0_run 63 = some (.iconst 0) := by decide +kernel
theorem i12_64 : gm_I cX0_run 64 = some (.istore_n 2) := by decide +kernel
theorem i12_65 : gm_I cX0_run 65 = some (.iload_n 2) := by decide +kernel
theorem i12_66 : gm_I cX0_run 66 = some (.aload_n 0) := by decide +kernel
theorem i12_67 : gm_I cX0_run 67 = some (.getfield 35) := by decide +kernel
theorem i12_70 : gm_I cX0_run 70 = some (.if_icmp .ge 154) := by decide +kernel
theorem i12_73 : gm_I cX0_run 73 = some (.aload_n 0) := by decide +kernel
theorem i12_74 : gm_I cX0_run 74 = some (.getfield 39) := by decide +kernel
theorem i12_77 : gm_I cX0_run 77 = some (.ifCond .ne 147) := by decide +kernel
theorem i12_80 : gm_I cX0_run 80 = some (.aload_n 0) := by decide +kernel
theorem i12_81 : gm_I cX0_run 81 = some (.aload_n 1) := by decide +kernel
theorem i12_82 : gm_I cX0_run 82 = some (.aload_n 0) := by decide +kernel
theorem i12_83 : gm_I cX0_run 83 = some (.getfield 13) := by decide +kernel
theorem i12_86 : gm_I cX0_run 86 = some (.iload_n 2) := by decide +kernel
theorem i12_87 : gm_I cX0_run 87 = some (.aaload) := by decide +kernel
theorem i12_88 : gm_I cX0_run 88 = some (.invokevirtual 64) := by decide +kernel
theorem i12_91 : gm_I cX0_run 91 = some (.ifCond .eq 12) := by decide +kernel
theorem i12_94 : gm_I cX0_run 94 = some (.aload_n 0) := by decide +kernel
theorem i12_95 : gm_I cX0_run 95 = some (.aload_n 1) := by decide +kernel
theorem i12_96 : gm_I cX0_run 96 = some (.iload_n 2) := by decide +kernel
theorem i12_97 : gm_I cX0_run 97 = some (.invokevirtual 68) := by decide +kernel
theorem i12_100 : gm_I cX0_run 100 = some (.goto 5) := by decide +kernel
theorem i12_103 : gm_I cX0_run 103 = some (.bipush 7) := by decide +kernel
theorem i12_105 : gm_I cX0_run 105 = some (.putfield 39) := by decide +kernel
theorem i12_108 : gm_I cX0_run 108 = some (.aload_n 1) := by decide +kernel
theorem i12_109 : gm_I cX0_run 109 = some (.getfield 72) := by decide +kernel
theorem i12_112 : gm_I cX0_run 112 = some (.ifCond .eq 7) := by decide +kernel
theorem i12_115 : gm_I cX0_run 115 = some (.iconst 0) := by decide +kernel
theorem i12_116 : gm_I cX0_run 116 = some (.goto 10) := by decide +kernel
theorem i12_119 : gm_I cX0_run 119 = some (.aload_n 1) := by decide +kernel
theorem i12_120 : gm_I cX0_run 120 = some (.getfield 75) := by decide +kernel
theorem i12_123 : gm_I cX0_run 123 = some (.getfield 61) := by decide +kernel
theorem i12_126 : gm_I cX0_run 126 = some (.istore_n 3) := by decide +kernel
theorem i12_127 : gm_I cX0_run 127 = some (.iconst 0) := by decide +kernel
theorem i12_128 : gm_I cX0_run 128 = some (.istore 4) := by decide +kernel
theorem i12_130 : gm_I cX0_run 130 = some (.iload 4) := by decide +kernel
theorem i12_132 : gm_I cX0_run 132 = some (.iload_n 3) := by decide +kernel
theorem i12_133 : gm_I cX0_run 133 = some (.if_icmp .ge 85) := by decide +kernel
theorem i12_136 : gm_I cX0_run 136 = some (.aload_n 0) := by decide +kernel
theorem i12_137 : gm_I cX0_run 137 = some (.getfield 39) := by decide +kernel
theorem i12_140 : gm_I cX0_run 140 = some (.ifCond .ne 78) := by decide +kernel
theorem i12_143 : gm_I cX0_run 143 = some (.iconst 0) := by decide +kernel
theorem i12_144 : gm_I cX0_run 144 = some (.istore 5) := by decide +kernel
theorem i12_146 : gm_I cX0_run 146 = some (.iload 5) := by decide +kernel
theorem i12_148 : gm_I cX0_run 148 = some (.aload_n 1) := by decide +kernel
theorem i12_149 : gm_I cX0_run 149 = some (.getfield 78) := by decide +kernel
theorem i12_152 : gm_I cX0_run 152 = some (.getfield 61) := by decide +kernel
theorem i12_155 : gm_I cX0_run 155 = some (.if_icmp .ge 57) := by decide +kernel
theorem i12_158 : gm_I cX0_run 158 = some (.aload_n 0) := by decide +kernel
theorem i12_159 : gm_I cX0_run 159 = some (.getfield 39) := by decide +kernel
theorem i12_162 : gm_I cX0_run 162 = some (.ifCond .ne 50) := by decide +kernel
theorem i12_165 : gm_I cX0_run 165 = some (.aload_n 0) := by decide +kernel
theorem i12_166 : gm_I cX0_run 166 = some (.aload_n 1) := by decide +kernel
theorem i12_167 : gm_I cX0_run 167 = some (.iload 4) := by decide +kernel
theorem i12_169 : gm_I cX0_run 169 = some (.iload 5) := by decide +kernel
theorem i12_171 : gm_I cX0_run 171 = some (.invokevirtual 81) := by decide +kernel
theorem i12_174 : gm_I cX0_run 174 = some (.ifCond .eq 27) := by decide +kernel
theorem i12_177 : gm_I cX0_run 177 = some (.aload_n 0) := by decide +kernel
theorem i12_178 : gm_I cX0_run 178 = some (.iload_n 2) := by decide +kernel
theorem i12_179 : gm_I cX0_run 179 = some (.iload 4) := by decide +kernel
theorem i12_181 : gm_I cX0_run 181 = some (.bipush 8) := by decide +kernel
theorem i12_183 : gm_I cX0_run 183 = some (.ishl) := by decide +kernel
theorem i12_184 : gm_I cX0_run 184 = some (.iload 5) := by decide +kernel
theorem i12_186 : gm_I cX0_run 186 = some (.ior) := by decide +kernel
theorem i12_187 : gm_I cX0_run 187 = some (.aload_n 1) := by decide +kernel
theorem i12_188 : gm_I cX0_run 188 = some (.getfield 85) := by decide +kernel
theorem i12_191 : gm_I cX0_run 191 = some (.invokevirtual 88) := by decide +kernel
theorem i12_194 : gm_I cX0_run 194 = some (.ifCond .eq 7) := by decide +kernel
theorem i12_197 : gm_I cX0_run 197 = some (.iconst 0) := by decide +kernel
theorem i12_198 : gm_I cX0_run 198 = some (.goto 5) := by decide +kernel
theorem i12_201 : gm_I cX0_run 201 = some (.bipush 7) := by decide +kernel
theorem i12_203 : gm_I cX0_run 203 = some (.putfield 39) := by decide +kernel
theorem i12_206 : gm_I cX0_run 206 = some (.iinc 5 1) := by decide +kernel
theorem i12_209 : gm_I cX0_run 209 = some (.goto (-63)) := by decide +kernel
theorem i12_212 : gm_I cX0_run 212 = some (.iinc 4 1) := by decide +kernel
theorem i12_215 : gm_I cX0_run 215 = some (.goto (-85)) := by decide +kernel
theorem i12_218 : gm_I cX0_run 218 = some (.iinc 2 1) := by decide +kernel
theorem i12_221 : gm_I cX0_run 221 = some (.goto (-156)) := by decide +kernel
theorem i12_224 : gm_I cX0_run 224 = some (.aload_n 0) := by decide +kernel
theorem i12_225 : gm_I cX0_run 225 = some (.getfield 39) := by decide +kernel
theorem i12_228 : gm_I cX0_run 228 = some (.ifCond .ne 16) := by decide +kernel
theorem i12_231 : gm_I cX0_run 231 = some (.aload_n 0) := by decide +kernel
theorem i12_232 : gm_I cX0_run 232 = some (.invokevirtual 92) := by decide +kernel
theorem i12_235 : gm_I cX0_run 235 = some (.ifCond .ne 9) := by decide +kernel
theorem i12_238 : gm_I cX0_run 238 = some (.aload_n 0) := by decide +kernel
theorem i12_239 : gm_I cX0_run 239 = some (.bipush 6) := by decide +kernel
theorem i12_241 : gm_I cX0_run 241 = some (.putfield 39) := by decide +kernel
theorem i12_244 : gm_I cX0_run 244 = some (.aload_n 1) := by decide +kernel
theorem i12_245 : gm_I cX0_run 245 = some (.aload_n 1) := by decide +kernel
theorem i12_246 : gm_I cX0_run 246 = some (.getfield 96) := by decide +kernel
theorem i12_249 : gm_I cX0_run 249 = some (.invokevirtual 64) := by decide +kernel
theorem i12_252 : gm_I cX0_run 252 = some (.pop) := by decide +kernel
theorem i12_253 : gm_I cX0_run 253 = some (.aload_n 0) := by decide +kernel
theorem i12_254 : gm_I cX0_run 254 = some (.getfield 39) := by decide +kernel
theorem i12_257 : gm_I cX0_run 257 = some (.ireturn) := by decide +kernel
theorem i13_0 : gm_I cX0_judge 0 = some (.aload_n 0) := by decide +kernel
theorem i13_1 : gm_I cX0_judge 1 = some (.getfield 21) := by decide +kernel
theorem i13_4 : gm_I cX0_judge 4 = some (.iload_n 2) := by decide +kernel
theorem i13_5 : gm_I cX0_judge 5 = some (.iconst (-1)) := by decide +kernel
theorem i13_6 : gm_I cX0_judge 6 = some (.iastore) := by decide +kernel
theorem i13_7 : gm_I cX0_judge 7 = some (.aload_n 0) := by decide +kernel
theorem i13_8 : gm_I cX0_judge 8 = some (.getfield 24) := by decide +kernel
theorem i13_11 : gm_I cX0_judge 11 = some (.iload_n 2) := by decide +kernel
theorem i13_12 : gm_I cX0_judge 12 = some (.aload_n 1) := by decide +kernel
theorem i13_13 : gm_I cX0_judge 13 = some (.getfield 78) := by decide +kernel
theorem i13_16 : gm_I cX0_judge 16 = some (.getfield 61) := by decide +kernel
theorem i13_19 : gm_I cX0_judge 19 = some (.iconst 1) := by decide +kernel
theorem i13_20 : gm_I cX0_judge 20 = some (.if_icmp .le 7) := by decide +kernel
theorem i13_23 : gm_I cX0_judge 23 = some (.iconst 1) := by decide +kernel
theorem i13_24 : gm_I cX0_judge 24 = some (.goto 4) := by decide +kernel
theorem i13_27 : gm_I cX0_judge 27 = some (.iconst 0) := by decide +kernel
theorem i13_28 : gm_I cX0_judge 28 = some (.bastore) := by decide +kernel
theorem i13_29 : gm_I cX0_judge 29 = some (.aload_n 1) := by decide +kernel
theorem i13_30 : gm_I cX0_judge 30 = some (.getfield 72) := by decide +kernel
theorem i13_33 : gm_I cX0_judge 33 = some (.ifCond .eq 51) := by decide +kernel
theorem i13_36 : gm_I cX0_judge 36 = some (.aload_n 1) := by decide +kernel
theorem i13_37 : gm_I cX0_judge 37 = some (.iconst 0) := by decide +kernel
theorem i13_38 : gm_I cX0_judge 38 = some (.invokevirtual 99) := by decide +kernel
theorem i13_41 : gm_I cX0_judge 41 = some (.istore_n 3) := by decide +kernel
theorem i13_42 : gm_I cX0_judge 42 = some (.aload_n 1) := by decide +kernel
theorem i13_43 : gm_I cX0_judge 43 = some (.iconst 1) := by decide +kernel
theorem i13_44 : gm_I cX0_judge 44 = some (.invokevirtual 99) := by decide +kernel
theorem i13_47 : gm_I cX0_judge 47 = some (.istore 4) := by decide +kernel
theorem i13_49 : gm_I cX0_judge 49 = some (.iload_n 3) := by decide +kernel
theorem i13_50 : gm_I cX0_judge 50 = some (.iconst (-1)) := by decide +kernel
theorem i13_51 : gm_I cX0_judge 51 = some (.if_icmp .eq 9) := by decide +kernel
theorem i13_54 : gm_I cX0_judge 54 = some (.iload 4) := by decide +kernel
theorem i13_56 : gm_I cX0_judge 56 = some (.iconst (-1)) := by decide +kernel
theorem i13_57 : gm_I cX0_judge 57 = some (.if_icmp .ne 5) := by decide +kernel
theorem i13_60 : gm_I cX0_judge 60 = some (.iconst 4) := by decide +kernel
theorem i13_61 : gm_I cX0_judge 61 = some (.ireturn) := by decide +kernel
theorem i13_62 : gm_I cX0_judge 62 = some (.aload_n 0) := by decide +kernel
theorem i13_63 : gm_I cX0_judge 63 = some (.getfield 21) := by decide +kernel
theorem i13_66 : gm_I cX0_judge 66 = some (.iload_n 2) := by decide +kernel
theorem i13_67 : gm_I cX0_judge 67 = some (.iload_n 3) := by decide +kernel
theorem i13_68 : gm_I cX0_judge 68 = some (.iastore) := by decide +kernel
theorem i13_69 : gm_I cX0_judge 69 = some (.iload_n 3) := by decide +kernel
theorem i13_70 : gm_I cX0_judge 70 = some (.iload 4) := by decide +kernel
theorem i13_72 : gm_I cX0_judge 72 = some (.iadd) := by decide +kernel
theorem i13_73 : gm_I cX0_judge 73 = some (.bipush 8) := by decide +kernel
theorem i13_75 : gm_I cX0_judge 75 = some (.if_icmp .ne 7) := by decide +kernel
theorem i13_78 : gm_I cX0_judge 78 = some (.iconst 0) := by decide +kernel
theorem i13_79 : gm_I cX0_judge 79 = some (.goto 4) := by decide +kernel
theorem i13_82 : gm_I cX0_judge 82 = some (.iconst 5) := by decide +kernel
theorem i13_83 : gm_I cX0_judge 83 = some (.ireturn) := by decide +kernel
theorem i13_84 : gm_I cX0_judge 84 = some (.aload_n 1) := by decide +kernel
theorem i13_85 : gm_I cX0_judge 85 = some (.getfield 75) := by decide +kernel
theorem i13_88 : gm_I cX0_judge 88 = some (.getfield 61) := by decide +kernel
theorem i13_91 : gm_I cX0_judge 91 = some (.ifCond .eq 13) := by decide +kernel
theorem i13_94 : gm_I cX0_judge 94 = some (.aload_n 1) := by decide +kernel
theorem i13_95 : gm_I cX0_judge 95 = some (.getfield 78) := by decide +kernel
theorem i13_98 : gm_I cX0_judge 98 = some (.getfield 61) := by decide +kernel
theorem i13_101 : gm_I cX0_judge 101 = some (.ifCond .ne 5) := by decide +kernel
theorem i13_104 : gm_I cX0_judge 104 = some (.iconst 2) := by decide +kernel
theorem i13_105 : gm_I cX0_judge 105 = some (.ireturn) := by decide +kernel
theorem i13_106 : gm_I cX0_judge 106 = some (.aload_n 1) := by decide +kernel
theorem i13_107 : gm_I cX0_judge 107 = some (.getfield 75) := by decide +kernel
theorem i13_110 : gm_I cX0_judge 110 = some (.getfield 61) := by decide +kernel
theorem i13_113 : gm_I cX0_judge 113 = some (.iconst 1) := by decide +kernel
theorem i13_114 : gm_I cX0_judge 114 = some (.if_icmp .le 18) := by decide +kernel
theorem i13_117 : gm_I cX0_judge 117 = some (.aload_n 1) := by decide +kernel
theorem i13_118 : gm_I cX0_judge 118 = some (.getfield 78) := by decide +kernel
theorem i13_121 : gm_I cX0_judge 121 = some (.getfield 61) := by decide +kernel
theorem i13_124 : gm_I cX0_judge 124 = some (.iconst 1) := by decide +kernel
theorem i13_125 : gm_I cX0_judge 125 = some (.if_icmp .le 7) := by decide +kernel
theorem i13_128 : gm_I cX0_judge 128 = some (.iconst 3) := by decide +kernel
theorem i13_129 : gm_I cX0_judge 129 = some (.goto 4) := by decide +kernel
theorem i13_132 : gm_I cX0_judge 132 = some (.iconst 0) := by decide +kernel
theorem i13_133 : gm_I cX0_judge 133 = some (.ireturn) := by decide +kernel
theorem i14_0 : gm_I cX0_note 0 = some (.aload_n 0) := by decide +kernel
theorem i14_1 : gm_I cX0_note 1 = some (.aload_n 3) := by decide +kernel
theorem i14_2 : gm_I cX0_note 2 = some (.invokevirtual 103) := by decide +kernel
theorem i14_5 : gm_I cX0_note 5 = some (.istore 4) := by decide +kernel
theorem i14_7 : gm_I cX0_note 7 = some (.iload 4) := by decide +kernel
theorem i14_9 : gm_I cX0_note 9 = some (.iconst (-1)) := by decide +kernel
theorem i14_10 : gm_I cX0_note 10 = some (.if_icmp .ne 41) := by decide +kernel
theorem i14_13 : gm_I cX0_note 13 = some (.aload_n 0) := by decide +kernel
theorem i14_14 : gm_I cX0_note 14 = some (.getfield 35) := by decide +kernel
theorem i14_17 : gm_I cX0_note 17 = some (.bipush 60) := by decide +kernel
theorem i14_19 : gm_I cX0_note 19 = some (.if_icmp .ne 5) := by decide +kernel
theorem i14_22 : gm_I cX0_note 22 = some (.iconst 0) := by decide +kernel
theorem i14_23 : gm_I cX0_note 23 = some (.ireturn) := by decide +kernel
theorem i14_24 : gm_I cX0_note 24 = some (.aload_n 0) := by decide +kernel
theorem i14_25 : gm_I cX0_note 25 = some (.getfield 35) := by decide +kernel
theorem i14_28 : gm_I cX0_note 28 = some (.istore 4) := by decide +kernel
theorem i14_30 : gm_I cX0_note 30 = some (.aload_n 0) := by decide +kernel
theorem i14_31 : gm_I cX0_note 31 = some (.getfield 13) := by decide +kernel
theorem i14_34 : gm_I cX0_note 34 = some (.iload 4) := by decide +kernel
theorem i14_36 : gm_I cX0_note 36 = some (.aaload) := by decide +kernel
theorem i14_37 : gm_I cX0_note 37 = some (.aload_n 3) := by decide +kernel
theorem i14_38 : gm_I cX0_note 38 = some (.invokevirtual 48) := by decide +kernel
theorem i14_41 : gm_I cX0_note 41 = some (.aload_n 0) := by decide +kernel
theorem i14_42 : gm_I cX0_note 42 = some (.dup) := by decide +kernel
theorem i14_43 : gm_I cX0_note 43 = some (.getfield 35) := by decide +kernel
theorem i14_46 : gm_I cX0_note 46 = some (.iconst 1) := by decide +kernel
theorem i14_47 : gm_I cX0_note 47 = some (.iadd) := by decide +kernel
theorem i14_48 : gm_I cX0_note 48 = some (.putfield 35) := by decide +kernel
theorem i14_51 : gm_I cX0_note 51 = some (.aload_n 0) := by decide +kernel
theorem i14_52 : gm_I cX0_note 52 = some (.getfield 17) := by decide +kernel
theorem i14_55 : gm_I cX0_note 55 = some (.iload_n 1) := by decide +kernel
theorem i14_56 : gm_I cX0_note 56 = some (.bipush 60) := by decide +kernel
theorem i14_58 : gm_I cX0_note 58 = some (.imul) := by decide +kernel
theorem i14_59 : gm_I cX0_note 59 = some (.iload 4) := by decide +kernel
theorem i14_61 : gm_I cX0_note 61 = some (.iadd) := by decide +kernel
theorem i14_62 : gm_I cX0_note 62 = some (.iaload) := by decide +kernel
theorem i14_63 : gm_I cX0_note 63 = some (.iconst (-1)) := by decide +kernel
theorem i14_64 : gm_I cX0_note 64 = some (.if_icmp .ne 16) := by decide +kernel
theorem i14_67 : gm_I cX0_note 67 = some (.aload_n 0) := by decide +kernel
theorem i14_68 : gm_I cX0_note 68 = some (.getfield 17) := by decide +kernel
theorem i14_71 : gm_I cX0_note 71 = some (.iload_n 1) := by decide +kernel
theorem i14_72 : gm_I cX0_note 72 = some (.bipush 60) := by decide +kernel
theorem i14_74 : gm_I cX0_note 74 = some (.imul) := by decide +kernel
theorem i14_75 : gm_I cX0_note 75 = some (.iload 4) := by decide +kernel
theorem i14_77 : gm_I cX0_note 77 = some (.iadd) := by decide +kernel
theorem i14_78 : gm_I cX0_note 78 = some (.iload_n 2) := by decide +kernel
theorem i14_79 : gm_I cX0_note 79 = some (.iastore) := by decide +kernel
theorem i14_80 : gm_I cX0_note 80 = some (.iconst 1) := by decide +kernel
theorem i14_81 : gm_I cX0_note 81 = some (.ireturn) := by decide +kernel
theorem i15_0 : gm_I cX0_placeOf 0 = some (.iconst 0) := by decide +kernel
theorem i15_1 : gm_I cX0_placeOf 1 = some (.istore_n 2) := by decide +kernel
theorem i15_2 : gm_I cX0_placeOf 2 = some (.iload_n 2) := by decide +kernel
theorem i15_3 : gm_I cX0_placeOf 3 = some (.aload_n 0) := by decide +kernel
theorem i15_4 : gm_I cX0_placeOf 4 = some (.getfield 35) := by decide +kernel
theorem i15_7 : gm_I cX0_placeOf 7 = some (.if_icmp .ge 24) := by decide +kernel
theorem i15_10 : gm_I cX0_placeOf 10 = some (.aload_n 0) := by decide +kernel
theorem i15_11 : gm_I cX0_placeOf 11 = some (.getfield 13) := by decide +kernel
theorem i15_14 : gm_I cX0_placeOf 14 = some (.iload_n 2) := by decide +kernel
theorem i15_15 : gm_I cX0_placeOf 15 = some (.aaload) := by decide +kernel
theorem i15_16 : gm_I cX0_placeOf 16 = some (.aload_n 1) := by decide +kernel
theorem i15_17 : gm_I cX0_placeOf 17 = some (.invokevirtual 107) := by decide +kernel
theorem i15_20 : gm_I cX0_placeOf 20 = some (.ifCond .eq 5) := by decide +kernel
theorem i15_23 : gm_I cX0_placeOf 23 = some (.iload_n 2) := by decide +kernel
theorem i15_24 : gm_I cX0_placeOf 24 = some (.ireturn) := by decide +kernel
theorem i15_25 : gm_I cX0_placeOf 25 = some (.iinc 2 1) := by decide +kernel
theorem i15_28 : gm_I cX0_placeOf 28 = some (.goto (-26)) := by decide +kernel
theorem i15_31 : gm_I cX0_placeOf 31 = some (.iconst (-1)) := by decide +kernel
theorem i15_32 : gm_I cX0_placeOf 32 = some (.ireturn) := by decide +kernel
theorem i16_0 : gm_I cX0_weigh 0 = some (.aload_n 0) := by decide +kernel
theorem i16_1 : gm_I cX0_weigh 1 = some (.getfield 35) := by decide +kernel
theorem i16_4 : gm_I cX0_weigh 4 = some (.istore_n 1) := by decide +kernel
theorem i16_5 : gm_I cX0_weigh 5 = some (.iconst 0) := by decide +kernel
theorem i16_6 : gm_I cX0_weigh 6 = some (.istore_n 2) := by decide +kernel
theorem i16_7 : gm_I cX0_weigh 7 = some (.iload_n 2) := by decide +kernel
theorem i16_8 : gm_I cX0_weigh 8 = some (.aload_n 0) := by decide +kernel
theorem i16_9 : gm_I cX0_weigh 9 = some (.getfield 35) := by decide +kernel
theorem i16_12 : gm_I cX0_weigh 12 = some (.if_icmp .ge 71) := by decide +kernel
theorem i16_15 : gm_I cX0_weigh 15 = some (.iload_n 1) := by decide +kernel
theorem i16_16 : gm_I cX0_weigh 16 = some (.ifCond .le 67) := by decide +kernel
theorem i16_19 : gm_I cX0_weigh 19 = some (.iconst 0) := by decide +kernel
theorem i16_20 : gm_I cX0_weigh 20 = some (.istore_n 1) := by decide +kernel
theorem i16_21 : gm_I cX0_weigh 21 = some (.aload_n 0) := by decide +kernel
theorem i16_22 : gm_I cX0_weigh 22 = some (.getfield 35) := by decide +kernel
theorem i16_25 : gm_I cX0_weigh 25 = some (.iconst 1) := by decide +kernel
theorem i16_26 : gm_I cX0_weigh 26 = some (.isub) := by decide +kernel
theorem i16_27 : gm_I cX0_weigh 27 = some (.istore_n 3) := by decide +kernel
theorem i16_28 : gm_I cX0_weigh 28 = some (.iload_n 3) := by decide +kernel
theorem i16_29 : gm_I cX0_weigh 29 = some (.ifCond .lt 48) := by decide +kernel
theorem i16_32 : gm_I cX0_weigh 32 = some (.aload_n 0) := by decide +kernel
theorem i16_33 : gm_I cX0_weigh 33 = some (.getfield 21) := by decide +kernel
theorem i16_36 : gm_I cX0_weigh 36 = some (.iload_n 3) := by decide +kernel
theorem i16_37 : gm_I cX0_weigh 37 = some (.iaload) := by decide +kernel
theorem i16_38 : gm_I cX0_weigh 38 = some (.iconst (-1)) := by decide +kernel
theorem i16_39 : gm_I cX0_weigh 39 = some (.if_icmp .ne 32) := by decide +kernel
theorem i16_42 : gm_I cX0_weigh 42 = some (.aload_n 0) := by decide +kernel
theorem i16_43 : gm_I cX0_weigh 43 = some (.getfield 21) := by decide +kernel
theorem i16_46 : gm_I cX0_weigh 46 = some (.iload_n 3) := by decide +kernel
theorem i16_47 : gm_I cX0_weigh 47 = some (.aload_n 0) := by decide +kernel
theorem i16_48 : gm_I cX0_weigh 48 = some (.iload_n 3) := by decide +kernel
theorem i16_49 : gm_I cX0_weigh 49 = some (.invokevirtual 110) := by decide +kernel
theorem i16_52 : gm_I cX0_weigh 52 = some (.iastore) := by decide +kernel
theorem i16_53 : gm_I cX0_weigh 53 = some (.iload_n 1) := by decide +kernel
theorem i16_54 : gm_I cX0_weigh 54 = some (.aload_n 0) := by decide +kernel
theorem i16_55 : gm_I cX0_weigh 55 = some (.getfield 21) := by decide +kernel
theorem i16_58 : gm_I cX0_weigh 58 = some (.iload_n 3) := by decide +kernel
theorem i16_59 : gm_I cX0_weigh 59 = some (.iaload) := by decide +kernel
theorem i16_60 : gm_I cX0_weigh 60 = some (.iconst (-1)) := by decide +kernel
theorem i16_61 : gm_I cX0_weigh 61 = some (.if_icmp .ne 7) := by decide +kernel
theorem i16_64 : gm_I cX0_weigh 64 = some (.iconst 1) := by decide +kernel
theorem i16_65 : gm_I cX0_weigh 65 = some (.goto 4) := by decide +kernel
theorem i16_68 : gm_I cX0_weigh 68 = some (.iconst 0) := by decide +kernel
theorem i16_69 : gm_I cX0_weigh 69 = some (.iadd) := by decide +kernel
theorem i16_70 : gm_I cX0_weigh 70 = some (.istore_n 1) := by decide +kernel
theorem i16_71 : gm_I cX0_weigh 71 = some (.iinc 3 (-1)) := by decide +kernel
theorem i16_74 : gm_I cX0_weigh 74 = some (.goto (-46)) := by decide +kernel
theorem i16_77 : gm_I cX0_weigh 77 = some (.iinc 2 1) := by decide +kernel
theorem i16_80 : gm_I cX0_weigh 80 = some (.goto (-73)) := by decide +kernel
theorem i16_83 : gm_I cX0_weigh 83 = some (.iload_n 1) := by decide +kernel
theorem i16_84 : gm_I cX0_weigh 84 = some (.ifCond .ne 7) := by decide +kernel
theorem i16_87 : gm_I cX0_weigh 87 = some (.iconst 1) := by decide +kernel
theorem i16_88 : gm_I cX0_weigh 88 = some (.goto 4) := by decide +kernel
theorem i16_91 : gm_I cX0_weigh 91 = some (.iconst 0) := by decide +kernel
theorem i16_92 : gm_I cX0_weigh 92 = some (.ireturn) := by decide +kernel
theorem i17_0 : gm_I cX0_valueBehind 0 = some (.iconst (-1)) := by decide +kernel
theorem i17_1 : gm_I cX0_valueBehind 1 = some (.istore_n 2) := by decide +kernel
theorem i17_2 : gm_I cX0_valueBehind 2 = some (.iconst 0) := by decide +kernel
theorem i17_3 : gm_I cX0_valueBehind 3 = some (.istore_n 3) := by decide +kernel
theorem i17_4 : gm_I cX0_valueBehind 4 = some (.iload_n 3) := by decide +kernel
theorem i17_5 : gm_I cX0_valueBehind 5 = some (.aload_n 0) := by decide +kernel
theorem i17_6 : gm_I cX0_valueBehind 6 = some (.getfield 35) := by decide +kernel
theorem i17_9 : gm_I cX0_valueBehind 9 = some (.if_icmp .ge 81) := by decide +kernel
theorem i17_12 : gm_I cX0_valueBehind 12 = some (.aload_n 0) := by decide +kernel
theorem i17_13 : gm_I cX0_valueBehind 13 = some (.getfield 17) := by decide +kernel
theorem i17_16 : gm_I cX0_valueBehind 16 = some (.iload_n 1) := by decide +kernel
theorem i17_17 : gm_I cX0_valueBehind 17 = some (.bipush 60) := by decide +kernel
theorem i17_19 : gm_I cX0_valueBehind 19 = some (.imul) := by decide +kernel
theorem i17_20 : gm_I cX0_valueBehind 20 = some (.iload_n 3) := by decide +kernel
theorem i17_21 : gm_I cX0_valueBehind 21 = some (.iadd) := by decide +kernel
theorem i17_22 : gm_I cX0_valueBehind 22 = some (.iaload) := by decide +kernel
theorem i17_23 : gm_I cX0_valueBehind 23 = some (.iconst (-1)) := by decide +kernel
theorem i17_24 : gm_I cX0_valueBehind 24 = some (.if_icmp .eq 60) := by decide +kernel
theorem i17_27 : gm_I cX0_valueBehind 27 = some (.aload_n 0) := by decide +kernel
theorem i17_28 : gm_I cX0_valueBehind 28 = some (.getfield 21) := by decide +kernel
theorem i17_31 : gm_I cX0_valueBehind 31 = some (.iload_n 3) := by decide +kernel
theorem i17_32 : gm_I cX0_valueBehind 32 = some (.iaload) := by decide +kernel
theorem i17_33 : gm_I cX0_valueBehind 33 = some (.iconst (-1)) := by decide +kernel
theorem i17_34 : gm_I cX0_valueBehind 34 = some (.if_icmp .ne 5) := by decide +kernel
theorem i17_37 : gm_I cX0_valueBehind 37 = some (.iconst (-1)) := by decide +kernel
theorem i17_38 : gm_I cX0_valueBehind 38 = some (.ireturn) := by decide +kernel
theorem i17_39 : gm_I cX0_valueBehind 39 = some (.iload_n 2) := by decide +kernel
theorem i17_40 : gm_I cX0_valueBehind 40 = some (.iconst (-1)) := by decide +kernel
theorem i17_41 : gm_I cX0_valueBehind 41 = some (.if_icmp .ne 10) := by decide +kernel
theorem i17_44 : gm_I cX0_valueBehind 44 = some (.aload_n 0) := by decide +kernel
theorem i17_45 : gm_I cX0_valueBehind 45 = some (.getfield 21) := by decide +kernel
theorem i17_48 : gm_I cX0_valueBehind 48 = some (.iload_n 3) := by decide +kernel
theorem i17_49 : gm_I cX0_valueBehind 49 = some (.iaload) := by decide +kernel
theorem i17_50 : gm_I cX0_valueBehind 50 = some (.istore_n 2) := by decide +kernel
theorem i17_51 : gm_I cX0_valueBehind 51 = some (.aload_n 0) := by decide +kernel
theorem i17_52 : gm_I cX0_valueBehind 52 = some (.getfield 24) := by decide +kernel
theorem i17_55 : gm_I cX0_valueBehind 55 = some (.iload_n 1) := by decide +kernel
theorem i17_56 : gm_I cX0_valueBehind 56 = some (.baload) := by decide +kernel
theorem i17_57 : gm_I cX0_valueBehind 57 = some (.ifCond .eq 16) := by decide +kernel
theorem i17_60 : gm_I cX0_valueBehind 60 = some (.iload_n 2) := by decide +kernel
theorem i17_61 : gm_I cX0_valueBehind 61 = some (.aload_n 0) := by decide +kernel
theorem i17_62 : gm_I cX0_valueBehind 62 = some (.getfield 21) := by decide +kernel
theorem i17_65 : gm_I cX0_valueBehind 65 = some (.iload_n 3) := by decide +kernel
theorem i17_66 : gm_I cX0_valueBehind 66 = some (.iaload) := by decide +kernel
theorem i17_67 : gm_I cX0_valueBehind 67 = some (.invokestatic 113) := by decide +kernel
theorem i17_70 : gm_I cX0_valueBehind 70 = some (.goto 13) := by decide +kernel
theorem i17_73 : gm_I cX0_valueBehind 73 = some (.iload_n 2) := by decide +kernel
theorem i17_74 : gm_I cX0_valueBehind 74 = some (.aload_n 0) := by decide +kernel
theorem i17_75 : gm_I cX0_valueBehind 75 = some (.getfield 21) := by decide +kernel
theorem i17_78 : gm_I cX0_valueBehind 78 = some (.iload_n 3) := by decide +kernel
theorem i17_79 : gm_I cX0_valueBehind 79 = some (.iaload) := by decide +kernel
theorem i17_80 : gm_I cX0_valueBehind 80 = some (.invokestatic 119) := by decide +kernel
theorem i17_83 : gm_I cX0_valueBehind 83 = some (.istore_n 2) := by decide +kernel
theorem i17_84 : gm_I cX0_valueBehind 84 = some (.iinc 3 1) := by decide +kernel
theorem i17_87 : gm_I cX0_valueBehind 87 = some (.goto (-83)) := by decide +kernel
theorem i17_90 : gm_I cX0_valueBehind 90 = some (.iload_n 2) := by decide +kernel
theorem i17_91 : gm_I cX0_valueBehind 91 = some (.ireturn) := by decide +kernel
theorem i18_0 : gm_I cX0_valueAt 0 = some (.aload_n 0) := by decide +kernel
theorem i18_1 : gm_I cX0_valueAt 1 = some (.aload_n 1) := by decide +kernel
theorem i18_2 : gm_I cX0_valueAt 2 = some (.invokevirtual 103) := by decide +kernel
theorem i18_5 : gm_I cX0_valueAt 5 = some (.istore_n 2) := by decide +kernel
theorem i18_6 : gm_I cX0_valueAt 6 = some (.iload_n 2) := by decide +kernel
theorem i18_7 : gm_I cX0_valueAt 7 = some (.iconst (-1)) := by decide +kernel
theorem i18_8 : gm_I cX0_valueAt 8 = some (.if_icmp .ne 7) := by decide +kernel
theorem i18_11 : gm_I cX0_valueAt 11 = some (.iconst (-1)) := by decide +kernel
theorem i18_12 : gm_I cX0_valueAt 12 = some (.goto 9) := by decide +kernel
theorem i18_15 : gm_I cX0_valueAt 15 = some (.aload_n 0) := by decide +kernel
theorem i18_16 : gm_I cX0_valueAt 16 = some (.getfield 21) := by decide +kernel
theorem i18_19 : gm_I cX0_valueAt 19 = some (.iload_n 2) := by decide +kernel
theorem i18_20 : gm_I cX0_valueAt 20 = some (.iaload) := by decide +kernel
theorem i18_21 : gm_I cX0_valueAt 21 = some (.ireturn) := by decide +kernel
theorem i19_0 : gm_I cX0_choiceAt 0 = some (.aload_n 0) := by decide +kernel
theorem i19_1 : gm_I cX0_choiceAt 1 = some (.aload_n 1) := by decide +kernel
theorem i19_2 : gm_I cX0_choiceAt 2 = some (.invokevirtual 103) := by decide +kernel
theorem i19_5 : gm_I cX0_choiceAt 5 = some (.istore_n 2) := by decide +kernel
theorem i19_6 : gm_I cX0_choiceAt 6 = some (.iconst (-1)) := by decide +kernel
theorem i19_7 : gm_I cX0_choiceAt 7 = some (.istore_n 3) := by decide +kernel
theorem i19_8 : gm_I cX0_choiceAt 8 = some (.iconst 0) := by decide +kernel
theorem i19_9 : gm_I cX0_choiceAt 9 = some (.istore 4) := by decide +kernel
theorem i19_11 : gm_I cX0_choiceAt 11 = some (.iload 4) := by decide +kernel
theorem i19_13 : gm_I cX0_choiceAt 13 = some (.aload_n 0) := by decide +kernel
theorem i19_14 : gm_I cX0_choiceAt 14 = some (.getfield 35) := by decide +kernel
theorem i19_17 : gm_I cX0_choiceAt 17 = some (.if_icmp .ge 64) := by decide +kernel
theorem i19_20 : gm_I cX0_choiceAt 20 = some (.iload_n 2) := by decide +kernel
theorem i19_21 : gm_I cX0_choiceAt 21 = some (.iconst (-1)) := by decide +kernel
theorem i19_22 : gm_I cX0_choiceAt 22 = some (.if_icmp .eq 59) := by decide +kernel
theorem i19_25 : gm_I cX0_choiceAt 25 = some (.aload_n 0) := by decide +kernel
theorem i19_26 : gm_I cX0_choiceAt 26 = some (.getfield 17) := by decide +kernel
theorem i19_29 : gm_I cX0_choiceAt 29 = some (.iload_n 2) := by decide +kernel
theorem i19_30 : gm_I cX0_choiceAt 30 = some (.bipush 60) := by decide +kernel
theorem i19_32 : gm_I cX0_choiceAt 32 = some (.imul) := by decide +kernel
theorem i19_33 : gm_I cX0_choiceAt 33 = some (.iload 4) := by decide +kernel
theorem i19_35 : gm_I cX0_choiceAt 35 = some (.iadd) := by decide +kernel
theorem i19_36 : gm_I cX0_choiceAt 36 = some (.iaload) := by decide +kernel
theorem i19_37 : gm_I cX0_choiceAt 37 = some (.istore 5) := by decide +kernel
theorem i19_39 : gm_I cX0_choiceAt 39 = some (.iload 5) := by decide +kernel
theorem i19_41 : gm_I cX0_choiceAt 41 = some (.iconst (-1)) := by decide +kernel
theorem i19_42 : gm_I cX0_choiceAt 42 = some (.if_icmp .eq 33) := by decide +kernel
theorem i19_45 : gm_I cX0_choiceAt 45 = some (.aload_n 0) := by decide +kernel
theorem i19_46 : gm_I cX0_choiceAt 46 = some (.getfield 21) := by decide +kernel
theorem i19_49 : gm_I cX0_choiceAt 49 = some (.iload 4) := by decide +kernel
theorem i19_51 : gm_I cX0_choiceAt 51 = some (.iaload) := by decide +kernel
theorem i19_52 : gm_I cX0_choiceAt 52 = some (.aload_n 0) := by decide +kernel
theorem i19_53 : gm_I cX0_choiceAt 53 = some (.getfield 21) := by decide +kernel
theorem i19_56 : gm_I cX0_choiceAt 56 = some (.iload_n 2) := by decide +kernel
theorem i19_57 : gm_I cX0_choiceAt 57 = some (.iaload) := by decide +kernel
theorem i19_58 : gm_I cX0_choiceAt 58 = some (.if_icmp .ne 17) := by decide +kernel
theorem i19_61 : gm_I cX0_choiceAt 61 = some (.iload_n 3) := by decide +kernel
theorem i19_62 : gm_I cX0_choiceAt 62 = some (.iconst (-1)) := by decide +kernel
theorem i19_63 : gm_I cX0_choiceAt 63 = some (.if_icmp .eq 9) := by decide +kernel
theorem i19_66 : gm_I cX0_choiceAt 66 = some (.iload 5) := by decide +kernel
theorem i19_68 : gm_I cX0_choiceAt 68 = some (.iload_n 3) := by decide +kernel
theorem i19_69 : gm_I cX0_choiceAt 69 = some (.if_icmp .ge 6) := by decide +kernel
theorem i19_72 : gm_I cX0_choiceAt 72 = some (.iload 5) := by decide +kernel
theorem i19_74 : gm_I cX0_choiceAt 74 = some (.istore_n 3) := by decide +kernel
theorem i19_75 : gm_I cX0_choiceAt 75 = some (.iinc 4 1) := by decide +kernel
theorem i19_78 : gm_I cX0_choiceAt 78 = some (.goto (-67)) := by decide +kernel
theorem i19_81 : gm_I cX0_choiceAt 81 = some (.iload_n 3) := by decide +kernel
theorem i19_82 : gm_I cX0_choiceAt 82 = some (.ireturn) := by decide +kernel
theorem i20_0 : gm_I cX1_init 0 = some (.aload_n 0) := by decide +kernel
theorem i20_1 : gm_I cX1_init 1 = some (.invokespecial 3) := by decide +kernel
theorem i20_4 : gm_I cX1_init 4 = some (.aload_n 0) := by decide +kernel
theorem i20_5 : gm_I cX1_init 5 = some (.sipush 201) := by decide +kernel
theorem i20_8 : gm_I cX1_init 8 = some (.newarray .int) := by decide +kernel
theorem i20_10 : gm_I cX1_init 10 = some (.putfield 11) := by decide +kernel
theorem i20_13 : gm_I cX1_init 13 = some (.aload_n 0) := by decide +kernel
theorem i20_14 : gm_I cX1_init 14 = some (.sipush 201) := by decide +kernel
theorem i20_17 : gm_I cX1_init 17 = some (.newarray .int) := by decide +kernel
theorem i20_19 : gm_I cX1_init 19 = some (.putfield 15) := by decide +kernel
theorem i20_22 : gm_I cX1_init 22 = some (.aload_n 0) := by decide +kernel
theorem i20_23 : gm_I cX1_init 23 = some (.sipush 201) := by decide +kernel
theorem i20_26 : gm_I cX1_init 26 = some (.newarray .int) := by decide +kernel
theorem i20_28 : gm_I cX1_init 28 = some (.putfield 18) := by decide +kernel
theorem i20_31 : gm_I cX1_init 31 = some (.aload_n 0) := by decide +kernel
theorem i20_32 : gm_I cX1_init 32 = some (.sipush 201) := by decide +kernel
theorem i20_35 : gm_I cX1_init 35 = some (.newarray .int) := by decide +kernel
theorem i20_37 : gm_I cX1_init 37 = some (.putfield 21) := by decide +kernel
theorem i20_40 : gm_I cX1_init 40 = some (.aload_n 0) := by decide +kernel
theorem i20_41 : gm_I cX1_init 41 = some (.sipush 201) := by decide +kernel
theorem i20_44 : gm_I cX1_init 44 = some (.newarray .int) := by decide +kernel
theorem i20_46 : gm_I cX1_init 46 = some (.putfield 24) := by decide +kernel
theorem i20_49 : gm_I cX1_init 49 = some (.aload_n 0) := by decide +kernel
theorem i20_50 : gm_I cX1_init 50 = some (.bipush 112) := by decide +kernel
theorem i20_52 : gm_I cX1_init 52 = some (.newarray .int) := by decide +kernel
theorem i20_54 : gm_I cX1_init 54 = some (.putfield 27) := by decide +kernel
theorem i20_57 : gm_I cX1_init 57 = some (.aload_n 0) := by decide +kernel
theorem i20_58 : gm_I cX1_init 58 = some (.bipush 112) := by decide +kernel
theorem i20_60 : gm_I cX1_init 60 = some (.newarray .int) := by decide +kernel
theorem i20_62 : gm_I cX1_init 62 = some (.putfield 30) := by decide +kernel
theorem i20_65 : gm_I cX1_init 65 = some (.aload_n 0) := by decide +kernel
theorem i20_66 : gm_I cX1_init 66 = some (.sipush 256) := by decide +kernel
theorem i20_69 : gm_I cX1_init 69 = some (.newarray .int) := by decide +kernel
theorem i20_71 : gm_I cX1_init 71 = some (.putfield 33) := by decide +kernel
theorem i20_74 : gm_I cX1_init 74 = some (.aload_n 0) := by decide +kernel
theorem i20_75 : gm_I cX1_init 75 = some (.sipush 201) := by decide +kernel
theorem i20_78 : gm_I cX1_init 78 = some (.newarray .int) := by decide +kernel
theorem i20_80 : gm_I cX1_init 80 = some (.putfield 36) := by decide +kernel
theorem i20_83 : gm_I cX1_init 83 = some (.aload_n 0) := by decide +kernel
theorem i20_84 : gm_I cX1_init 84 = some (.iconst 0) := by decide +kernel
theorem i20_85 : gm_I cX1_init 85 = some (.putfield 39) := by decide +kernel
theorem i20_88 : gm_I cX1_init 88 = some (.return_) := by decide +kernel
theorem i21_0 : gm_I cX1_find 0 = some (.aload_n 0) := by decide +kernel
theorem i21_1 : gm_I cX1_find 1 = some (.iload_n 1) := by decide +kernel
theorem i21_2 : gm_I cX1_find 2 = some (.iload_n 2) := by decide +kernel
theorem i21_3 : gm_I cX1_find 3 = some (.iload_n 3) := by decide +kernel
theorem i21_4 : gm_I cX1_find 4 = some (.iload 4) := by decide +kernel
theorem i21_6 : gm_I cX1_find 6 = some (.invokestatic 43) := by decide +kernel
theorem i21_9 : gm_I cX1_find 9 = some (.iload_n 1) := by decide +kernel
theorem i21_10 : gm_I cX1_find 10 = some (.iload_n 2) := by decide +kernel
theorem i21_11 : gm_I cX1_find 11 = some (.iload_n 3) := by decide +kernel
theorem i21_12 : gm_I cX1_find 12 = some (.iload 4) := by decide +kernel
theorem i21_14 : gm_I cX1_find 14 = some (.invokevirtual 47) := by decide +kernel
theorem i21_17 : gm_I cX1_find 17 = some (.ireturn) := by decide +kernel
theorem i22_0 : gm_I cX1_add 0 = some (.iload_n 1) := by decide +kernel
theorem i22_1 : gm_I cX1_add 1 = some (.iload_n 2) := by decide +kernel
theorem i22_2 : gm_I cX1_add 2 = some (.iload_n 3) := by decide +kernel
theorem i22_3 : gm_I cX1_add 3 = some (.iload 4) := by decide +kernel
theorem i22_5 : gm_I cX1_add 5 = some (.invokestatic 43) := by decide +kernel
theorem i22_8 : gm_I cX1_add 8 = some (.istore 5) := by decide +kernel
theorem i22_10 : gm_I cX1_add 10 = some (.aload_n 0) := by decide +kernel
theorem i22_11 : gm_I cX1_add 11 = some (.iload 5) := by decide +kernel
theorem i22_13 : gm_I cX1_add 13 = some (.iload_n 1) := by decide +kernel
theorem i22_14 : gm_I cX1_add 14 = some (.iload_n 2) := by decide +kernel
theorem i22_15 : gm_I cX1_add 15 = some (.iload_n 3) := by decide +kernel
theorem i22_16 : gm_I cX1_add 16 = some (.iload 4) := by decide +kernel
theorem i22_18 : gm_I cX1_add 18 = some (.invokevirtual 47) := by decide +kernel
theorem i22_21 : gm_I cX1_add 21 = some (.ifCond .eq 4) := by decide +kernel
theorem i22_24 : gm_I cX1_add 24 = some (.return_) := by decide +kernel
theorem i22_25 : gm_I cX1_add 25 = some (.aload_n 0) := by decide +kernel
theorem i22_26 : gm_I cX1_add 26 = some (.getfield 39) := by decide +kernel
theorem i22_29 : gm_I cX1_add 29 = some (.sipush 200) := by decide +kernel
theorem i22_32 : gm_I cX1_add 32 = some (.if_icmp .ne 9) := by decide +kernel
theorem i22_35 : gm_I cX1_add 35 = some (.aload_n 0) := by decide +kernel
theorem i22_36 : gm_I cX1_add 36 = some (.iconst 1) := by decide +kernel
theorem i22_37 : gm_I cX1_add 37 = some (.putfield 51) := by decide +kernel
theorem i22_40 : gm_I cX1_add 40 = some (.return_) := by decide +kernel
theorem i22_41 : gm_I cX1_add 41 = some (.aload_n 0) := by decide +kernel
theorem i22_42 : gm_I cX1_add 42 = some (.dup) := by decide +kernel
theorem i22_43 : gm_I cX1_add 43 = some (.getfield 39) := by decide +kernel
theorem i22_46 : gm_I cX1_add 46 = some (.iconst 1) := by decide +kernel
theorem i22_47 : gm_I cX1_add 47 = some (.iadd) := by decide +kernel
theorem i22_48 : gm_I cX1_add 48 = some (.putfield 39) := by decide +kernel
theorem i22_51 : gm_I cX1_add 51 = some (.aload_n 0) := by decide +kernel
theorem i22_52 : gm_I cX1_add 52 = some (.getfield 11) := by decide +kernel
theorem i22_55 : gm_I cX1_add 55 = some (.aload_n 0) := by decide +kernel
theorem i22_56 : gm_I cX1_add 56 = some (.getfield 39) := by decide +kernel
theorem i22_59 : gm_I cX1_add 59 = some (.iload_n 1) := by decide +kernel
theorem i22_60 : gm_I cX1_add 60 = some (.iastore) := by decide +kernel
theorem i22_61 : gm_I cX1_add 61 = some (.aload_n 0) := by decide +kernel
theorem i22_62 : gm_I cX1_add 62 = some (.getfield 15) := by decide +kernel
theorem i22_65 : gm_I cX1_add 65 = some (.aload_n 0) := by decide +kernel
theorem i22_66 : gm_I cX1_add 66 = some (.getfield 39) := by decide +kernel
theorem i22_69 : gm_I cX1_add 69 = some (.iload_n 2) := by decide +kernel
theorem i22_70 : gm_I cX1_add 70 = some (.iastore) := by decide +kernel
theorem i22_71 : gm_I cX1_add 71 = some (.aload_n 0) := by decide +kernel
theorem i22_72 : gm_I cX1_add 72 = some (.getfield 18) := by decide +kernel
theorem i22_75 : gm_I cX1_add 75 = some (.aload_n 0) := by decide +kernel
theorem i22_76 : gm_I cX1_add 76 = some (.getfield 39) := by decide +kernel
theorem i22_79 : gm_I cX1_add 79 = some (.iload_n 3) := by decide +kernel
theorem i22_80 : gm_I cX1_add 80 = some (.iastore) := by decide +kernel
theorem i22_81 : gm_I cX1_add 81 = some (.aload_n 0) := by decide +kernel
theorem i22_82 : gm_I cX1_add 82 = some (.getfield 21) := by decide +kernel
theorem i22_85 : gm_I cX1_add 85 = some (.aload_n 0) := by decide +kernel
theorem i22_86 : gm_I cX1_add 86 = some (.getfield 39) := by decide +kernel
theorem i22_89 : gm_I cX1_add 89 = some (.iload 4) := by decide +kernel
theorem i22_91 : gm_I cX1_add 91 = some (.iastore) := by decide +kernel
theorem i22_92 : gm_I cX1_add 92 = some (.aload_n 0) := by decide +kernel
theorem i22_93 : gm_I cX1_add 93 = some (.getfield 24) := by decide +kernel
theorem i22_96 : gm_I cX1_add 96 = some (.aload_n 0) := by decide +kernel
theorem i22_97 : gm_I cX1_add 97 = some (.getfield 39) := by decide +kernel
theorem i22_100 : gm_I cX1_add 100 = some (.aload_n 0) := by decide +kernel
theorem i22_101 : gm_I cX1_add 101 = some (.getfield 27) := by decide +kernel
theorem i22_104 : gm_I cX1_add 104 = some (.iload_n 1) := by decide +kernel
theorem i22_105 : gm_I cX1_add 105 = some (.iaload) := by decide +kernel
theorem i22_106 : gm_I cX1_add 106 = some (.iastore) := by decide +kernel
theorem i22_107 : gm_I cX1_add 107 = some (.aload_n 0) := by decide +kernel
theorem i22_108 : gm_I cX1_add 108 = some (.getfield 27) := by decide +kernel
theorem i22_111 : gm_I cX1_add 111 = some (.iload_n 1) := by decide +kernel
theorem i22_112 : gm_I cX1_add 112 = some (.aload_n 0) := by decide +kernel
theorem i22_113 : gm_I cX1_add 113 = some (.getfield 39) := by decide +kernel
theorem i22_116 : gm_I cX1_add 116 = some (.iastore) := by decide +kernel
theorem i22_117 : gm_I cX1_add 117 = some (.aload_n 0) := by decide +kernel
theorem i22_118 : gm_I cX1_add 118 = some (.getfield 30) := by decide +kernel
theorem i22_121 : gm_I cX1_add 121 = some (.iload_n 1) := by decide +kernel
theorem i22_122 : gm_I cX1_add 122 = some (.dup2) := by decide +kernel
theorem i22_123 : gm_I cX1_add 123 = some (.iaload) := by decide +kernel
theorem i22_124 : gm_I cX1_add 124 = some (.iconst 1) := by decide +kernel
theorem i22_125 : gm_I cX1_add 125 = some (.iadd) := by decide +kernel
theorem i22_126 : gm_I cX1_add 126 = some (.iastore) := by decide +kernel
theorem i22_127 : gm_I cX1_add 127 = some (.aload_n 0) := by decide +kernel
theorem i22_128 : gm_I cX1_add 128 = some (.getfield 36) := by decide +kernel
theorem i22_131 : gm_I cX1_add 131 = some (.aload_n 0) := by decide +kernel
theorem i22_132 : gm_I cX1_add 132 = some (.getfield 39) := by decide +kernel
theorem i22_135 : gm_I cX1_add 135 = some (.aload_n 0) := by decide +kernel
theorem i22_136 : gm_I cX1_add 136 = some (.getfield 33) := by decide +kernel
theorem i22_139 : gm_I cX1_add 139 = some (.iload 5) := by decide +kernel
theorem i22_141 : gm_I cX1_add 141 = some (.iaload) := by decide +kernel
theorem i22_142 : gm_I cX1_add 142 = some (.iastore) := by decide +kernel
theorem i22_143 : gm_I cX1_add 143 = some (.aload_n 0) := by decide +kernel
theorem i22_144 : gm_I cX1_add 144 = some (.getfield 33) := by decide +kernel
theorem i22_147 : gm_I cX1_add 147 = some (.iload 5) := by decide +kernel
theorem i22_149 : gm_I cX1_add 149 = some (.aload_n 0) := by decide +kernel
theorem i22_150 : gm_I cX1_add 150 = some (.getfield 39) := by decide +kernel
theorem i22_153 : gm_I cX1_add 153 = some (.iastore) := by decide +kernel
theorem i22_154 : gm_I cX1_add 154 = some (.return_) := by decide +kernel
theorem i23_0 : gm_I cX1_search 0 = some (.aload_n 0) := by decide +kernel
theorem i23_1 : gm_I cX1_search 1 = some (.getfield 33) := by decide +kernel
theorem i23_4 : gm_I cX1_search 4 = some (.iload_n 1) := by decide +kernel
theorem i23_5 : gm_I cX1_search 5 = some (.iaload) := by decide +kernel
theorem i23_6 : gm_I cX1_search 6 = some (.istore 6) := by decide +kernel
theorem i23_8 : gm_I cX1_search 8 = some (.iload 6) := by decide +kernel
theorem i23_10 : gm_I cX1_search 10 = some (.ifCond .le 64) := by decide +kernel
theorem i23_13 : gm_I cX1_search 13 = some (.aload_n 0) := by decide +kernel
theorem i23_14 : gm_I cX1_search 14 = some (.getfield 15) := by decide +kernel
theorem i23_17 : gm_I cX1_search 17 = some (.iload 6) := by decide +kernel
theorem i23_19 : gm_I cX1_search 19 = some (.iaload) := by decide +kernel
theorem i23_20 : gm_I cX1_search 20 = some (.iload_n 3) := by decide +kernel
theorem i23_21 : gm_I cX1_search 21 = some (.if_icmp .ne 41) := by decide +kernel
theorem i23_24 : gm_I cX1_search 24 = some (.aload_n 0) := by decide +kernel
theorem i23_25 : gm_I cX1_search 25 = some (.getfield 18) := by decide +kernel
theorem i23_28 : gm_I cX1_search 28 = some (.iload 6) := by decide +kernel
theorem i23_30 : gm_I cX1_search 30 = some (.iaload) := by decide +kernel
theorem i23_31 : gm_I cX1_search 31 = some (.iload 4) := by decide +kernel
theorem i23_33 : gm_I cX1_search 33 = some (.if_icmp .ne 29) := by decide +kernel
theorem i23_36 : gm_I cX1_search 36 = some (.aload_n 0) := by decide +kernel
theorem i23_37 : gm_I cX1_search 37 = some (.getfield 11) := by decide +kernel
theorem i23_40 : gm_I cX1_search 40 = some (.iload 6) := by decide +kernel
theorem i23_42 : gm_I cX1_search 42 = some (.iaload) := by decide +kernel
theorem i23_43 : gm_I cX1_search 43 = some (.iload_n 2) := by decide +kernel
theorem i23_44 : gm_I cX1_search 44 = some (.if_icmp .ne 18) := by decide +kernel
theorem i23_47 : gm_I cX1_search 47 = some (.aload_n 0) := by decide +kernel
theorem i23_48 : gm_I cX1_search 48 = some (.getfield 21) := by decide +kernel
theorem i23_51 : gm_I cX1_search 51 = some (.iload 6) := by decide +kernel
theorem i23_53 : gm_I cX1_search 53 = some (.iaload) := by decide +kernel
theorem i23_54 : gm_I cX1_search 54 = some (.iload 5) := by decide +kernel
theorem i23_56 : gm_I cX1_search 56 = some (.if_icmp .ne 6) := by decide +kernel
theorem i23_59 : gm_I cX1_search 59 = some (.iload 6) := by decide +kernel
theorem i23_61 : gm_I cX1_search 61 = some (.ireturn) := by decide +kernel
theorem i23_62 : gm_I cX1_search 62 = some (.aload_n 0) := by decide +kernel
theorem i23_63 : gm_I cX1_search 63 = some (.getfield 36) := by decide +kernel
theorem i23_66 : gm_I cX1_search 66 = some (.iload 6) := by decide +kernel
theorem i23_68 : gm_I cX1_search 68 = some (.iaload) := by decide +kernel
theorem i23_69 : gm_I cX1_search 69 = some (.istore 6) := by decide +kernel
theorem i23_71 : gm_I cX1_search 71 = some (.goto (-63)) := by decide +kernel
theorem i23_74 : gm_I cX1_search 74 = some (.iconst 0) := by decide +kernel
theorem i23_75 : gm_I cX1_search 75 = some (.ireturn) := by decide +kernel
theorem i24_0 : gm_I cX1_slotOf 0 = some (.iload_n 0) := by decide +kernel
theorem i24_1 : gm_I cX1_slotOf 1 = some (.bipush 31) := by decide +kernel
theorem i24_3 : gm_I cX1_slotOf 3 = some (.imul) := by decide +kernel
theorem i24_4 : gm_I cX1_slotOf 4 = some (.iload_n 1) := by decide +kernel
theorem i24_5 : gm_I cX1_slotOf 5 = some (.iadd) := by decide +kernel
theorem i24_6 : gm_I cX1_slotOf 6 = some (.bipush 31) := by decide +kernel
theorem i24_8 : gm_I cX1_slotOf 8 = some (.imul) := by decide +kernel
theorem i24_9 : gm_I cX1_slotOf 9 = some (.iload_n 2) := by decide +kernel
theorem i24_10 : gm_I cX1_slotOf 10 = some (.iadd) := by decide +kernel
theorem i24_11 : gm_I cX1_slotOf 11 = some (.bipush 31) := by decide +kernel
theorem i24_13 : gm_I cX1_slotOf 13 = some (.imul) := by decide +kernel
theorem i24_14 : gm_I cX1_slotOf 14 = some (.iload_n 3) := by decide +kernel
theorem i24_15 : gm_I cX1_slotOf 15 = some (.iadd) := by decide +kernel
theorem i24_16 : gm_I cX1_slotOf 16 = some (.istore 4) := by decide +kernel
theorem i24_18 : gm_I cX1_slotOf 18 = some (.iload 4) := by decide +kernel
theorem i24_20 : gm_I cX1_slotOf 20 = some (.ldc 55) := by decide +kernel
theorem i24_22 : gm_I cX1_slotOf 22 = some (.imul) := by decide +kernel
theorem i24_23 : gm_I cX1_slotOf 23 = some (.bipush 24) := by decide +kernel
theorem i24_25 : gm_I cX1_slotOf 25 = some (.iushr) := by decide +kernel
theorem i24_26 : gm_I cX1_slotOf 26 = some (.ireturn) := by decide +kernel
theorem i25_0 : gm_I cX1_cut 0 = some (.aload_n 0) := by decide +kernel
theorem i25_1 : gm_I cX1_cut 1 = some (.getfield 39) := by decide +kernel
theorem i25_4 : gm_I cX1_cut 4 = some (.istore_n 2) := by decide +kernel
theorem i25_5 : gm_I cX1_cut 5 = some (.iload_n 2) := by decide +kernel
theorem i25_6 : gm_I cX1_cut 6 = some (.iload_n 1) := by decide +kernel
theorem i25_7 : gm_I cX1_cut 7 = some (.if_icmp .le 71) := by decide +kernel
theorem i25_10 : gm_I cX1_cut 10 = some (.aload_n 0) := by decide +kernel
theorem i25_11 : gm_I cX1_cut 11 = some (.getfield 11) := by decide +kernel
theorem i25_14 : gm_I cX1_cut 14 = some (.iload_n 2) := by decide +kernel
theorem i25_15 : gm_I cX1_cut 15 = some (.iaload) := by decide +kernel
theorem i25_16 : gm_I cX1_cut 16 = some (.istore_n 3) := by decide +kernel
theorem i25_17 : gm_I cX1_cut 17 = some (.aload_n 0) := by decide +kernel
theorem i25_18 : gm_I cX1_cut 18 = some (.getfield 27) := by decide +kernel
theorem i25_21 : gm_I cX1_cut 21 = some (.iload_n 3) := by decide +kernel
theorem i25_22 : gm_I cX1_cut 22 = some (.aload_n 0) := by decide +kernel
theorem i25_23 : gm_I cX1_cut 23 = some (.getfield 24) := by decide +kernel
theorem i25_26 : gm_I cX1_cut 26 = some (.iload_n 2) := by decide +kernel
theorem i25_27 : gm_I cX1_cut 27 = some (.iaload) := by decide +kernel
theorem i25_28 : gm_I cX1_cut 28 = some (.iastore) := by decide +kernel
theorem i25_29 : gm_I cX1_cut 29 = some (.aload_n 0) := by decide +kernel
theorem i25_30 : gm_I cX1_cut 30 = some (.getfield 30) := by decide +kernel
theorem i25_33 : gm_I cX1_cut 33 = some (.iload_n 3) := by decide +kernel
theorem i25_34 : gm_I cX1_cut 34 = some (.dup2) := by decide +kernel
theorem i25_35 : gm_I cX1_cut 35 = some (.iaload) := by decide +kernel
theorem i25_36 : gm_I cX1_cut 36 = some (.iconst 1) := by decide +kernel
theorem i25_37 : gm_I cX1_cut 37 = some (.isub) := by decide +kernel
theorem i25_38 : gm_I cX1_cut 38 = some (.iastore) := by decide +kernel
theorem i25_39 : gm_I cX1_cut 39 = some (.aload_n 0) := by decide +kernel
theorem i25_40 : gm_I cX1_cut 40 = some (.getfield 33) := by decide +kernel
theorem i25_43 : gm_I cX1_cut 43 = some (.iload_n 3) := by decide +kernel
theorem i25_44 : gm_I cX1_cut 44 = some (.aload_n 0) := by decide +kernel
theorem i25_45 : gm_I cX1_cut 45 = some (.getfield 15) := by decide +kernel
theorem i25_48 : gm_I cX1_cut 48 = some (.iload_n 2) := by decide +kernel
theorem i25_49 : gm_I cX1_cut 49 = some (.iaload) := by decide +kernel
theorem i25_50 : gm_I cX1_cut 50 = some (.aload_n 0) := by decide +kernel
theorem i25_51 : gm_I cX1_cut 51 = some (.getfield 18) := by decide +kernel
theorem i25_54 : gm_I cX1_cut 54 = some (.iload_n 2) := by decide +kernel
theorem i25_55 : gm_I cX1_cut 55 = some (.iaload) := by decide +kernel
theorem i25_56 : gm_I cX1_cut 56 = some (.aload_n 0) := by decide +kernel
theorem i25_57 : gm_I cX1_cut 57 = some (.getfield 21) := by decide +kernel
theorem i25_60 : gm_I cX1_cut 60 = some (.iload_n 2) := by decide +kernel
theorem i25_61 : gm_I cX1_cut 61 = some (.iaload) := by decide +kernel
theorem i25_62 : gm_I cX1_cut 62 = some (.invokestatic 43) := by decide +kernel
theorem i25_65 : gm_I cX1_cut 65 = some (.aload_n 0) := by decide +kernel
theorem i25_66 : gm_I cX1_cut 66 = some (.getfield 36) := by decide +kernel
theorem i25_69 : gm_I cX1_cut 69 = some (.iload_n 2) := by decide +kernel
theorem i25_70 : gm_I cX1_cut 70 = some (.iaload) := by decide +kernel
theorem i25_71 : gm_I cX1_cut 71 = some (.iastore) := by decide +kernel
theorem i25_72 : gm_I cX1_cut 72 = some (.iinc 2 (-1)) := by decide +kernel
theorem i25_75 : gm_I cX1_cut 75 = some (.goto (-70)) := by decide +kernel
theorem i25_78 : gm_I cX1_cut 78 = some (.aload_n 0) := by decide +kernel
theorem i25_79 : gm_I cX1_cut 79 = some (.aload_n 0) := by decide +kernel
theorem i25_80 : gm_I cX1_cut 80 = some (.getfield 39) := by decide +kernel
theorem i25_83 : gm_I cX1_cut 83 = some (.iload_n 1) := by decide +kernel
theorem i25_84 : gm_I cX1_cut 84 = some (.invokestatic 56) := by decide +kernel
theorem i25_87 : gm_I cX1_cut 87 = some (.putfield 39) := by decide +kernel
theorem i25_90 : gm_I cX1_cut 90 = some (.aload_n 0) := by decide +kernel
theorem i25_91 : gm_I cX1_cut 91 = some (.iconst 0) := by decide +kernel
theorem i25_92 : gm_I cX1_cut 92 = some (.putfield 51) := by decide +kernel
theorem i25_95 : gm_I cX1_cut 95 = some (.return_) := by decide +kernel
theorem i26_0 : gm_I cX2_init 0 = some (.aload_n 0) := by decide +kernel
theorem i26_1 : gm_I cX2_init 1 = some (.invokespecial 3) := by decide +kernel
theorem i26_4 : gm_I cX2_init 4 = some (.aload_n 0) := by decide +kernel
theorem i26_5 : gm_I cX2_init 5 = some (.new 9) := by decide +kernel
theorem i26_8 : gm_I cX2_init 8 = some (.dup) := by decide +kernel
theorem i26_9 : gm_I cX2_init 9 = some (.invokespecial 11) := by decide +kernel
theorem i26_12 : gm_I cX2_init 12 = some (.putfield 12) := by decide +kernel
theorem i26_15 : gm_I cX2_init 15 = some (.aload_n 0) := by decide +kernel
theorem i26_16 : gm_I cX2_init 16 = some (.bipush 13) := by decide +kernel
theorem i26_18 : gm_I cX2_init 18 = some (.newarray .int) := by decide +kernel
theorem i26_20 : gm_I cX2_init 20 = some (.putfield 20) := by decide +kernel
theorem i26_23 : gm_I cX2_init 23 = some (.aload_n 0) := by decide +kernel
theorem i26_24 : gm_I cX2_init 24 = some (.aconst_null) := by decide +kernel
theorem i26_25 : gm_I cX2_init 25 = some (.putfield 24) := by decide +kernel
theorem i26_28 : gm_I cX2_init 28 = some (.return_) := by decide +kernel
theorem i27_0 : gm_I cX2_begin 0 = some (.aload_n 0) := by decide +kernel
theorem i27_1 : gm_I cX2_begin 1 = some (.aload_n 1) := by decide +kernel
theorem i27_2 : gm_I cX2_begin 2 = some (.putfield 24) := by decide +kernel
theorem i27_5 : gm_I cX2_begin 5 = some (.aload_n 0) := by decide +kernel
theorem i27_6 : gm_I cX2_begin 6 = some (.getfield 12) := by decide +kernel
theorem i27_9 : gm_I cX2_begin 9 = some (.iconst 0) := by decide +kernel
theorem i27_10 : gm_I cX2_begin 10 = some (.invokevirtual 28) := by decide +kernel
theorem i27_13 : gm_I cX2_begin 13 = some (.iconst 0) := by decide +kernel
theorem i27_14 : gm_I cX2_begin 14 = some (.istore_n 2) := by decide +kernel
theorem i27_15 : gm_I cX2_begin 15 = some (.iload_n 2) := by decide +kernel
theorem i27_16 : gm_I cX2_begin 16 = some (.aload_n 0) := by decide +kernel
theorem i27_17 : gm_I cX2_begin 17 = some (.getfield 24) := by decide +kernel
theorem i27_20 : gm_I cX2_begin 20 = some (.getfield 32) := by decide +kernel
theorem i27_23 : gm_I cX2_begin 23 = some (.iconst 0) := by decide +kernel
theorem i27_24 : gm_I cX2_begin 24 = some (.iaload) := by decide +kernel
theorem i27_25 : gm_I cX2_begin 25 = some (.if_icmp .ge 14) := by decide +kernel
theorem i27_28 : gm_I cX2_begin 28 = some (.aload_n 0) := by decide +kernel
theorem i27_29 : gm_I cX2_begin 29 = some (.iload_n 2) := by decide +kernel
theorem i27_30 : gm_I cX2_begin 30 = some (.invokevirtual 37) := by decide +kernel
theorem i27_33 : gm_I cX2_begin 33 = some (.iinc 2 1) := by decide +kernel
theorem i27_36 : gm_I cX2_begin 36 = some (.goto (-21)) := by decide +kernel
theorem i27_39 : gm_I cX2_begin 39 = some (.aload_n 0) := by decide +kernel
theorem i27_40 : gm_I cX2_begin 40 = some (.aload_n 0) := by decide +kernel
theorem i27_41 : gm_I cX2_begin 41 = some (.getfield 12) := by decide +kernel
theorem i27_44 : gm_I cX2_begin 44 = some (.getfield 40) := by decide +kernel
theorem i27_47 : gm_I cX2_begin 47 = some (.putfield 44) := by decide +kernel
theorem i27_50 : gm_I cX2_begin 50 = some (.aload_n 0) := by decide +kernel
theorem i27_51 : gm_I cX2_begin 51 = some (.getfield 12) := by decide +kernel
theorem i27_54 : gm_I cX2_begin 54 = some (.getfield 47) := by decide +kernel
theorem i27_57 : gm_I cX2_begin 57 = some (.ifCond .ne 7) := by decide +kernel
theorem i27_60 : gm_I cX2_begin 60 = some (.iconst 1) := by decide +kernel
theorem i27_61 : gm_I cX2_begin 61 = some (.goto 4) := by decide +kernel
theorem i27_64 : gm_I cX2_begin 64 = some (.iconst 0) := by decide +kernel
