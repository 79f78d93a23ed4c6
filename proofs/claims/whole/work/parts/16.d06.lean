/-! the code by its places, by program -/
theorem i115_22 : gm_I cX11_audit 22 = some (.aload_n 0) := by decide +kernel
theorem i115_23 : gm_I cX11_audit 23 = some (.getfield 23) := by decide +kernel
theorem i115_26 : gm_I cX11_audit 26 = some (.invokevirtual 158) := by decide +kernel
theorem i115_29 : gm_I cX11_audit 29 = some (.ireturn) := by decide +kernel
theorem i116_0 : gm_I cX11_worth 0 = some (.aload_n 0) := by decide +kernel
theorem i116_1 : gm_I cX11_worth 1 = some (.getfield 23) := by decide +kernel
theorem i116_4 : gm_I cX11_worth 4 = some (.invokevirtual 104) := by decide +kernel
theorem i116_7 : gm_I cX11_worth 7 = some (.ifCond .eq 11) := by decide +kernel
theorem i116_10 : gm_I cX11_worth 10 = some (.new 76) := by decide +kernel
theorem i116_13 : gm_I cX11_worth 13 = some (.dup) := by decide +kernel
theorem i116_14 : gm_I cX11_worth 14 = some (.invokespecial 78) := by decide +kernel
theorem i116_17 : gm_I cX11_worth 17 = some (.athrow) := by decide +kernel
theorem i116_18 : gm_I cX11_worth 18 = some (.aload_n 0) := by decide +kernel
theorem i116_19 : gm_I cX11_worth 19 = some (.getfield 30) := by decide +kernel
theorem i116_22 : gm_I cX11_worth 22 = some (.aload_n 0) := by decide +kernel
theorem i116_23 : gm_I cX11_worth 23 = some (.getfield 23) := by decide +kernel
theorem i116_26 : gm_I cX11_worth 26 = some (.invokevirtual 158) := by decide +kernel
theorem i116_29 : gm_I cX11_worth 29 = some (.ifCond .eq 11) := by decide +kernel
theorem i116_32 : gm_I cX11_worth 32 = some (.new 64) := by decide +kernel
theorem i116_35 : gm_I cX11_worth 35 = some (.dup) := by decide +kernel
theorem i116_36 : gm_I cX11_worth 36 = some (.invokespecial 66) := by decide +kernel
theorem i116_39 : gm_I cX11_worth 39 = some (.athrow) := by decide +kernel
theorem i116_40 : gm_I cX11_worth 40 = some (.aload_n 0) := by decide +kernel
theorem i116_41 : gm_I cX11_worth 41 = some (.getfield 30) := by decide +kernel
theorem i116_44 : gm_I cX11_worth 44 = some (.aload_n 0) := by decide +kernel
theorem i116_45 : gm_I cX11_worth 45 = some (.getfield 23) := by decide +kernel
theorem i116_48 : gm_I cX11_worth 48 = some (.getfield 92) := by decide +kernel
theorem i116_51 : gm_I cX11_worth 51 = some (.invokevirtual 162) := by decide +kernel
theorem i116_54 : gm_I cX11_worth 54 = some (.ireturn) := by decide +kernel
theorem i117_0 : gm_I cX11_best 0 = some (.aload_n 0) := by decide +kernel
theorem i117_1 : gm_I cX11_best 1 = some (.getfield 23) := by decide +kernel
theorem i117_4 : gm_I cX11_best 4 = some (.invokevirtual 104) := by decide +kernel
theorem i117_7 : gm_I cX11_best 7 = some (.ifCond .eq 11) := by decide +kernel
theorem i117_10 : gm_I cX11_best 10 = some (.new 76) := by decide +kernel
theorem i117_13 : gm_I cX11_best 13 = some (.dup) := by decide +kernel
theorem i117_14 : gm_I cX11_best 14 = some (.invokespecial 78) := by decide +kernel
theorem i117_17 : gm_I cX11_best 17 = some (.athrow) := by decide +kernel
theorem i117_18 : gm_I cX11_best 18 = some (.aload_n 0) := by decide +kernel
theorem i117_19 : gm_I cX11_best 19 = some (.getfield 30) := by decide +kernel
theorem i117_22 : gm_I cX11_best 22 = some (.aload_n 0) := by decide +kernel
theorem i117_23 : gm_I cX11_best 23 = some (.getfield 23) := by decide +kernel
theorem i117_26 : gm_I cX11_best 26 = some (.invokevirtual 158) := by decide +kernel
theorem i117_29 : gm_I cX11_best 29 = some (.ifCond .eq 11) := by decide +kernel
theorem i117_32 : gm_I cX11_best 32 = some (.new 64) := by decide +kernel
theorem i117_35 : gm_I cX11_best 35 = some (.dup) := by decide +kernel
theorem i117_36 : gm_I cX11_best 36 = some (.invokespecial 66) := by decide +kernel
theorem i117_39 : gm_I cX11_best 39 = some (.athrow) := by decide +kernel
theorem i117_40 : gm_I cX11_best 40 = some (.aload_n 0) := by decide +kernel
theorem i117_41 : gm_I cX11_best 41 = some (.getfield 23) := by decide +kernel
theorem i117_44 : gm_I cX11_best 44 = some (.getfield 132) := by decide +kernel
theorem i117_47 : gm_I cX11_best 47 = some (.ifCond .eq 11) := by decide +kernel
theorem i117_50 : gm_I cX11_best 50 = some (.new 166) := by decide +kernel
theorem i117_53 : gm_I cX11_best 53 = some (.dup) := by decide +kernel
theorem i117_54 : gm_I cX11_best 54 = some (.invokespecial 168) := by decide +kernel
theorem i117_57 : gm_I cX11_best 57 = some (.athrow) := by decide +kernel
theorem i117_58 : gm_I cX11_best 58 = some (.aload_n 0) := by decide +kernel
theorem i117_59 : gm_I cX11_best 59 = some (.getfield 30) := by decide +kernel
theorem i117_62 : gm_I cX11_best 62 = some (.aload_n 0) := by decide +kernel
theorem i117_63 : gm_I cX11_best 63 = some (.getfield 23) := by decide +kernel
theorem i117_66 : gm_I cX11_best 66 = some (.getfield 92) := by decide +kernel
theorem i117_69 : gm_I cX11_best 69 = some (.invokevirtual 169) := by decide +kernel
theorem i117_72 : gm_I cX11_best 72 = some (.ireturn) := by decide +kernel
theorem i118_0 : gm_I cX12_init 0 = some (.aload_n 0) := by decide +kernel
theorem i118_1 : gm_I cX12_init 1 = some (.invokespecial 1) := by decide +kernel
theorem i118_4 : gm_I cX12_init 4 = some (.aload_n 0) := by decide +kernel
theorem i118_5 : gm_I cX12_init 5 = some (.sipush 240) := by decide +kernel
theorem i118_8 : gm_I cX12_init 8 = some (.newarray .char) := by decide +kernel
theorem i118_10 : gm_I cX12_init 10 = some (.putfield 7) := by decide +kernel
theorem i118_13 : gm_I cX12_init 13 = some (.aload_n 0) := by decide +kernel
theorem i118_14 : gm_I cX12_init 14 = some (.sipush 240) := by decide +kernel
theorem i118_17 : gm_I cX12_init 17 = some (.newarray .char) := by decide +kernel
theorem i118_19 : gm_I cX12_init 19 = some (.putfield 13) := by decide +kernel
theorem i118_22 : gm_I cX12_init 22 = some (.aload_n 0) := by decide +kernel
theorem i118_23 : gm_I cX12_init 23 = some (.sipush 240) := by decide +kernel
theorem i118_26 : gm_I cX12_init 26 = some (.newarray .char) := by decide +kernel
theorem i118_28 : gm_I cX12_init 28 = some (.putfield 16) := by decide +kernel
theorem i118_31 : gm_I cX12_init 31 = some (.aload_n 0) := by decide +kernel
theorem i118_32 : gm_I cX12_init 32 = some (.bipush 24) := by decide +kernel
theorem i118_34 : gm_I cX12_init 34 = some (.newarray .int) := by decide +kernel
theorem i118_36 : gm_I cX12_init 36 = some (.putfield 19) := by decide +kernel
theorem i118_39 : gm_I cX12_init 39 = some (.aload_n 0) := by decide +kernel
theorem i118_40 : gm_I cX12_init 40 = some (.sipush 144) := by decide +kernel
theorem i118_43 : gm_I cX12_init 43 = some (.newarray .int) := by decide +kernel
theorem i118_45 : gm_I cX12_init 45 = some (.putfield 23) := by decide +kernel
theorem i118_48 : gm_I cX12_init 48 = some (.aload_n 0) := by decide +kernel
theorem i118_49 : gm_I cX12_init 49 = some (.sipush 144) := by decide +kernel
theorem i118_52 : gm_I cX12_init 52 = some (.newarray .int) := by decide +kernel
theorem i118_54 : gm_I cX12_init 54 = some (.putfield 26) := by decide +kernel
theorem i118_57 : gm_I cX12_init 57 = some (.aload_n 0) := by decide +kernel
theorem i118_58 : gm_I cX12_init 58 = some (.sipush 432) := by decide +kernel
theorem i118_61 : gm_I cX12_init 61 = some (.newarray .int) := by decide +kernel
theorem i118_63 : gm_I cX12_init 63 = some (.putfield 29) := by decide +kernel
theorem i118_66 : gm_I cX12_init 66 = some (.aload_n 0) := by decide +kernel
theorem i118_67 : gm_I cX12_init 67 = some (.sipush 432) := by decide +kernel
theorem i118_70 : gm_I cX12_init 70 = some (.newarray .int) := by decide +kernel
theorem i118_72 : gm_I cX12_init 72 = some (.putfield 32) := by decide +kernel
theorem i118_75 : gm_I cX12_init 75 = some (.aload_n 0) := by decide +kernel
theorem i118_76 : gm_I cX12_init 76 = some (.sipush 1296) := by decide +kernel
theorem i118_79 : gm_I cX12_init 79 = some (.newarray .int) := by decide +kernel
theorem i118_81 : gm_I cX12_init 81 = some (.putfield 35) := by decide +kernel
theorem i118_84 : gm_I cX12_init 84 = some (.aload_n 0) := by decide +kernel
theorem i118_85 : gm_I cX12_init 85 = some (.sipush 512) := by decide +kernel
theorem i118_88 : gm_I cX12_init 88 = some (.newarray .boolean) := by decide +kernel
theorem i118_90 : gm_I cX12_init 90 = some (.putfield 38) := by decide +kernel
theorem i118_93 : gm_I cX12_init 93 = some (.aload_n 0) := by decide +kernel
theorem i118_94 : gm_I cX12_init 94 = some (.sipush 512) := by decide +kernel
theorem i118_97 : gm_I cX12_init 97 = some (.newarray .int) := by decide +kernel
theorem i118_99 : gm_I cX12_init 99 = some (.putfield 42) := by decide +kernel
theorem i118_102 : gm_I cX12_init 102 = some (.aload_n 0) := by decide +kernel
theorem i118_103 : gm_I cX12_init 103 = some (.sipush 201) := by decide +kernel
theorem i118_106 : gm_I cX12_init 106 = some (.newarray .int) := by decide +kernel
theorem i118_108 : gm_I cX12_init 108 = some (.putfield 45) := by decide +kernel
theorem i118_111 : gm_I cX12_init 111 = some (.aload_n 0) := by decide +kernel
theorem i118_112 : gm_I cX12_init 112 = some (.sipush 603) := by decide +kernel
theorem i118_115 : gm_I cX12_init 115 = some (.newarray .long) := by decide +kernel
theorem i118_117 : gm_I cX12_init 117 = some (.putfield 48) := by decide +kernel
theorem i118_120 : gm_I cX12_init 120 = some (.aload_n 0) := by decide +kernel
theorem i118_121 : gm_I cX12_init 121 = some (.bipush 6) := by decide +kernel
theorem i118_123 : gm_I cX12_init 123 = some (.newarray .long) := by decide +kernel
theorem i118_125 : gm_I cX12_init 125 = some (.putfield 52) := by decide +kernel
theorem i118_128 : gm_I cX12_init 128 = some (.aload_n 0) := by decide +kernel
theorem i118_129 : gm_I cX12_init 129 = some (.bipush 6) := by decide +kernel
theorem i118_131 : gm_I cX12_init 131 = some (.newarray .int) := by decide +kernel
theorem i118_133 : gm_I cX12_init 133 = some (.putfield 55) := by decide +kernel
theorem i118_136 : gm_I cX12_init 136 = some (.aload_n 0) := by decide +kernel
theorem i118_137 : gm_I cX12_init 137 = some (.bipush 7) := by decide +kernel
theorem i118_139 : gm_I cX12_init 139 = some (.newarray .int) := by decide +kernel
theorem i118_141 : gm_I cX12_init 141 = some (.putfield 58) := by decide +kernel
theorem i118_144 : gm_I cX12_init 144 = some (.aload_n 0) := by decide +kernel
theorem i118_145 : gm_I cX12_init 145 = some (.bipush 24) := by decide +kernel
theorem i118_147 : gm_I cX12_init 147 = some (.newarray .long) := by decide +kernel
theorem i118_149 : gm_I cX12_init 149 = some (.putfield 61) := by decide +kernel
theorem i118_152 : gm_I cX12_init 152 = some (.aload_n 0) := by decide +kernel
theorem i118_153 : gm_I cX12_init 153 = some (.bipush 24) := by decide +kernel
theorem i118_155 : gm_I cX12_init 155 = some (.newarray .long) := by decide +kernel
theorem i118_157 : gm_I cX12_init 157 = some (.putfield 64) := by decide +kernel
theorem i118_160 : gm_I cX12_init 160 = some (.aload_n 0) := by decide +kernel
theorem i118_161 : gm_I cX12_init 161 = some (.bipush 24) := by decide +kernel
theorem i118_163 : gm_I cX12_init 163 = some (.newarray .long) := by decide +kernel
theorem i118_165 : gm_I cX12_init 165 = some (.putfield 67) := by decide +kernel
theorem i118_168 : gm_I cX12_init 168 = some (.aload_n 0) := by decide +kernel
theorem i118_169 : gm_I cX12_init 169 = some (.bipush 24) := by decide +kernel
theorem i118_171 : gm_I cX12_init 171 = some (.newarray .long) := by decide +kernel
theorem i118_173 : gm_I cX12_init 173 = some (.putfield 70) := by decide +kernel
theorem i118_176 : gm_I cX12_init 176 = some (.aload_n 0) := by decide +kernel
theorem i118_177 : gm_I cX12_init 177 = some (.sipush 201) := by decide +kernel
theorem i118_180 : gm_I cX12_init 180 = some (.newarray .long) := by decide +kernel
theorem i118_182 : gm_I cX12_init 182 = some (.putfield 73) := by decide +kernel
theorem i118_185 : gm_I cX12_init 185 = some (.aload_n 0) := by decide +kernel
theorem i118_186 : gm_I cX12_init 186 = some (.sipush 201) := by decide +kernel
theorem i118_189 : gm_I cX12_init 189 = some (.newarray .long) := by decide +kernel
theorem i118_191 : gm_I cX12_init 191 = some (.putfield 76) := by decide +kernel
theorem i118_194 : gm_I cX12_init 194 = some (.aload_n 0) := by decide +kernel
theorem i118_195 : gm_I cX12_init 195 = some (.sipush 201) := by decide +kernel
theorem i118_198 : gm_I cX12_init 198 = some (.newarray .long) := by decide +kernel
theorem i118_200 : gm_I cX12_init 200 = some (.putfield 79) := by decide +kernel
theorem i118_203 : gm_I cX12_init 203 = some (.aload_n 0) := by decide +kernel
theorem i118_204 : gm_I cX12_init 204 = some (.sipush 1440) := by decide +kernel
theorem i118_207 : gm_I cX12_init 207 = some (.newarray .long) := by decide +kernel
theorem i118_209 : gm_I cX12_init 209 = some (.putfield 82) := by decide +kernel
theorem i118_212 : gm_I cX12_init 212 = some (.aload_n 0) := by decide +kernel
theorem i118_213 : gm_I cX12_init 213 = some (.bipush 60) := by decide +kernel
theorem i118_215 : gm_I cX12_init 215 = some (.newarray .int) := by decide +kernel
theorem i118_217 : gm_I cX12_init 217 = some (.putfield 85) := by decide +kernel
theorem i118_220 : gm_I cX12_init 220 = some (.aload_n 0) := by decide +kernel
theorem i118_221 : gm_I cX12_init 221 = some (.bipush 61) := by decide +kernel
theorem i118_223 : gm_I cX12_init 223 = some (.newarray .int) := by decide +kernel
theorem i118_225 : gm_I cX12_init 225 = some (.putfield 88) := by decide +kernel
theorem i118_228 : gm_I cX12_init 228 = some (.aload_n 0) := by decide +kernel
theorem i118_229 : gm_I cX12_init 229 = some (.sipush 12500) := by decide +kernel
theorem i118_232 : gm_I cX12_init 232 = some (.newarray .int) := by decide +kernel
theorem i118_234 : gm_I cX12_init 234 = some (.putfield 91) := by decide +kernel
theorem i118_237 : gm_I cX12_init 237 = some (.aload_n 0) := by decide +kernel
theorem i118_238 : gm_I cX12_init 238 = some (.bipush 60) := by decide +kernel
theorem i118_240 : gm_I cX12_init 240 = some (.newarray .int) := by decide +kernel
theorem i118_242 : gm_I cX12_init 242 = some (.putfield 94) := by decide +kernel
theorem i118_245 : gm_I cX12_init 245 = some (.aload_n 0) := by decide +kernel
theorem i118_246 : gm_I cX12_init 246 = some (.bipush 60) := by decide +kernel
theorem i118_248 : gm_I cX12_init 248 = some (.newarray .int) := by decide +kernel
theorem i118_250 : gm_I cX12_init 250 = some (.putfield 97) := by decide +kernel
theorem i118_253 : gm_I cX12_init 253 = some (.return_) := by decide +kernel
theorem i119_0 : gm_I cX12_thrown 0 = some (.aload_n 0) := by decide +kernel
theorem i119_1 : gm_I cX12_thrown 1 = some (.getfield 100) := by decide +kernel
theorem i119_4 : gm_I cX12_thrown 4 = some (.ireturn) := by decide +kernel
theorem i120_0 : gm_I cX12_fail 0 = some (.aload_n 0) := by decide +kernel
theorem i120_1 : gm_I cX12_fail 1 = some (.iload_n 1) := by decide +kernel
theorem i120_2 : gm_I cX12_fail 2 = some (.putfield 100) := by decide +kernel
theorem i120_5 : gm_I cX12_fail 5 = some (.iconst 0) := by decide +kernel
theorem i120_6 : gm_I cX12_fail 6 = some (.ireturn) := by decide +kernel
theorem i121_0 : gm_I cX12_write 0 = some (.aload_n 0) := by decide +kernel
theorem i121_1 : gm_I cX12_write 1 = some (.iconst 0) := by decide +kernel
theorem i121_2 : gm_I cX12_write 2 = some (.putfield 100) := by decide +kernel
theorem i121_5 : gm_I cX12_write 5 = some (.iconst 0) := by decide +kernel
theorem i121_6 : gm_I cX12_write 6 = some (.istore_n 3) := by decide +kernel
theorem i121_7 : gm_I cX12_write 7 = some (.bipush 7) := by decide +kernel
theorem i121_9 : gm_I cX12_write 9 = some (.istore 4) := by decide +kernel
theorem i121_11 : gm_I cX12_write 11 = some (.iload 4) := by decide +kernel
theorem i121_13 : gm_I cX12_write 13 = some (.ifCond .lt 57) := by decide +kernel
theorem i121_16 : gm_I cX12_write 16 = some (.lload_n 1) := by decide +kernel
theorem i121_17 : gm_I cX12_write 17 = some (.bipush 8) := by decide +kernel
theorem i121_19 : gm_I cX12_write 19 = some (.iload 4) := by decide +kernel
theorem i121_21 : gm_I cX12_write 21 = some (.imul) := by decide +kernel
theorem i121_22 : gm_I cX12_write 22 = some (.lshr) := by decide +kernel
theorem i121_23 : gm_I cX12_write 23 = some (.ldc2_w 104) := by decide +kernel
theorem i121_26 : gm_I cX12_write 26 = some (.land) := by decide +kernel
theorem i121_27 : gm_I cX12_write 27 = some (.l2i) := by decide +kernel
theorem i121_28 : gm_I cX12_write 28 = some (.istore 5) := by decide +kernel
theorem i121_30 : gm_I cX12_write 30 = some (.iload 5) := by decide +kernel
theorem i121_32 : gm_I cX12_write 32 = some (.ifCond .eq 19) := by decide +kernel
theorem i121_35 : gm_I cX12_write 35 = some (.iload 5) := by decide +kernel
theorem i121_37 : gm_I cX12_write 37 = some (.bipush 32) := by decide +kernel
theorem i121_39 : gm_I cX12_write 39 = some (.if_icmp .lt 10) := by decide +kernel
theorem i121_42 : gm_I cX12_write 42 = some (.iload 5) := by decide +kernel
theorem i121_44 : gm_I cX12_write 44 = some (.bipush 126) := by decide +kernel
theorem i121_46 : gm_I cX12_write 46 = some (.if_icmp .le 5) := by decide +kernel
theorem i121_49 : gm_I cX12_write 49 = some (.iconst 0) := by decide +kernel
theorem i121_50 : gm_I cX12_write 50 = some (.ireturn) := by decide +kernel
theorem i121_51 : gm_I cX12_write 51 = some (.iload 5) := by decide +kernel
theorem i121_53 : gm_I cX12_write 53 = some (.ifCond .ne 7) := by decide +kernel
theorem i121_56 : gm_I cX12_write 56 = some (.iload_n 3) := by decide +kernel
theorem i121_57 : gm_I cX12_write 57 = some (.goto 6) := by decide +kernel
theorem i121_60 : gm_I cX12_write 60 = some (.iload_n 3) := by decide +kernel
theorem i121_61 : gm_I cX12_write 61 = some (.iconst 1) := by decide +kernel
theorem i121_62 : gm_I cX12_write 62 = some (.iadd) := by decide +kernel
theorem i121_63 : gm_I cX12_write 63 = some (.istore_n 3) := by decide +kernel
theorem i121_64 : gm_I cX12_write 64 = some (.iinc 4 (-1)) := by decide +kernel
theorem i121_67 : gm_I cX12_write 67 = some (.goto (-56)) := by decide +kernel
theorem i121_70 : gm_I cX12_write 70 = some (.aload_n 0) := by decide +kernel
theorem i121_71 : gm_I cX12_write 71 = some (.getfield 106) := by decide +kernel
theorem i121_74 : gm_I cX12_write 74 = some (.iload_n 3) := by decide +kernel
theorem i121_75 : gm_I cX12_write 75 = some (.iadd) := by decide +kernel
theorem i121_76 : gm_I cX12_write 76 = some (.sipush 240) := by decide +kernel
theorem i121_79 : gm_I cX12_write 79 = some (.if_icmp .le 5) := by decide +kernel
theorem i121_82 : gm_I cX12_write 82 = some (.iconst 0) := by decide +kernel
theorem i121_83 : gm_I cX12_write 83 = some (.ireturn) := by decide +kernel
theorem i121_84 : gm_I cX12_write 84 = some (.bipush 7) := by decide +kernel
theorem i121_86 : gm_I cX12_write 86 = some (.istore 4) := by decide +kernel
theorem i121_88 : gm_I cX12_write 88 = some (.iload 4) := by decide +kernel
theorem i121_90 : gm_I cX12_write 90 = some (.ifCond .lt 50) := by decide +kernel
theorem i121_93 : gm_I cX12_write 93 = some (.lload_n 1) := by decide +kernel
theorem i121_94 : gm_I cX12_write 94 = some (.bipush 8) := by decide +kernel
theorem i121_96 : gm_I cX12_write 96 = some (.iload 4) := by decide +kernel
theorem i121_98 : gm_I cX12_write 98 = some (.imul) := by decide +kernel
theorem i121_99 : gm_I cX12_write 99 = some (.lshr) := by decide +kernel
theorem i121_100 : gm_I cX12_write 100 = some (.ldc2_w 104) := by decide +kernel
theorem i121_103 : gm_I cX12_write 103 = some (.land) := by decide +kernel
theorem i121_104 : gm_I cX12_write 104 = some (.l2i) := by decide +kernel
theorem i121_105 : gm_I cX12_write 105 = some (.istore 5) := by decide +kernel
theorem i121_107 : gm_I cX12_write 107 = some (.iload 5) := by decide +kernel
theorem i121_109 : gm_I cX12_write 109 = some (.ifCond .eq 25) := by decide +kernel
theorem i121_112 : gm_I cX12_write 112 = some (.aload_n 0) := by decide +kernel
theorem i121_113 : gm_I cX12_write 113 = some (.getfield 7) := by decide +kernel
theorem i121_116 : gm_I cX12_write 116 = some (.aload_n 0) := by decide +kernel
theorem i121_117 : gm_I cX12_write 117 = some (.getfield 106) := by decide +kernel
theorem i121_120 : gm_I cX12_write 120 = some (.iload 5) := by decide +kernel
theorem i121_122 : gm_I cX12_write 122 = some (.i2c) := by decide +kernel
theorem i121_123 : gm_I cX12_write 123 = some (.castore) := by decide +kernel
theorem i121_124 : gm_I cX12_write 124 = some (.aload_n 0) := by decide +kernel
theorem i121_125 : gm_I cX12_write 125 = some (.dup) := by decide +kernel
theorem i121_126 : gm_I cX12_write 126 = some (.getfield 106) := by decide +kernel
theorem i121_129 : gm_I cX12_write 129 = some (.iconst 1) := by decide +kernel
theorem i121_130 : gm_I cX12_write 130 = some (.iadd) := by decide +kernel
theorem i121_131 : gm_I cX12_write 131 = some (.putfield 106) := by decide +kernel
theorem i121_134 : gm_I cX12_write 134 = some (.iinc 4 (-1)) := by decide +kernel
theorem i121_137 : gm_I cX12_write 137 = some (.goto (-49)) := by decide +kernel
theorem i121_140 : gm_I cX12_write 140 = some (.iconst 1) := by decide +kernel
theorem i121_141 : gm_I cX12_write 141 = some (.ireturn) := by decide +kernel
theorem i122_0 : gm_I cX12_wipe 0 = some (.aload_n 0) := by decide +kernel
theorem i122_1 : gm_I cX12_wipe 1 = some (.iconst 0) := by decide +kernel
theorem i122_2 : gm_I cX12_wipe 2 = some (.putfield 100) := by decide +kernel
theorem i122_5 : gm_I cX12_wipe 5 = some (.aload_n 0) := by decide +kernel
theorem i122_6 : gm_I cX12_wipe 6 = some (.iconst 0) := by decide +kernel
theorem i122_7 : gm_I cX12_wipe 7 = some (.putfield 106) := by decide +kernel
theorem i122_10 : gm_I cX12_wipe 10 = some (.return_) := by decide +kernel
theorem i123_0 : gm_I cX12_here 0 = some (.aload_n 0) := by decide +kernel
theorem i123_1 : gm_I cX12_here 1 = some (.getfield 109) := by decide +kernel
theorem i123_4 : gm_I cX12_here 4 = some (.aload_n 0) := by decide +kernel
theorem i123_5 : gm_I cX12_here 5 = some (.getfield 112) := by decide +kernel
theorem i123_8 : gm_I cX12_here 8 = some (.if_icmp .ge 15) := by decide +kernel
theorem i123_11 : gm_I cX12_here 11 = some (.aload_n 0) := by decide +kernel
theorem i123_12 : gm_I cX12_here 12 = some (.getfield 16) := by decide +kernel
theorem i123_15 : gm_I cX12_here 15 = some (.aload_n 0) := by decide +kernel
theorem i123_16 : gm_I cX12_here 16 = some (.getfield 109) := by decide +kernel
theorem i123_19 : gm_I cX12_here 19 = some (.caload) := by decide +kernel
theorem i123_20 : gm_I cX12_here 20 = some (.goto 4) := by decide +kernel
theorem i123_23 : gm_I cX12_here 23 = some (.iconst 0) := by decide +kernel
theorem i123_24 : gm_I cX12_here 24 = some (.ireturn) := by decide +kernel
theorem i124_0 : gm_I cX12_isLetter 0 = some (.iload_n 0) := by decide +kernel
theorem i124_1 : gm_I cX12_isLetter 1 = some (.bipush 97) := by decide +kernel
theorem i124_3 : gm_I cX12_isLetter 3 = some (.if_icmp .lt 13) := by decide +kernel
theorem i124_6 : gm_I cX12_isLetter 6 = some (.iload_n 0) := by decide +kernel
theorem i124_7 : gm_I cX12_isLetter 7 = some (.bipush 122) := by decide +kernel
theorem i124_9 : gm_I cX12_isLetter 9 = some (.if_icmp .gt 7) := by decide +kernel
theorem i124_12 : gm_I cX12_isLetter 12 = some (.iconst 1) := by decide +kernel
theorem i124_13 : gm_I cX12_isLetter 13 = some (.goto 4) := by decide +kernel
theorem i124_16 : gm_I cX12_isLetter 16 = some (.iconst 0) := by decide +kernel
theorem i124_17 : gm_I cX12_isLetter 17 = some (.ireturn) := by decide +kernel
theorem i125_0 : gm_I cX12_isVariable 0 = some (.iload_n 0) := by decide +kernel
theorem i125_1 : gm_I cX12_isVariable 1 = some (.bipush 85) := by decide +kernel
theorem i125_3 : gm_I cX12_isVariable 3 = some (.if_icmp .lt 13) := by decide +kernel
theorem i125_6 : gm_I cX12_isVariable 6 = some (.iload_n 0) := by decide +kernel
theorem i125_7 : gm_I cX12_isVariable 7 = some (.bipush 90) := by decide +kernel
theorem i125_9 : gm_I cX12_isVariable 9 = some (.if_icmp .gt 7) := by decide +kernel
theorem i125_12 : gm_I cX12_isVariable 12 = some (.iconst 1) := by decide +kernel
theorem i125_13 : gm_I cX12_isVariable 13 = some (.goto 4) := by decide +kernel
theorem i125_16 : gm_I cX12_isVariable 16 = some (.iconst 0) := by decide +kernel
theorem i125_17 : gm_I cX12_isVariable 17 = some (.ireturn) := by decide +kernel
theorem i126_0 : gm_I cX12_isPlain 0 = some (.iload_n 0) := by decide +kernel
theorem i126_1 : gm_I cX12_isPlain 1 = some (.invokestatic 115) := by decide +kernel
theorem i126_4 : gm_I cX12_isPlain 4 = some (.ifCond .ne 22) := by decide +kernel
theorem i126_7 : gm_I cX12_isPlain 7 = some (.iload_n 0) := by decide +kernel
theorem i126_8 : gm_I cX12_isPlain 8 = some (.invokestatic 119) := by decide +kernel
theorem i126_11 : gm_I cX12_isPlain 11 = some (.ifCond .ne 15) := by decide +kernel
theorem i126_14 : gm_I cX12_isPlain 14 = some (.iload_n 0) := by decide +kernel
theorem i126_15 : gm_I cX12_isPlain 15 = some (.bipush 48) := by decide +kernel
theorem i126_17 : gm_I cX12_isPlain 17 = some (.if_icmp .lt 13) := by decide +kernel
theorem i126_20 : gm_I cX12_isPlain 20 = some (.iload_n 0) := by decide +kernel
theorem i126_21 : gm_I cX12_isPlain 21 = some (.bipush 57) := by decide +kernel
theorem i126_23 : gm_I cX12_isPlain 23 = some (.if_icmp .gt 7) := by decide +kernel
theorem i126_26 : gm_I cX12_isPlain 26 = some (.iconst 1) := by decide +kernel
theorem i126_27 : gm_I cX12_isPlain 27 = some (.goto 4) := by decide +kernel
theorem i126_30 : gm_I cX12_isPlain 30 = some (.iconst 0) := by decide +kernel
theorem i126_31 : gm_I cX12_isPlain 31 = some (.ireturn) := by decide +kernel
theorem i127_0 : gm_I cX12_terms 0 = some (.iload_n 0) := by decide +kernel
theorem i127_1 : gm_I cX12_terms 1 = some (.bipush 82) := by decide +kernel
theorem i127_3 : gm_I cX12_terms 3 = some (.if_icmp .eq 21) := by decide +kernel
theorem i127_6 : gm_I cX12_terms 6 = some (.iload_n 0) := by decide +kernel
theorem i127_7 : gm_I cX12_terms 7 = some (.bipush 73) := by decide +kernel
theorem i127_9 : gm_I cX12_terms 9 = some (.if_icmp .eq 15) := by decide +kernel
theorem i127_12 : gm_I cX12_terms 12 = some (.iload_n 0) := by decide +kernel
theorem i127_13 : gm_I cX12_terms 13 = some (.bipush 84) := by decide +kernel
theorem i127_15 : gm_I cX12_terms 15 = some (.if_icmp .eq 9) := by decide +kernel
theorem i127_18 : gm_I cX12_terms 18 = some (.iload_n 0) := by decide +kernel
theorem i127_19 : gm_I cX12_terms 19 = some (.bipush 78) := by decide +kernel
theorem i127_21 : gm_I cX12_terms 21 = some (.if_icmp .ne 7) := by decide +kernel
theorem i127_24 : gm_I cX12_terms 24 = some (.iconst 1) := by decide +kernel
theorem i127_25 : gm_I cX12_terms 25 = some (.goto 36) := by decide +kernel
theorem i127_28 : gm_I cX12_terms 28 = some (.iload_n 0) := by decide +kernel
theorem i127_29 : gm_I cX12_terms 29 = some (.bipush 68) := by decide +kernel
theorem i127_31 : gm_I cX12_terms 31 = some (.if_icmp .eq 15) := by decide +kernel
theorem i127_34 : gm_I cX12_terms 34 = some (.iload_n 0) := by decide +kernel
theorem i127_35 : gm_I cX12_terms 35 = some (.bipush 76) := by decide +kernel
theorem i127_37 : gm_I cX12_terms 37 = some (.if_icmp .eq 9) := by decide +kernel
theorem i127_40 : gm_I cX12_terms 40 = some (.iload_n 0) := by decide +kernel
theorem i127_41 : gm_I cX12_terms 41 = some (.bipush 71) := by decide +kernel
theorem i127_43 : gm_I cX12_terms 43 = some (.if_icmp .ne 7) := by decide +kernel
theorem i127_46 : gm_I cX12_terms 46 = some (.iconst 2) := by decide +kernel
theorem i127_47 : gm_I cX12_terms 47 = some (.goto 14) := by decide +kernel
theorem i127_50 : gm_I cX12_terms 50 = some (.iload_n 0) := by decide +kernel
theorem i127_51 : gm_I cX12_terms 51 = some (.bipush 69) := by decide +kernel
theorem i127_53 : gm_I cX12_terms 53 = some (.if_icmp .ne 7) := by decide +kernel
theorem i127_56 : gm_I cX12_terms 56 = some (.iconst 0) := by decide +kernel
theorem i127_57 : gm_I cX12_terms 57 = some (.goto 4) := by decide +kernel
theorem i127_60 : gm_I cX12_terms 60 = some (.iconst (-1)) := by decide +kernel
theorem i127_61 : gm_I cX12_terms 61 = some (.ireturn) := by decide +kernel
theorem i128_0 : gm_I cX12_takes 0 = some (.aload_n 0) := by decide +kernel
theorem i128_1 : gm_I cX12_takes 1 = some (.invokevirtual 122) := by decide +kernel
theorem i128_4 : gm_I cX12_takes 4 = some (.iload_n 1) := by decide +kernel
theorem i128_5 : gm_I cX12_takes 5 = some (.if_icmp .eq 5) := by decide +kernel
theorem i128_8 : gm_I cX12_takes 8 = some (.iconst 0) := by decide +kernel
theorem i128_9 : gm_I cX12_takes 9 = some (.ireturn) := by decide +kernel
theorem i128_10 : gm_I cX12_takes 10 = some (.aload_n 0) := by decide +kernel
theorem i128_11 : gm_I cX12_takes 11 = some (.dup) := by decide +kernel
theorem i128_12 : gm_I cX12_takes 12 = some (.getfield 109) := by decide +kernel
theorem i128_15 : gm_I cX12_takes 15 = some (.iconst 1) := by decide +kernel
theorem i128_16 : gm_I cX12_takes 16 = some (.iadd) := by decide +kernel
theorem i128_17 : gm_I cX12_takes 17 = some (.putfield 109) := by decide +kernel
theorem i128_20 : gm_I cX12_takes 20 = some (.iconst 1) := by decide +kernel
theorem i128_21 : gm_I cX12_takes 21 = some (.ireturn) := by decide +kernel
theorem i129_0 : gm_I cX12_term 0 = some (.aload_n 0) := by decide +kernel
theorem i129_1 : gm_I cX12_term 1 = some (.invokevirtual 122) := by decide +kernel
theorem i129_4 : gm_I cX12_term 4 = some (.istore_n 2) := by decide +kernel
theorem i129_5 : gm_I cX12_term 5 = some (.iload_n 2) := by decide +kernel
theorem i129_6 : gm_I cX12_term 6 = some (.invokestatic 126) := by decide +kernel
theorem i129_9 : gm_I cX12_term 9 = some (.ifCond .ne 5) := by decide +kernel
theorem i129_12 : gm_I cX12_term 12 = some (.iconst 0) := by decide +kernel
theorem i129_13 : gm_I cX12_term 13 = some (.ireturn) := by decide +kernel
theorem i129_14 : gm_I cX12_term 14 = some (.aload_n 0) := by decide +kernel
theorem i129_15 : gm_I cX12_term 15 = some (.dup) := by decide +kernel
theorem i129_16 : gm_I cX12_term 16 = some (.getfield 109) := by decide +kernel
theorem i129_19 : gm_I cX12_term 19 = some (.iconst 1) := by decide +kernel
theorem i129_20 : gm_I cX12_term 20 = some (.iadd) := by decide +kernel
theorem i129_21 : gm_I cX12_term 21 = some (.putfield 109) := by decide +kernel
theorem i129_24 : gm_I cX12_term 24 = some (.aload_n 0) := by decide +kernel
theorem i129_25 : gm_I cX12_term 25 = some (.getfield 29) := by decide +kernel
theorem i129_28 : gm_I cX12_term 28 = some (.iload_n 1) := by decide +kernel
theorem i129_29 : gm_I cX12_term 29 = some (.iconst 0) := by decide +kernel
theorem i129_30 : gm_I cX12_term 30 = some (.iastore) := by decide +kernel
theorem i129_31 : gm_I cX12_term 31 = some (.aload_n 0) := by decide +kernel
theorem i129_32 : gm_I cX12_term 32 = some (.getfield 32) := by decide +kernel
theorem i129_35 : gm_I cX12_term 35 = some (.iload_n 1) := by decide +kernel
theorem i129_36 : gm_I cX12_term 36 = some (.iconst 1) := by decide +kernel
theorem i129_37 : gm_I cX12_term 37 = some (.iastore) := by decide +kernel
theorem i129_38 : gm_I cX12_term 38 = some (.aload_n 0) := by decide +kernel
theorem i129_39 : gm_I cX12_term 39 = some (.getfield 35) := by decide +kernel
theorem i129_42 : gm_I cX12_term 42 = some (.iconst 3) := by decide +kernel
theorem i129_43 : gm_I cX12_term 43 = some (.iload_n 1) := by decide +kernel
theorem i129_44 : gm_I cX12_term 44 = some (.imul) := by decide +kernel
theorem i129_45 : gm_I cX12_term 45 = some (.iload_n 2) := by decide +kernel
theorem i129_46 : gm_I cX12_term 46 = some (.iastore) := by decide +kernel
theorem i129_47 : gm_I cX12_term 47 = some (.iload_n 2) := by decide +kernel
theorem i129_48 : gm_I cX12_term 48 = some (.invokestatic 115) := by decide +kernel
theorem i129_51 : gm_I cX12_term 51 = some (.ifCond .eq 12) := by decide +kernel
theorem i129_54 : gm_I cX12_term 54 = some (.aload_n 0) := by decide +kernel
theorem i129_55 : gm_I cX12_term 55 = some (.bipush 40) := by decide +kernel
theorem i129_57 : gm_I cX12_term 57 = some (.invokevirtual 129) := by decide +kernel
theorem i129_60 : gm_I cX12_term 60 = some (.ifCond .ne 5) := by decide +kernel
theorem i129_63 : gm_I cX12_term 63 = some (.iconst 1) := by decide +kernel
theorem i129_64 : gm_I cX12_term 64 = some (.ireturn) := by decide +kernel
theorem i129_65 : gm_I cX12_term 65 = some (.aload_n 0) := by decide +kernel
theorem i129_66 : gm_I cX12_term 66 = some (.getfield 29) := by decide +kernel
theorem i129_69 : gm_I cX12_term 69 = some (.iload_n 1) := by decide +kernel
theorem i129_70 : gm_I cX12_term 70 = some (.iload_n 2) := by decide +kernel
theorem i129_71 : gm_I cX12_term 71 = some (.iastore) := by decide +kernel
theorem i129_72 : gm_I cX12_term 72 = some (.aload_n 0) := by decide +kernel
theorem i129_73 : gm_I cX12_term 73 = some (.getfield 32) := by decide +kernel
theorem i129_76 : gm_I cX12_term 76 = some (.iload_n 1) := by decide +kernel
theorem i129_77 : gm_I cX12_term 77 = some (.iconst 0) := by decide +kernel
theorem i129_78 : gm_I cX12_term 78 = some (.iastore) := by decide +kernel
theorem i129_79 : gm_I cX12_term 79 = some (.iconst 0) := by decide +kernel
theorem i129_80 : gm_I cX12_term 80 = some (.istore_n 3) := by decide +kernel
theorem i129_81 : gm_I cX12_term 81 = some (.iload_n 3) := by decide +kernel
theorem i129_82 : gm_I cX12_term 82 = some (.iconst 3) := by decide +kernel
theorem i129_83 : gm_I cX12_term 83 = some (.if_icmp .ge 82) := by decide +kernel
theorem i129_86 : gm_I cX12_term 86 = some (.aload_n 0) := by decide +kernel
theorem i129_87 : gm_I cX12_term 87 = some (.invokevirtual 122) := by decide +kernel
theorem i129_90 : gm_I cX12_term 90 = some (.invokestatic 126) := by decide +kernel
theorem i129_93 : gm_I cX12_term 93 = some (.ifCond .ne 5) := by decide +kernel
theorem i129_96 : gm_I cX12_term 96 = some (.iconst 0) := by decide +kernel
theorem i129_97 : gm_I cX12_term 97 = some (.ireturn) := by decide +kernel
theorem i129_98 : gm_I cX12_term 98 = some (.aload_n 0) := by decide +kernel
theorem i129_99 : gm_I cX12_term 99 = some (.getfield 35) := by decide +kernel
theorem i129_102 : gm_I cX12_term 102 = some (.iconst 3) := by decide +kernel
theorem i129_103 : gm_I cX12_term 103 = some (.iload_n 1) := by decide +kernel
theorem i129_104 : gm_I cX12_term 104 = some (.imul) := by decide +kernel
theorem i129_105 : gm_I cX12_term 105 = some (.iload_n 3) := by decide +kernel
theorem i129_106 : gm_I cX12_term 106 = some (.iadd) := by decide +kernel
theorem i129_107 : gm_I cX12_term 107 = some (.aload_n 0) := by decide +kernel
theorem i129_108 : gm_I cX12_term 108 = some (.invokevirtual 122) := by decide +kernel
theorem i129_111 : gm_I cX12_term 111 = some (.iastore) := by decide +kernel
theorem i129_112 : gm_I cX12_term 112 = some (.aload_n 0) := by decide +kernel
theorem i129_113 : gm_I cX12_term 113 = some (.getfield 32) := by decide +kernel
theorem i129_116 : gm_I cX12_term 116 = some (.iload_n 1) := by decide +kernel
theorem i129_117 : gm_I cX12_term 117 = some (.dup2) := by decide +kernel
theorem i129_118 : gm_I cX12_term 118 = some (.iaload) := by decide +kernel
theorem i129_119 : gm_I cX12_term 119 = some (.iconst 1) := by decide +kernel
theorem i129_120 : gm_I cX12_term 120 = some (.iadd) := by decide +kernel
theorem i129_121 : gm_I cX12_term 121 = some (.iastore) := by decide +kernel
theorem i129_122 : gm_I cX12_term 122 = some (.aload_n 0) := by decide +kernel
theorem i129_123 : gm_I cX12_term 123 = some (.dup) := by decide +kernel
theorem i129_124 : gm_I cX12_term 124 = some (.getfield 109) := by decide +kernel
theorem i129_127 : gm_I cX12_term 127 = some (.iconst 1) := by decide +kernel
theorem i129_128 : gm_I cX12_term 128 = some (.iadd) := by decide +kernel
theorem i129_129 : gm_I cX12_term 129 = some (.putfield 109) := by decide +kernel
theorem i129_132 : gm_I cX12_term 132 = some (.aload_n 0) := by decide +kernel
theorem i129_133 : gm_I cX12_term 133 = some (.bipush 41) := by decide +kernel
theorem i129_135 : gm_I cX12_term 135 = some (.invokevirtual 129) := by decide +kernel
theorem i129_138 : gm_I cX12_term 138 = some (.ifCond .eq 5) := by decide +kernel
theorem i129_141 : gm_I cX12_term 141 = some (.iconst 1) := by decide +kernel
theorem i129_142 : gm_I cX12_term 142 = some (.ireturn) := by decide +kernel
theorem i129_143 : gm_I cX12_term 143 = some (.iload_n 3) := by decide +kernel
theorem i129_144 : gm_I cX12_term 144 = some (.iconst 2) := by decide +kernel
theorem i129_145 : gm_I cX12_term 145 = some (.if_icmp .eq 12) := by decide +kernel
theorem i129_148 : gm_I cX12_term 148 = some (.aload_n 0) := by decide +kernel
theorem i129_149 : gm_I cX12_term 149 = some (.bipush 44) := by decide +kernel
theorem i129_151 : gm_I cX12_term 151 = some (.invokevirtual 129) := by decide +kernel
theorem i129_154 : gm_I cX12_term 154 = some (.ifCond .ne 5) := by decide +kernel
theorem i129_157 : gm_I cX12_term 157 = some (.iconst 0) := by decide +kernel
theorem i129_158 : gm_I cX12_term 158 = some (.ireturn) := by decide +kernel
theorem i129_159 : gm_I cX12_term 159 = some (.iinc 3 1) := by decide +kernel
theorem i129_162 : gm_I cX12_term 162 = some (.goto (-81)) := by decide +kernel
theorem i129_165 : gm_I cX12_term 165 = some (.iconst 0) := by decide +kernel
theorem i129_166 : gm_I cX12_term 166 = some (.ireturn) := by decide +kernel
theorem i130_0 : gm_I cX12_atom 0 = some (.aload_n 0) := by decide +kernel
theorem i130_1 : gm_I cX12_atom 1 = some (.invokevirtual 122) := by decide +kernel
theorem i130_4 : gm_I cX12_atom 4 = some (.istore_n 2) := by decide +kernel
theorem i130_5 : gm_I cX12_atom 5 = some (.iload_n 2) := by decide +kernel
theorem i130_6 : gm_I cX12_atom 6 = some (.invokestatic 132) := by decide +kernel
theorem i130_9 : gm_I cX12_atom 9 = some (.istore_n 3) := by decide +kernel
theorem i130_10 : gm_I cX12_atom 10 = some (.iload_n 2) := by decide +kernel
theorem i130_11 : gm_I cX12_atom 11 = some (.invokestatic 115) := by decide +kernel
theorem i130_14 : gm_I cX12_atom 14 = some (.ifCond .ne 9) := by decide +kernel
theorem i130_17 : gm_I cX12_atom 17 = some (.iload_n 3) := by decide +kernel
theorem i130_18 : gm_I cX12_atom 18 = some (.ifCond .ge 5) := by decide +kernel
theorem i130_21 : gm_I cX12_atom 21 = some (.iconst 0) := by decide +kernel
theorem i130_22 : gm_I cX12_atom 22 = some (.ireturn) := by decide +kernel
theorem i130_23 : gm_I cX12_atom 23 = some (.aload_n 0) := by decide +kernel
theorem i130_24 : gm_I cX12_atom 24 = some (.dup) := by decide +kernel
theorem i130_25 : gm_I cX12_atom 25 = some (.getfield 109) := by decide +kernel
theorem i130_28 : gm_I cX12_atom 28 = some (.iconst 1) := by decide +kernel
theorem i130_29 : gm_I cX12_atom 29 = some (.iadd) := by decide +kernel
theorem i130_30 : gm_I cX12_atom 30 = some (.putfield 109) := by decide +kernel
theorem i130_33 : gm_I cX12_atom 33 = some (.aload_n 0) := by decide +kernel
theorem i130_34 : gm_I cX12_atom 34 = some (.getfield 26) := by decide +kernel
theorem i130_37 : gm_I cX12_atom 37 = some (.iload_n 1) := by decide +kernel
theorem i130_38 : gm_I cX12_atom 38 = some (.iconst 4) := by decide +kernel
theorem i130_39 : gm_I cX12_atom 39 = some (.iload_n 2) := by decide +kernel
theorem i130_40 : gm_I cX12_atom 40 = some (.imul) := by decide +kernel
theorem i130_41 : gm_I cX12_atom 41 = some (.iastore) := by decide +kernel
theorem i130_42 : gm_I cX12_atom 42 = some (.iload_n 3) := by decide +kernel
theorem i130_43 : gm_I cX12_atom 43 = some (.ifCond .eq 16) := by decide +kernel
theorem i130_46 : gm_I cX12_atom 46 = some (.iload_n 3) := by decide +kernel
theorem i130_47 : gm_I cX12_atom 47 = some (.ifCond .ge 14) := by decide +kernel
theorem i130_50 : gm_I cX12_atom 50 = some (.aload_n 0) := by decide +kernel
theorem i130_51 : gm_I cX12_atom 51 = some (.invokevirtual 122) := by decide +kernel
theorem i130_54 : gm_I cX12_atom 54 = some (.bipush 40) := by decide +kernel
theorem i130_56 : gm_I cX12_atom 56 = some (.if_icmp .eq 5) := by decide +kernel
theorem i130_59 : gm_I cX12_atom 59 = some (.iconst 1) := by decide +kernel
theorem i130_60 : gm_I cX12_atom 60 = some (.ireturn) := by decide +kernel
theorem i130_61 : gm_I cX12_atom 61 = some (.aload_n 0) := by decide +kernel
theorem i130_62 : gm_I cX12_atom 62 = some (.bipush 40) := by decide +kernel
theorem i130_64 : gm_I cX12_atom 64 = some (.invokevirtual 129) := by decide +kernel
theorem i130_67 : gm_I cX12_atom 67 = some (.ifCond .ne 5) := by decide +kernel
theorem i130_70 : gm_I cX12_atom 70 = some (.iconst 0) := by decide +kernel
theorem i130_71 : gm_I cX12_atom 71 = some (.ireturn) := by decide +kernel
theorem i130_72 : gm_I cX12_atom 72 = some (.iconst 1) := by decide +kernel
theorem i130_73 : gm_I cX12_atom 73 = some (.istore 4) := by decide +kernel
theorem i130_75 : gm_I cX12_atom 75 = some (.iload 4) := by decide +kernel
theorem i130_77 : gm_I cX12_atom 77 = some (.iconst 3) := by decide +kernel
theorem i130_78 : gm_I cX12_atom 78 = some (.if_icmp .gt 84) := by decide +kernel
theorem i130_81 : gm_I cX12_atom 81 = some (.aload_n 0) := by decide +kernel
theorem i130_82 : gm_I cX12_atom 82 = some (.iconst 3) := by decide +kernel
theorem i130_83 : gm_I cX12_atom 83 = some (.iload_n 1) := by decide +kernel
theorem i130_84 : gm_I cX12_atom 84 = some (.imul) := by decide +kernel
theorem i130_85 : gm_I cX12_atom 85 = some (.iload 4) := by decide +kernel
theorem i130_87 : gm_I cX12_atom 87 = some (.iadd) := by decide +kernel
theorem i130_88 : gm_I cX12_atom 88 = some (.iconst 1) := by decide +kernel
theorem i130_89 : gm_I cX12_atom 89 = some (.isub) := by decide +kernel
theorem i130_90 : gm_I cX12_atom 90 = some (.invokevirtual 136) := by decide +kernel
theorem i130_93 : gm_I cX12_atom 93 = some (.ifCond .ne 5) := by decide +kernel
theorem i130_96 : gm_I cX12_atom 96 = some (.iconst 0) := by decide +kernel
theorem i130_97 : gm_I cX12_atom 97 = some (.ireturn) := by decide +kernel
theorem i130_98 : gm_I cX12_atom 98 = some (.aload_n 0) := by decide +kernel
theorem i130_99 : gm_I cX12_atom 99 = some (.getfield 26) := by decide +kernel
theorem i130_102 : gm_I cX12_atom 102 = some (.iload_n 1) := by decide +kernel
theorem i130_103 : gm_I cX12_atom 103 = some (.iconst 4) := by decide +kernel
theorem i130_104 : gm_I cX12_atom 104 = some (.iload_n 2) := by decide +kernel
theorem i130_105 : gm_I cX12_atom 105 = some (.imul) := by decide +kernel
theorem i130_106 : gm_I cX12_atom 106 = some (.iload 4) := by decide +kernel
theorem i130_108 : gm_I cX12_atom 108 = some (.iadd) := by decide +kernel
theorem i130_109 : gm_I cX12_atom 109 = some (.iastore) := by decide +kernel
theorem i130_110 : gm_I cX12_atom 110 = some (.iload_n 3) := by decide +kernel
theorem i130_111 : gm_I cX12_atom 111 = some (.ifCond .lt 9) := by decide +kernel
theorem i130_114 : gm_I cX12_atom 114 = some (.iload 4) := by decide +kernel
theorem i130_116 : gm_I cX12_atom 116 = some (.iload_n 3) := by decide +kernel
theorem i130_117 : gm_I cX12_atom 117 = some (.if_icmp .ne 14) := by decide +kernel
theorem i130_120 : gm_I cX12_atom 120 = some (.aload_n 0) := by decide +kernel
theorem i130_121 : gm_I cX12_atom 121 = some (.bipush 41) := by decide +kernel
theorem i130_123 : gm_I cX12_atom 123 = some (.invokevirtual 129) := by decide +kernel
theorem i130_126 : gm_I cX12_atom 126 = some (.ifCond .eq 5) := by decide +kernel
theorem i130_129 : gm_I cX12_atom 129 = some (.iconst 1) := by decide +kernel
theorem i130_130 : gm_I cX12_atom 130 = some (.ireturn) := by decide +kernel
theorem i130_131 : gm_I cX12_atom 131 = some (.iload 4) := by decide +kernel
theorem i130_133 : gm_I cX12_atom 133 = some (.iload_n 3) := by decide +kernel
theorem i130_134 : gm_I cX12_atom 134 = some (.ifCond .ge 7) := by decide +kernel
theorem i130_137 : gm_I cX12_atom 137 = some (.iconst 3) := by decide +kernel
theorem i130_138 : gm_I cX12_atom 138 = some (.goto 4) := by decide +kernel
theorem i130_141 : gm_I cX12_atom 141 = some (.iload_n 3) := by decide +kernel
theorem i130_142 : gm_I cX12_atom 142 = some (.if_icmp .eq 12) := by decide +kernel
theorem i130_145 : gm_I cX12_atom 145 = some (.aload_n 0) := by decide +kernel
theorem i130_146 : gm_I cX12_atom 146 = some (.bipush 44) := by decide +kernel
theorem i130_148 : gm_I cX12_atom 148 = some (.invokevirtual 129) := by decide +kernel
theorem i130_151 : gm_I cX12_atom 151 = some (.ifCond .ne 5) := by decide +kernel
theorem i130_154 : gm_I cX12_atom 154 = some (.iconst 0) := by decide +kernel
theorem i130_155 : gm_I cX12_atom 155 = some (.ireturn) := by decide +kernel
theorem i130_156 : gm_I cX12_atom 156 = some (.iinc 4 1) := by decide +kernel
theorem i130_159 : gm_I cX12_atom 159 = some (.goto (-84)) := by decide +kernel
theorem i130_162 : gm_I cX12_atom 162 = some (.iconst 0) := by decide +kernel
theorem i130_163 : gm_I cX12_atom 163 = some (.ireturn) := by decide +kernel
theorem i131_0 : gm_I cX12_becomesTerm 0 = some (.aload_n 0) := by decide +kernel
theorem i131_1 : gm_I cX12_becomesTerm 1 = some (.getfield 26) := by decide +kernel
theorem i131_4 : gm_I cX12_becomesTerm 4 = some (.iload_n 1) := by decide +kernel
theorem i131_5 : gm_I cX12_becomesTerm 5 = some (.iaload) := by decide +kernel
theorem i131_6 : gm_I cX12_becomesTerm 6 = some (.iconst 3) := by decide +kernel
theorem i131_7 : gm_I cX12_becomesTerm 7 = some (.iand) := by decide +kernel
theorem i131_8 : gm_I cX12_becomesTerm 8 = some (.istore_n 2) := by decide +kernel
theorem i131_9 : gm_I cX12_becomesTerm 9 = some (.iconst 0) := by decide +kernel
theorem i131_10 : gm_I cX12_becomesTerm 10 = some (.istore_n 3) := by decide +kernel
theorem i131_11 : gm_I cX12_becomesTerm 11 = some (.iload_n 3) := by decide +kernel
theorem i131_12 : gm_I cX12_becomesTerm 12 = some (.iload_n 2) := by decide +kernel
theorem i131_13 : gm_I cX12_becomesTerm 13 = some (.if_icmp .ge 24) := by decide +kernel
theorem i131_16 : gm_I cX12_becomesTerm 16 = some (.aload_n 0) := by decide +kernel
theorem i131_17 : gm_I cX12_becomesTerm 17 = some (.getfield 29) := by decide +kernel
theorem i131_20 : gm_I cX12_becomesTerm 20 = some (.iconst 3) := by decide +kernel
theorem i131_21 : gm_I cX12_becomesTerm 21 = some (.iload_n 1) := by decide +kernel
theorem i131_22 : gm_I cX12_becomesTerm 22 = some (.imul) := by decide +kernel
theorem i131_23 : gm_I cX12_becomesTerm 23 = some (.iload_n 3) := by decide +kernel
theorem i131_24 : gm_I cX12_becomesTerm 24 = some (.iadd) := by decide +kernel
theorem i131_25 : gm_I cX12_becomesTerm 25 = some (.iaload) := by decide +kernel
theorem i131_26 : gm_I cX12_becomesTerm 26 = some (.ifCond .eq 5) := by decide +kernel
theorem i131_29 : gm_I cX12_becomesTerm 29 = some (.iconst 0) := by decide +kernel
theorem i131_30 : gm_I cX12_becomesTerm 30 = some (.ireturn) := by decide +kernel
theorem i131_31 : gm_I cX12_becomesTerm 31 = some (.iinc 3 1) := by decide +kernel
theorem i131_34 : gm_I cX12_becomesTerm 34 = some (.goto (-23)) := by decide +kernel
theorem i131_37 : gm_I cX12_becomesTerm 37 = some (.aload_n 0) := by decide +kernel
theorem i131_38 : gm_I cX12_becomesTerm 38 = some (.getfield 26) := by decide +kernel
theorem i131_41 : gm_I cX12_becomesTerm 41 = some (.iload_n 1) := by decide +kernel
theorem i131_42 : gm_I cX12_becomesTerm 42 = some (.iaload) := by decide +kernel
theorem i131_43 : gm_I cX12_becomesTerm 43 = some (.iconst 4) := by decide +kernel
theorem i131_44 : gm_I cX12_becomesTerm 44 = some (.idiv) := by decide +kernel
theorem i131_45 : gm_I cX12_becomesTerm 45 = some (.istore_n 3) := by decide +kernel
theorem i131_46 : gm_I cX12_becomesTerm 46 = some (.iload_n 2) := by decide +kernel
theorem i131_47 : gm_I cX12_becomesTerm 47 = some (.iconst 1) := by decide +kernel
theorem i131_48 : gm_I cX12_becomesTerm 48 = some (.isub) := by decide +kernel
theorem i131_49 : gm_I cX12_becomesTerm 49 = some (.istore 4) := by decide +kernel
theorem i131_51 : gm_I cX12_becomesTerm 51 = some (.iload 4) := by decide +kernel
theorem i131_53 : gm_I cX12_becomesTerm 53 = some (.ifCond .lt 35) := by decide +kernel
theorem i131_56 : gm_I cX12_becomesTerm 56 = some (.aload_n 0) := by decide +kernel
theorem i131_57 : gm_I cX12_becomesTerm 57 = some (.getfield 35) := by decide +kernel
theorem i131_60 : gm_I cX12_becomesTerm 60 = some (.bipush 9) := by decide +kernel
theorem i131_62 : gm_I cX12_becomesTerm 62 = some (.iload_n 1) := by decide +kernel
theorem i131_63 : gm_I cX12_becomesTerm 63 = some (.imul) := by decide +kernel
theorem i131_64 : gm_I cX12_becomesTerm 64 = some (.iload 4) := by decide +kernel
theorem i131_66 : gm_I cX12_becomesTerm 66 = some (.iadd) := by decide +kernel
theorem i131_67 : gm_I cX12_becomesTerm 67 = some (.aload_n 0) := by decide +kernel
theorem i131_68 : gm_I cX12_becomesTerm 68 = some (.getfield 35) := by decide +kernel
theorem i131_71 : gm_I cX12_becomesTerm 71 = some (.bipush 9) := by decide +kernel
theorem i131_73 : gm_I cX12_becomesTerm 73 = some (.iload_n 1) := by decide +kernel
theorem i131_74 : gm_I cX12_becomesTerm 74 = some (.imul) := by decide +kernel
theorem i131_75 : gm_I cX12_becomesTerm 75 = some (.iconst 3) := by decide +kernel
theorem i131_76 : gm_I cX12_becomesTerm 76 = some (.iload 4) := by decide +kernel
theorem i131_78 : gm_I cX12_becomesTerm 78 = some (.imul) := by decide +kernel
theorem i131_79 : gm_I cX12_becomesTerm 79 = some (.iadd) := by decide +kernel
theorem i131_80 : gm_I cX12_becomesTerm 80 = some (.iaload) := by decide +kernel
theorem i131_81 : gm_I cX12_becomesTerm 81 = some (.iastore) := by decide +kernel
theorem i131_82 : gm_I cX12_becomesTerm 82 = some (.iinc 4 (-1)) := by decide +kernel
theorem i131_85 : gm_I cX12_becomesTerm 85 = some (.goto (-34)) := by decide +kernel
theorem i131_88 : gm_I cX12_becomesTerm 88 = some (.aload_n 0) := by decide +kernel
theorem i131_89 : gm_I cX12_becomesTerm 89 = some (.getfield 29) := by decide +kernel
theorem i131_92 : gm_I cX12_becomesTerm 92 = some (.iconst 3) := by decide +kernel
theorem i131_93 : gm_I cX12_becomesTerm 93 = some (.iload_n 1) := by decide +kernel
theorem i131_94 : gm_I cX12_becomesTerm 94 = some (.imul) := by decide +kernel
theorem i131_95 : gm_I cX12_becomesTerm 95 = some (.iload_n 2) := by decide +kernel
theorem i131_96 : gm_I cX12_becomesTerm 96 = some (.ifCond .ne 7) := by decide +kernel
theorem i131_99 : gm_I cX12_becomesTerm 99 = some (.iconst 0) := by decide +kernel
theorem i131_100 : gm_I cX12_becomesTerm 100 = some (.goto 4) := by decide +kernel
theorem i131_103 : gm_I cX12_becomesTerm 103 = some (.iload_n 3) := by decide +kernel
theorem i131_104 : gm_I cX12_becomesTerm 104 = some (.iastore) := by decide +kernel
theorem i131_105 : gm_I cX12_becomesTerm 105 = some (.aload_n 0) := by decide +kernel
theorem i131_106 : gm_I cX12_becomesTerm 106 = some (.getfield 32) := by decide +kernel
theorem i131_109 : gm_I cX12_becomesTerm 109 = some (.iconst 3) := by decide +kernel
theorem i131_110 : gm_I cX12_becomesTerm 110 = some (.iload_n 1) := by decide +kernel
theorem i131_111 : gm_I cX12_becomesTerm 111 = some (.imul) := by decide +kernel
theorem i131_112 : gm_I cX12_becomesTerm 112 = some (.iload_n 2) := by decide +kernel
theorem i131_113 : gm_I cX12_becomesTerm 113 = some (.ifCond .ne 7) := by decide +kernel
theorem i131_116 : gm_I cX12_becomesTerm 116 = some (.iconst 1) := by decide +kernel
theorem i131_117 : gm_I cX12_becomesTerm 117 = some (.goto 4) := by decide +kernel
theorem i131_120 : gm_I cX12_becomesTerm 120 = some (.iload_n 2) := by decide +kernel
theorem i131_121 : gm_I cX12_becomesTerm 121 = some (.iastore) := by decide +kernel
theorem i131_122 : gm_I cX12_becomesTerm 122 = some (.aload_n 0) := by decide +kernel
theorem i131_123 : gm_I cX12_becomesTerm 123 = some (.getfield 35) := by decide +kernel
theorem i131_126 : gm_I cX12_becomesTerm 126 = some (.bipush 9) := by decide +kernel
theorem i131_128 : gm_I cX12_becomesTerm 128 = some (.iload_n 1) := by decide +kernel
theorem i131_129 : gm_I cX12_becomesTerm 129 = some (.imul) := by decide +kernel
theorem i131_130 : gm_I cX12_becomesTerm 130 = some (.iload_n 2) := by decide +kernel
theorem i131_131 : gm_I cX12_becomesTerm 131 = some (.ifCond .ne 7) := by decide +kernel
theorem i131_134 : gm_I cX12_becomesTerm 134 = some (.iload_n 3) := by decide +kernel
theorem i131_135 : gm_I cX12_becomesTerm 135 = some (.goto 12) := by decide +kernel
theorem i131_138 : gm_I cX12_becomesTerm 138 = some (.aload_n 0) := by decide +kernel
theorem i131_139 : gm_I cX12_becomesTerm 139 = some (.getfield 35) := by decide +kernel
theorem i131_142 : gm_I cX12_becomesTerm 142 = some (.bipush 9) := by decide +kernel
theorem i131_144 : gm_I cX12_becomesTerm 144 = some (.iload_n 1) := by decide +kernel
theorem i131_145 : gm_I cX12_becomesTerm 145 = some (.imul) := by decide +kernel
theorem i131_146 : gm_I cX12_becomesTerm 146 = some (.iaload) := by decide +kernel
theorem i131_147 : gm_I cX12_becomesTerm 147 = some (.iastore) := by decide +kernel
theorem i131_148 : gm_I cX12_becomesTerm 148 = some (.iconst 1) := by decide +kernel
theorem i131_149 : gm_I cX12_becomesTerm 149 = some (.ireturn) := by decide +kernel
theorem i132_0 : gm_I cX12_literal 0 = some (.aload_n 0) := by decide +kernel
theorem i132_1 : gm_I cX12_literal 1 = some (.getfield 23) := by decide +kernel
theorem i132_4 : gm_I cX12_literal 4 = some (.iload_n 1) := by decide +kernel
theorem i132_5 : gm_I cX12_literal 5 = some (.iconst 0) := by decide +kernel
theorem i132_6 : gm_I cX12_literal 6 = some (.iastore) := by decide +kernel
theorem i132_7 : gm_I cX12_literal 7 = some (.aload_n 0) := by decide +kernel
theorem i132_8 : gm_I cX12_literal 8 = some (.bipush 126) := by decide +kernel
theorem i132_10 : gm_I cX12_literal 10 = some (.invokevirtual 129) := by decide +kernel
theorem i132_13 : gm_I cX12_literal 13 = some (.ifCond .eq 16) := by decide +kernel
theorem i132_16 : gm_I cX12_literal 16 = some (.aload_n 0) := by decide +kernel
theorem i132_17 : gm_I cX12_literal 17 = some (.getfield 23) := by decide +kernel
theorem i132_20 : gm_I cX12_literal 20 = some (.iload_n 1) := by decide +kernel
theorem i132_21 : gm_I cX12_literal 21 = some (.iconst 1) := by decide +kernel
theorem i132_22 : gm_I cX12_literal 22 = some (.iastore) := by decide +kernel
theorem i132_23 : gm_I cX12_literal 23 = some (.aload_n 0) := by decide +kernel
theorem i132_24 : gm_I cX12_literal 24 = some (.iload_n 1) := by decide +kernel
theorem i132_25 : gm_I cX12_literal 25 = some (.invokevirtual 139) := by decide +kernel
theorem i132_28 : gm_I cX12_literal 28 = some (.ireturn) := by decide +kernel
theorem i132_29 : gm_I cX12_literal 29 = some (.aload_n 0) := by decide +kernel
theorem i132_30 : gm_I cX12_literal 30 = some (.invokevirtual 122) := by decide +kernel
theorem i132_33 : gm_I cX12_literal 33 = some (.istore_n 2) := by decide +kernel
theorem i132_34 : gm_I cX12_literal 34 = some (.iload_n 2) := by decide +kernel
theorem i132_35 : gm_I cX12_literal 35 = some (.invokestatic 115) := by decide +kernel
theorem i132_38 : gm_I cX12_literal 38 = some (.ifCond .ne 10) := by decide +kernel
theorem i132_41 : gm_I cX12_literal 41 = some (.iload_n 2) := by decide +kernel
theorem i132_42 : gm_I cX12_literal 42 = some (.invokestatic 132) := by decide +kernel
theorem i132_45 : gm_I cX12_literal 45 = some (.ifCond .lt 39) := by decide +kernel
theorem i132_48 : gm_I cX12_literal 48 = some (.aload_n 0) := by decide +kernel
theorem i132_49 : gm_I cX12_literal 49 = some (.iload_n 1) := by decide +kernel
theorem i132_50 : gm_I cX12_literal 50 = some (.invokevirtual 139) := by decide +kernel
theorem i132_53 : gm_I cX12_literal 53 = some (.ifCond .ne 5) := by decide +kernel
theorem i132_56 : gm_I cX12_literal 56 = some (.iconst 0) := by decide +kernel
theorem i132_57 : gm_I cX12_literal 57 = some (.ireturn) := by decide +kernel
theorem i132_58 : gm_I cX12_literal 58 = some (.aload_n 0) := by decide +kernel
theorem i132_59 : gm_I cX12_literal 59 = some (.invokevirtual 122) := by decide +kernel
theorem i132_62 : gm_I cX12_literal 62 = some (.bipush 35) := by decide +kernel
theorem i132_64 : gm_I cX12_literal 64 = some (.if_icmp .ne 18) := by decide +kernel
theorem i132_67 : gm_I cX12_literal 67 = some (.iload_n 2) := by decide +kernel
theorem i132_68 : gm_I cX12_literal 68 = some (.invokestatic 115) := by decide +kernel
theorem i132_71 : gm_I cX12_literal 71 = some (.ifCond .eq 11) := by decide +kernel
theorem i132_74 : gm_I cX12_literal 74 = some (.aload_n 0) := by decide +kernel
theorem i132_75 : gm_I cX12_literal 75 = some (.iload_n 1) := by decide +kernel
theorem i132_76 : gm_I cX12_literal 76 = some (.invokevirtual 142) := by decide +kernel
theorem i132_79 : gm_I cX12_literal 79 = some (.ifCond .ne 17) := by decide +kernel
theorem i132_82 : gm_I cX12_literal 82 = some (.iconst 1) := by decide +kernel
theorem i132_83 : gm_I cX12_literal 83 = some (.ireturn) := by decide +kernel
theorem i132_84 : gm_I cX12_literal 84 = some (.aload_n 0) := by decide +kernel
theorem i132_85 : gm_I cX12_literal 85 = some (.iconst 3) := by decide +kernel
theorem i132_86 : gm_I cX12_literal 86 = some (.iload_n 1) := by decide +kernel
theorem i132_87 : gm_I cX12_literal 87 = some (.imul) := by decide +kernel
theorem i132_88 : gm_I cX12_literal 88 = some (.invokevirtual 136) := by decide +kernel
theorem i132_91 : gm_I cX12_literal 91 = some (.ifCond .ne 5) := by decide +kernel
theorem i132_94 : gm_I cX12_literal 94 = some (.iconst 0) := by decide +kernel
theorem i132_95 : gm_I cX12_literal 95 = some (.ireturn) := by decide +kernel
theorem i132_96 : gm_I cX12_literal 96 = some (.aload_n 0) := by decide +kernel
theorem i132_97 : gm_I cX12_literal 97 = some (.getfield 23) := by decide +kernel
theorem i132_100 : gm_I cX12_literal 100 = some (.iload_n 1) := by decide +kernel
theorem i132_101 : gm_I cX12_literal 101 = some (.iconst 2) := by decide +kernel
theorem i132_102 : gm_I cX12_literal 102 = some (.iastore) := by decide +kernel
theorem i132_103 : gm_I cX12_literal 103 = some (.aload_n 0) := by decide +kernel
theorem i132_104 : gm_I cX12_literal 104 = some (.bipush 35) := by decide +kernel
theorem i132_106 : gm_I cX12_literal 106 = some (.invokevirtual 129) := by decide +kernel
theorem i132_109 : gm_I cX12_literal 109 = some (.ifCond .eq 19) := by decide +kernel
theorem i132_112 : gm_I cX12_literal 112 = some (.aload_n 0) := by decide +kernel
theorem i132_113 : gm_I cX12_literal 113 = some (.iconst 3) := by decide +kernel
theorem i132_114 : gm_I cX12_literal 114 = some (.iload_n 1) := by decide +kernel
theorem i132_115 : gm_I cX12_literal 115 = some (.imul) := by decide +kernel
theorem i132_116 : gm_I cX12_literal 116 = some (.iconst 1) := by decide +kernel
theorem i132_117 : gm_I cX12_literal 117 = some (.iadd) := by decide +kernel
theorem i132_118 : gm_I cX12_literal 118 = some (.invokevirtual 136) := by decide +kernel
theorem i132_121 : gm_I cX12_literal 121 = some (.ifCond .eq 7) := by decide +kernel
theorem i132_124 : gm_I cX12_literal 124 = some (.iconst 1) := by decide +kernel
theorem i132_125 : gm_I cX12_literal 125 = some (.goto 4) := by decide +kernel
theorem i132_128 : gm_I cX12_literal 128 = some (.iconst 0) := by decide +kernel
theorem i132_129 : gm_I cX12_literal 129 = some (.ireturn) := by decide +kernel
theorem i133_0 : gm_I cX12_rule 0 = some (.aload_n 0) := by decide +kernel
theorem i133_1 : gm_I cX12_rule 1 = some (.getfield 19) := by decide +kernel
theorem i133_4 : gm_I cX12_rule 4 = some (.iload_n 1) := by decide +kernel
theorem i133_5 : gm_I cX12_rule 5 = some (.iconst 0) := by decide +kernel
theorem i133_6 : gm_I cX12_rule 6 = some (.iastore) := by decide +kernel
theorem i133_7 : gm_I cX12_rule 7 = some (.aload_n 0) := by decide +kernel
theorem i133_8 : gm_I cX12_rule 8 = some (.getfield 23) := by decide +kernel
theorem i133_11 : gm_I cX12_rule 11 = some (.bipush 6) := by decide +kernel
theorem i133_13 : gm_I cX12_rule 13 = some (.iload_n 1) := by decide +kernel
theorem i133_14 : gm_I cX12_rule 14 = some (.imul) := by decide +kernel
theorem i133_15 : gm_I cX12_rule 15 = some (.iconst 0) := by decide +kernel
theorem i133_16 : gm_I cX12_rule 16 = some (.iastore) := by decide +kernel
theorem i133_17 : gm_I cX12_rule 17 = some (.aload_n 0) := by decide +kernel
theorem i133_18 : gm_I cX12_rule 18 = some (.bipush 6) := by decide +kernel
theorem i133_20 : gm_I cX12_rule 20 = some (.iload_n 1) := by decide +kernel
theorem i133_21 : gm_I cX12_rule 21 = some (.imul) := by decide +kernel
theorem i133_22 : gm_I cX12_rule 22 = some (.invokevirtual 139) := by decide +kernel
theorem i133_25 : gm_I cX12_rule 25 = some (.ifCond .ne 5) := by decide +kernel
theorem i133_28 : gm_I cX12_rule 28 = some (.iconst 0) := by decide +kernel
theorem i133_29 : gm_I cX12_rule 29 = some (.ireturn) := by decide +kernel
theorem i133_30 : gm_I cX12_rule 30 = some (.aload_n 0) := by decide +kernel
theorem i133_31 : gm_I cX12_rule 31 = some (.bipush 46) := by decide +kernel
theorem i133_33 : gm_I cX12_rule 33 = some (.invokevirtual 129) := by decide +kernel
theorem i133_36 : gm_I cX12_rule 36 = some (.ifCond .eq 5) := by decide +kernel
theorem i133_39 : gm_I cX12_rule 39 = some (.iconst 1) := by decide +kernel
theorem i133_40 : gm_I cX12_rule 40 = some (.ireturn) := by decide +kernel
theorem i133_41 : gm_I cX12_rule 41 = some (.aload_n 0) := by decide +kernel
theorem i133_42 : gm_I cX12_rule 42 = some (.bipush 58) := by decide +kernel
theorem i133_44 : gm_I cX12_rule 44 = some (.invokevirtual 129) := by decide +kernel
theorem i133_47 : gm_I cX12_rule 47 = some (.ifCond .ne 5) := by decide +kernel
theorem i133_50 : gm_I cX12_rule 50 = some (.iconst 0) := by decide +kernel
theorem i133_51 : gm_I cX12_rule 51 = some (.ireturn) := by decide +kernel
theorem i133_52 : gm_I cX12_rule 52 = some (.iconst 1) := by decide +kernel
theorem i133_53 : gm_I cX12_rule 53 = some (.istore_n 2) := by decide +kernel
theorem i133_54 : gm_I cX12_rule 54 = some (.iload_n 2) := by decide +kernel
theorem i133_55 : gm_I cX12_rule 55 = some (.bipush 6) := by decide +kernel
theorem i133_57 : gm_I cX12_rule 57 = some (.if_icmp .ge 53) := by decide +kernel
theorem i133_60 : gm_I cX12_rule 60 = some (.aload_n 0) := by decide +kernel
theorem i133_61 : gm_I cX12_rule 61 = some (.bipush 6) := by decide +kernel
theorem i133_63 : gm_I cX12_rule 63 = some (.iload_n 1) := by decide +kernel
theorem i133_64 : gm_I cX12_rule 64 = some (.imul) := by decide +kernel
theorem i133_65 : gm_I cX12_rule 65 = some (.iload_n 2) := by decide +kernel
theorem i133_66 : gm_I cX12_rule 66 = some (.iadd) := by decide +kernel
theorem i133_67 : gm_I cX12_rule 67 = some (.invokevirtual 145) := by decide +kernel
theorem i133_70 : gm_I cX12_rule 70 = some (.ifCond .ne 5) := by decide +kernel
theorem i133_73 : gm_I cX12_rule 73 = some (.iconst 0) := by decide +kernel
theorem i133_74 : gm_I cX12_rule 74 = some (.ireturn) := by decide +kernel
theorem i133_75 : gm_I cX12_rule 75 = some (.aload_n 0) := by decide +kernel
theorem i133_76 : gm_I cX12_rule 76 = some (.getfield 19) := by decide +kernel
theorem i133_79 : gm_I cX12_rule 79 = some (.iload_n 1) := by decide +kernel
theorem i133_80 : gm_I cX12_rule 80 = some (.iload_n 2) := by decide +kernel
theorem i133_81 : gm_I cX12_rule 81 = some (.iastore) := by decide +kernel
theorem i133_82 : gm_I cX12_rule 82 = some (.aload_n 0) := by decide +kernel
theorem i133_83 : gm_I cX12_rule 83 = some (.bipush 46) := by decide +kernel
theorem i133_85 : gm_I cX12_rule 85 = some (.invokevirtual 129) := by decide +kernel
theorem i133_88 : gm_I cX12_rule 88 = some (.ifCond .eq 5) := by decide +kernel
theorem i133_91 : gm_I cX12_rule 91 = some (.iconst 1) := by decide +kernel
theorem i133_92 : gm_I cX12_rule 92 = some (.ireturn) := by decide +kernel
