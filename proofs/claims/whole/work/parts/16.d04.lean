/-! the code by its places, by program -/
theorem i68_44 : gm_I cX6_readAtom 44 = some (.iconst 0) := by decide +kernel
theorem i68_45 : gm_I cX6_readAtom 45 = some (.goto 8) := by decide +kernel
theorem i68_48 : gm_I cX6_readAtom 48 = some (.getstatic 89) := by decide +kernel
theorem i68_51 : gm_I cX6_readAtom 51 = some (.iload_n 3) := by decide +kernel
theorem i68_52 : gm_I cX6_readAtom 52 = some (.iaload) := by decide +kernel
theorem i68_53 : gm_I cX6_readAtom 53 = some (.istore 4) := by decide +kernel
theorem i68_55 : gm_I cX6_readAtom 55 = some (.iload_n 3) := by decide +kernel
theorem i68_56 : gm_I cX6_readAtom 56 = some (.ifCond .ge 7) := by decide +kernel
theorem i68_59 : gm_I cX6_readAtom 59 = some (.iconst 3) := by decide +kernel
theorem i68_60 : gm_I cX6_readAtom 60 = some (.goto 5) := by decide +kernel
theorem i68_63 : gm_I cX6_readAtom 63 = some (.iload 4) := by decide +kernel
theorem i68_65 : gm_I cX6_readAtom 65 = some (.istore 5) := by decide +kernel
theorem i68_67 : gm_I cX6_readAtom 67 = some (.iconst 0) := by decide +kernel
theorem i68_68 : gm_I cX6_readAtom 68 = some (.istore 6) := by decide +kernel
theorem i68_70 : gm_I cX6_readAtom 70 = some (.aload_n 0) := by decide +kernel
theorem i68_71 : gm_I cX6_readAtom 71 = some (.getfield 9) := by decide +kernel
theorem i68_74 : gm_I cX6_readAtom 74 = some (.iconst 0) := by decide +kernel
theorem i68_75 : gm_I cX6_readAtom 75 = some (.invokestatic 92) := by decide +kernel
theorem i68_78 : gm_I cX6_readAtom 78 = some (.iload 5) := by decide +kernel
theorem i68_80 : gm_I cX6_readAtom 80 = some (.ifCond .le 72) := by decide +kernel
theorem i68_83 : gm_I cX6_readAtom 83 = some (.aload_n 0) := by decide +kernel
theorem i68_84 : gm_I cX6_readAtom 84 = some (.bipush 40) := by decide +kernel
theorem i68_86 : gm_I cX6_readAtom 86 = some (.invokevirtual 45) := by decide +kernel
theorem i68_89 : gm_I cX6_readAtom 89 = some (.ifCond .eq 63) := by decide +kernel
theorem i68_92 : gm_I cX6_readAtom 92 = some (.aload_n 0) := by decide +kernel
theorem i68_93 : gm_I cX6_readAtom 93 = some (.getfield 9) := by decide +kernel
theorem i68_96 : gm_I cX6_readAtom 96 = some (.iload 6) := by decide +kernel
theorem i68_98 : gm_I cX6_readAtom 98 = some (.aload_n 0) := by decide +kernel
theorem i68_99 : gm_I cX6_readAtom 99 = some (.invokevirtual 68) := by decide +kernel
theorem i68_102 : gm_I cX6_readAtom 102 = some (.iastore) := by decide +kernel
theorem i68_103 : gm_I cX6_readAtom 103 = some (.aload_n 0) := by decide +kernel
theorem i68_104 : gm_I cX6_readAtom 104 = some (.getfield 9) := by decide +kernel
theorem i68_107 : gm_I cX6_readAtom 107 = some (.iload 6) := by decide +kernel
theorem i68_109 : gm_I cX6_readAtom 109 = some (.iaload) := by decide +kernel
theorem i68_110 : gm_I cX6_readAtom 110 = some (.ifCond .ne 5) := by decide +kernel
theorem i68_113 : gm_I cX6_readAtom 113 = some (.aconst_null) := by decide +kernel
theorem i68_114 : gm_I cX6_readAtom 114 = some (.areturn) := by decide +kernel
theorem i68_115 : gm_I cX6_readAtom 115 = some (.iinc 6 1) := by decide +kernel
theorem i68_118 : gm_I cX6_readAtom 118 = some (.iload 6) := by decide +kernel
theorem i68_120 : gm_I cX6_readAtom 120 = some (.iload 5) := by decide +kernel
theorem i68_122 : gm_I cX6_readAtom 122 = some (.if_icmp .ge 12) := by decide +kernel
theorem i68_125 : gm_I cX6_readAtom 125 = some (.aload_n 0) := by decide +kernel
theorem i68_126 : gm_I cX6_readAtom 126 = some (.bipush 44) := by decide +kernel
theorem i68_128 : gm_I cX6_readAtom 128 = some (.invokevirtual 45) := by decide +kernel
theorem i68_131 : gm_I cX6_readAtom 131 = some (.ifCond .ne (-39)) := by decide +kernel
theorem i68_134 : gm_I cX6_readAtom 134 = some (.iload 6) := by decide +kernel
theorem i68_136 : gm_I cX6_readAtom 136 = some (.iload 4) := by decide +kernel
theorem i68_138 : gm_I cX6_readAtom 138 = some (.if_icmp .lt 12) := by decide +kernel
theorem i68_141 : gm_I cX6_readAtom 141 = some (.aload_n 0) := by decide +kernel
theorem i68_142 : gm_I cX6_readAtom 142 = some (.bipush 41) := by decide +kernel
theorem i68_144 : gm_I cX6_readAtom 144 = some (.invokevirtual 45) := by decide +kernel
theorem i68_147 : gm_I cX6_readAtom 147 = some (.ifCond .ne 5) := by decide +kernel
theorem i68_150 : gm_I cX6_readAtom 150 = some (.aconst_null) := by decide +kernel
theorem i68_151 : gm_I cX6_readAtom 151 = some (.areturn) := by decide +kernel
theorem i68_152 : gm_I cX6_readAtom 152 = some (.iload 6) := by decide +kernel
theorem i68_154 : gm_I cX6_readAtom 154 = some (.iload 4) := by decide +kernel
theorem i68_156 : gm_I cX6_readAtom 156 = some (.if_icmp .ge 5) := by decide +kernel
theorem i68_159 : gm_I cX6_readAtom 159 = some (.aconst_null) := by decide +kernel
theorem i68_160 : gm_I cX6_readAtom 160 = some (.areturn) := by decide +kernel
theorem i68_161 : gm_I cX6_readAtom 161 = some (.new 34) := by decide +kernel
theorem i68_164 : gm_I cX6_readAtom 164 = some (.dup) := by decide +kernel
theorem i68_165 : gm_I cX6_readAtom 165 = some (.iload_n 1) := by decide +kernel
theorem i68_166 : gm_I cX6_readAtom 166 = some (.iload_n 2) := by decide +kernel
theorem i68_167 : gm_I cX6_readAtom 167 = some (.iload 6) := by decide +kernel
theorem i68_169 : gm_I cX6_readAtom 169 = some (.invokestatic 98) := by decide +kernel
theorem i68_172 : gm_I cX6_readAtom 172 = some (.aload_n 0) := by decide +kernel
theorem i68_173 : gm_I cX6_readAtom 173 = some (.getfield 9) := by decide +kernel
theorem i68_176 : gm_I cX6_readAtom 176 = some (.iconst 0) := by decide +kernel
theorem i68_177 : gm_I cX6_readAtom 177 = some (.iaload) := by decide +kernel
theorem i68_178 : gm_I cX6_readAtom 178 = some (.aload_n 0) := by decide +kernel
theorem i68_179 : gm_I cX6_readAtom 179 = some (.getfield 9) := by decide +kernel
theorem i68_182 : gm_I cX6_readAtom 182 = some (.iconst 1) := by decide +kernel
theorem i68_183 : gm_I cX6_readAtom 183 = some (.iaload) := by decide +kernel
theorem i68_184 : gm_I cX6_readAtom 184 = some (.aload_n 0) := by decide +kernel
theorem i68_185 : gm_I cX6_readAtom 185 = some (.getfield 9) := by decide +kernel
theorem i68_188 : gm_I cX6_readAtom 188 = some (.iconst 2) := by decide +kernel
theorem i68_189 : gm_I cX6_readAtom 189 = some (.iaload) := by decide +kernel
theorem i68_190 : gm_I cX6_readAtom 190 = some (.invokespecial 78) := by decide +kernel
theorem i68_193 : gm_I cX6_readAtom 193 = some (.areturn) := by decide +kernel
theorem i69_0 : gm_I cX6_readTerm 0 = some (.aload_n 0) := by decide +kernel
theorem i69_1 : gm_I cX6_readTerm 1 = some (.getfield 15) := by decide +kernel
theorem i69_4 : gm_I cX6_readTerm 4 = some (.aload_n 0) := by decide +kernel
theorem i69_5 : gm_I cX6_readTerm 5 = some (.getfield 19) := by decide +kernel
theorem i69_8 : gm_I cX6_readTerm 8 = some (.caload) := by decide +kernel
theorem i69_9 : gm_I cX6_readTerm 9 = some (.istore_n 1) := by decide +kernel
theorem i69_10 : gm_I cX6_readTerm 10 = some (.iload_n 1) := by decide +kernel
theorem i69_11 : gm_I cX6_readTerm 11 = some (.invokestatic 59) := by decide +kernel
theorem i69_14 : gm_I cX6_readTerm 14 = some (.ifCond .ne 5) := by decide +kernel
theorem i69_17 : gm_I cX6_readTerm 17 = some (.iconst 0) := by decide +kernel
theorem i69_18 : gm_I cX6_readTerm 18 = some (.ireturn) := by decide +kernel
theorem i69_19 : gm_I cX6_readTerm 19 = some (.aload_n 0) := by decide +kernel
theorem i69_20 : gm_I cX6_readTerm 20 = some (.dup) := by decide +kernel
theorem i69_21 : gm_I cX6_readTerm 21 = some (.getfield 19) := by decide +kernel
theorem i69_24 : gm_I cX6_readTerm 24 = some (.iconst 1) := by decide +kernel
theorem i69_25 : gm_I cX6_readTerm 25 = some (.iadd) := by decide +kernel
theorem i69_26 : gm_I cX6_readTerm 26 = some (.putfield 19) := by decide +kernel
theorem i69_29 : gm_I cX6_readTerm 29 = some (.iload_n 1) := by decide +kernel
theorem i69_30 : gm_I cX6_readTerm 30 = some (.bipush 21) := by decide +kernel
theorem i69_32 : gm_I cX6_readTerm 32 = some (.ishl) := by decide +kernel
theorem i69_33 : gm_I cX6_readTerm 33 = some (.istore_n 2) := by decide +kernel
theorem i69_34 : gm_I cX6_readTerm 34 = some (.iload_n 1) := by decide +kernel
theorem i69_35 : gm_I cX6_readTerm 35 = some (.invokestatic 65) := by decide +kernel
theorem i69_38 : gm_I cX6_readTerm 38 = some (.ifCond .eq 12) := by decide +kernel
theorem i69_41 : gm_I cX6_readTerm 41 = some (.aload_n 0) := by decide +kernel
theorem i69_42 : gm_I cX6_readTerm 42 = some (.bipush 40) := by decide +kernel
theorem i69_44 : gm_I cX6_readTerm 44 = some (.invokevirtual 45) := by decide +kernel
theorem i69_47 : gm_I cX6_readTerm 47 = some (.ifCond .ne 5) := by decide +kernel
theorem i69_50 : gm_I cX6_readTerm 50 = some (.iload_n 2) := by decide +kernel
theorem i69_51 : gm_I cX6_readTerm 51 = some (.ireturn) := by decide +kernel
theorem i69_52 : gm_I cX6_readTerm 52 = some (.bipush 21) := by decide +kernel
theorem i69_54 : gm_I cX6_readTerm 54 = some (.istore_n 3) := by decide +kernel
theorem i69_55 : gm_I cX6_readTerm 55 = some (.iinc 3 (-7)) := by decide +kernel
theorem i69_58 : gm_I cX6_readTerm 58 = some (.aload_n 0) := by decide +kernel
theorem i69_59 : gm_I cX6_readTerm 59 = some (.getfield 15) := by decide +kernel
theorem i69_62 : gm_I cX6_readTerm 62 = some (.aload_n 0) := by decide +kernel
theorem i69_63 : gm_I cX6_readTerm 63 = some (.getfield 19) := by decide +kernel
theorem i69_66 : gm_I cX6_readTerm 66 = some (.caload) := by decide +kernel
theorem i69_67 : gm_I cX6_readTerm 67 = some (.invokestatic 59) := by decide +kernel
theorem i69_70 : gm_I cX6_readTerm 70 = some (.ifCond .ne 5) := by decide +kernel
theorem i69_73 : gm_I cX6_readTerm 73 = some (.iconst 0) := by decide +kernel
theorem i69_74 : gm_I cX6_readTerm 74 = some (.ireturn) := by decide +kernel
theorem i69_75 : gm_I cX6_readTerm 75 = some (.iload_n 2) := by decide +kernel
theorem i69_76 : gm_I cX6_readTerm 76 = some (.aload_n 0) := by decide +kernel
theorem i69_77 : gm_I cX6_readTerm 77 = some (.getfield 15) := by decide +kernel
theorem i69_80 : gm_I cX6_readTerm 80 = some (.aload_n 0) := by decide +kernel
theorem i69_81 : gm_I cX6_readTerm 81 = some (.getfield 19) := by decide +kernel
theorem i69_84 : gm_I cX6_readTerm 84 = some (.caload) := by decide +kernel
theorem i69_85 : gm_I cX6_readTerm 85 = some (.iload_n 3) := by decide +kernel
theorem i69_86 : gm_I cX6_readTerm 86 = some (.ishl) := by decide +kernel
theorem i69_87 : gm_I cX6_readTerm 87 = some (.ior) := by decide +kernel
theorem i69_88 : gm_I cX6_readTerm 88 = some (.istore_n 2) := by decide +kernel
theorem i69_89 : gm_I cX6_readTerm 89 = some (.aload_n 0) := by decide +kernel
theorem i69_90 : gm_I cX6_readTerm 90 = some (.dup) := by decide +kernel
theorem i69_91 : gm_I cX6_readTerm 91 = some (.getfield 19) := by decide +kernel
theorem i69_94 : gm_I cX6_readTerm 94 = some (.iconst 1) := by decide +kernel
theorem i69_95 : gm_I cX6_readTerm 95 = some (.iadd) := by decide +kernel
theorem i69_96 : gm_I cX6_readTerm 96 = some (.putfield 19) := by decide +kernel
theorem i69_99 : gm_I cX6_readTerm 99 = some (.iload_n 3) := by decide +kernel
theorem i69_100 : gm_I cX6_readTerm 100 = some (.ifCond .le 12) := by decide +kernel
theorem i69_103 : gm_I cX6_readTerm 103 = some (.aload_n 0) := by decide +kernel
theorem i69_104 : gm_I cX6_readTerm 104 = some (.bipush 44) := by decide +kernel
theorem i69_106 : gm_I cX6_readTerm 106 = some (.invokevirtual 45) := by decide +kernel
theorem i69_109 : gm_I cX6_readTerm 109 = some (.ifCond .ne (-54)) := by decide +kernel
theorem i69_112 : gm_I cX6_readTerm 112 = some (.aload_n 0) := by decide +kernel
theorem i69_113 : gm_I cX6_readTerm 113 = some (.bipush 41) := by decide +kernel
theorem i69_115 : gm_I cX6_readTerm 115 = some (.invokevirtual 45) := by decide +kernel
theorem i69_118 : gm_I cX6_readTerm 118 = some (.ifCond .eq 7) := by decide +kernel
theorem i69_121 : gm_I cX6_readTerm 121 = some (.iload_n 2) := by decide +kernel
theorem i69_122 : gm_I cX6_readTerm 122 = some (.goto 4) := by decide +kernel
theorem i69_125 : gm_I cX6_readTerm 125 = some (.iconst 0) := by decide +kernel
theorem i69_126 : gm_I cX6_readTerm 126 = some (.ireturn) := by decide +kernel
theorem i70_0 : gm_I cX7_init 0 = some (.aload_n 0) := by decide +kernel
theorem i70_1 : gm_I cX7_init 1 = some (.invokespecial 3) := by decide +kernel
theorem i70_4 : gm_I cX7_init 4 = some (.aload_n 0) := by decide +kernel
theorem i70_5 : gm_I cX7_init 5 = some (.iconst 5) := by decide +kernel
theorem i70_6 : gm_I cX7_init 6 = some (.anewarray 9) := by decide +kernel
theorem i70_9 : gm_I cX7_init 9 = some (.putfield 11) := by decide +kernel
theorem i70_12 : gm_I cX7_init 12 = some (.aload_n 0) := by decide +kernel
theorem i70_13 : gm_I cX7_init 13 = some (.aload_n 1) := by decide +kernel
theorem i70_14 : gm_I cX7_init 14 = some (.putfield 17) := by decide +kernel
theorem i70_17 : gm_I cX7_init 17 = some (.return_) := by decide +kernel
theorem i71_0 : gm_I cX7_append 0 = some (.aload_n 0) := by decide +kernel
theorem i71_1 : gm_I cX7_append 1 = some (.getfield 21) := by decide +kernel
theorem i71_4 : gm_I cX7_append 4 = some (.iconst 5) := by decide +kernel
theorem i71_5 : gm_I cX7_append 5 = some (.if_icmp .ge 23) := by decide +kernel
theorem i71_8 : gm_I cX7_append 8 = some (.aload_n 0) := by decide +kernel
theorem i71_9 : gm_I cX7_append 9 = some (.getfield 11) := by decide +kernel
theorem i71_12 : gm_I cX7_append 12 = some (.aload_n 0) := by decide +kernel
theorem i71_13 : gm_I cX7_append 13 = some (.getfield 21) := by decide +kernel
theorem i71_16 : gm_I cX7_append 16 = some (.aload_n 1) := by decide +kernel
theorem i71_17 : gm_I cX7_append 17 = some (.aastore) := by decide +kernel
theorem i71_18 : gm_I cX7_append 18 = some (.aload_n 0) := by decide +kernel
theorem i71_19 : gm_I cX7_append 19 = some (.dup) := by decide +kernel
theorem i71_20 : gm_I cX7_append 20 = some (.getfield 21) := by decide +kernel
theorem i71_23 : gm_I cX7_append 23 = some (.iconst 1) := by decide +kernel
theorem i71_24 : gm_I cX7_append 24 = some (.iadd) := by decide +kernel
theorem i71_25 : gm_I cX7_append 25 = some (.putfield 21) := by decide +kernel
theorem i71_28 : gm_I cX7_append 28 = some (.return_) := by decide +kernel
theorem i72_0 : gm_I cX7_isMisplaced 0 = some (.iconst 0) := by decide +kernel
theorem i72_1 : gm_I cX7_isMisplaced 1 = some (.istore_n 1) := by decide +kernel
theorem i72_2 : gm_I cX7_isMisplaced 2 = some (.iload_n 1) := by decide +kernel
theorem i72_3 : gm_I cX7_isMisplaced 3 = some (.aload_n 0) := by decide +kernel
theorem i72_4 : gm_I cX7_isMisplaced 4 = some (.getfield 21) := by decide +kernel
theorem i72_7 : gm_I cX7_isMisplaced 7 = some (.if_icmp .ge 37) := by decide +kernel
theorem i72_10 : gm_I cX7_isMisplaced 10 = some (.aload_n 0) := by decide +kernel
theorem i72_11 : gm_I cX7_isMisplaced 11 = some (.getfield 11) := by decide +kernel
theorem i72_14 : gm_I cX7_isMisplaced 14 = some (.iload_n 1) := by decide +kernel
theorem i72_15 : gm_I cX7_isMisplaced 15 = some (.aaload) := by decide +kernel
theorem i72_16 : gm_I cX7_isMisplaced 16 = some (.getfield 25) := by decide +kernel
theorem i72_19 : gm_I cX7_isMisplaced 19 = some (.iconst 1) := by decide +kernel
theorem i72_20 : gm_I cX7_isMisplaced 20 = some (.if_icmp .eq 16) := by decide +kernel
theorem i72_23 : gm_I cX7_isMisplaced 23 = some (.aload_n 0) := by decide +kernel
theorem i72_24 : gm_I cX7_isMisplaced 24 = some (.getfield 11) := by decide +kernel
theorem i72_27 : gm_I cX7_isMisplaced 27 = some (.iload_n 1) := by decide +kernel
theorem i72_28 : gm_I cX7_isMisplaced 28 = some (.aaload) := by decide +kernel
theorem i72_29 : gm_I cX7_isMisplaced 29 = some (.getfield 25) := by decide +kernel
theorem i72_32 : gm_I cX7_isMisplaced 32 = some (.iconst 3) := by decide +kernel
theorem i72_33 : gm_I cX7_isMisplaced 33 = some (.if_icmp .ne 5) := by decide +kernel
theorem i72_36 : gm_I cX7_isMisplaced 36 = some (.iconst 1) := by decide +kernel
theorem i72_37 : gm_I cX7_isMisplaced 37 = some (.ireturn) := by decide +kernel
theorem i72_38 : gm_I cX7_isMisplaced 38 = some (.iinc 1 1) := by decide +kernel
theorem i72_41 : gm_I cX7_isMisplaced 41 = some (.goto (-39)) := by decide +kernel
theorem i72_44 : gm_I cX7_isMisplaced 44 = some (.aload_n 0) := by decide +kernel
theorem i72_45 : gm_I cX7_isMisplaced 45 = some (.getfield 17) := by decide +kernel
theorem i72_48 : gm_I cX7_isMisplaced 48 = some (.getfield 25) := by decide +kernel
theorem i72_51 : gm_I cX7_isMisplaced 51 = some (.ifCond .ne 26) := by decide +kernel
theorem i72_54 : gm_I cX7_isMisplaced 54 = some (.aload_n 0) := by decide +kernel
theorem i72_55 : gm_I cX7_isMisplaced 55 = some (.getfield 21) := by decide +kernel
theorem i72_58 : gm_I cX7_isMisplaced 58 = some (.ifCond .gt 13) := by decide +kernel
theorem i72_61 : gm_I cX7_isMisplaced 61 = some (.aload_n 0) := by decide +kernel
theorem i72_62 : gm_I cX7_isMisplaced 62 = some (.getfield 17) := by decide +kernel
theorem i72_65 : gm_I cX7_isMisplaced 65 = some (.invokevirtual 28) := by decide +kernel
theorem i72_68 : gm_I cX7_isMisplaced 68 = some (.ifCond .eq 7) := by decide +kernel
theorem i72_71 : gm_I cX7_isMisplaced 71 = some (.iconst 1) := by decide +kernel
theorem i72_72 : gm_I cX7_isMisplaced 72 = some (.goto 4) := by decide +kernel
theorem i72_75 : gm_I cX7_isMisplaced 75 = some (.iconst 0) := by decide +kernel
theorem i72_76 : gm_I cX7_isMisplaced 76 = some (.ireturn) := by decide +kernel
theorem i72_77 : gm_I cX7_isMisplaced 77 = some (.aload_n 0) := by decide +kernel
theorem i72_78 : gm_I cX7_isMisplaced 78 = some (.getfield 17) := by decide +kernel
theorem i72_81 : gm_I cX7_isMisplaced 81 = some (.getfield 25) := by decide +kernel
theorem i72_84 : gm_I cX7_isMisplaced 84 = some (.iconst 2) := by decide +kernel
theorem i72_85 : gm_I cX7_isMisplaced 85 = some (.if_icmp .eq 14) := by decide +kernel
theorem i72_88 : gm_I cX7_isMisplaced 88 = some (.aload_n 0) := by decide +kernel
theorem i72_89 : gm_I cX7_isMisplaced 89 = some (.getfield 17) := by decide +kernel
theorem i72_92 : gm_I cX7_isMisplaced 92 = some (.getfield 25) := by decide +kernel
theorem i72_95 : gm_I cX7_isMisplaced 95 = some (.iconst 4) := by decide +kernel
theorem i72_96 : gm_I cX7_isMisplaced 96 = some (.if_icmp .ne 7) := by decide +kernel
theorem i72_99 : gm_I cX7_isMisplaced 99 = some (.iconst 1) := by decide +kernel
theorem i72_100 : gm_I cX7_isMisplaced 100 = some (.goto 4) := by decide +kernel
theorem i72_103 : gm_I cX7_isMisplaced 103 = some (.iconst 0) := by decide +kernel
theorem i72_104 : gm_I cX7_isMisplaced 104 = some (.ireturn) := by decide +kernel
theorem i73_0 : gm_I cX7_isLoose 0 = some (.iconst 0) := by decide +kernel
theorem i73_1 : gm_I cX7_isLoose 1 = some (.istore_n 1) := by decide +kernel
theorem i73_2 : gm_I cX7_isLoose 2 = some (.aload_n 0) := by decide +kernel
theorem i73_3 : gm_I cX7_isLoose 3 = some (.getfield 17) := by decide +kernel
theorem i73_6 : gm_I cX7_isLoose 6 = some (.invokevirtual 28) := by decide +kernel
theorem i73_9 : gm_I cX7_isLoose 9 = some (.istore_n 2) := by decide +kernel
theorem i73_10 : gm_I cX7_isLoose 10 = some (.iconst 0) := by decide +kernel
theorem i73_11 : gm_I cX7_isLoose 11 = some (.istore_n 3) := by decide +kernel
theorem i73_12 : gm_I cX7_isLoose 12 = some (.iload_n 3) := by decide +kernel
theorem i73_13 : gm_I cX7_isLoose 13 = some (.aload_n 0) := by decide +kernel
theorem i73_14 : gm_I cX7_isLoose 14 = some (.getfield 21) := by decide +kernel
theorem i73_17 : gm_I cX7_isLoose 17 = some (.if_icmp .ge 48) := by decide +kernel
theorem i73_20 : gm_I cX7_isLoose 20 = some (.aload_n 0) := by decide +kernel
theorem i73_21 : gm_I cX7_isLoose 21 = some (.getfield 11) := by decide +kernel
theorem i73_24 : gm_I cX7_isLoose 24 = some (.iload_n 3) := by decide +kernel
theorem i73_25 : gm_I cX7_isLoose 25 = some (.aaload) := by decide +kernel
theorem i73_26 : gm_I cX7_isLoose 26 = some (.getfield 32) := by decide +kernel
theorem i73_29 : gm_I cX7_isLoose 29 = some (.ifCond .ne 18) := by decide +kernel
theorem i73_32 : gm_I cX7_isLoose 32 = some (.iload_n 1) := by decide +kernel
theorem i73_33 : gm_I cX7_isLoose 33 = some (.aload_n 0) := by decide +kernel
theorem i73_34 : gm_I cX7_isLoose 34 = some (.getfield 11) := by decide +kernel
theorem i73_37 : gm_I cX7_isLoose 37 = some (.iload_n 3) := by decide +kernel
theorem i73_38 : gm_I cX7_isLoose 38 = some (.aaload) := by decide +kernel
theorem i73_39 : gm_I cX7_isLoose 39 = some (.invokevirtual 28) := by decide +kernel
theorem i73_42 : gm_I cX7_isLoose 42 = some (.ior) := by decide +kernel
theorem i73_43 : gm_I cX7_isLoose 43 = some (.istore_n 1) := by decide +kernel
theorem i73_44 : gm_I cX7_isLoose 44 = some (.goto 15) := by decide +kernel
theorem i73_47 : gm_I cX7_isLoose 47 = some (.iload_n 2) := by decide +kernel
theorem i73_48 : gm_I cX7_isLoose 48 = some (.aload_n 0) := by decide +kernel
theorem i73_49 : gm_I cX7_isLoose 49 = some (.getfield 11) := by decide +kernel
theorem i73_52 : gm_I cX7_isLoose 52 = some (.iload_n 3) := by decide +kernel
theorem i73_53 : gm_I cX7_isLoose 53 = some (.aaload) := by decide +kernel
theorem i73_54 : gm_I cX7_isLoose 54 = some (.invokevirtual 28) := by decide +kernel
theorem i73_57 : gm_I cX7_isLoose 57 = some (.ior) := by decide +kernel
theorem i73_58 : gm_I cX7_isLoose 58 = some (.istore_n 2) := by decide +kernel
theorem i73_59 : gm_I cX7_isLoose 59 = some (.iinc 3 1) := by decide +kernel
theorem i73_62 : gm_I cX7_isLoose 62 = some (.goto (-50)) := by decide +kernel
theorem i73_65 : gm_I cX7_isLoose 65 = some (.iload_n 2) := by decide +kernel
theorem i73_66 : gm_I cX7_isLoose 66 = some (.iload_n 1) := by decide +kernel
theorem i73_67 : gm_I cX7_isLoose 67 = some (.iconst (-1)) := by decide +kernel
theorem i73_68 : gm_I cX7_isLoose 68 = some (.ixor) := by decide +kernel
theorem i73_69 : gm_I cX7_isLoose 69 = some (.iand) := by decide +kernel
theorem i73_70 : gm_I cX7_isLoose 70 = some (.ifCond .eq 7) := by decide +kernel
theorem i73_73 : gm_I cX7_isLoose 73 = some (.iconst 1) := by decide +kernel
theorem i73_74 : gm_I cX7_isLoose 74 = some (.goto 4) := by decide +kernel
theorem i73_77 : gm_I cX7_isLoose 77 = some (.iconst 0) := by decide +kernel
theorem i73_78 : gm_I cX7_isLoose 78 = some (.ireturn) := by decide +kernel
theorem i74_0 : gm_I cX7_asks 0 = some (.iconst 0) := by decide +kernel
theorem i74_1 : gm_I cX7_asks 1 = some (.istore_n 2) := by decide +kernel
theorem i74_2 : gm_I cX7_asks 2 = some (.iload_n 2) := by decide +kernel
theorem i74_3 : gm_I cX7_asks 3 = some (.aload_n 0) := by decide +kernel
theorem i74_4 : gm_I cX7_asks 4 = some (.getfield 21) := by decide +kernel
theorem i74_7 : gm_I cX7_asks 7 = some (.if_icmp .ge 24) := by decide +kernel
theorem i74_10 : gm_I cX7_asks 10 = some (.aload_n 0) := by decide +kernel
theorem i74_11 : gm_I cX7_asks 11 = some (.getfield 11) := by decide +kernel
theorem i74_14 : gm_I cX7_asks 14 = some (.iload_n 2) := by decide +kernel
theorem i74_15 : gm_I cX7_asks 15 = some (.aaload) := by decide +kernel
theorem i74_16 : gm_I cX7_asks 16 = some (.getfield 25) := by decide +kernel
theorem i74_19 : gm_I cX7_asks 19 = some (.iload_n 1) := by decide +kernel
theorem i74_20 : gm_I cX7_asks 20 = some (.if_icmp .ne 5) := by decide +kernel
theorem i74_23 : gm_I cX7_asks 23 = some (.iconst 1) := by decide +kernel
theorem i74_24 : gm_I cX7_asks 24 = some (.ireturn) := by decide +kernel
theorem i74_25 : gm_I cX7_asks 25 = some (.iinc 2 1) := by decide +kernel
theorem i74_28 : gm_I cX7_asks 28 = some (.goto (-26)) := by decide +kernel
theorem i74_31 : gm_I cX7_asks 31 = some (.iconst 0) := by decide +kernel
theorem i74_32 : gm_I cX7_asks 32 = some (.ireturn) := by decide +kernel
theorem i75_0 : gm_I cX7_keywords 0 = some (.iconst 0) := by decide +kernel
theorem i75_1 : gm_I cX7_keywords 1 = some (.istore_n 1) := by decide +kernel
theorem i75_2 : gm_I cX7_keywords 2 = some (.iconst 0) := by decide +kernel
theorem i75_3 : gm_I cX7_keywords 3 = some (.istore_n 2) := by decide +kernel
theorem i75_4 : gm_I cX7_keywords 4 = some (.iload_n 2) := by decide +kernel
theorem i75_5 : gm_I cX7_keywords 5 = some (.aload_n 0) := by decide +kernel
theorem i75_6 : gm_I cX7_keywords 6 = some (.getfield 21) := by decide +kernel
theorem i75_9 : gm_I cX7_keywords 9 = some (.if_icmp .ge 35) := by decide +kernel
theorem i75_12 : gm_I cX7_keywords 12 = some (.aload_n 0) := by decide +kernel
theorem i75_13 : gm_I cX7_keywords 13 = some (.getfield 11) := by decide +kernel
theorem i75_16 : gm_I cX7_keywords 16 = some (.iload_n 2) := by decide +kernel
theorem i75_17 : gm_I cX7_keywords 17 = some (.aaload) := by decide +kernel
theorem i75_18 : gm_I cX7_keywords 18 = some (.getfield 25) := by decide +kernel
theorem i75_21 : gm_I cX7_keywords 21 = some (.istore_n 3) := by decide +kernel
theorem i75_22 : gm_I cX7_keywords 22 = some (.iload_n 3) := by decide +kernel
theorem i75_23 : gm_I cX7_keywords 23 = some (.ifCond .lt 15) := by decide +kernel
theorem i75_26 : gm_I cX7_keywords 26 = some (.iload_n 3) := by decide +kernel
theorem i75_27 : gm_I cX7_keywords 27 = some (.bipush 8) := by decide +kernel
theorem i75_29 : gm_I cX7_keywords 29 = some (.if_icmp .ge 9) := by decide +kernel
theorem i75_32 : gm_I cX7_keywords 32 = some (.iload_n 1) := by decide +kernel
theorem i75_33 : gm_I cX7_keywords 33 = some (.iconst 1) := by decide +kernel
theorem i75_34 : gm_I cX7_keywords 34 = some (.iload_n 3) := by decide +kernel
theorem i75_35 : gm_I cX7_keywords 35 = some (.ishl) := by decide +kernel
theorem i75_36 : gm_I cX7_keywords 36 = some (.ior) := by decide +kernel
theorem i75_37 : gm_I cX7_keywords 37 = some (.istore_n 1) := by decide +kernel
theorem i75_38 : gm_I cX7_keywords 38 = some (.iinc 2 1) := by decide +kernel
theorem i75_41 : gm_I cX7_keywords 41 = some (.goto (-37)) := by decide +kernel
theorem i75_44 : gm_I cX7_keywords 44 = some (.iload_n 1) := by decide +kernel
theorem i75_45 : gm_I cX7_keywords 45 = some (.ireturn) := by decide +kernel
theorem i76_0 : gm_I cX7_plan 0 = some (.bipush 63) := by decide +kernel
theorem i76_2 : gm_I cX7_plan 2 = some (.istore_n 1) := by decide +kernel
theorem i76_3 : gm_I cX7_plan 3 = some (.aload_n 0) := by decide +kernel
theorem i76_4 : gm_I cX7_plan 4 = some (.getfield 17) := by decide +kernel
theorem i76_7 : gm_I cX7_plan 7 = some (.invokevirtual 28) := by decide +kernel
theorem i76_10 : gm_I cX7_plan 10 = some (.istore_n 2) := by decide +kernel
theorem i76_11 : gm_I cX7_plan 11 = some (.aload_n 0) := by decide +kernel
theorem i76_12 : gm_I cX7_plan 12 = some (.aload_n 0) := by decide +kernel
theorem i76_13 : gm_I cX7_plan 13 = some (.getfield 17) := by decide +kernel
theorem i76_16 : gm_I cX7_plan 16 = some (.invokevirtual 37) := by decide +kernel
theorem i76_19 : gm_I cX7_plan 19 = some (.putfield 40) := by decide +kernel
theorem i76_22 : gm_I cX7_plan 22 = some (.iconst 0) := by decide +kernel
theorem i76_23 : gm_I cX7_plan 23 = some (.istore_n 3) := by decide +kernel
theorem i76_24 : gm_I cX7_plan 24 = some (.iload_n 3) := by decide +kernel
theorem i76_25 : gm_I cX7_plan 25 = some (.aload_n 0) := by decide +kernel
theorem i76_26 : gm_I cX7_plan 26 = some (.getfield 21) := by decide +kernel
theorem i76_29 : gm_I cX7_plan 29 = some (.if_icmp .ge 27) := by decide +kernel
theorem i76_32 : gm_I cX7_plan 32 = some (.aload_n 0) := by decide +kernel
theorem i76_33 : gm_I cX7_plan 33 = some (.dup) := by decide +kernel
theorem i76_34 : gm_I cX7_plan 34 = some (.getfield 40) := by decide +kernel
theorem i76_37 : gm_I cX7_plan 37 = some (.aload_n 0) := by decide +kernel
theorem i76_38 : gm_I cX7_plan 38 = some (.getfield 11) := by decide +kernel
theorem i76_41 : gm_I cX7_plan 41 = some (.iload_n 3) := by decide +kernel
theorem i76_42 : gm_I cX7_plan 42 = some (.aaload) := by decide +kernel
theorem i76_43 : gm_I cX7_plan 43 = some (.invokevirtual 37) := by decide +kernel
theorem i76_46 : gm_I cX7_plan 46 = some (.ior) := by decide +kernel
theorem i76_47 : gm_I cX7_plan 47 = some (.putfield 40) := by decide +kernel
theorem i76_50 : gm_I cX7_plan 50 = some (.iinc 3 1) := by decide +kernel
theorem i76_53 : gm_I cX7_plan 53 = some (.goto (-29)) := by decide +kernel
theorem i76_56 : gm_I cX7_plan 56 = some (.iconst 0) := by decide +kernel
theorem i76_57 : gm_I cX7_plan 57 = some (.istore_n 3) := by decide +kernel
theorem i76_58 : gm_I cX7_plan 58 = some (.iload_n 3) := by decide +kernel
theorem i76_59 : gm_I cX7_plan 59 = some (.aload_n 0) := by decide +kernel
theorem i76_60 : gm_I cX7_plan 60 = some (.getfield 21) := by decide +kernel
theorem i76_63 : gm_I cX7_plan 63 = some (.if_icmp .ge 71) := by decide +kernel
theorem i76_66 : gm_I cX7_plan 66 = some (.aload_n 0) := by decide +kernel
theorem i76_67 : gm_I cX7_plan 67 = some (.iload_n 3) := by decide +kernel
theorem i76_68 : gm_I cX7_plan 68 = some (.iload_n 1) := by decide +kernel
theorem i76_69 : gm_I cX7_plan 69 = some (.iload_n 2) := by decide +kernel
theorem i76_70 : gm_I cX7_plan 70 = some (.invokevirtual 43) := by decide +kernel
theorem i76_73 : gm_I cX7_plan 73 = some (.astore 4) := by decide +kernel
theorem i76_75 : gm_I cX7_plan 75 = some (.aload 4) := by decide +kernel
theorem i76_77 : gm_I cX7_plan 77 = some (.invokevirtual 28) := by decide +kernel
theorem i76_80 : gm_I cX7_plan 80 = some (.iload_n 1) := by decide +kernel
theorem i76_81 : gm_I cX7_plan 81 = some (.iand) := by decide +kernel
theorem i76_82 : gm_I cX7_plan 82 = some (.istore 5) := by decide +kernel
theorem i76_84 : gm_I cX7_plan 84 = some (.aload 4) := by decide +kernel
theorem i76_86 : gm_I cX7_plan 86 = some (.iload 5) := by decide +kernel
theorem i76_88 : gm_I cX7_plan 88 = some (.ifCond .ne 7) := by decide +kernel
theorem i76_91 : gm_I cX7_plan 91 = some (.iconst 1) := by decide +kernel
theorem i76_92 : gm_I cX7_plan 92 = some (.goto 4) := by decide +kernel
theorem i76_95 : gm_I cX7_plan 95 = some (.iconst 0) := by decide +kernel
theorem i76_96 : gm_I cX7_plan 96 = some (.putfield 47) := by decide +kernel
theorem i76_99 : gm_I cX7_plan 99 = some (.aload 4) := by decide +kernel
theorem i76_101 : gm_I cX7_plan 101 = some (.iload_n 2) := by decide +kernel
theorem i76_102 : gm_I cX7_plan 102 = some (.iload_n 1) := by decide +kernel
theorem i76_103 : gm_I cX7_plan 103 = some (.iand) := by decide +kernel
theorem i76_104 : gm_I cX7_plan 104 = some (.ifCond .ne 7) := by decide +kernel
theorem i76_107 : gm_I cX7_plan 107 = some (.iconst 1) := by decide +kernel
theorem i76_108 : gm_I cX7_plan 108 = some (.goto 4) := by decide +kernel
theorem i76_111 : gm_I cX7_plan 111 = some (.iconst 0) := by decide +kernel
theorem i76_112 : gm_I cX7_plan 112 = some (.putfield 51) := by decide +kernel
theorem i76_115 : gm_I cX7_plan 115 = some (.aload 4) := by decide +kernel
theorem i76_117 : gm_I cX7_plan 117 = some (.iload_n 1) := by decide +kernel
theorem i76_118 : gm_I cX7_plan 118 = some (.invokevirtual 54) := by decide +kernel
theorem i76_121 : gm_I cX7_plan 121 = some (.iload_n 1) := by decide +kernel
theorem i76_122 : gm_I cX7_plan 122 = some (.iload 5) := by decide +kernel
theorem i76_124 : gm_I cX7_plan 124 = some (.iconst (-1)) := by decide +kernel
theorem i76_125 : gm_I cX7_plan 125 = some (.ixor) := by decide +kernel
theorem i76_126 : gm_I cX7_plan 126 = some (.iand) := by decide +kernel
theorem i76_127 : gm_I cX7_plan 127 = some (.istore_n 1) := by decide +kernel
theorem i76_128 : gm_I cX7_plan 128 = some (.iinc 3 1) := by decide +kernel
theorem i76_131 : gm_I cX7_plan 131 = some (.goto (-73)) := by decide +kernel
theorem i76_134 : gm_I cX7_plan 134 = some (.aload_n 0) := by decide +kernel
theorem i76_135 : gm_I cX7_plan 135 = some (.getfield 17) := by decide +kernel
theorem i76_138 : gm_I cX7_plan 138 = some (.iconst 0) := by decide +kernel
theorem i76_139 : gm_I cX7_plan 139 = some (.invokevirtual 54) := by decide +kernel
theorem i76_142 : gm_I cX7_plan 142 = some (.return_) := by decide +kernel
theorem i77_0 : gm_I cX7_bring 0 = some (.iload_n 1) := by decide +kernel
theorem i77_1 : gm_I cX7_bring 1 = some (.istore 4) := by decide +kernel
theorem i77_3 : gm_I cX7_bring 3 = some (.iconst (-1)) := by decide +kernel
theorem i77_4 : gm_I cX7_bring 4 = some (.istore 5) := by decide +kernel
theorem i77_6 : gm_I cX7_bring 6 = some (.iload_n 1) := by decide +kernel
theorem i77_7 : gm_I cX7_bring 7 = some (.istore 6) := by decide +kernel
theorem i77_9 : gm_I cX7_bring 9 = some (.iload 6) := by decide +kernel
theorem i77_11 : gm_I cX7_bring 11 = some (.aload_n 0) := by decide +kernel
theorem i77_12 : gm_I cX7_bring 12 = some (.getfield 21) := by decide +kernel
theorem i77_15 : gm_I cX7_bring 15 = some (.if_icmp .ge 38) := by decide +kernel
theorem i77_18 : gm_I cX7_bring 18 = some (.aload_n 0) := by decide +kernel
theorem i77_19 : gm_I cX7_bring 19 = some (.getfield 11) := by decide +kernel
theorem i77_22 : gm_I cX7_bring 22 = some (.iload 6) := by decide +kernel
theorem i77_24 : gm_I cX7_bring 24 = some (.aaload) := by decide +kernel
theorem i77_25 : gm_I cX7_bring 25 = some (.iload_n 2) := by decide +kernel
theorem i77_26 : gm_I cX7_bring 26 = some (.iload_n 3) := by decide +kernel
theorem i77_27 : gm_I cX7_bring 27 = some (.invokestatic 58) := by decide +kernel
theorem i77_30 : gm_I cX7_bring 30 = some (.istore 7) := by decide +kernel
theorem i77_32 : gm_I cX7_bring 32 = some (.iload 7) := by decide +kernel
theorem i77_34 : gm_I cX7_bring 34 = some (.iload 5) := by decide +kernel
theorem i77_36 : gm_I cX7_bring 36 = some (.if_icmp .le 11) := by decide +kernel
theorem i77_39 : gm_I cX7_bring 39 = some (.iload 7) := by decide +kernel
theorem i77_41 : gm_I cX7_bring 41 = some (.istore 5) := by decide +kernel
theorem i77_43 : gm_I cX7_bring 43 = some (.iload 6) := by decide +kernel
theorem i77_45 : gm_I cX7_bring 45 = some (.istore 4) := by decide +kernel
theorem i77_47 : gm_I cX7_bring 47 = some (.iinc 6 1) := by decide +kernel
theorem i77_50 : gm_I cX7_bring 50 = some (.goto (-41)) := by decide +kernel
theorem i77_53 : gm_I cX7_bring 53 = some (.aload_n 0) := by decide +kernel
theorem i77_54 : gm_I cX7_bring 54 = some (.getfield 11) := by decide +kernel
theorem i77_57 : gm_I cX7_bring 57 = some (.iload 4) := by decide +kernel
theorem i77_59 : gm_I cX7_bring 59 = some (.aaload) := by decide +kernel
theorem i77_60 : gm_I cX7_bring 60 = some (.astore 6) := by decide +kernel
theorem i77_62 : gm_I cX7_bring 62 = some (.iload 4) := by decide +kernel
theorem i77_64 : gm_I cX7_bring 64 = some (.istore 7) := by decide +kernel
theorem i77_66 : gm_I cX7_bring 66 = some (.iload 7) := by decide +kernel
theorem i77_68 : gm_I cX7_bring 68 = some (.iload_n 1) := by decide +kernel
theorem i77_69 : gm_I cX7_bring 69 = some (.if_icmp .le 25) := by decide +kernel
theorem i77_72 : gm_I cX7_bring 72 = some (.aload_n 0) := by decide +kernel
theorem i77_73 : gm_I cX7_bring 73 = some (.getfield 11) := by decide +kernel
theorem i77_76 : gm_I cX7_bring 76 = some (.iload 7) := by decide +kernel
theorem i77_78 : gm_I cX7_bring 78 = some (.aload_n 0) := by decide +kernel
theorem i77_79 : gm_I cX7_bring 79 = some (.getfield 11) := by decide +kernel
theorem i77_82 : gm_I cX7_bring 82 = some (.iload 7) := by decide +kernel
theorem i77_84 : gm_I cX7_bring 84 = some (.iconst 1) := by decide +kernel
theorem i77_85 : gm_I cX7_bring 85 = some (.isub) := by decide +kernel
theorem i77_86 : gm_I cX7_bring 86 = some (.aaload) := by decide +kernel
theorem i77_87 : gm_I cX7_bring 87 = some (.aastore) := by decide +kernel
theorem i77_88 : gm_I cX7_bring 88 = some (.iinc 7 (-1)) := by decide +kernel
theorem i77_91 : gm_I cX7_bring 91 = some (.goto (-25)) := by decide +kernel
theorem i77_94 : gm_I cX7_bring 94 = some (.aload_n 0) := by decide +kernel
theorem i77_95 : gm_I cX7_bring 95 = some (.getfield 11) := by decide +kernel
theorem i77_98 : gm_I cX7_bring 98 = some (.iload_n 1) := by decide +kernel
theorem i77_99 : gm_I cX7_bring 99 = some (.aload 6) := by decide +kernel
theorem i77_101 : gm_I cX7_bring 101 = some (.aastore) := by decide +kernel
theorem i77_102 : gm_I cX7_bring 102 = some (.aload 6) := by decide +kernel
theorem i77_104 : gm_I cX7_bring 104 = some (.areturn) := by decide +kernel
theorem i78_0 : gm_I cX7_meritOf 0 = some (.aload_n 0) := by decide +kernel
theorem i78_1 : gm_I cX7_meritOf 1 = some (.invokevirtual 28) := by decide +kernel
theorem i78_4 : gm_I cX7_meritOf 4 = some (.iload_n 1) := by decide +kernel
theorem i78_5 : gm_I cX7_meritOf 5 = some (.iand) := by decide +kernel
theorem i78_6 : gm_I cX7_meritOf 6 = some (.istore_n 3) := by decide +kernel
theorem i78_7 : gm_I cX7_meritOf 7 = some (.iload_n 3) := by decide +kernel
theorem i78_8 : gm_I cX7_meritOf 8 = some (.ifCond .ne 6) := by decide +kernel
theorem i78_11 : gm_I cX7_meritOf 11 = some (.bipush 100) := by decide +kernel
theorem i78_13 : gm_I cX7_meritOf 13 = some (.ireturn) := by decide +kernel
theorem i78_14 : gm_I cX7_meritOf 14 = some (.aload_n 0) := by decide +kernel
theorem i78_15 : gm_I cX7_meritOf 15 = some (.getfield 32) := by decide +kernel
theorem i78_18 : gm_I cX7_meritOf 18 = some (.ifCond .eq 5) := by decide +kernel
theorem i78_21 : gm_I cX7_meritOf 21 = some (.iconst (-1)) := by decide +kernel
theorem i78_22 : gm_I cX7_meritOf 22 = some (.ireturn) := by decide +kernel
theorem i78_23 : gm_I cX7_meritOf 23 = some (.aload_n 0) := by decide +kernel
theorem i78_24 : gm_I cX7_meritOf 24 = some (.getfield 62) := by decide +kernel
theorem i78_27 : gm_I cX7_meritOf 27 = some (.iload_n 1) := by decide +kernel
theorem i78_28 : gm_I cX7_meritOf 28 = some (.invokestatic 65) := by decide +kernel
theorem i78_31 : gm_I cX7_meritOf 31 = some (.aload_n 0) := by decide +kernel
theorem i78_32 : gm_I cX7_meritOf 32 = some (.getfield 69) := by decide +kernel
theorem i78_35 : gm_I cX7_meritOf 35 = some (.iload_n 1) := by decide +kernel
theorem i78_36 : gm_I cX7_meritOf 36 = some (.invokestatic 65) := by decide +kernel
theorem i78_39 : gm_I cX7_meritOf 39 = some (.iadd) := by decide +kernel
theorem i78_40 : gm_I cX7_meritOf 40 = some (.aload_n 0) := by decide +kernel
theorem i78_41 : gm_I cX7_meritOf 41 = some (.getfield 72) := by decide +kernel
theorem i78_44 : gm_I cX7_meritOf 44 = some (.iload_n 1) := by decide +kernel
theorem i78_45 : gm_I cX7_meritOf 45 = some (.invokestatic 65) := by decide +kernel
theorem i78_48 : gm_I cX7_meritOf 48 = some (.iadd) := by decide +kernel
theorem i78_49 : gm_I cX7_meritOf 49 = some (.istore 4) := by decide +kernel
theorem i78_51 : gm_I cX7_meritOf 51 = some (.iload_n 3) := by decide +kernel
theorem i78_52 : gm_I cX7_meritOf 52 = some (.iload_n 2) := by decide +kernel
theorem i78_53 : gm_I cX7_meritOf 53 = some (.iand) := by decide +kernel
theorem i78_54 : gm_I cX7_meritOf 54 = some (.ifCond .eq 10) := by decide +kernel
theorem i78_57 : gm_I cX7_meritOf 57 = some (.iload 4) := by decide +kernel
theorem i78_59 : gm_I cX7_meritOf 59 = some (.iconst 5) := by decide +kernel
theorem i78_60 : gm_I cX7_meritOf 60 = some (.iadd) := by decide +kernel
theorem i78_61 : gm_I cX7_meritOf 61 = some (.goto 5) := by decide +kernel
theorem i78_64 : gm_I cX7_meritOf 64 = some (.iload 4) := by decide +kernel
theorem i78_66 : gm_I cX7_meritOf 66 = some (.ireturn) := by decide +kernel
theorem i79_0 : gm_I cX7_termMerit 0 = some (.iload_n 0) := by decide +kernel
theorem i79_1 : gm_I cX7_termMerit 1 = some (.ifCond .ne 5) := by decide +kernel
theorem i79_4 : gm_I cX7_termMerit 4 = some (.iconst 0) := by decide +kernel
theorem i79_5 : gm_I cX7_termMerit 5 = some (.ireturn) := by decide +kernel
theorem i79_6 : gm_I cX7_termMerit 6 = some (.iload_n 0) := by decide +kernel
theorem i79_7 : gm_I cX7_termMerit 7 = some (.invokestatic 75) := by decide +kernel
theorem i79_10 : gm_I cX7_termMerit 10 = some (.iload_n 1) := by decide +kernel
theorem i79_11 : gm_I cX7_termMerit 11 = some (.iand) := by decide +kernel
theorem i79_12 : gm_I cX7_termMerit 12 = some (.ifCond .ne 6) := by decide +kernel
theorem i79_15 : gm_I cX7_termMerit 15 = some (.bipush 10) := by decide +kernel
theorem i79_17 : gm_I cX7_termMerit 17 = some (.ireturn) := by decide +kernel
theorem i79_18 : gm_I cX7_termMerit 18 = some (.iload_n 0) := by decide +kernel
theorem i79_19 : gm_I cX7_termMerit 19 = some (.ldc 78) := by decide +kernel
theorem i79_21 : gm_I cX7_termMerit 21 = some (.iand) := by decide +kernel
theorem i79_22 : gm_I cX7_termMerit 22 = some (.ifCond .eq 7) := by decide +kernel
theorem i79_25 : gm_I cX7_termMerit 25 = some (.iconst 4) := by decide +kernel
theorem i79_26 : gm_I cX7_termMerit 26 = some (.goto 4) := by decide +kernel
theorem i79_29 : gm_I cX7_termMerit 29 = some (.iconst 0) := by decide +kernel
theorem i79_30 : gm_I cX7_termMerit 30 = some (.ireturn) := by decide +kernel
theorem i80_0 : gm_I cX8_init 0 = some (.aload_n 0) := by decide +kernel
theorem i80_1 : gm_I cX8_init 1 = some (.invokespecial 3) := by decide +kernel
theorem i80_4 : gm_I cX8_init 4 = some (.aload_n 0) := by decide +kernel
theorem i80_5 : gm_I cX8_init 5 = some (.bipush 24) := by decide +kernel
theorem i80_7 : gm_I cX8_init 7 = some (.anewarray 9) := by decide +kernel
theorem i80_10 : gm_I cX8_init 10 = some (.putfield 11) := by decide +kernel
theorem i80_13 : gm_I cX8_init 13 = some (.aload_n 0) := by decide +kernel
theorem i80_14 : gm_I cX8_init 14 = some (.bipush 24) := by decide +kernel
theorem i80_16 : gm_I cX8_init 16 = some (.newarray .int) := by decide +kernel
theorem i80_18 : gm_I cX8_init 18 = some (.putfield 17) := by decide +kernel
theorem i80_21 : gm_I cX8_init 21 = some (.aload_n 0) := by decide +kernel
theorem i80_22 : gm_I cX8_init 22 = some (.bipush 24) := by decide +kernel
theorem i80_24 : gm_I cX8_init 24 = some (.newarray .int) := by decide +kernel
theorem i80_26 : gm_I cX8_init 26 = some (.putfield 21) := by decide +kernel
theorem i80_29 : gm_I cX8_init 29 = some (.aload_n 0) := by decide +kernel
theorem i80_30 : gm_I cX8_init 30 = some (.bipush 24) := by decide +kernel
theorem i80_32 : gm_I cX8_init 32 = some (.newarray .int) := by decide +kernel
theorem i80_34 : gm_I cX8_init 34 = some (.putfield 24) := by decide +kernel
theorem i80_37 : gm_I cX8_init 37 = some (.aload_n 0) := by decide +kernel
theorem i80_38 : gm_I cX8_init 38 = some (.iconst 0) := by decide +kernel
theorem i80_39 : gm_I cX8_init 39 = some (.putfield 27) := by decide +kernel
theorem i80_42 : gm_I cX8_init 42 = some (.return_) := by decide +kernel
theorem i81_0 : gm_I cX8_append 0 = some (.aload_n 0) := by decide +kernel
theorem i81_1 : gm_I cX8_append 1 = some (.getfield 27) := by decide +kernel
theorem i81_4 : gm_I cX8_append 4 = some (.bipush 24) := by decide +kernel
theorem i81_6 : gm_I cX8_append 6 = some (.if_icmp .ge 23) := by decide +kernel
theorem i81_9 : gm_I cX8_append 9 = some (.aload_n 0) := by decide +kernel
theorem i81_10 : gm_I cX8_append 10 = some (.getfield 11) := by decide +kernel
theorem i81_13 : gm_I cX8_append 13 = some (.aload_n 0) := by decide +kernel
theorem i81_14 : gm_I cX8_append 14 = some (.getfield 27) := by decide +kernel
theorem i81_17 : gm_I cX8_append 17 = some (.aload_n 1) := by decide +kernel
theorem i81_18 : gm_I cX8_append 18 = some (.aastore) := by decide +kernel
theorem i81_19 : gm_I cX8_append 19 = some (.aload_n 0) := by decide +kernel
theorem i81_20 : gm_I cX8_append 20 = some (.dup) := by decide +kernel
theorem i81_21 : gm_I cX8_append 21 = some (.getfield 27) := by decide +kernel
theorem i81_24 : gm_I cX8_append 24 = some (.iconst 1) := by decide +kernel
theorem i81_25 : gm_I cX8_append 25 = some (.iadd) := by decide +kernel
theorem i81_26 : gm_I cX8_append 26 = some (.putfield 27) := by decide +kernel
theorem i81_29 : gm_I cX8_append 29 = some (.return_) := by decide +kernel
theorem i82_0 : gm_I cX8_trace 0 = some (.iconst 0) := by decide +kernel
theorem i82_1 : gm_I cX8_trace 1 = some (.istore_n 1) := by decide +kernel
theorem i82_2 : gm_I cX8_trace 2 = some (.iload_n 1) := by decide +kernel
theorem i82_3 : gm_I cX8_trace 3 = some (.aload_n 0) := by decide +kernel
theorem i82_4 : gm_I cX8_trace 4 = some (.getfield 27) := by decide +kernel
theorem i82_7 : gm_I cX8_trace 7 = some (.if_icmp .ge 85) := by decide +kernel
theorem i82_10 : gm_I cX8_trace 10 = some (.aload_n 0) := by decide +kernel
theorem i82_11 : gm_I cX8_trace 11 = some (.aload_n 0) := by decide +kernel
theorem i82_12 : gm_I cX8_trace 12 = some (.getfield 11) := by decide +kernel
theorem i82_15 : gm_I cX8_trace 15 = some (.iload_n 1) := by decide +kernel
theorem i82_16 : gm_I cX8_trace 16 = some (.aaload) := by decide +kernel
theorem i82_17 : gm_I cX8_trace 17 = some (.invokevirtual 31) := by decide +kernel
theorem i82_20 : gm_I cX8_trace 20 = some (.istore_n 2) := by decide +kernel
theorem i82_21 : gm_I cX8_trace 21 = some (.iconst 0) := by decide +kernel
theorem i82_22 : gm_I cX8_trace 22 = some (.istore_n 3) := by decide +kernel
theorem i82_23 : gm_I cX8_trace 23 = some (.iload_n 3) := by decide +kernel
theorem i82_24 : gm_I cX8_trace 24 = some (.aload_n 0) := by decide +kernel
theorem i82_25 : gm_I cX8_trace 25 = some (.getfield 27) := by decide +kernel
theorem i82_28 : gm_I cX8_trace 28 = some (.if_icmp .ge 58) := by decide +kernel
theorem i82_31 : gm_I cX8_trace 31 = some (.aload_n 0) := by decide +kernel
theorem i82_32 : gm_I cX8_trace 32 = some (.getfield 11) := by decide +kernel
theorem i82_35 : gm_I cX8_trace 35 = some (.iload_n 1) := by decide +kernel
theorem i82_36 : gm_I cX8_trace 36 = some (.aaload) := by decide +kernel
theorem i82_37 : gm_I cX8_trace 37 = some (.getfield 35) := by decide +kernel
theorem i82_40 : gm_I cX8_trace 40 = some (.getfield 39) := by decide +kernel
theorem i82_43 : gm_I cX8_trace 43 = some (.aload_n 0) := by decide +kernel
theorem i82_44 : gm_I cX8_trace 44 = some (.getfield 11) := by decide +kernel
theorem i82_47 : gm_I cX8_trace 47 = some (.iload_n 3) := by decide +kernel
theorem i82_48 : gm_I cX8_trace 48 = some (.aaload) := by decide +kernel
theorem i82_49 : gm_I cX8_trace 49 = some (.getfield 35) := by decide +kernel
theorem i82_52 : gm_I cX8_trace 52 = some (.getfield 39) := by decide +kernel
theorem i82_55 : gm_I cX8_trace 55 = some (.if_icmp .ne 25) := by decide +kernel
theorem i82_58 : gm_I cX8_trace 58 = some (.aload_n 0) := by decide +kernel
theorem i82_59 : gm_I cX8_trace 59 = some (.getfield 17) := by decide +kernel
theorem i82_62 : gm_I cX8_trace 62 = some (.iload_n 3) := by decide +kernel
theorem i82_63 : gm_I cX8_trace 63 = some (.dup2) := by decide +kernel
theorem i82_64 : gm_I cX8_trace 64 = some (.iaload) := by decide +kernel
theorem i82_65 : gm_I cX8_trace 65 = some (.iconst 1) := by decide +kernel
theorem i82_66 : gm_I cX8_trace 66 = some (.iload_n 1) := by decide +kernel
theorem i82_67 : gm_I cX8_trace 67 = some (.ishl) := by decide +kernel
theorem i82_68 : gm_I cX8_trace 68 = some (.ior) := by decide +kernel
theorem i82_69 : gm_I cX8_trace 69 = some (.iastore) := by decide +kernel
theorem i82_70 : gm_I cX8_trace 70 = some (.aload_n 0) := by decide +kernel
theorem i82_71 : gm_I cX8_trace 71 = some (.getfield 21) := by decide +kernel
theorem i82_74 : gm_I cX8_trace 74 = some (.iload_n 3) := by decide +kernel
theorem i82_75 : gm_I cX8_trace 75 = some (.dup2) := by decide +kernel
theorem i82_76 : gm_I cX8_trace 76 = some (.iaload) := by decide +kernel
theorem i82_77 : gm_I cX8_trace 77 = some (.iload_n 2) := by decide +kernel
theorem i82_78 : gm_I cX8_trace 78 = some (.ior) := by decide +kernel
theorem i82_79 : gm_I cX8_trace 79 = some (.iastore) := by decide +kernel
theorem i82_80 : gm_I cX8_trace 80 = some (.iinc 3 1) := by decide +kernel
theorem i82_83 : gm_I cX8_trace 83 = some (.goto (-60)) := by decide +kernel
theorem i82_86 : gm_I cX8_trace 86 = some (.iinc 1 1) := by decide +kernel
theorem i82_89 : gm_I cX8_trace 89 = some (.goto (-87)) := by decide +kernel
theorem i82_92 : gm_I cX8_trace 92 = some (.iconst 0) := by decide +kernel
theorem i82_93 : gm_I cX8_trace 93 = some (.istore_n 1) := by decide +kernel
theorem i82_94 : gm_I cX8_trace 94 = some (.iload_n 1) := by decide +kernel
theorem i82_95 : gm_I cX8_trace 95 = some (.aload_n 0) := by decide +kernel
theorem i82_96 : gm_I cX8_trace 96 = some (.getfield 27) := by decide +kernel
theorem i82_99 : gm_I cX8_trace 99 = some (.if_icmp .ge 53) := by decide +kernel
theorem i82_102 : gm_I cX8_trace 102 = some (.iconst 0) := by decide +kernel
theorem i82_103 : gm_I cX8_trace 103 = some (.istore_n 2) := by decide +kernel
theorem i82_104 : gm_I cX8_trace 104 = some (.iload_n 2) := by decide +kernel
theorem i82_105 : gm_I cX8_trace 105 = some (.aload_n 0) := by decide +kernel
theorem i82_106 : gm_I cX8_trace 106 = some (.getfield 27) := by decide +kernel
theorem i82_109 : gm_I cX8_trace 109 = some (.if_icmp .ge 37) := by decide +kernel
theorem i82_112 : gm_I cX8_trace 112 = some (.aload_n 0) := by decide +kernel
theorem i82_113 : gm_I cX8_trace 113 = some (.getfield 21) := by decide +kernel
theorem i82_116 : gm_I cX8_trace 116 = some (.iload_n 2) := by decide +kernel
theorem i82_117 : gm_I cX8_trace 117 = some (.iaload) := by decide +kernel
theorem i82_118 : gm_I cX8_trace 118 = some (.iload_n 1) := by decide +kernel
theorem i82_119 : gm_I cX8_trace 119 = some (.iushr) := by decide +kernel
theorem i82_120 : gm_I cX8_trace 120 = some (.iconst 1) := by decide +kernel
theorem i82_121 : gm_I cX8_trace 121 = some (.iand) := by decide +kernel
theorem i82_122 : gm_I cX8_trace 122 = some (.ifCond .eq 18) := by decide +kernel
theorem i82_125 : gm_I cX8_trace 125 = some (.aload_n 0) := by decide +kernel
theorem i82_126 : gm_I cX8_trace 126 = some (.getfield 21) := by decide +kernel
theorem i82_129 : gm_I cX8_trace 129 = some (.iload_n 2) := by decide +kernel
theorem i82_130 : gm_I cX8_trace 130 = some (.dup2) := by decide +kernel
theorem i82_131 : gm_I cX8_trace 131 = some (.iaload) := by decide +kernel
theorem i82_132 : gm_I cX8_trace 132 = some (.aload_n 0) := by decide +kernel
theorem i82_133 : gm_I cX8_trace 133 = some (.getfield 21) := by decide +kernel
theorem i82_136 : gm_I cX8_trace 136 = some (.iload_n 1) := by decide +kernel
theorem i82_137 : gm_I cX8_trace 137 = some (.iaload) := by decide +kernel
theorem i82_138 : gm_I cX8_trace 138 = some (.ior) := by decide +kernel
theorem i82_139 : gm_I cX8_trace 139 = some (.iastore) := by decide +kernel
theorem i82_140 : gm_I cX8_trace 140 = some (.iinc 2 1) := by decide +kernel
theorem i82_143 : gm_I cX8_trace 143 = some (.goto (-39)) := by decide +kernel
theorem i82_146 : gm_I cX8_trace 146 = some (.iinc 1 1) := by decide +kernel
theorem i82_149 : gm_I cX8_trace 149 = some (.goto (-55)) := by decide +kernel
theorem i82_152 : gm_I cX8_trace 152 = some (.iconst 0) := by decide +kernel
theorem i82_153 : gm_I cX8_trace 153 = some (.istore_n 1) := by decide +kernel
theorem i82_154 : gm_I cX8_trace 154 = some (.iload_n 1) := by decide +kernel
theorem i82_155 : gm_I cX8_trace 155 = some (.aload_n 0) := by decide +kernel
theorem i82_156 : gm_I cX8_trace 156 = some (.getfield 27) := by decide +kernel
theorem i82_159 : gm_I cX8_trace 159 = some (.if_icmp .ge 63) := by decide +kernel
theorem i82_162 : gm_I cX8_trace 162 = some (.iconst 0) := by decide +kernel
theorem i82_163 : gm_I cX8_trace 163 = some (.istore_n 2) := by decide +kernel
theorem i82_164 : gm_I cX8_trace 164 = some (.iload_n 2) := by decide +kernel
theorem i82_165 : gm_I cX8_trace 165 = some (.aload_n 0) := by decide +kernel
theorem i82_166 : gm_I cX8_trace 166 = some (.getfield 27) := by decide +kernel
theorem i82_169 : gm_I cX8_trace 169 = some (.if_icmp .ge 47) := by decide +kernel
theorem i82_172 : gm_I cX8_trace 172 = some (.aload_n 0) := by decide +kernel
theorem i82_173 : gm_I cX8_trace 173 = some (.getfield 17) := by decide +kernel
theorem i82_176 : gm_I cX8_trace 176 = some (.iload_n 1) := by decide +kernel
theorem i82_177 : gm_I cX8_trace 177 = some (.iaload) := by decide +kernel
theorem i82_178 : gm_I cX8_trace 178 = some (.aload_n 0) := by decide +kernel
theorem i82_179 : gm_I cX8_trace 179 = some (.getfield 21) := by decide +kernel
theorem i82_182 : gm_I cX8_trace 182 = some (.iload_n 1) := by decide +kernel
theorem i82_183 : gm_I cX8_trace 183 = some (.iaload) := by decide +kernel
theorem i82_184 : gm_I cX8_trace 184 = some (.ior) := by decide +kernel
theorem i82_185 : gm_I cX8_trace 185 = some (.iload_n 2) := by decide +kernel
theorem i82_186 : gm_I cX8_trace 186 = some (.iushr) := by decide +kernel
theorem i82_187 : gm_I cX8_trace 187 = some (.iconst 1) := by decide +kernel
theorem i82_188 : gm_I cX8_trace 188 = some (.iand) := by decide +kernel
theorem i82_189 : gm_I cX8_trace 189 = some (.ifCond .eq 21) := by decide +kernel
theorem i82_192 : gm_I cX8_trace 192 = some (.aload_n 0) := by decide +kernel
theorem i82_193 : gm_I cX8_trace 193 = some (.getfield 24) := by decide +kernel
theorem i82_196 : gm_I cX8_trace 196 = some (.iload_n 1) := by decide +kernel
theorem i82_197 : gm_I cX8_trace 197 = some (.dup2) := by decide +kernel
theorem i82_198 : gm_I cX8_trace 198 = some (.iaload) := by decide +kernel
theorem i82_199 : gm_I cX8_trace 199 = some (.aload_n 0) := by decide +kernel
theorem i82_200 : gm_I cX8_trace 200 = some (.getfield 11) := by decide +kernel
theorem i82_203 : gm_I cX8_trace 203 = some (.iload_n 2) := by decide +kernel
theorem i82_204 : gm_I cX8_trace 204 = some (.aaload) := by decide +kernel
theorem i82_205 : gm_I cX8_trace 205 = some (.invokevirtual 44) := by decide +kernel
theorem i82_208 : gm_I cX8_trace 208 = some (.ior) := by decide +kernel
theorem i82_209 : gm_I cX8_trace 209 = some (.iastore) := by decide +kernel
theorem i82_210 : gm_I cX8_trace 210 = some (.iinc 2 1) := by decide +kernel
theorem i82_213 : gm_I cX8_trace 213 = some (.goto (-49)) := by decide +kernel
theorem i82_216 : gm_I cX8_trace 216 = some (.iinc 1 1) := by decide +kernel
theorem i82_219 : gm_I cX8_trace 219 = some (.goto (-65)) := by decide +kernel
theorem i82_222 : gm_I cX8_trace 222 = some (.return_) := by decide +kernel
theorem i83_0 : gm_I cX8_headsIn 0 = some (.iconst 0) := by decide +kernel
theorem i83_1 : gm_I cX8_headsIn 1 = some (.istore_n 2) := by decide +kernel
theorem i83_2 : gm_I cX8_headsIn 2 = some (.iconst 0) := by decide +kernel
theorem i83_3 : gm_I cX8_headsIn 3 = some (.istore_n 3) := by decide +kernel
theorem i83_4 : gm_I cX8_headsIn 4 = some (.iload_n 3) := by decide +kernel
theorem i83_5 : gm_I cX8_headsIn 5 = some (.aload_n 0) := by decide +kernel
theorem i83_6 : gm_I cX8_headsIn 6 = some (.getfield 27) := by decide +kernel
theorem i83_9 : gm_I cX8_headsIn 9 = some (.if_icmp .ge 34) := by decide +kernel
theorem i83_12 : gm_I cX8_headsIn 12 = some (.aload_n 1) := by decide +kernel
theorem i83_13 : gm_I cX8_headsIn 13 = some (.aload_n 0) := by decide +kernel
theorem i83_14 : gm_I cX8_headsIn 14 = some (.getfield 11) := by decide +kernel
theorem i83_17 : gm_I cX8_headsIn 17 = some (.iload_n 3) := by decide +kernel
theorem i83_18 : gm_I cX8_headsIn 18 = some (.aaload) := by decide +kernel
theorem i83_19 : gm_I cX8_headsIn 19 = some (.getfield 35) := by decide +kernel
theorem i83_22 : gm_I cX8_headsIn 22 = some (.getfield 39) := by decide +kernel
theorem i83_25 : gm_I cX8_headsIn 25 = some (.invokevirtual 47) := by decide +kernel
theorem i83_28 : gm_I cX8_headsIn 28 = some (.ifCond .eq 9) := by decide +kernel
theorem i83_31 : gm_I cX8_headsIn 31 = some (.iload_n 2) := by decide +kernel
theorem i83_32 : gm_I cX8_headsIn 32 = some (.iconst 1) := by decide +kernel
theorem i83_33 : gm_I cX8_headsIn 33 = some (.iload_n 3) := by decide +kernel
theorem i83_34 : gm_I cX8_headsIn 34 = some (.ishl) := by decide +kernel
theorem i83_35 : gm_I cX8_headsIn 35 = some (.ior) := by decide +kernel
theorem i83_36 : gm_I cX8_headsIn 36 = some (.istore_n 2) := by decide +kernel
theorem i83_37 : gm_I cX8_headsIn 37 = some (.iinc 3 1) := by decide +kernel
theorem i83_40 : gm_I cX8_headsIn 40 = some (.goto (-36)) := by decide +kernel
theorem i83_43 : gm_I cX8_headsIn 43 = some (.iload_n 2) := by decide +kernel
theorem i83_44 : gm_I cX8_headsIn 44 = some (.ireturn) := by decide +kernel
theorem i84_0 : gm_I cX8_placeOf 0 = some (.iconst 0) := by decide +kernel
theorem i84_1 : gm_I cX8_placeOf 1 = some (.istore_n 2) := by decide +kernel
theorem i84_2 : gm_I cX8_placeOf 2 = some (.iload_n 2) := by decide +kernel
theorem i84_3 : gm_I cX8_placeOf 3 = some (.aload_n 0) := by decide +kernel
theorem i84_4 : gm_I cX8_placeOf 4 = some (.getfield 27) := by decide +kernel
theorem i84_7 : gm_I cX8_placeOf 7 = some (.if_icmp .ge 20) := by decide +kernel
theorem i84_10 : gm_I cX8_placeOf 10 = some (.aload_n 0) := by decide +kernel
theorem i84_11 : gm_I cX8_placeOf 11 = some (.iload_n 1) := by decide +kernel
theorem i84_12 : gm_I cX8_placeOf 12 = some (.iload_n 2) := by decide +kernel
theorem i84_13 : gm_I cX8_placeOf 13 = some (.invokevirtual 51) := by decide +kernel
theorem i84_16 : gm_I cX8_placeOf 16 = some (.ifCond .eq 5) := by decide +kernel
theorem i84_19 : gm_I cX8_placeOf 19 = some (.iload_n 2) := by decide +kernel
theorem i84_20 : gm_I cX8_placeOf 20 = some (.ireturn) := by decide +kernel
theorem i84_21 : gm_I cX8_placeOf 21 = some (.iinc 2 1) := by decide +kernel
theorem i84_24 : gm_I cX8_placeOf 24 = some (.goto (-22)) := by decide +kernel
theorem i84_27 : gm_I cX8_placeOf 27 = some (.iconst (-1)) := by decide +kernel
theorem i84_28 : gm_I cX8_placeOf 28 = some (.ireturn) := by decide +kernel
theorem i85_0 : gm_I cX8_hasFault 0 = some (.iload_n 1) := by decide +kernel
theorem i85_1 : gm_I cX8_hasFault 1 = some (.tableswitch 53 2 4 #[27, 37, 47]) := by decide +kernel
theorem i85_28 : gm_I cX8_hasFault 28 = some (.aload_n 0) := by decide +kernel
theorem i85_29 : gm_I cX8_hasFault 29 = some (.getfield 11) := by decide +kernel
theorem i85_32 : gm_I cX8_hasFault 32 = some (.iload_n 2) := by decide +kernel
theorem i85_33 : gm_I cX8_hasFault 33 = some (.aaload) := by decide +kernel
theorem i85_34 : gm_I cX8_hasFault 34 = some (.invokevirtual 55) := by decide +kernel
theorem i85_37 : gm_I cX8_hasFault 37 = some (.ireturn) := by decide +kernel
theorem i85_38 : gm_I cX8_hasFault 38 = some (.aload_n 0) := by decide +kernel
theorem i85_39 : gm_I cX8_hasFault 39 = some (.getfield 11) := by decide +kernel
theorem i85_42 : gm_I cX8_hasFault 42 = some (.iload_n 2) := by decide +kernel
theorem i85_43 : gm_I cX8_hasFault 43 = some (.aaload) := by decide +kernel
theorem i85_44 : gm_I cX8_hasFault 44 = some (.invokevirtual 59) := by decide +kernel
theorem i85_47 : gm_I cX8_hasFault 47 = some (.ireturn) := by decide +kernel
theorem i85_48 : gm_I cX8_hasFault 48 = some (.aload_n 0) := by decide +kernel
theorem i85_49 : gm_I cX8_hasFault 49 = some (.iload_n 2) := by decide +kernel
theorem i85_50 : gm_I cX8_hasFault 50 = some (.invokevirtual 62) := by decide +kernel
theorem i85_53 : gm_I cX8_hasFault 53 = some (.ireturn) := by decide +kernel
theorem i85_54 : gm_I cX8_hasFault 54 = some (.aload_n 0) := by decide +kernel
theorem i85_55 : gm_I cX8_hasFault 55 = some (.iload_n 2) := by decide +kernel
theorem i85_56 : gm_I cX8_hasFault 56 = some (.invokevirtual 65) := by decide +kernel
theorem i85_59 : gm_I cX8_hasFault 59 = some (.ireturn) := by decide +kernel
theorem i86_0 : gm_I cX8_deniesItself 0 = some (.iconst 0) := by decide +kernel
theorem i86_1 : gm_I cX8_deniesItself 1 = some (.istore_n 2) := by decide +kernel
theorem i86_2 : gm_I cX8_deniesItself 2 = some (.iload_n 2) := by decide +kernel
theorem i86_3 : gm_I cX8_deniesItself 3 = some (.aload_n 0) := by decide +kernel
theorem i86_4 : gm_I cX8_deniesItself 4 = some (.getfield 11) := by decide +kernel
theorem i86_7 : gm_I cX8_deniesItself 7 = some (.iload_n 1) := by decide +kernel
theorem i86_8 : gm_I cX8_deniesItself 8 = some (.aaload) := by decide +kernel
theorem i86_9 : gm_I cX8_deniesItself 9 = some (.getfield 68) := by decide +kernel
theorem i86_12 : gm_I cX8_deniesItself 12 = some (.if_icmp .ge 83) := by decide +kernel
theorem i86_15 : gm_I cX8_deniesItself 15 = some (.aload_n 0) := by decide +kernel
theorem i86_16 : gm_I cX8_deniesItself 16 = some (.getfield 11) := by decide +kernel
theorem i86_19 : gm_I cX8_deniesItself 19 = some (.iload_n 1) := by decide +kernel
theorem i86_20 : gm_I cX8_deniesItself 20 = some (.aaload) := by decide +kernel
theorem i86_21 : gm_I cX8_deniesItself 21 = some (.getfield 69) := by decide +kernel
theorem i86_24 : gm_I cX8_deniesItself 24 = some (.iload_n 2) := by decide +kernel
theorem i86_25 : gm_I cX8_deniesItself 25 = some (.aaload) := by decide +kernel
theorem i86_26 : gm_I cX8_deniesItself 26 = some (.astore_n 3) := by decide +kernel
theorem i86_27 : gm_I cX8_deniesItself 27 = some (.iconst 0) := by decide +kernel
theorem i86_28 : gm_I cX8_deniesItself 28 = some (.istore 4) := by decide +kernel
theorem i86_30 : gm_I cX8_deniesItself 30 = some (.iload 4) := by decide +kernel
theorem i86_32 : gm_I cX8_deniesItself 32 = some (.aload_n 0) := by decide +kernel
theorem i86_33 : gm_I cX8_deniesItself 33 = some (.getfield 27) := by decide +kernel
theorem i86_36 : gm_I cX8_deniesItself 36 = some (.if_icmp .ge 53) := by decide +kernel
theorem i86_39 : gm_I cX8_deniesItself 39 = some (.aload_n 3) := by decide +kernel
theorem i86_40 : gm_I cX8_deniesItself 40 = some (.getfield 73) := by decide +kernel
theorem i86_43 : gm_I cX8_deniesItself 43 = some (.iconst 1) := by decide +kernel
theorem i86_44 : gm_I cX8_deniesItself 44 = some (.if_icmp .ne 45) := by decide +kernel
theorem i86_47 : gm_I cX8_deniesItself 47 = some (.aload_n 0) := by decide +kernel
theorem i86_48 : gm_I cX8_deniesItself 48 = some (.getfield 11) := by decide +kernel
theorem i86_51 : gm_I cX8_deniesItself 51 = some (.iload 4) := by decide +kernel
theorem i86_53 : gm_I cX8_deniesItself 53 = some (.aaload) := by decide +kernel
theorem i86_54 : gm_I cX8_deniesItself 54 = some (.getfield 35) := by decide +kernel
theorem i86_57 : gm_I cX8_deniesItself 57 = some (.getfield 39) := by decide +kernel
theorem i86_60 : gm_I cX8_deniesItself 60 = some (.aload_n 3) := by decide +kernel
theorem i86_61 : gm_I cX8_deniesItself 61 = some (.getfield 39) := by decide +kernel
theorem i86_64 : gm_I cX8_deniesItself 64 = some (.if_icmp .ne 19) := by decide +kernel
theorem i86_67 : gm_I cX8_deniesItself 67 = some (.aload_n 0) := by decide +kernel
theorem i86_68 : gm_I cX8_deniesItself 68 = some (.getfield 21) := by decide +kernel
theorem i86_71 : gm_I cX8_deniesItself 71 = some (.iload 4) := by decide +kernel
theorem i86_73 : gm_I cX8_deniesItself 73 = some (.iaload) := by decide +kernel
theorem i86_74 : gm_I cX8_deniesItself 74 = some (.iload_n 1) := by decide +kernel
theorem i86_75 : gm_I cX8_deniesItself 75 = some (.iushr) := by decide +kernel
theorem i86_76 : gm_I cX8_deniesItself 76 = some (.iconst 1) := by decide +kernel
theorem i86_77 : gm_I cX8_deniesItself 77 = some (.iand) := by decide +kernel
