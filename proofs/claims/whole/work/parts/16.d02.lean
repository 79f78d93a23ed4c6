/-! the code by its places, by program -/
theorem i27_65 : gm_I cX2_begin 65 = some (.ireturn) := by decide +kernel
theorem i28_0 : gm_I cX2_inState 0 = some (.aload_n 0) := by decide +kernel
theorem i28_1 : gm_I cX2_inState 1 = some (.getfield 12) := by decide +kernel
theorem i28_4 : gm_I cX2_inState 4 = some (.aload_n 0) := by decide +kernel
theorem i28_5 : gm_I cX2_inState 5 = some (.getfield 44) := by decide +kernel
theorem i28_8 : gm_I cX2_inState 8 = some (.invokevirtual 28) := by decide +kernel
theorem i28_11 : gm_I cX2_inState 11 = some (.iconst 0) := by decide +kernel
theorem i28_12 : gm_I cX2_inState 12 = some (.istore_n 2) := by decide +kernel
theorem i28_13 : gm_I cX2_inState 13 = some (.iload_n 2) := by decide +kernel
theorem i28_14 : gm_I cX2_inState 14 = some (.aload_n 1) := by decide +kernel
theorem i28_15 : gm_I cX2_inState 15 = some (.getfield 51) := by decide +kernel
theorem i28_18 : gm_I cX2_inState 18 = some (.if_icmp .ge 25) := by decide +kernel
theorem i28_21 : gm_I cX2_inState 21 = some (.aload_n 0) := by decide +kernel
theorem i28_22 : gm_I cX2_inState 22 = some (.getfield 12) := by decide +kernel
theorem i28_25 : gm_I cX2_inState 25 = some (.iconst 2) := by decide +kernel
theorem i28_26 : gm_I cX2_inState 26 = some (.aload_n 1) := by decide +kernel
theorem i28_27 : gm_I cX2_inState 27 = some (.getfield 54) := by decide +kernel
theorem i28_30 : gm_I cX2_inState 30 = some (.iload_n 2) := by decide +kernel
theorem i28_31 : gm_I cX2_inState 31 = some (.iaload) := by decide +kernel
theorem i28_32 : gm_I cX2_inState 32 = some (.iconst 0) := by decide +kernel
theorem i28_33 : gm_I cX2_inState 33 = some (.iconst 0) := by decide +kernel
theorem i28_34 : gm_I cX2_inState 34 = some (.invokevirtual 57) := by decide +kernel
theorem i28_37 : gm_I cX2_inState 37 = some (.iinc 2 1) := by decide +kernel
theorem i28_40 : gm_I cX2_inState 40 = some (.goto (-27)) := by decide +kernel
theorem i28_43 : gm_I cX2_inState 43 = some (.aload_n 0) := by decide +kernel
theorem i28_44 : gm_I cX2_inState 44 = some (.getfield 24) := by decide +kernel
theorem i28_47 : gm_I cX2_inState 47 = some (.getfield 32) := by decide +kernel
theorem i28_50 : gm_I cX2_inState 50 = some (.iconst 0) := by decide +kernel
theorem i28_51 : gm_I cX2_inState 51 = some (.iaload) := by decide +kernel
theorem i28_52 : gm_I cX2_inState 52 = some (.istore_n 2) := by decide +kernel
theorem i28_53 : gm_I cX2_inState 53 = some (.iload_n 2) := by decide +kernel
theorem i28_54 : gm_I cX2_inState 54 = some (.aload_n 0) := by decide +kernel
theorem i28_55 : gm_I cX2_inState 55 = some (.getfield 24) := by decide +kernel
theorem i28_58 : gm_I cX2_inState 58 = some (.getfield 32) := by decide +kernel
theorem i28_61 : gm_I cX2_inState 61 = some (.iconst 1) := by decide +kernel
theorem i28_62 : gm_I cX2_inState 62 = some (.iaload) := by decide +kernel
theorem i28_63 : gm_I cX2_inState 63 = some (.if_icmp .ge 14) := by decide +kernel
theorem i28_66 : gm_I cX2_inState 66 = some (.aload_n 0) := by decide +kernel
theorem i28_67 : gm_I cX2_inState 67 = some (.iload_n 2) := by decide +kernel
theorem i28_68 : gm_I cX2_inState 68 = some (.invokevirtual 37) := by decide +kernel
theorem i28_71 : gm_I cX2_inState 71 = some (.iinc 2 1) := by decide +kernel
theorem i28_74 : gm_I cX2_inState 74 = some (.goto (-21)) := by decide +kernel
theorem i28_77 : gm_I cX2_inState 77 = some (.aload_n 0) := by decide +kernel
theorem i28_78 : gm_I cX2_inState 78 = some (.aload_n 0) := by decide +kernel
theorem i28_79 : gm_I cX2_inState 79 = some (.getfield 12) := by decide +kernel
theorem i28_82 : gm_I cX2_inState 82 = some (.getfield 40) := by decide +kernel
theorem i28_85 : gm_I cX2_inState 85 = some (.putfield 61) := by decide +kernel
theorem i28_88 : gm_I cX2_inState 88 = some (.aload_n 0) := by decide +kernel
theorem i28_89 : gm_I cX2_inState 89 = some (.getfield 24) := by decide +kernel
theorem i28_92 : gm_I cX2_inState 92 = some (.getfield 32) := by decide +kernel
theorem i28_95 : gm_I cX2_inState 95 = some (.iconst 1) := by decide +kernel
theorem i28_96 : gm_I cX2_inState 96 = some (.iaload) := by decide +kernel
theorem i28_97 : gm_I cX2_inState 97 = some (.istore_n 2) := by decide +kernel
theorem i28_98 : gm_I cX2_inState 98 = some (.iload_n 2) := by decide +kernel
theorem i28_99 : gm_I cX2_inState 99 = some (.aload_n 0) := by decide +kernel
theorem i28_100 : gm_I cX2_inState 100 = some (.getfield 24) := by decide +kernel
theorem i28_103 : gm_I cX2_inState 103 = some (.getfield 32) := by decide +kernel
theorem i28_106 : gm_I cX2_inState 106 = some (.iconst 2) := by decide +kernel
theorem i28_107 : gm_I cX2_inState 107 = some (.iaload) := by decide +kernel
theorem i28_108 : gm_I cX2_inState 108 = some (.if_icmp .ge 14) := by decide +kernel
theorem i28_111 : gm_I cX2_inState 111 = some (.aload_n 0) := by decide +kernel
theorem i28_112 : gm_I cX2_inState 112 = some (.iload_n 2) := by decide +kernel
theorem i28_113 : gm_I cX2_inState 113 = some (.invokevirtual 37) := by decide +kernel
theorem i28_116 : gm_I cX2_inState 116 = some (.iinc 2 1) := by decide +kernel
theorem i28_119 : gm_I cX2_inState 119 = some (.goto (-21)) := by decide +kernel
theorem i28_122 : gm_I cX2_inState 122 = some (.aload_n 0) := by decide +kernel
theorem i28_123 : gm_I cX2_inState 123 = some (.getfield 12) := by decide +kernel
theorem i28_126 : gm_I cX2_inState 126 = some (.getfield 47) := by decide +kernel
theorem i28_129 : gm_I cX2_inState 129 = some (.ifCond .ne 7) := by decide +kernel
theorem i28_132 : gm_I cX2_inState 132 = some (.iconst 1) := by decide +kernel
theorem i28_133 : gm_I cX2_inState 133 = some (.goto 4) := by decide +kernel
theorem i28_136 : gm_I cX2_inState 136 = some (.iconst 0) := by decide +kernel
theorem i28_137 : gm_I cX2_inState 137 = some (.ireturn) := by decide +kernel
theorem i29_0 : gm_I cX2_byMove 0 = some (.aload_n 0) := by decide +kernel
theorem i29_1 : gm_I cX2_byMove 1 = some (.getfield 12) := by decide +kernel
theorem i29_4 : gm_I cX2_byMove 4 = some (.aload_n 0) := by decide +kernel
theorem i29_5 : gm_I cX2_byMove 5 = some (.getfield 61) := by decide +kernel
theorem i29_8 : gm_I cX2_byMove 8 = some (.invokevirtual 28) := by decide +kernel
theorem i29_11 : gm_I cX2_byMove 11 = some (.aload_n 0) := by decide +kernel
theorem i29_12 : gm_I cX2_byMove 12 = some (.getfield 12) := by decide +kernel
theorem i29_15 : gm_I cX2_byMove 15 = some (.iconst 4) := by decide +kernel
theorem i29_16 : gm_I cX2_byMove 16 = some (.iload_n 1) := by decide +kernel
theorem i29_17 : gm_I cX2_byMove 17 = some (.iload_n 2) := by decide +kernel
theorem i29_18 : gm_I cX2_byMove 18 = some (.iconst 0) := by decide +kernel
theorem i29_19 : gm_I cX2_byMove 19 = some (.invokevirtual 57) := by decide +kernel
theorem i29_22 : gm_I cX2_byMove 22 = some (.aload_n 0) := by decide +kernel
theorem i29_23 : gm_I cX2_byMove 23 = some (.getfield 12) := by decide +kernel
theorem i29_26 : gm_I cX2_byMove 26 = some (.iconst 4) := by decide +kernel
theorem i29_27 : gm_I cX2_byMove 27 = some (.iload_n 3) := by decide +kernel
theorem i29_28 : gm_I cX2_byMove 28 = some (.iload 4) := by decide +kernel
theorem i29_30 : gm_I cX2_byMove 30 = some (.iconst 0) := by decide +kernel
theorem i29_31 : gm_I cX2_byMove 31 = some (.invokevirtual 57) := by decide +kernel
theorem i29_34 : gm_I cX2_byMove 34 = some (.aload_n 0) := by decide +kernel
theorem i29_35 : gm_I cX2_byMove 35 = some (.getfield 24) := by decide +kernel
theorem i29_38 : gm_I cX2_byMove 38 = some (.getfield 32) := by decide +kernel
theorem i29_41 : gm_I cX2_byMove 41 = some (.iconst 1) := by decide +kernel
theorem i29_42 : gm_I cX2_byMove 42 = some (.iaload) := by decide +kernel
theorem i29_43 : gm_I cX2_byMove 43 = some (.istore 5) := by decide +kernel
theorem i29_45 : gm_I cX2_byMove 45 = some (.iload 5) := by decide +kernel
theorem i29_47 : gm_I cX2_byMove 47 = some (.aload_n 0) := by decide +kernel
theorem i29_48 : gm_I cX2_byMove 48 = some (.getfield 24) := by decide +kernel
theorem i29_51 : gm_I cX2_byMove 51 = some (.getfield 32) := by decide +kernel
theorem i29_54 : gm_I cX2_byMove 54 = some (.iconst 2) := by decide +kernel
theorem i29_55 : gm_I cX2_byMove 55 = some (.iaload) := by decide +kernel
theorem i29_56 : gm_I cX2_byMove 56 = some (.if_icmp .ge 15) := by decide +kernel
theorem i29_59 : gm_I cX2_byMove 59 = some (.aload_n 0) := by decide +kernel
theorem i29_60 : gm_I cX2_byMove 60 = some (.iload 5) := by decide +kernel
theorem i29_62 : gm_I cX2_byMove 62 = some (.invokevirtual 37) := by decide +kernel
theorem i29_65 : gm_I cX2_byMove 65 = some (.iinc 5 1) := by decide +kernel
theorem i29_68 : gm_I cX2_byMove 68 = some (.goto (-23)) := by decide +kernel
theorem i29_71 : gm_I cX2_byMove 71 = some (.aload_n 0) := by decide +kernel
theorem i29_72 : gm_I cX2_byMove 72 = some (.getfield 12) := by decide +kernel
theorem i29_75 : gm_I cX2_byMove 75 = some (.getfield 47) := by decide +kernel
theorem i29_78 : gm_I cX2_byMove 78 = some (.ifCond .ne 7) := by decide +kernel
theorem i29_81 : gm_I cX2_byMove 81 = some (.iconst 1) := by decide +kernel
theorem i29_82 : gm_I cX2_byMove 82 = some (.goto 4) := by decide +kernel
theorem i29_85 : gm_I cX2_byMove 85 = some (.iconst 0) := by decide +kernel
theorem i29_86 : gm_I cX2_byMove 86 = some (.ireturn) := by decide +kernel
theorem i30_0 : gm_I cX2_close 0 = some (.iconst 0) := by decide +kernel
theorem i30_1 : gm_I cX2_close 1 = some (.istore_n 2) := by decide +kernel
theorem i30_2 : gm_I cX2_close 2 = some (.iconst 0) := by decide +kernel
theorem i30_3 : gm_I cX2_close 3 = some (.istore_n 3) := by decide +kernel
theorem i30_4 : gm_I cX2_close 4 = some (.iload_n 3) := by decide +kernel
theorem i30_5 : gm_I cX2_close 5 = some (.sipush 200) := by decide +kernel
theorem i30_8 : gm_I cX2_close 8 = some (.if_icmp .gt 179) := by decide +kernel
theorem i30_11 : gm_I cX2_close 11 = some (.aload_n 0) := by decide +kernel
theorem i30_12 : gm_I cX2_close 12 = some (.iload_n 2) := by decide +kernel
theorem i30_13 : gm_I cX2_close 13 = some (.iconst 1) := by decide +kernel
theorem i30_14 : gm_I cX2_close 14 = some (.iadd) := by decide +kernel
theorem i30_15 : gm_I cX2_close 15 = some (.putfield 64) := by decide +kernel
theorem i30_18 : gm_I cX2_close 18 = some (.aload_n 0) := by decide +kernel
theorem i30_19 : gm_I cX2_close 19 = some (.aload_n 0) := by decide +kernel
theorem i30_20 : gm_I cX2_close 20 = some (.getfield 12) := by decide +kernel
theorem i30_23 : gm_I cX2_close 23 = some (.getfield 40) := by decide +kernel
theorem i30_26 : gm_I cX2_close 26 = some (.putfield 67) := by decide +kernel
theorem i30_29 : gm_I cX2_close 29 = some (.aload_n 0) := by decide +kernel
theorem i30_30 : gm_I cX2_close 30 = some (.getfield 24) := by decide +kernel
theorem i30_33 : gm_I cX2_close 33 = some (.getfield 70) := by decide +kernel
theorem i30_36 : gm_I cX2_close 36 = some (.iload_n 1) := by decide +kernel
theorem i30_37 : gm_I cX2_close 37 = some (.iaload) := by decide +kernel
theorem i30_38 : gm_I cX2_close 38 = some (.istore 4) := by decide +kernel
theorem i30_40 : gm_I cX2_close 40 = some (.iload 4) := by decide +kernel
theorem i30_42 : gm_I cX2_close 42 = some (.aload_n 0) := by decide +kernel
theorem i30_43 : gm_I cX2_close 43 = some (.getfield 24) := by decide +kernel
theorem i30_46 : gm_I cX2_close 46 = some (.getfield 70) := by decide +kernel
theorem i30_49 : gm_I cX2_close 49 = some (.iload_n 1) := by decide +kernel
theorem i30_50 : gm_I cX2_close 50 = some (.iconst 1) := by decide +kernel
theorem i30_51 : gm_I cX2_close 51 = some (.iadd) := by decide +kernel
theorem i30_52 : gm_I cX2_close 52 = some (.iaload) := by decide +kernel
theorem i30_53 : gm_I cX2_close 53 = some (.if_icmp .ge 87) := by decide +kernel
theorem i30_56 : gm_I cX2_close 56 = some (.aload_n 0) := by decide +kernel
theorem i30_57 : gm_I cX2_close 57 = some (.getfield 24) := by decide +kernel
theorem i30_60 : gm_I cX2_close 60 = some (.getfield 73) := by decide +kernel
theorem i30_63 : gm_I cX2_close 63 = some (.iload 4) := by decide +kernel
theorem i30_65 : gm_I cX2_close 65 = some (.aaload) := by decide +kernel
theorem i30_66 : gm_I cX2_close 66 = some (.astore 5) := by decide +kernel
theorem i30_68 : gm_I cX2_close 68 = some (.iload_n 3) := by decide +kernel
theorem i30_69 : gm_I cX2_close 69 = some (.ifCond .ne 7) := by decide +kernel
theorem i30_72 : gm_I cX2_close 72 = some (.iconst (-1)) := by decide +kernel
theorem i30_73 : gm_I cX2_close 73 = some (.goto 10) := by decide +kernel
theorem i30_76 : gm_I cX2_close 76 = some (.aload 5) := by decide +kernel
theorem i30_78 : gm_I cX2_close 78 = some (.getfield 77) := by decide +kernel
theorem i30_81 : gm_I cX2_close 81 = some (.iconst 1) := by decide +kernel
theorem i30_82 : gm_I cX2_close 82 = some (.isub) := by decide +kernel
theorem i30_83 : gm_I cX2_close 83 = some (.istore 6) := by decide +kernel
theorem i30_85 : gm_I cX2_close 85 = some (.iload_n 3) := by decide +kernel
theorem i30_86 : gm_I cX2_close 86 = some (.ifCond .ne 7) := by decide +kernel
theorem i30_89 : gm_I cX2_close 89 = some (.iconst (-1)) := by decide +kernel
theorem i30_90 : gm_I cX2_close 90 = some (.goto 4) := by decide +kernel
theorem i30_93 : gm_I cX2_close 93 = some (.iconst 0) := by decide +kernel
theorem i30_94 : gm_I cX2_close 94 = some (.istore 7) := by decide +kernel
theorem i30_96 : gm_I cX2_close 96 = some (.iload 7) := by decide +kernel
theorem i30_98 : gm_I cX2_close 98 = some (.iload 6) := by decide +kernel
theorem i30_100 : gm_I cX2_close 100 = some (.if_icmp .gt 34) := by decide +kernel
theorem i30_103 : gm_I cX2_close 103 = some (.aload_n 0) := by decide +kernel
theorem i30_104 : gm_I cX2_close 104 = some (.aload 5) := by decide +kernel
theorem i30_106 : gm_I cX2_close 106 = some (.iload 7) := by decide +kernel
theorem i30_108 : gm_I cX2_close 108 = some (.invokevirtual 80) := by decide +kernel
theorem i30_111 : gm_I cX2_close 111 = some (.ifCond .eq 17) := by decide +kernel
theorem i30_114 : gm_I cX2_close 114 = some (.aload_n 0) := by decide +kernel
theorem i30_115 : gm_I cX2_close 115 = some (.iload 7) := by decide +kernel
theorem i30_117 : gm_I cX2_close 117 = some (.putfield 84) := by decide +kernel
theorem i30_120 : gm_I cX2_close 120 = some (.aload_n 0) := by decide +kernel
theorem i30_121 : gm_I cX2_close 121 = some (.aload 5) := by decide +kernel
theorem i30_123 : gm_I cX2_close 123 = some (.iconst 0) := by decide +kernel
theorem i30_124 : gm_I cX2_close 124 = some (.invokevirtual 87) := by decide +kernel
theorem i30_127 : gm_I cX2_close 127 = some (.pop) := by decide +kernel
theorem i30_128 : gm_I cX2_close 128 = some (.iinc 7 1) := by decide +kernel
theorem i30_131 : gm_I cX2_close 131 = some (.goto (-35)) := by decide +kernel
theorem i30_134 : gm_I cX2_close 134 = some (.iinc 4 1) := by decide +kernel
theorem i30_137 : gm_I cX2_close 137 = some (.goto (-97)) := by decide +kernel
theorem i30_140 : gm_I cX2_close 140 = some (.aload_n 0) := by decide +kernel
theorem i30_141 : gm_I cX2_close 141 = some (.getfield 12) := by decide +kernel
theorem i30_144 : gm_I cX2_close 144 = some (.getfield 47) := by decide +kernel
theorem i30_147 : gm_I cX2_close 147 = some (.ifCond .ne 28) := by decide +kernel
theorem i30_150 : gm_I cX2_close 150 = some (.aload_n 0) := by decide +kernel
theorem i30_151 : gm_I cX2_close 151 = some (.getfield 12) := by decide +kernel
theorem i30_154 : gm_I cX2_close 154 = some (.getfield 40) := by decide +kernel
theorem i30_157 : gm_I cX2_close 157 = some (.aload_n 0) := by decide +kernel
theorem i30_158 : gm_I cX2_close 158 = some (.getfield 67) := by decide +kernel
theorem i30_161 : gm_I cX2_close 161 = some (.if_icmp .eq 14) := by decide +kernel
theorem i30_164 : gm_I cX2_close 164 = some (.aload_n 0) := by decide +kernel
theorem i30_165 : gm_I cX2_close 165 = some (.getfield 24) := by decide +kernel
theorem i30_168 : gm_I cX2_close 168 = some (.iload_n 1) := by decide +kernel
theorem i30_169 : gm_I cX2_close 169 = some (.invokevirtual 90) := by decide +kernel
theorem i30_172 : gm_I cX2_close 172 = some (.ifCond .ne 4) := by decide +kernel
theorem i30_175 : gm_I cX2_close 175 = some (.return_) := by decide +kernel
theorem i30_176 : gm_I cX2_close 176 = some (.aload_n 0) := by decide +kernel
theorem i30_177 : gm_I cX2_close 177 = some (.getfield 67) := by decide +kernel
theorem i30_180 : gm_I cX2_close 180 = some (.istore_n 2) := by decide +kernel
theorem i30_181 : gm_I cX2_close 181 = some (.iinc 3 1) := by decide +kernel
theorem i30_184 : gm_I cX2_close 184 = some (.goto (-180)) := by decide +kernel
theorem i30_187 : gm_I cX2_close 187 = some (.return_) := by decide +kernel
theorem i31_0 : gm_I cX2_isDue 0 = some (.aload_n 0) := by decide +kernel
theorem i31_1 : gm_I cX2_isDue 1 = some (.getfield 12) := by decide +kernel
theorem i31_4 : gm_I cX2_isDue 4 = some (.getfield 47) := by decide +kernel
theorem i31_7 : gm_I cX2_isDue 7 = some (.ifCond .eq 5) := by decide +kernel
theorem i31_10 : gm_I cX2_isDue 10 = some (.iconst 0) := by decide +kernel
theorem i31_11 : gm_I cX2_isDue 11 = some (.ireturn) := by decide +kernel
theorem i31_12 : gm_I cX2_isDue 12 = some (.iload_n 2) := by decide +kernel
theorem i31_13 : gm_I cX2_isDue 13 = some (.iconst (-1)) := by decide +kernel
theorem i31_14 : gm_I cX2_isDue 14 = some (.if_icmp .eq 38) := by decide +kernel
theorem i31_17 : gm_I cX2_isDue 17 = some (.aload_n 1) := by decide +kernel
theorem i31_18 : gm_I cX2_isDue 18 = some (.getfield 94) := by decide +kernel
theorem i31_21 : gm_I cX2_isDue 21 = some (.iload_n 2) := by decide +kernel
theorem i31_22 : gm_I cX2_isDue 22 = some (.aaload) := by decide +kernel
theorem i31_23 : gm_I cX2_isDue 23 = some (.astore_n 3) := by decide +kernel
theorem i31_24 : gm_I cX2_isDue 24 = some (.aload_n 3) := by decide +kernel
theorem i31_25 : gm_I cX2_isDue 25 = some (.getfield 98) := by decide +kernel
theorem i31_28 : gm_I cX2_isDue 28 = some (.ifCond .ne 22) := by decide +kernel
theorem i31_31 : gm_I cX2_isDue 31 = some (.aload_n 0) := by decide +kernel
theorem i31_32 : gm_I cX2_isDue 32 = some (.getfield 12) := by decide +kernel
theorem i31_35 : gm_I cX2_isDue 35 = some (.getfield 103) := by decide +kernel
theorem i31_38 : gm_I cX2_isDue 38 = some (.aload_n 3) := by decide +kernel
theorem i31_39 : gm_I cX2_isDue 39 = some (.getfield 106) := by decide +kernel
theorem i31_42 : gm_I cX2_isDue 42 = some (.iaload) := by decide +kernel
theorem i31_43 : gm_I cX2_isDue 43 = some (.aload_n 0) := by decide +kernel
theorem i31_44 : gm_I cX2_isDue 44 = some (.getfield 64) := by decide +kernel
theorem i31_47 : gm_I cX2_isDue 47 = some (.if_icmp .ge 5) := by decide +kernel
theorem i31_50 : gm_I cX2_isDue 50 = some (.iconst 0) := by decide +kernel
theorem i31_51 : gm_I cX2_isDue 51 = some (.ireturn) := by decide +kernel
theorem i31_52 : gm_I cX2_isDue 52 = some (.lconst 1) := by decide +kernel
theorem i31_53 : gm_I cX2_isDue 53 = some (.lstore_n 3) := by decide +kernel
theorem i31_54 : gm_I cX2_isDue 54 = some (.iconst 0) := by decide +kernel
theorem i31_55 : gm_I cX2_isDue 55 = some (.istore 5) := by decide +kernel
theorem i31_57 : gm_I cX2_isDue 57 = some (.iload 5) := by decide +kernel
theorem i31_59 : gm_I cX2_isDue 59 = some (.aload_n 1) := by decide +kernel
theorem i31_60 : gm_I cX2_isDue 60 = some (.getfield 77) := by decide +kernel
theorem i31_63 : gm_I cX2_isDue 63 = some (.if_icmp .ge 44) := by decide +kernel
theorem i31_66 : gm_I cX2_isDue 66 = some (.aload_n 1) := by decide +kernel
theorem i31_67 : gm_I cX2_isDue 67 = some (.getfield 94) := by decide +kernel
theorem i31_70 : gm_I cX2_isDue 70 = some (.iload 5) := by decide +kernel
theorem i31_72 : gm_I cX2_isDue 72 = some (.aaload) := by decide +kernel
theorem i31_73 : gm_I cX2_isDue 73 = some (.getfield 98) := by decide +kernel
theorem i31_76 : gm_I cX2_isDue 76 = some (.ifCond .ne 25) := by decide +kernel
theorem i31_79 : gm_I cX2_isDue 79 = some (.lload_n 3) := by decide +kernel
theorem i31_80 : gm_I cX2_isDue 80 = some (.aload_n 0) := by decide +kernel
theorem i31_81 : gm_I cX2_isDue 81 = some (.getfield 12) := by decide +kernel
theorem i31_84 : gm_I cX2_isDue 84 = some (.getfield 109) := by decide +kernel
theorem i31_87 : gm_I cX2_isDue 87 = some (.aload_n 1) := by decide +kernel
theorem i31_88 : gm_I cX2_isDue 88 = some (.getfield 94) := by decide +kernel
theorem i31_91 : gm_I cX2_isDue 91 = some (.iload 5) := by decide +kernel
theorem i31_93 : gm_I cX2_isDue 93 = some (.aaload) := by decide +kernel
theorem i31_94 : gm_I cX2_isDue 94 = some (.getfield 106) := by decide +kernel
theorem i31_97 : gm_I cX2_isDue 97 = some (.iaload) := by decide +kernel
theorem i31_98 : gm_I cX2_isDue 98 = some (.i2l) := by decide +kernel
theorem i31_99 : gm_I cX2_isDue 99 = some (.lmul) := by decide +kernel
theorem i31_100 : gm_I cX2_isDue 100 = some (.lstore_n 3) := by decide +kernel
theorem i31_101 : gm_I cX2_isDue 101 = some (.iinc 5 1) := by decide +kernel
theorem i31_104 : gm_I cX2_isDue 104 = some (.goto (-47)) := by decide +kernel
theorem i31_107 : gm_I cX2_isDue 107 = some (.aload_n 0) := by decide +kernel
theorem i31_108 : gm_I cX2_isDue 108 = some (.getfield 12) := by decide +kernel
theorem i31_111 : gm_I cX2_isDue 111 = some (.lload_n 3) := by decide +kernel
theorem i31_112 : gm_I cX2_isDue 112 = some (.ldc2_w 112) := by decide +kernel
theorem i31_115 : gm_I cX2_isDue 115 = some (.lcmp) := by decide +kernel
theorem i31_116 : gm_I cX2_isDue 116 = some (.ifCond .le 7) := by decide +kernel
theorem i31_119 : gm_I cX2_isDue 119 = some (.iconst 1) := by decide +kernel
theorem i31_120 : gm_I cX2_isDue 120 = some (.goto 4) := by decide +kernel
theorem i31_123 : gm_I cX2_isDue 123 = some (.iconst 0) := by decide +kernel
theorem i31_124 : gm_I cX2_isDue 124 = some (.putfield 47) := by decide +kernel
theorem i31_127 : gm_I cX2_isDue 127 = some (.lload_n 3) := by decide +kernel
theorem i31_128 : gm_I cX2_isDue 128 = some (.lconst 0) := by decide +kernel
theorem i31_129 : gm_I cX2_isDue 129 = some (.lcmp) := by decide +kernel
theorem i31_130 : gm_I cX2_isDue 130 = some (.ifCond .le 17) := by decide +kernel
theorem i31_133 : gm_I cX2_isDue 133 = some (.aload_n 0) := by decide +kernel
theorem i31_134 : gm_I cX2_isDue 134 = some (.getfield 12) := by decide +kernel
theorem i31_137 : gm_I cX2_isDue 137 = some (.getfield 47) := by decide +kernel
theorem i31_140 : gm_I cX2_isDue 140 = some (.ifCond .ne 7) := by decide +kernel
theorem i31_143 : gm_I cX2_isDue 143 = some (.iconst 1) := by decide +kernel
theorem i31_144 : gm_I cX2_isDue 144 = some (.goto 4) := by decide +kernel
theorem i31_147 : gm_I cX2_isDue 147 = some (.iconst 0) := by decide +kernel
theorem i31_148 : gm_I cX2_isDue 148 = some (.ireturn) := by decide +kernel
theorem i32_0 : gm_I cX2_join 0 = some (.iload_n 2) := by decide +kernel
theorem i32_1 : gm_I cX2_join 1 = some (.aload_n 1) := by decide +kernel
theorem i32_2 : gm_I cX2_join 2 = some (.getfield 77) := by decide +kernel
theorem i32_5 : gm_I cX2_join 5 = some (.if_icmp .lt 45) := by decide +kernel
theorem i32_8 : gm_I cX2_join 8 = some (.aload_n 1) := by decide +kernel
theorem i32_9 : gm_I cX2_join 9 = some (.getfield 114) := by decide +kernel
theorem i32_12 : gm_I cX2_join 12 = some (.astore_n 3) := by decide +kernel
theorem i32_13 : gm_I cX2_join 13 = some (.aload_n 0) := by decide +kernel
theorem i32_14 : gm_I cX2_join 14 = some (.getfield 12) := by decide +kernel
theorem i32_17 : gm_I cX2_join 17 = some (.aload_n 3) := by decide +kernel
theorem i32_18 : gm_I cX2_join 18 = some (.getfield 106) := by decide +kernel
theorem i32_21 : gm_I cX2_join 21 = some (.aload_n 0) := by decide +kernel
theorem i32_22 : gm_I cX2_join 22 = some (.aload_n 3) := by decide +kernel
theorem i32_23 : gm_I cX2_join 23 = some (.getfield 118) := by decide +kernel
theorem i32_26 : gm_I cX2_join 26 = some (.invokevirtual 121) := by decide +kernel
theorem i32_29 : gm_I cX2_join 29 = some (.aload_n 0) := by decide +kernel
theorem i32_30 : gm_I cX2_join 30 = some (.aload_n 3) := by decide +kernel
theorem i32_31 : gm_I cX2_join 31 = some (.getfield 125) := by decide +kernel
theorem i32_34 : gm_I cX2_join 34 = some (.invokevirtual 121) := by decide +kernel
theorem i32_37 : gm_I cX2_join 37 = some (.aload_n 0) := by decide +kernel
theorem i32_38 : gm_I cX2_join 38 = some (.aload_n 3) := by decide +kernel
theorem i32_39 : gm_I cX2_join 39 = some (.getfield 128) := by decide +kernel
theorem i32_42 : gm_I cX2_join 42 = some (.invokevirtual 121) := by decide +kernel
theorem i32_45 : gm_I cX2_join 45 = some (.invokevirtual 57) := by decide +kernel
theorem i32_48 : gm_I cX2_join 48 = some (.iconst 1) := by decide +kernel
theorem i32_49 : gm_I cX2_join 49 = some (.ireturn) := by decide +kernel
theorem i32_50 : gm_I cX2_join 50 = some (.aload_n 1) := by decide +kernel
theorem i32_51 : gm_I cX2_join 51 = some (.getfield 94) := by decide +kernel
theorem i32_54 : gm_I cX2_join 54 = some (.iload_n 2) := by decide +kernel
theorem i32_55 : gm_I cX2_join 55 = some (.aaload) := by decide +kernel
theorem i32_56 : gm_I cX2_join 56 = some (.astore_n 3) := by decide +kernel
theorem i32_57 : gm_I cX2_join 57 = some (.aload_n 3) := by decide +kernel
theorem i32_58 : gm_I cX2_join 58 = some (.getfield 98) := by decide +kernel
theorem i32_61 : gm_I cX2_join 61 = some (.iconst 2) := by decide +kernel
theorem i32_62 : gm_I cX2_join 62 = some (.if_icmp .ne 39) := by decide +kernel
theorem i32_65 : gm_I cX2_join 65 = some (.aload_n 0) := by decide +kernel
theorem i32_66 : gm_I cX2_join 66 = some (.aload_n 3) := by decide +kernel
theorem i32_67 : gm_I cX2_join 67 = some (.getfield 118) := by decide +kernel
theorem i32_70 : gm_I cX2_join 70 = some (.invokevirtual 121) := by decide +kernel
theorem i32_73 : gm_I cX2_join 73 = some (.aload_n 0) := by decide +kernel
theorem i32_74 : gm_I cX2_join 74 = some (.aload_n 3) := by decide +kernel
theorem i32_75 : gm_I cX2_join 75 = some (.getfield 125) := by decide +kernel
theorem i32_78 : gm_I cX2_join 78 = some (.invokevirtual 121) := by decide +kernel
theorem i32_81 : gm_I cX2_join 81 = some (.if_icmp .eq 18) := by decide +kernel
theorem i32_84 : gm_I cX2_join 84 = some (.aload_n 0) := by decide +kernel
theorem i32_85 : gm_I cX2_join 85 = some (.aload_n 1) := by decide +kernel
theorem i32_86 : gm_I cX2_join 86 = some (.iload_n 2) := by decide +kernel
theorem i32_87 : gm_I cX2_join 87 = some (.iconst 1) := by decide +kernel
theorem i32_88 : gm_I cX2_join 88 = some (.iadd) := by decide +kernel
theorem i32_89 : gm_I cX2_join 89 = some (.invokevirtual 87) := by decide +kernel
theorem i32_92 : gm_I cX2_join 92 = some (.ifCond .eq 7) := by decide +kernel
theorem i32_95 : gm_I cX2_join 95 = some (.iconst 1) := by decide +kernel
theorem i32_96 : gm_I cX2_join 96 = some (.goto 4) := by decide +kernel
theorem i32_99 : gm_I cX2_join 99 = some (.iconst 0) := by decide +kernel
theorem i32_100 : gm_I cX2_join 100 = some (.ireturn) := by decide +kernel
theorem i32_101 : gm_I cX2_join 101 = some (.aload_n 3) := by decide +kernel
theorem i32_102 : gm_I cX2_join 102 = some (.getfield 131) := by decide +kernel
theorem i32_105 : gm_I cX2_join 105 = some (.ifCond .ne 10) := by decide +kernel
theorem i32_108 : gm_I cX2_join 108 = some (.aload_n 0) := by decide +kernel
theorem i32_109 : gm_I cX2_join 109 = some (.aload_n 1) := by decide +kernel
theorem i32_110 : gm_I cX2_join 110 = some (.iload_n 2) := by decide +kernel
theorem i32_111 : gm_I cX2_join 111 = some (.invokevirtual 134) := by decide +kernel
theorem i32_114 : gm_I cX2_join 114 = some (.ireturn) := by decide +kernel
theorem i32_115 : gm_I cX2_join 115 = some (.aload_n 0) := by decide +kernel
theorem i32_116 : gm_I cX2_join 116 = some (.getfield 12) := by decide +kernel
theorem i32_119 : gm_I cX2_join 119 = some (.aload_n 3) := by decide +kernel
theorem i32_120 : gm_I cX2_join 120 = some (.getfield 106) := by decide +kernel
theorem i32_123 : gm_I cX2_join 123 = some (.aload_n 0) := by decide +kernel
theorem i32_124 : gm_I cX2_join 124 = some (.aload_n 3) := by decide +kernel
theorem i32_125 : gm_I cX2_join 125 = some (.getfield 118) := by decide +kernel
theorem i32_128 : gm_I cX2_join 128 = some (.invokevirtual 121) := by decide +kernel
theorem i32_131 : gm_I cX2_join 131 = some (.aload_n 0) := by decide +kernel
theorem i32_132 : gm_I cX2_join 132 = some (.aload_n 3) := by decide +kernel
theorem i32_133 : gm_I cX2_join 133 = some (.getfield 125) := by decide +kernel
theorem i32_136 : gm_I cX2_join 136 = some (.invokevirtual 121) := by decide +kernel
theorem i32_139 : gm_I cX2_join 139 = some (.aload_n 0) := by decide +kernel
theorem i32_140 : gm_I cX2_join 140 = some (.aload_n 3) := by decide +kernel
theorem i32_141 : gm_I cX2_join 141 = some (.getfield 128) := by decide +kernel
theorem i32_144 : gm_I cX2_join 144 = some (.invokevirtual 121) := by decide +kernel
theorem i32_147 : gm_I cX2_join 147 = some (.invokevirtual 137) := by decide +kernel
theorem i32_150 : gm_I cX2_join 150 = some (.istore 4) := by decide +kernel
theorem i32_152 : gm_I cX2_join 152 = some (.aload_n 3) := by decide +kernel
theorem i32_153 : gm_I cX2_join 153 = some (.getfield 98) := by decide +kernel
theorem i32_156 : gm_I cX2_join 156 = some (.iconst 1) := by decide +kernel
theorem i32_157 : gm_I cX2_join 157 = some (.if_icmp .ne 25) := by decide +kernel
theorem i32_160 : gm_I cX2_join 160 = some (.iload 4) := by decide +kernel
theorem i32_162 : gm_I cX2_join 162 = some (.ifCond .ne 18) := by decide +kernel
theorem i32_165 : gm_I cX2_join 165 = some (.aload_n 0) := by decide +kernel
theorem i32_166 : gm_I cX2_join 166 = some (.aload_n 1) := by decide +kernel
theorem i32_167 : gm_I cX2_join 167 = some (.iload_n 2) := by decide +kernel
theorem i32_168 : gm_I cX2_join 168 = some (.iconst 1) := by decide +kernel
theorem i32_169 : gm_I cX2_join 169 = some (.iadd) := by decide +kernel
theorem i32_170 : gm_I cX2_join 170 = some (.invokevirtual 87) := by decide +kernel
theorem i32_173 : gm_I cX2_join 173 = some (.ifCond .eq 7) := by decide +kernel
theorem i32_176 : gm_I cX2_join 176 = some (.iconst 1) := by decide +kernel
theorem i32_177 : gm_I cX2_join 177 = some (.goto 4) := by decide +kernel
theorem i32_180 : gm_I cX2_join 180 = some (.iconst 0) := by decide +kernel
theorem i32_181 : gm_I cX2_join 181 = some (.ireturn) := by decide +kernel
theorem i32_182 : gm_I cX2_join 182 = some (.iload 4) := by decide +kernel
theorem i32_184 : gm_I cX2_join 184 = some (.aload_n 0) := by decide +kernel
theorem i32_185 : gm_I cX2_join 185 = some (.iload_n 2) := by decide +kernel
theorem i32_186 : gm_I cX2_join 186 = some (.invokevirtual 141) := by decide +kernel
theorem i32_189 : gm_I cX2_join 189 = some (.if_icmp .lt 28) := by decide +kernel
theorem i32_192 : gm_I cX2_join 192 = some (.iload 4) := by decide +kernel
theorem i32_194 : gm_I cX2_join 194 = some (.aload_n 0) := by decide +kernel
theorem i32_195 : gm_I cX2_join 195 = some (.iload_n 2) := by decide +kernel
theorem i32_196 : gm_I cX2_join 196 = some (.invokevirtual 144) := by decide +kernel
theorem i32_199 : gm_I cX2_join 199 = some (.if_icmp .gt 18) := by decide +kernel
theorem i32_202 : gm_I cX2_join 202 = some (.aload_n 0) := by decide +kernel
theorem i32_203 : gm_I cX2_join 203 = some (.aload_n 1) := by decide +kernel
theorem i32_204 : gm_I cX2_join 204 = some (.iload_n 2) := by decide +kernel
theorem i32_205 : gm_I cX2_join 205 = some (.iconst 1) := by decide +kernel
theorem i32_206 : gm_I cX2_join 206 = some (.iadd) := by decide +kernel
theorem i32_207 : gm_I cX2_join 207 = some (.invokevirtual 87) := by decide +kernel
theorem i32_210 : gm_I cX2_join 210 = some (.ifCond .eq 7) := by decide +kernel
theorem i32_213 : gm_I cX2_join 213 = some (.iconst 1) := by decide +kernel
theorem i32_214 : gm_I cX2_join 214 = some (.goto 4) := by decide +kernel
theorem i32_217 : gm_I cX2_join 217 = some (.iconst 0) := by decide +kernel
theorem i32_218 : gm_I cX2_join 218 = some (.ireturn) := by decide +kernel
theorem i33_0 : gm_I cX2_joinEach 0 = some (.aload_n 1) := by decide +kernel
theorem i33_1 : gm_I cX2_joinEach 1 = some (.getfield 94) := by decide +kernel
theorem i33_4 : gm_I cX2_joinEach 4 = some (.iload_n 2) := by decide +kernel
theorem i33_5 : gm_I cX2_joinEach 5 = some (.aaload) := by decide +kernel
theorem i33_6 : gm_I cX2_joinEach 6 = some (.astore_n 3) := by decide +kernel
theorem i33_7 : gm_I cX2_joinEach 7 = some (.aload_n 0) := by decide +kernel
theorem i33_8 : gm_I cX2_joinEach 8 = some (.iload_n 2) := by decide +kernel
theorem i33_9 : gm_I cX2_joinEach 9 = some (.invokevirtual 141) := by decide +kernel
theorem i33_12 : gm_I cX2_joinEach 12 = some (.istore 4) := by decide +kernel
theorem i33_14 : gm_I cX2_joinEach 14 = some (.aload_n 0) := by decide +kernel
theorem i33_15 : gm_I cX2_joinEach 15 = some (.iload_n 2) := by decide +kernel
theorem i33_16 : gm_I cX2_joinEach 16 = some (.invokevirtual 144) := by decide +kernel
theorem i33_19 : gm_I cX2_joinEach 19 = some (.istore 5) := by decide +kernel
theorem i33_21 : gm_I cX2_joinEach 21 = some (.iconst 0) := by decide +kernel
theorem i33_22 : gm_I cX2_joinEach 22 = some (.istore 6) := by decide +kernel
theorem i33_24 : gm_I cX2_joinEach 24 = some (.aload_n 0) := by decide +kernel
theorem i33_25 : gm_I cX2_joinEach 25 = some (.getfield 12) := by decide +kernel
theorem i33_28 : gm_I cX2_joinEach 28 = some (.getfield 103) := by decide +kernel
theorem i33_31 : gm_I cX2_joinEach 31 = some (.aload_n 3) := by decide +kernel
theorem i33_32 : gm_I cX2_joinEach 32 = some (.getfield 106) := by decide +kernel
theorem i33_35 : gm_I cX2_joinEach 35 = some (.iaload) := by decide +kernel
theorem i33_36 : gm_I cX2_joinEach 36 = some (.istore 7) := by decide +kernel
theorem i33_38 : gm_I cX2_joinEach 38 = some (.iload 7) := by decide +kernel
theorem i33_40 : gm_I cX2_joinEach 40 = some (.iload 4) := by decide +kernel
theorem i33_42 : gm_I cX2_joinEach 42 = some (.if_icmp .lt 133) := by decide +kernel
theorem i33_45 : gm_I cX2_joinEach 45 = some (.iload 7) := by decide +kernel
theorem i33_47 : gm_I cX2_joinEach 47 = some (.iload 5) := by decide +kernel
theorem i33_49 : gm_I cX2_joinEach 49 = some (.if_icmp .gt 111) := by decide +kernel
theorem i33_52 : gm_I cX2_joinEach 52 = some (.aload_n 0) := by decide +kernel
theorem i33_53 : gm_I cX2_joinEach 53 = some (.aload_n 3) := by decide +kernel
theorem i33_54 : gm_I cX2_joinEach 54 = some (.getfield 118) := by decide +kernel
theorem i33_57 : gm_I cX2_joinEach 57 = some (.aload_n 0) := by decide +kernel
theorem i33_58 : gm_I cX2_joinEach 58 = some (.getfield 12) := by decide +kernel
theorem i33_61 : gm_I cX2_joinEach 61 = some (.getfield 147) := by decide +kernel
theorem i33_64 : gm_I cX2_joinEach 64 = some (.iload 7) := by decide +kernel
theorem i33_66 : gm_I cX2_joinEach 66 = some (.iaload) := by decide +kernel
theorem i33_67 : gm_I cX2_joinEach 67 = some (.aload_n 1) := by decide +kernel
theorem i33_68 : gm_I cX2_joinEach 68 = some (.getfield 149) := by decide +kernel
theorem i33_71 : gm_I cX2_joinEach 71 = some (.invokevirtual 152) := by decide +kernel
theorem i33_74 : gm_I cX2_joinEach 74 = some (.ifCond .eq 86) := by decide +kernel
theorem i33_77 : gm_I cX2_joinEach 77 = some (.aload_n 0) := by decide +kernel
theorem i33_78 : gm_I cX2_joinEach 78 = some (.aload_n 3) := by decide +kernel
theorem i33_79 : gm_I cX2_joinEach 79 = some (.getfield 125) := by decide +kernel
theorem i33_82 : gm_I cX2_joinEach 82 = some (.aload_n 0) := by decide +kernel
theorem i33_83 : gm_I cX2_joinEach 83 = some (.getfield 12) := by decide +kernel
theorem i33_86 : gm_I cX2_joinEach 86 = some (.getfield 156) := by decide +kernel
theorem i33_89 : gm_I cX2_joinEach 89 = some (.iload 7) := by decide +kernel
theorem i33_91 : gm_I cX2_joinEach 91 = some (.iaload) := by decide +kernel
theorem i33_92 : gm_I cX2_joinEach 92 = some (.aload_n 1) := by decide +kernel
theorem i33_93 : gm_I cX2_joinEach 93 = some (.getfield 149) := by decide +kernel
theorem i33_96 : gm_I cX2_joinEach 96 = some (.invokevirtual 152) := by decide +kernel
theorem i33_99 : gm_I cX2_joinEach 99 = some (.ifCond .eq 61) := by decide +kernel
theorem i33_102 : gm_I cX2_joinEach 102 = some (.aload_n 0) := by decide +kernel
theorem i33_103 : gm_I cX2_joinEach 103 = some (.aload_n 3) := by decide +kernel
theorem i33_104 : gm_I cX2_joinEach 104 = some (.getfield 128) := by decide +kernel
theorem i33_107 : gm_I cX2_joinEach 107 = some (.aload_n 0) := by decide +kernel
theorem i33_108 : gm_I cX2_joinEach 108 = some (.getfield 12) := by decide +kernel
theorem i33_111 : gm_I cX2_joinEach 111 = some (.getfield 158) := by decide +kernel
theorem i33_114 : gm_I cX2_joinEach 114 = some (.iload 7) := by decide +kernel
theorem i33_116 : gm_I cX2_joinEach 116 = some (.iaload) := by decide +kernel
theorem i33_117 : gm_I cX2_joinEach 117 = some (.aload_n 1) := by decide +kernel
theorem i33_118 : gm_I cX2_joinEach 118 = some (.getfield 149) := by decide +kernel
theorem i33_121 : gm_I cX2_joinEach 121 = some (.invokevirtual 152) := by decide +kernel
theorem i33_124 : gm_I cX2_joinEach 124 = some (.ifCond .eq 36) := by decide +kernel
theorem i33_127 : gm_I cX2_joinEach 127 = some (.aload_n 0) := by decide +kernel
theorem i33_128 : gm_I cX2_joinEach 128 = some (.aload_n 1) := by decide +kernel
theorem i33_129 : gm_I cX2_joinEach 129 = some (.iload_n 2) := by decide +kernel
theorem i33_130 : gm_I cX2_joinEach 130 = some (.iconst 1) := by decide +kernel
theorem i33_131 : gm_I cX2_joinEach 131 = some (.iadd) := by decide +kernel
theorem i33_132 : gm_I cX2_joinEach 132 = some (.invokevirtual 87) := by decide +kernel
theorem i33_135 : gm_I cX2_joinEach 135 = some (.ifCond .eq 25) := by decide +kernel
theorem i33_138 : gm_I cX2_joinEach 138 = some (.aload_n 3) := by decide +kernel
theorem i33_139 : gm_I cX2_joinEach 139 = some (.getfield 160) := by decide +kernel
theorem i33_142 : gm_I cX2_joinEach 142 = some (.ifCond .ne 13) := by decide +kernel
theorem i33_145 : gm_I cX2_joinEach 145 = some (.aload_n 0) := by decide +kernel
theorem i33_146 : gm_I cX2_joinEach 146 = some (.getfield 12) := by decide +kernel
theorem i33_149 : gm_I cX2_joinEach 149 = some (.getfield 47) := by decide +kernel
theorem i33_152 : gm_I cX2_joinEach 152 = some (.ifCond .eq 5) := by decide +kernel
theorem i33_155 : gm_I cX2_joinEach 155 = some (.iconst 1) := by decide +kernel
theorem i33_156 : gm_I cX2_joinEach 156 = some (.ireturn) := by decide +kernel
theorem i33_157 : gm_I cX2_joinEach 157 = some (.iconst 1) := by decide +kernel
theorem i33_158 : gm_I cX2_joinEach 158 = some (.istore 6) := by decide +kernel
theorem i33_160 : gm_I cX2_joinEach 160 = some (.aload_n 0) := by decide +kernel
theorem i33_161 : gm_I cX2_joinEach 161 = some (.getfield 12) := by decide +kernel
theorem i33_164 : gm_I cX2_joinEach 164 = some (.getfield 163) := by decide +kernel
theorem i33_167 : gm_I cX2_joinEach 167 = some (.iload 7) := by decide +kernel
theorem i33_169 : gm_I cX2_joinEach 169 = some (.iaload) := by decide +kernel
theorem i33_170 : gm_I cX2_joinEach 170 = some (.istore 7) := by decide +kernel
theorem i33_172 : gm_I cX2_joinEach 172 = some (.goto (-134)) := by decide +kernel
theorem i33_175 : gm_I cX2_joinEach 175 = some (.iload 6) := by decide +kernel
theorem i33_177 : gm_I cX2_joinEach 177 = some (.ireturn) := by decide +kernel
theorem i34_0 : gm_I cX2_lowest 0 = some (.iload_n 1) := by decide +kernel
theorem i34_1 : gm_I cX2_lowest 1 = some (.aload_n 0) := by decide +kernel
theorem i34_2 : gm_I cX2_lowest 2 = some (.getfield 84) := by decide +kernel
theorem i34_5 : gm_I cX2_lowest 5 = some (.if_icmp .ne 10) := by decide +kernel
theorem i34_8 : gm_I cX2_lowest 8 = some (.aload_n 0) := by decide +kernel
theorem i34_9 : gm_I cX2_lowest 9 = some (.getfield 64) := by decide +kernel
theorem i34_12 : gm_I cX2_lowest 12 = some (.goto 4) := by decide +kernel
theorem i34_15 : gm_I cX2_lowest 15 = some (.iconst 1) := by decide +kernel
theorem i34_16 : gm_I cX2_lowest 16 = some (.ireturn) := by decide +kernel
theorem i35_0 : gm_I cX2_highest 0 = some (.iload_n 1) := by decide +kernel
theorem i35_1 : gm_I cX2_highest 1 = some (.aload_n 0) := by decide +kernel
theorem i35_2 : gm_I cX2_highest 2 = some (.getfield 84) := by decide +kernel
theorem i35_5 : gm_I cX2_highest 5 = some (.if_icmp .ge 12) := by decide +kernel
theorem i35_8 : gm_I cX2_highest 8 = some (.aload_n 0) := by decide +kernel
theorem i35_9 : gm_I cX2_highest 9 = some (.getfield 64) := by decide +kernel
theorem i35_12 : gm_I cX2_highest 12 = some (.iconst 1) := by decide +kernel
theorem i35_13 : gm_I cX2_highest 13 = some (.isub) := by decide +kernel
theorem i35_14 : gm_I cX2_highest 14 = some (.goto 7) := by decide +kernel
theorem i35_17 : gm_I cX2_highest 17 = some (.aload_n 0) := by decide +kernel
theorem i35_18 : gm_I cX2_highest 18 = some (.getfield 67) := by decide +kernel
theorem i35_21 : gm_I cX2_highest 21 = some (.ireturn) := by decide +kernel
theorem i36_0 : gm_I cX2_fill 0 = some (.iload_n 1) := by decide +kernel
theorem i36_1 : gm_I cX2_fill 1 = some (.bipush 21) := by decide +kernel
theorem i36_3 : gm_I cX2_fill 3 = some (.iushr) := by decide +kernel
theorem i36_4 : gm_I cX2_fill 4 = some (.istore_n 2) := by decide +kernel
theorem i36_5 : gm_I cX2_fill 5 = some (.iload_n 2) := by decide +kernel
theorem i36_6 : gm_I cX2_fill 6 = some (.bipush 12) := by decide +kernel
theorem i36_8 : gm_I cX2_fill 8 = some (.if_icmp .gt 10) := by decide +kernel
theorem i36_11 : gm_I cX2_fill 11 = some (.aload_n 0) := by decide +kernel
theorem i36_12 : gm_I cX2_fill 12 = some (.getfield 20) := by decide +kernel
theorem i36_15 : gm_I cX2_fill 15 = some (.iload_n 2) := by decide +kernel
theorem i36_16 : gm_I cX2_fill 16 = some (.iaload) := by decide +kernel
theorem i36_17 : gm_I cX2_fill 17 = some (.ireturn) := by decide +kernel
theorem i36_18 : gm_I cX2_fill 18 = some (.iload_n 1) := by decide +kernel
theorem i36_19 : gm_I cX2_fill 19 = some (.istore_n 3) := by decide +kernel
theorem i36_20 : gm_I cX2_fill 20 = some (.bipush 14) := by decide +kernel
theorem i36_22 : gm_I cX2_fill 22 = some (.istore 4) := by decide +kernel
theorem i36_24 : gm_I cX2_fill 24 = some (.iload 4) := by decide +kernel
theorem i36_26 : gm_I cX2_fill 26 = some (.ifCond .lt 51) := by decide +kernel
theorem i36_29 : gm_I cX2_fill 29 = some (.iload_n 1) := by decide +kernel
theorem i36_30 : gm_I cX2_fill 30 = some (.ldc 166) := by decide +kernel
theorem i36_32 : gm_I cX2_fill 32 = some (.iand) := by decide +kernel
theorem i36_33 : gm_I cX2_fill 33 = some (.ifCond .eq 44) := by decide +kernel
theorem i36_36 : gm_I cX2_fill 36 = some (.iload_n 1) := by decide +kernel
theorem i36_37 : gm_I cX2_fill 37 = some (.iload 4) := by decide +kernel
theorem i36_39 : gm_I cX2_fill 39 = some (.iushr) := by decide +kernel
theorem i36_40 : gm_I cX2_fill 40 = some (.bipush 127) := by decide +kernel
theorem i36_42 : gm_I cX2_fill 42 = some (.iand) := by decide +kernel
theorem i36_43 : gm_I cX2_fill 43 = some (.istore 5) := by decide +kernel
theorem i36_45 : gm_I cX2_fill 45 = some (.iload 5) := by decide +kernel
theorem i36_47 : gm_I cX2_fill 47 = some (.bipush 12) := by decide +kernel
theorem i36_49 : gm_I cX2_fill 49 = some (.if_icmp .gt 22) := by decide +kernel
theorem i36_52 : gm_I cX2_fill 52 = some (.iload_n 3) := by decide +kernel
theorem i36_53 : gm_I cX2_fill 53 = some (.aload_n 0) := by decide +kernel
theorem i36_54 : gm_I cX2_fill 54 = some (.getfield 20) := by decide +kernel
theorem i36_57 : gm_I cX2_fill 57 = some (.iload 5) := by decide +kernel
theorem i36_59 : gm_I cX2_fill 59 = some (.iaload) := by decide +kernel
theorem i36_60 : gm_I cX2_fill 60 = some (.bipush 21) := by decide +kernel
theorem i36_62 : gm_I cX2_fill 62 = some (.iushr) := by decide +kernel
theorem i36_63 : gm_I cX2_fill 63 = some (.iload 5) := by decide +kernel
theorem i36_65 : gm_I cX2_fill 65 = some (.isub) := by decide +kernel
theorem i36_66 : gm_I cX2_fill 66 = some (.iload 4) := by decide +kernel
theorem i36_68 : gm_I cX2_fill 68 = some (.ishl) := by decide +kernel
theorem i36_69 : gm_I cX2_fill 69 = some (.iadd) := by decide +kernel
theorem i36_70 : gm_I cX2_fill 70 = some (.istore_n 3) := by decide +kernel
theorem i36_71 : gm_I cX2_fill 71 = some (.iinc 4 (-7)) := by decide +kernel
theorem i36_74 : gm_I cX2_fill 74 = some (.goto (-50)) := by decide +kernel
theorem i36_77 : gm_I cX2_fill 77 = some (.iload_n 3) := by decide +kernel
theorem i36_78 : gm_I cX2_fill 78 = some (.ireturn) := by decide +kernel
theorem i37_0 : gm_I cX2_fits 0 = some (.iload_n 1) := by decide +kernel
theorem i37_1 : gm_I cX2_fits 1 = some (.iload_n 2) := by decide +kernel
theorem i37_2 : gm_I cX2_fits 2 = some (.if_icmp .ne 5) := by decide +kernel
theorem i37_5 : gm_I cX2_fits 5 = some (.iconst 1) := by decide +kernel
theorem i37_6 : gm_I cX2_fits 6 = some (.ireturn) := by decide +kernel
theorem i37_7 : gm_I cX2_fits 7 = some (.iload_n 1) := by decide +kernel
theorem i37_8 : gm_I cX2_fits 8 = some (.bipush 21) := by decide +kernel
theorem i37_10 : gm_I cX2_fits 10 = some (.iushr) := by decide +kernel
theorem i37_11 : gm_I cX2_fits 11 = some (.istore 4) := by decide +kernel
theorem i37_13 : gm_I cX2_fits 13 = some (.iload 4) := by decide +kernel
theorem i37_15 : gm_I cX2_fits 15 = some (.bipush 6) := by decide +kernel
theorem i37_17 : gm_I cX2_fits 17 = some (.if_icmp .gt 38) := by decide +kernel
theorem i37_20 : gm_I cX2_fits 20 = some (.aload_n 0) := by decide +kernel
theorem i37_21 : gm_I cX2_fits 21 = some (.getfield 20) := by decide +kernel
theorem i37_24 : gm_I cX2_fits 24 = some (.iload 4) := by decide +kernel
theorem i37_26 : gm_I cX2_fits 26 = some (.bipush 6) := by decide +kernel
theorem i37_28 : gm_I cX2_fits 28 = some (.iadd) := by decide +kernel
theorem i37_29 : gm_I cX2_fits 29 = some (.iload_n 2) := by decide +kernel
theorem i37_30 : gm_I cX2_fits 30 = some (.iastore) := by decide +kernel
theorem i37_31 : gm_I cX2_fits 31 = some (.iload_n 3) := by decide +kernel
theorem i37_32 : gm_I cX2_fits 32 = some (.iconst 1) := by decide +kernel
theorem i37_33 : gm_I cX2_fits 33 = some (.iload 4) := by decide +kernel
theorem i37_35 : gm_I cX2_fits 35 = some (.iconst 1) := by decide +kernel
theorem i37_36 : gm_I cX2_fits 36 = some (.isub) := by decide +kernel
theorem i37_37 : gm_I cX2_fits 37 = some (.ishl) := by decide +kernel
theorem i37_38 : gm_I cX2_fits 38 = some (.iand) := by decide +kernel
theorem i37_39 : gm_I cX2_fits 39 = some (.ifCond .eq 10) := by decide +kernel
theorem i37_42 : gm_I cX2_fits 42 = some (.iload_n 2) := by decide +kernel
theorem i37_43 : gm_I cX2_fits 43 = some (.ldc 166) := by decide +kernel
theorem i37_45 : gm_I cX2_fits 45 = some (.iand) := by decide +kernel
theorem i37_46 : gm_I cX2_fits 46 = some (.ifCond .ne 7) := by decide +kernel
theorem i37_49 : gm_I cX2_fits 49 = some (.iconst 1) := by decide +kernel
theorem i37_50 : gm_I cX2_fits 50 = some (.goto 4) := by decide +kernel
theorem i37_53 : gm_I cX2_fits 53 = some (.iconst 0) := by decide +kernel
theorem i37_54 : gm_I cX2_fits 54 = some (.ireturn) := by decide +kernel
theorem i37_55 : gm_I cX2_fits 55 = some (.iload 4) := by decide +kernel
theorem i37_57 : gm_I cX2_fits 57 = some (.bipush 12) := by decide +kernel
theorem i37_59 : gm_I cX2_fits 59 = some (.if_icmp .gt 20) := by decide +kernel
theorem i37_62 : gm_I cX2_fits 62 = some (.aload_n 0) := by decide +kernel
theorem i37_63 : gm_I cX2_fits 63 = some (.getfield 20) := by decide +kernel
theorem i37_66 : gm_I cX2_fits 66 = some (.iload 4) := by decide +kernel
theorem i37_68 : gm_I cX2_fits 68 = some (.iaload) := by decide +kernel
theorem i37_69 : gm_I cX2_fits 69 = some (.iload_n 2) := by decide +kernel
theorem i37_70 : gm_I cX2_fits 70 = some (.if_icmp .ne 7) := by decide +kernel
theorem i37_73 : gm_I cX2_fits 73 = some (.iconst 1) := by decide +kernel
theorem i37_74 : gm_I cX2_fits 74 = some (.goto 4) := by decide +kernel
theorem i37_77 : gm_I cX2_fits 77 = some (.iconst 0) := by decide +kernel
theorem i37_78 : gm_I cX2_fits 78 = some (.ireturn) := by decide +kernel
theorem i37_79 : gm_I cX2_fits 79 = some (.iload 4) := by decide +kernel
theorem i37_81 : gm_I cX2_fits 81 = some (.iload_n 2) := by decide +kernel
theorem i37_82 : gm_I cX2_fits 82 = some (.bipush 21) := by decide +kernel
theorem i37_84 : gm_I cX2_fits 84 = some (.iushr) := by decide +kernel
theorem i37_85 : gm_I cX2_fits 85 = some (.if_icmp .ne 7) := by decide +kernel
theorem i37_88 : gm_I cX2_fits 88 = some (.iconst 1) := by decide +kernel
theorem i37_89 : gm_I cX2_fits 89 = some (.goto 4) := by decide +kernel
theorem i37_92 : gm_I cX2_fits 92 = some (.iconst 0) := by decide +kernel
theorem i37_93 : gm_I cX2_fits 93 = some (.istore 5) := by decide +kernel
theorem i37_95 : gm_I cX2_fits 95 = some (.bipush 14) := by decide +kernel
theorem i37_97 : gm_I cX2_fits 97 = some (.istore 6) := by decide +kernel
theorem i37_99 : gm_I cX2_fits 99 = some (.iload 6) := by decide +kernel
theorem i37_101 : gm_I cX2_fits 101 = some (.ifCond .lt 113) := by decide +kernel
theorem i37_104 : gm_I cX2_fits 104 = some (.iload 5) := by decide +kernel
theorem i37_106 : gm_I cX2_fits 106 = some (.ifCond .eq 108) := by decide +kernel
theorem i37_109 : gm_I cX2_fits 109 = some (.iload_n 1) := by decide +kernel
theorem i37_110 : gm_I cX2_fits 110 = some (.iload 6) := by decide +kernel
theorem i37_112 : gm_I cX2_fits 112 = some (.iushr) := by decide +kernel
theorem i37_113 : gm_I cX2_fits 113 = some (.bipush 127) := by decide +kernel
theorem i37_115 : gm_I cX2_fits 115 = some (.iand) := by decide +kernel
theorem i37_116 : gm_I cX2_fits 116 = some (.istore 7) := by decide +kernel
theorem i37_118 : gm_I cX2_fits 118 = some (.iload_n 2) := by decide +kernel
theorem i37_119 : gm_I cX2_fits 119 = some (.iload 6) := by decide +kernel
theorem i37_121 : gm_I cX2_fits 121 = some (.iushr) := by decide +kernel
theorem i37_122 : gm_I cX2_fits 122 = some (.bipush 127) := by decide +kernel
theorem i37_124 : gm_I cX2_fits 124 = some (.iand) := by decide +kernel
theorem i37_125 : gm_I cX2_fits 125 = some (.istore 8) := by decide +kernel
theorem i37_127 : gm_I cX2_fits 127 = some (.iload 7) := by decide +kernel
theorem i37_129 : gm_I cX2_fits 129 = some (.ifCond .eq 15) := by decide +kernel
theorem i37_132 : gm_I cX2_fits 132 = some (.iload 8) := by decide +kernel
theorem i37_134 : gm_I cX2_fits 134 = some (.ifCond .eq 10) := by decide +kernel
theorem i37_137 : gm_I cX2_fits 137 = some (.iload 7) := by decide +kernel
theorem i37_139 : gm_I cX2_fits 139 = some (.bipush 12) := by decide +kernel
theorem i37_141 : gm_I cX2_fits 141 = some (.if_icmp .le 20) := by decide +kernel
theorem i37_144 : gm_I cX2_fits 144 = some (.iload 7) := by decide +kernel
theorem i37_146 : gm_I cX2_fits 146 = some (.iload 8) := by decide +kernel
theorem i37_148 : gm_I cX2_fits 148 = some (.if_icmp .ne 7) := by decide +kernel
theorem i37_151 : gm_I cX2_fits 151 = some (.iconst 1) := by decide +kernel
theorem i37_152 : gm_I cX2_fits 152 = some (.goto 4) := by decide +kernel
theorem i37_155 : gm_I cX2_fits 155 = some (.iconst 0) := by decide +kernel
theorem i37_156 : gm_I cX2_fits 156 = some (.istore 5) := by decide +kernel
theorem i37_158 : gm_I cX2_fits 158 = some (.goto 50) := by decide +kernel
theorem i37_161 : gm_I cX2_fits 161 = some (.iload 7) := by decide +kernel
theorem i37_163 : gm_I cX2_fits 163 = some (.bipush 6) := by decide +kernel
theorem i37_165 : gm_I cX2_fits 165 = some (.if_icmp .gt 21) := by decide +kernel
theorem i37_168 : gm_I cX2_fits 168 = some (.aload_n 0) := by decide +kernel
theorem i37_169 : gm_I cX2_fits 169 = some (.getfield 20) := by decide +kernel
theorem i37_172 : gm_I cX2_fits 172 = some (.iload 7) := by decide +kernel
theorem i37_174 : gm_I cX2_fits 174 = some (.bipush 6) := by decide +kernel
theorem i37_176 : gm_I cX2_fits 176 = some (.iadd) := by decide +kernel
theorem i37_177 : gm_I cX2_fits 177 = some (.iload 8) := by decide +kernel
theorem i37_179 : gm_I cX2_fits 179 = some (.bipush 21) := by decide +kernel
theorem i37_181 : gm_I cX2_fits 181 = some (.ishl) := by decide +kernel
theorem i37_182 : gm_I cX2_fits 182 = some (.iastore) := by decide +kernel
theorem i37_183 : gm_I cX2_fits 183 = some (.goto 25) := by decide +kernel
theorem i37_186 : gm_I cX2_fits 186 = some (.aload_n 0) := by decide +kernel
theorem i37_187 : gm_I cX2_fits 187 = some (.getfield 20) := by decide +kernel
theorem i37_190 : gm_I cX2_fits 190 = some (.iload 7) := by decide +kernel
theorem i37_192 : gm_I cX2_fits 192 = some (.iaload) := by decide +kernel
theorem i37_193 : gm_I cX2_fits 193 = some (.iload 8) := by decide +kernel
theorem i37_195 : gm_I cX2_fits 195 = some (.bipush 21) := by decide +kernel
theorem i37_197 : gm_I cX2_fits 197 = some (.ishl) := by decide +kernel
theorem i37_198 : gm_I cX2_fits 198 = some (.if_icmp .ne 7) := by decide +kernel
theorem i37_201 : gm_I cX2_fits 201 = some (.iconst 1) := by decide +kernel
theorem i37_202 : gm_I cX2_fits 202 = some (.goto 4) := by decide +kernel
theorem i37_205 : gm_I cX2_fits 205 = some (.iconst 0) := by decide +kernel
theorem i37_206 : gm_I cX2_fits 206 = some (.istore 5) := by decide +kernel
theorem i37_208 : gm_I cX2_fits 208 = some (.iinc 6 (-7)) := by decide +kernel
theorem i37_211 : gm_I cX2_fits 211 = some (.goto (-112)) := by decide +kernel
theorem i37_214 : gm_I cX2_fits 214 = some (.iload 5) := by decide +kernel
theorem i37_216 : gm_I cX2_fits 216 = some (.ireturn) := by decide +kernel
theorem i38_0 : gm_I cX3_init 0 = some (.aload_n 0) := by decide +kernel
theorem i38_1 : gm_I cX3_init 1 = some (.invokespecial 3) := by decide +kernel
theorem i38_4 : gm_I cX3_init 4 = some (.aload_n 0) := by decide +kernel
theorem i38_5 : gm_I cX3_init 5 = some (.new 9) := by decide +kernel
theorem i38_8 : gm_I cX3_init 8 = some (.dup) := by decide +kernel
theorem i38_9 : gm_I cX3_init 9 = some (.invokespecial 11) := by decide +kernel
theorem i38_12 : gm_I cX3_init 12 = some (.putfield 12) := by decide +kernel
theorem i38_15 : gm_I cX3_init 15 = some (.aload_n 0) := by decide +kernel
theorem i38_16 : gm_I cX3_init 16 = some (.new 18) := by decide +kernel
theorem i38_19 : gm_I cX3_init 19 = some (.dup) := by decide +kernel
theorem i38_20 : gm_I cX3_init 20 = some (.bipush 24) := by decide +kernel
theorem i38_22 : gm_I cX3_init 22 = some (.invokespecial 20) := by decide +kernel
theorem i38_25 : gm_I cX3_init 25 = some (.putfield 23) := by decide +kernel
theorem i38_28 : gm_I cX3_init 28 = some (.aload_n 0) := by decide +kernel
theorem i38_29 : gm_I cX3_init 29 = some (.new 18) := by decide +kernel
theorem i38_32 : gm_I cX3_init 32 = some (.dup) := by decide +kernel
theorem i38_33 : gm_I cX3_init 33 = some (.bipush 24) := by decide +kernel
theorem i38_35 : gm_I cX3_init 35 = some (.invokespecial 20) := by decide +kernel
theorem i38_38 : gm_I cX3_init 38 = some (.putfield 27) := by decide +kernel
theorem i38_41 : gm_I cX3_init 41 = some (.aload_n 0) := by decide +kernel
theorem i38_42 : gm_I cX3_init 42 = some (.new 18) := by decide +kernel
theorem i38_45 : gm_I cX3_init 45 = some (.dup) := by decide +kernel
theorem i38_46 : gm_I cX3_init 46 = some (.bipush 24) := by decide +kernel
theorem i38_48 : gm_I cX3_init 48 = some (.invokespecial 20) := by decide +kernel
theorem i38_51 : gm_I cX3_init 51 = some (.putfield 30) := by decide +kernel
theorem i38_54 : gm_I cX3_init 54 = some (.aload_n 0) := by decide +kernel
theorem i38_55 : gm_I cX3_init 55 = some (.new 18) := by decide +kernel
theorem i38_58 : gm_I cX3_init 58 = some (.dup) := by decide +kernel
theorem i38_59 : gm_I cX3_init 59 = some (.bipush 24) := by decide +kernel
theorem i38_61 : gm_I cX3_init 61 = some (.invokespecial 20) := by decide +kernel
theorem i38_64 : gm_I cX3_init 64 = some (.putfield 33) := by decide +kernel
theorem i38_67 : gm_I cX3_init 67 = some (.aload_n 0) := by decide +kernel
theorem i38_68 : gm_I cX3_init 68 = some (.new 18) := by decide +kernel
theorem i38_71 : gm_I cX3_init 71 = some (.dup) := by decide +kernel
theorem i38_72 : gm_I cX3_init 72 = some (.sipush 200) := by decide +kernel
theorem i38_75 : gm_I cX3_init 75 = some (.invokespecial 20) := by decide +kernel
theorem i38_78 : gm_I cX3_init 78 = some (.putfield 38) := by decide +kernel
theorem i38_81 : gm_I cX3_init 81 = some (.aload_n 0) := by decide +kernel
theorem i38_82 : gm_I cX3_init 82 = some (.new 18) := by decide +kernel
theorem i38_85 : gm_I cX3_init 85 = some (.dup) := by decide +kernel
theorem i38_86 : gm_I cX3_init 86 = some (.sipush 200) := by decide +kernel
theorem i38_89 : gm_I cX3_init 89 = some (.invokespecial 20) := by decide +kernel
theorem i38_92 : gm_I cX3_init 92 = some (.putfield 41) := by decide +kernel
theorem i38_95 : gm_I cX3_init 95 = some (.aload_n 0) := by decide +kernel
theorem i38_96 : gm_I cX3_init 96 = some (.aconst_null) := by decide +kernel
theorem i38_97 : gm_I cX3_init 97 = some (.putfield 44) := by decide +kernel
theorem i38_100 : gm_I cX3_init 100 = some (.return_) := by decide +kernel
theorem i39_0 : gm_I cX3_isIdle 0 = some (.aload_n 0) := by decide +kernel
theorem i39_1 : gm_I cX3_isIdle 1 = some (.getfield 44) := by decide +kernel
theorem i39_4 : gm_I cX3_isIdle 4 = some (.ifnonnull 7) := by decide +kernel
theorem i39_7 : gm_I cX3_isIdle 7 = some (.iconst 1) := by decide +kernel
theorem i39_8 : gm_I cX3_isIdle 8 = some (.goto 4) := by decide +kernel
theorem i39_11 : gm_I cX3_isIdle 11 = some (.iconst 0) := by decide +kernel
theorem i39_12 : gm_I cX3_isIdle 12 = some (.ireturn) := by decide +kernel
theorem i40_0 : gm_I cX3_take 0 = some (.aload_n 0) := by decide +kernel
theorem i40_1 : gm_I cX3_take 1 = some (.getfield 33) := by decide +kernel
theorem i40_4 : gm_I cX3_take 4 = some (.invokevirtual 48) := by decide +kernel
theorem i40_7 : gm_I cX3_take 7 = some (.aload_n 0) := by decide +kernel
theorem i40_8 : gm_I cX3_take 8 = some (.getfield 12) := by decide +kernel
theorem i40_11 : gm_I cX3_take 11 = some (.aload_n 1) := by decide +kernel
theorem i40_12 : gm_I cX3_take 12 = some (.invokevirtual 51) := by decide +kernel
theorem i40_15 : gm_I cX3_take 15 = some (.ifCond .eq 98) := by decide +kernel
theorem i40_18 : gm_I cX3_take 18 = some (.aload_n 0) := by decide +kernel
theorem i40_19 : gm_I cX3_take 19 = some (.getfield 12) := by decide +kernel
theorem i40_22 : gm_I cX3_take 22 = some (.aload_n 0) := by decide +kernel
theorem i40_23 : gm_I cX3_take 23 = some (.getfield 33) := by decide +kernel
theorem i40_26 : gm_I cX3_take 26 = some (.invokevirtual 55) := by decide +kernel
theorem i40_29 : gm_I cX3_take 29 = some (.ifCond .eq 84) := by decide +kernel
theorem i40_32 : gm_I cX3_take 32 = some (.aload_n 0) := by decide +kernel
theorem i40_33 : gm_I cX3_take 33 = some (.getfield 33) := by decide +kernel
theorem i40_36 : gm_I cX3_take 36 = some (.aload_n 0) := by decide +kernel
theorem i40_37 : gm_I cX3_take 37 = some (.getfield 12) := by decide +kernel
theorem i40_40 : gm_I cX3_take 40 = some (.getfield 59) := by decide +kernel
theorem i40_43 : gm_I cX3_take 43 = some (.iconst 1) := by decide +kernel
theorem i40_44 : gm_I cX3_take 44 = some (.invokevirtual 63) := by decide +kernel
theorem i40_47 : gm_I cX3_take 47 = some (.ifCond .eq 66) := by decide +kernel
theorem i40_50 : gm_I cX3_take 50 = some (.aload_n 0) := by decide +kernel
theorem i40_51 : gm_I cX3_take 51 = some (.getfield 12) := by decide +kernel
theorem i40_54 : gm_I cX3_take 54 = some (.aload_n 0) := by decide +kernel
theorem i40_55 : gm_I cX3_take 55 = some (.getfield 33) := by decide +kernel
theorem i40_58 : gm_I cX3_take 58 = some (.invokevirtual 55) := by decide +kernel
theorem i40_61 : gm_I cX3_take 61 = some (.ifCond .eq 52) := by decide +kernel
theorem i40_64 : gm_I cX3_take 64 = some (.aload_n 0) := by decide +kernel
theorem i40_65 : gm_I cX3_take 65 = some (.aload_n 1) := by decide +kernel
theorem i40_66 : gm_I cX3_take 66 = some (.putfield 44) := by decide +kernel
theorem i40_69 : gm_I cX3_take 69 = some (.aload_n 0) := by decide +kernel
theorem i40_70 : gm_I cX3_take 70 = some (.getfield 27) := by decide +kernel
theorem i40_73 : gm_I cX3_take 73 = some (.aload_n 0) := by decide +kernel
theorem i40_74 : gm_I cX3_take 74 = some (.getfield 33) := by decide +kernel
theorem i40_77 : gm_I cX3_take 77 = some (.invokevirtual 67) := by decide +kernel
theorem i40_80 : gm_I cX3_take 80 = some (.aload_n 0) := by decide +kernel
theorem i40_81 : gm_I cX3_take 81 = some (.getfield 30) := by decide +kernel
theorem i40_84 : gm_I cX3_take 84 = some (.aload_n 0) := by decide +kernel
theorem i40_85 : gm_I cX3_take 85 = some (.getfield 33) := by decide +kernel
theorem i40_88 : gm_I cX3_take 88 = some (.invokevirtual 67) := by decide +kernel
theorem i40_91 : gm_I cX3_take 91 = some (.aload_n 0) := by decide +kernel
theorem i40_92 : gm_I cX3_take 92 = some (.getfield 23) := by decide +kernel
theorem i40_95 : gm_I cX3_take 95 = some (.aload_n 0) := by decide +kernel
theorem i40_96 : gm_I cX3_take 96 = some (.getfield 12) := by decide +kernel
theorem i40_99 : gm_I cX3_take 99 = some (.getfield 59) := by decide +kernel
theorem i40_102 : gm_I cX3_take 102 = some (.iconst 0) := by decide +kernel
theorem i40_103 : gm_I cX3_take 103 = some (.invokevirtual 63) := by decide +kernel
theorem i40_106 : gm_I cX3_take 106 = some (.pop) := by decide +kernel
theorem i40_107 : gm_I cX3_take 107 = some (.aload_n 0) := by decide +kernel
theorem i40_108 : gm_I cX3_take 108 = some (.invokevirtual 71) := by decide +kernel
theorem i40_111 : gm_I cX3_take 111 = some (.iconst 1) := by decide +kernel
theorem i40_112 : gm_I cX3_take 112 = some (.ireturn) := by decide +kernel
theorem i40_113 : gm_I cX3_take 113 = some (.aload_n 0) := by decide +kernel
theorem i40_114 : gm_I cX3_take 114 = some (.getfield 44) := by decide +kernel
theorem i40_117 : gm_I cX3_take 117 = some (.ifnull 24) := by decide +kernel
