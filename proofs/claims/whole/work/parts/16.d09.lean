/-! the code by its places, by program -/
theorem i162_0 : gm_I cX12_collect 0 = some (.aload_n 0) := by decide +kernel
theorem i162_1 : gm_I cX12_collect 1 = some (.iconst 0) := by decide +kernel
theorem i162_2 : gm_I cX12_collect 2 = some (.putfield 270) := by decide +kernel
theorem i162_5 : gm_I cX12_collect 5 = some (.iconst 0) := by decide +kernel
theorem i162_6 : gm_I cX12_collect 6 = some (.istore 5) := by decide +kernel
theorem i162_8 : gm_I cX12_collect 8 = some (.iload 5) := by decide +kernel
theorem i162_10 : gm_I cX12_collect 10 = some (.aload_n 0) := by decide +kernel
theorem i162_11 : gm_I cX12_collect 11 = some (.getfield 190) := by decide +kernel
theorem i162_14 : gm_I cX12_collect 14 = some (.if_icmp .ge 121) := by decide +kernel
theorem i162_17 : gm_I cX12_collect 17 = some (.aload_n 0) := by decide +kernel
theorem i162_18 : gm_I cX12_collect 18 = some (.getfield 45) := by decide +kernel
theorem i162_21 : gm_I cX12_collect 21 = some (.iload 5) := by decide +kernel
theorem i162_23 : gm_I cX12_collect 23 = some (.iaload) := by decide +kernel
theorem i162_24 : gm_I cX12_collect 24 = some (.iload_n 1) := by decide +kernel
theorem i162_25 : gm_I cX12_collect 25 = some (.if_icmp .ne 104) := by decide +kernel
theorem i162_28 : gm_I cX12_collect 28 = some (.lload_n 2) := by decide +kernel
theorem i162_29 : gm_I cX12_collect 29 = some (.lconst 0) := by decide +kernel
theorem i162_30 : gm_I cX12_collect 30 = some (.lcmp) := by decide +kernel
theorem i162_31 : gm_I cX12_collect 31 = some (.ifCond .eq 17) := by decide +kernel
theorem i162_34 : gm_I cX12_collect 34 = some (.aload_n 0) := by decide +kernel
theorem i162_35 : gm_I cX12_collect 35 = some (.getfield 48) := by decide +kernel
theorem i162_38 : gm_I cX12_collect 38 = some (.iconst 3) := by decide +kernel
theorem i162_39 : gm_I cX12_collect 39 = some (.iload 5) := by decide +kernel
theorem i162_41 : gm_I cX12_collect 41 = some (.imul) := by decide +kernel
theorem i162_42 : gm_I cX12_collect 42 = some (.laload) := by decide +kernel
theorem i162_43 : gm_I cX12_collect 43 = some (.lload_n 2) := by decide +kernel
theorem i162_44 : gm_I cX12_collect 44 = some (.lcmp) := by decide +kernel
theorem i162_45 : gm_I cX12_collect 45 = some (.ifCond .ne 84) := by decide +kernel
theorem i162_48 : gm_I cX12_collect 48 = some (.aload_n 0) := by decide +kernel
theorem i162_49 : gm_I cX12_collect 49 = some (.getfield 48) := by decide +kernel
theorem i162_52 : gm_I cX12_collect 52 = some (.iconst 3) := by decide +kernel
theorem i162_53 : gm_I cX12_collect 53 = some (.iload 5) := by decide +kernel
theorem i162_55 : gm_I cX12_collect 55 = some (.imul) := by decide +kernel
theorem i162_56 : gm_I cX12_collect 56 = some (.iload 4) := by decide +kernel
theorem i162_58 : gm_I cX12_collect 58 = some (.iadd) := by decide +kernel
theorem i162_59 : gm_I cX12_collect 59 = some (.laload) := by decide +kernel
theorem i162_60 : gm_I cX12_collect 60 = some (.lstore 6) := by decide +kernel
theorem i162_62 : gm_I cX12_collect 62 = some (.aload_n 0) := by decide +kernel
theorem i162_63 : gm_I cX12_collect 63 = some (.getfield 270) := by decide +kernel
theorem i162_66 : gm_I cX12_collect 66 = some (.istore 8) := by decide +kernel
theorem i162_68 : gm_I cX12_collect 68 = some (.iload 8) := by decide +kernel
theorem i162_70 : gm_I cX12_collect 70 = some (.ifCond .le 40) := by decide +kernel
theorem i162_73 : gm_I cX12_collect 73 = some (.aload_n 0) := by decide +kernel
theorem i162_74 : gm_I cX12_collect 74 = some (.getfield 73) := by decide +kernel
theorem i162_77 : gm_I cX12_collect 77 = some (.iload 8) := by decide +kernel
theorem i162_79 : gm_I cX12_collect 79 = some (.iconst 1) := by decide +kernel
theorem i162_80 : gm_I cX12_collect 80 = some (.isub) := by decide +kernel
theorem i162_81 : gm_I cX12_collect 81 = some (.laload) := by decide +kernel
theorem i162_82 : gm_I cX12_collect 82 = some (.lload 6) := by decide +kernel
theorem i162_84 : gm_I cX12_collect 84 = some (.lcmp) := by decide +kernel
theorem i162_85 : gm_I cX12_collect 85 = some (.ifCond .le 25) := by decide +kernel
theorem i162_88 : gm_I cX12_collect 88 = some (.aload_n 0) := by decide +kernel
theorem i162_89 : gm_I cX12_collect 89 = some (.getfield 73) := by decide +kernel
theorem i162_92 : gm_I cX12_collect 92 = some (.iload 8) := by decide +kernel
theorem i162_94 : gm_I cX12_collect 94 = some (.aload_n 0) := by decide +kernel
theorem i162_95 : gm_I cX12_collect 95 = some (.getfield 73) := by decide +kernel
theorem i162_98 : gm_I cX12_collect 98 = some (.iload 8) := by decide +kernel
theorem i162_100 : gm_I cX12_collect 100 = some (.iconst 1) := by decide +kernel
theorem i162_101 : gm_I cX12_collect 101 = some (.isub) := by decide +kernel
theorem i162_102 : gm_I cX12_collect 102 = some (.laload) := by decide +kernel
theorem i162_103 : gm_I cX12_collect 103 = some (.lastore) := by decide +kernel
theorem i162_104 : gm_I cX12_collect 104 = some (.iinc 8 (-1)) := by decide +kernel
theorem i162_107 : gm_I cX12_collect 107 = some (.goto (-39)) := by decide +kernel
theorem i162_110 : gm_I cX12_collect 110 = some (.aload_n 0) := by decide +kernel
theorem i162_111 : gm_I cX12_collect 111 = some (.getfield 73) := by decide +kernel
theorem i162_114 : gm_I cX12_collect 114 = some (.iload 8) := by decide +kernel
theorem i162_116 : gm_I cX12_collect 116 = some (.lload 6) := by decide +kernel
theorem i162_118 : gm_I cX12_collect 118 = some (.lastore) := by decide +kernel
theorem i162_119 : gm_I cX12_collect 119 = some (.aload_n 0) := by decide +kernel
theorem i162_120 : gm_I cX12_collect 120 = some (.dup) := by decide +kernel
theorem i162_121 : gm_I cX12_collect 121 = some (.getfield 270) := by decide +kernel
theorem i162_124 : gm_I cX12_collect 124 = some (.iconst 1) := by decide +kernel
theorem i162_125 : gm_I cX12_collect 125 = some (.iadd) := by decide +kernel
theorem i162_126 : gm_I cX12_collect 126 = some (.putfield 270) := by decide +kernel
theorem i162_129 : gm_I cX12_collect 129 = some (.iinc 5 1) := by decide +kernel
theorem i162_132 : gm_I cX12_collect 132 = some (.goto (-124)) := by decide +kernel
theorem i162_135 : gm_I cX12_collect 135 = some (.return_) := by decide +kernel
theorem i163_0 : gm_I cX12_isState 0 = some (.aload_n 0) := by decide +kernel
theorem i163_1 : gm_I cX12_isState 1 = some (.aload_n 0) := by decide +kernel
theorem i163_2 : gm_I cX12_isState 2 = some (.getfield 270) := by decide +kernel
theorem i163_5 : gm_I cX12_isState 5 = some (.putfield 273) := by decide +kernel
theorem i163_8 : gm_I cX12_isState 8 = some (.iconst 0) := by decide +kernel
theorem i163_9 : gm_I cX12_isState 9 = some (.istore_n 1) := by decide +kernel
theorem i163_10 : gm_I cX12_isState 10 = some (.iload_n 1) := by decide +kernel
theorem i163_11 : gm_I cX12_isState 11 = some (.aload_n 0) := by decide +kernel
theorem i163_12 : gm_I cX12_isState 12 = some (.getfield 270) := by decide +kernel
theorem i163_15 : gm_I cX12_isState 15 = some (.if_icmp .ge 30) := by decide +kernel
theorem i163_18 : gm_I cX12_isState 18 = some (.aload_n 0) := by decide +kernel
theorem i163_19 : gm_I cX12_isState 19 = some (.getfield 270) := by decide +kernel
theorem i163_22 : gm_I cX12_isState 22 = some (.bipush 24) := by decide +kernel
theorem i163_24 : gm_I cX12_isState 24 = some (.if_icmp .gt 21) := by decide +kernel
theorem i163_27 : gm_I cX12_isState 27 = some (.aload_n 0) := by decide +kernel
theorem i163_28 : gm_I cX12_isState 28 = some (.getfield 67) := by decide +kernel
theorem i163_31 : gm_I cX12_isState 31 = some (.iload_n 1) := by decide +kernel
theorem i163_32 : gm_I cX12_isState 32 = some (.aload_n 0) := by decide +kernel
theorem i163_33 : gm_I cX12_isState 33 = some (.getfield 73) := by decide +kernel
theorem i163_36 : gm_I cX12_isState 36 = some (.iload_n 1) := by decide +kernel
theorem i163_37 : gm_I cX12_isState 37 = some (.laload) := by decide +kernel
theorem i163_38 : gm_I cX12_isState 38 = some (.lastore) := by decide +kernel
theorem i163_39 : gm_I cX12_isState 39 = some (.iinc 1 1) := by decide +kernel
theorem i163_42 : gm_I cX12_isState 42 = some (.goto (-32)) := by decide +kernel
theorem i163_45 : gm_I cX12_isState 45 = some (.aload_n 0) := by decide +kernel
theorem i163_46 : gm_I cX12_isState 46 = some (.getfield 193) := by decide +kernel
theorem i163_49 : gm_I cX12_isState 49 = some (.ifCond .ne 16) := by decide +kernel
theorem i163_52 : gm_I cX12_isState 52 = some (.aload_n 0) := by decide +kernel
theorem i163_53 : gm_I cX12_isState 53 = some (.getfield 270) := by decide +kernel
theorem i163_56 : gm_I cX12_isState 56 = some (.bipush 24) := by decide +kernel
theorem i163_58 : gm_I cX12_isState 58 = some (.if_icmp .gt 7) := by decide +kernel
theorem i163_61 : gm_I cX12_isState 61 = some (.iconst 1) := by decide +kernel
theorem i163_62 : gm_I cX12_isState 62 = some (.goto 4) := by decide +kernel
theorem i163_65 : gm_I cX12_isState 65 = some (.iconst 0) := by decide +kernel
theorem i163_66 : gm_I cX12_isState 66 = some (.ireturn) := by decide +kernel
theorem i164_0 : gm_I cX12_leadsOn 0 = some (.aload_n 0) := by decide +kernel
theorem i164_1 : gm_I cX12_leadsOn 1 = some (.invokevirtual 257) := by decide +kernel
theorem i164_4 : gm_I cX12_leadsOn 4 = some (.iconst 0) := by decide +kernel
theorem i164_5 : gm_I cX12_leadsOn 5 = some (.istore 8) := by decide +kernel
theorem i164_7 : gm_I cX12_leadsOn 7 = some (.iload 8) := by decide +kernel
theorem i164_9 : gm_I cX12_leadsOn 9 = some (.iload_n 3) := by decide +kernel
theorem i164_10 : gm_I cX12_leadsOn 10 = some (.if_icmp .ge 24) := by decide +kernel
theorem i164_13 : gm_I cX12_leadsOn 13 = some (.aload_n 0) := by decide +kernel
theorem i164_14 : gm_I cX12_leadsOn 14 = some (.sipush 337) := by decide +kernel
theorem i164_17 : gm_I cX12_leadsOn 17 = some (.aload_n 1) := by decide +kernel
theorem i164_18 : gm_I cX12_leadsOn 18 = some (.iload_n 2) := by decide +kernel
theorem i164_19 : gm_I cX12_leadsOn 19 = some (.iload 8) := by decide +kernel
theorem i164_21 : gm_I cX12_leadsOn 21 = some (.iadd) := by decide +kernel
theorem i164_22 : gm_I cX12_leadsOn 22 = some (.laload) := by decide +kernel
theorem i164_23 : gm_I cX12_leadsOn 23 = some (.lconst 0) := by decide +kernel
theorem i164_24 : gm_I cX12_leadsOn 24 = some (.lconst 0) := by decide +kernel
theorem i164_25 : gm_I cX12_leadsOn 25 = some (.invokevirtual 243) := by decide +kernel
theorem i164_28 : gm_I cX12_leadsOn 28 = some (.iinc 8 1) := by decide +kernel
theorem i164_31 : gm_I cX12_leadsOn 31 = some (.goto (-24)) := by decide +kernel
theorem i164_34 : gm_I cX12_leadsOn 34 = some (.aload_n 0) := by decide +kernel
theorem i164_35 : gm_I cX12_leadsOn 35 = some (.sipush 274) := by decide +kernel
theorem i164_38 : gm_I cX12_leadsOn 38 = some (.aload_n 0) := by decide +kernel
theorem i164_39 : gm_I cX12_leadsOn 39 = some (.getfield 70) := by decide +kernel
theorem i164_42 : gm_I cX12_leadsOn 42 = some (.iconst 0) := by decide +kernel
theorem i164_43 : gm_I cX12_leadsOn 43 = some (.laload) := by decide +kernel
theorem i164_44 : gm_I cX12_leadsOn 44 = some (.lload 4) := by decide +kernel
theorem i164_46 : gm_I cX12_leadsOn 46 = some (.lconst 0) := by decide +kernel
theorem i164_47 : gm_I cX12_leadsOn 47 = some (.invokevirtual 243) := by decide +kernel
theorem i164_50 : gm_I cX12_leadsOn 50 = some (.aload_n 0) := by decide +kernel
theorem i164_51 : gm_I cX12_leadsOn 51 = some (.sipush 274) := by decide +kernel
theorem i164_54 : gm_I cX12_leadsOn 54 = some (.aload_n 0) := by decide +kernel
theorem i164_55 : gm_I cX12_leadsOn 55 = some (.getfield 70) := by decide +kernel
theorem i164_58 : gm_I cX12_leadsOn 58 = some (.iconst 1) := by decide +kernel
theorem i164_59 : gm_I cX12_leadsOn 59 = some (.laload) := by decide +kernel
theorem i164_60 : gm_I cX12_leadsOn 60 = some (.lload 6) := by decide +kernel
theorem i164_62 : gm_I cX12_leadsOn 62 = some (.lconst 0) := by decide +kernel
theorem i164_63 : gm_I cX12_leadsOn 63 = some (.invokevirtual 243) := by decide +kernel
theorem i164_66 : gm_I cX12_leadsOn 66 = some (.aload_n 0) := by decide +kernel
theorem i164_67 : gm_I cX12_leadsOn 67 = some (.invokevirtual 260) := by decide +kernel
theorem i164_70 : gm_I cX12_leadsOn 70 = some (.aload_n 0) := by decide +kernel
theorem i164_71 : gm_I cX12_leadsOn 71 = some (.sipush 313) := by decide +kernel
theorem i164_74 : gm_I cX12_leadsOn 74 = some (.lconst 0) := by decide +kernel
theorem i164_75 : gm_I cX12_leadsOn 75 = some (.iconst 0) := by decide +kernel
theorem i164_76 : gm_I cX12_leadsOn 76 = some (.invokevirtual 276) := by decide +kernel
theorem i164_79 : gm_I cX12_leadsOn 79 = some (.aload_n 0) := by decide +kernel
theorem i164_80 : gm_I cX12_leadsOn 80 = some (.invokevirtual 280) := by decide +kernel
theorem i164_83 : gm_I cX12_leadsOn 83 = some (.ireturn) := by decide +kernel
theorem i165_0 : gm_I cX12_fetch 0 = some (.iconst 0) := by decide +kernel
theorem i165_1 : gm_I cX12_fetch 1 = some (.istore_n 3) := by decide +kernel
theorem i165_2 : gm_I cX12_fetch 2 = some (.iload_n 3) := by decide +kernel
theorem i165_3 : gm_I cX12_fetch 3 = some (.iload_n 2) := by decide +kernel
theorem i165_4 : gm_I cX12_fetch 4 = some (.if_icmp .ge 18) := by decide +kernel
theorem i165_7 : gm_I cX12_fetch 7 = some (.aload_n 0) := by decide +kernel
theorem i165_8 : gm_I cX12_fetch 8 = some (.getfield 16) := by decide +kernel
theorem i165_11 : gm_I cX12_fetch 11 = some (.iload_n 3) := by decide +kernel
theorem i165_12 : gm_I cX12_fetch 12 = some (.aload_n 1) := by decide +kernel
theorem i165_13 : gm_I cX12_fetch 13 = some (.iload_n 3) := by decide +kernel
theorem i165_14 : gm_I cX12_fetch 14 = some (.caload) := by decide +kernel
theorem i165_15 : gm_I cX12_fetch 15 = some (.castore) := by decide +kernel
theorem i165_16 : gm_I cX12_fetch 16 = some (.iinc 3 1) := by decide +kernel
theorem i165_19 : gm_I cX12_fetch 19 = some (.goto (-17)) := by decide +kernel
theorem i165_22 : gm_I cX12_fetch 22 = some (.aload_n 0) := by decide +kernel
theorem i165_23 : gm_I cX12_fetch 23 = some (.iload_n 2) := by decide +kernel
theorem i165_24 : gm_I cX12_fetch 24 = some (.putfield 112) := by decide +kernel
theorem i165_27 : gm_I cX12_fetch 27 = some (.return_) := by decide +kernel
theorem i166_0 : gm_I cX12_begins 0 = some (.aload_n 0) := by decide +kernel
theorem i166_1 : gm_I cX12_begins 1 = some (.invokevirtual 257) := by decide +kernel
theorem i166_4 : gm_I cX12_begins 4 = some (.aload_n 0) := by decide +kernel
theorem i166_5 : gm_I cX12_begins 5 = some (.invokevirtual 260) := by decide +kernel
theorem i166_8 : gm_I cX12_begins 8 = some (.aload_n 0) := by decide +kernel
theorem i166_9 : gm_I cX12_begins 9 = some (.sipush 293) := by decide +kernel
theorem i166_12 : gm_I cX12_begins 12 = some (.lconst 0) := by decide +kernel
theorem i166_13 : gm_I cX12_begins 13 = some (.iconst 0) := by decide +kernel
theorem i166_14 : gm_I cX12_begins 14 = some (.invokevirtual 276) := by decide +kernel
theorem i166_17 : gm_I cX12_begins 17 = some (.aload_n 0) := by decide +kernel
theorem i166_18 : gm_I cX12_begins 18 = some (.invokevirtual 280) := by decide +kernel
theorem i166_21 : gm_I cX12_begins 21 = some (.ifCond .ne 5) := by decide +kernel
theorem i166_24 : gm_I cX12_begins 24 = some (.iconst 0) := by decide +kernel
theorem i166_25 : gm_I cX12_begins 25 = some (.ireturn) := by decide +kernel
theorem i166_26 : gm_I cX12_begins 26 = some (.aload_n 0) := by decide +kernel
theorem i166_27 : gm_I cX12_begins 27 = some (.aload_n 0) := by decide +kernel
theorem i166_28 : gm_I cX12_begins 28 = some (.getfield 67) := by decide +kernel
theorem i166_31 : gm_I cX12_begins 31 = some (.iconst 0) := by decide +kernel
theorem i166_32 : gm_I cX12_begins 32 = some (.aload_n 0) := by decide +kernel
theorem i166_33 : gm_I cX12_begins 33 = some (.getfield 273) := by decide +kernel
theorem i166_36 : gm_I cX12_begins 36 = some (.invokevirtual 266) := by decide +kernel
theorem i166_39 : gm_I cX12_begins 39 = some (.aload_n 0) := by decide +kernel
theorem i166_40 : gm_I cX12_begins 40 = some (.getfield 193) := by decide +kernel
theorem i166_43 : gm_I cX12_begins 43 = some (.ifCond .ne 7) := by decide +kernel
theorem i166_46 : gm_I cX12_begins 46 = some (.iconst 1) := by decide +kernel
theorem i166_47 : gm_I cX12_begins 47 = some (.goto 4) := by decide +kernel
theorem i166_50 : gm_I cX12_begins 50 = some (.iconst 0) := by decide +kernel
theorem i166_51 : gm_I cX12_begins 51 = some (.ireturn) := by decide +kernel
theorem i167_0 : gm_I cX12_load 0 = some (.aload_n 0) := by decide +kernel
theorem i167_1 : gm_I cX12_load 1 = some (.aload_n 0) := by decide +kernel
theorem i167_2 : gm_I cX12_load 2 = some (.getfield 7) := by decide +kernel
theorem i167_5 : gm_I cX12_load 5 = some (.aload_n 0) := by decide +kernel
theorem i167_6 : gm_I cX12_load 6 = some (.getfield 106) := by decide +kernel
theorem i167_9 : gm_I cX12_load 9 = some (.invokevirtual 283) := by decide +kernel
theorem i167_12 : gm_I cX12_load 12 = some (.aload_n 0) := by decide +kernel
theorem i167_13 : gm_I cX12_load 13 = some (.iconst 0) := by decide +kernel
theorem i167_14 : gm_I cX12_load 14 = some (.putfield 106) := by decide +kernel
theorem i167_17 : gm_I cX12_load 17 = some (.aload_n 0) := by decide +kernel
theorem i167_18 : gm_I cX12_load 18 = some (.iconst 0) := by decide +kernel
theorem i167_19 : gm_I cX12_load 19 = some (.putfield 100) := by decide +kernel
theorem i167_22 : gm_I cX12_load 22 = some (.aload_n 0) := by decide +kernel
theorem i167_23 : gm_I cX12_load 23 = some (.invokevirtual 287) := by decide +kernel
theorem i167_26 : gm_I cX12_load 26 = some (.istore_n 1) := by decide +kernel
theorem i167_27 : gm_I cX12_load 27 = some (.aload_n 0) := by decide +kernel
theorem i167_28 : gm_I cX12_load 28 = some (.iload_n 1) := by decide +kernel
theorem i167_29 : gm_I cX12_load 29 = some (.ifCond .ne 19) := by decide +kernel
theorem i167_32 : gm_I cX12_load 32 = some (.aload_n 0) := by decide +kernel
theorem i167_33 : gm_I cX12_load 33 = some (.getfield 165) := by decide +kernel
theorem i167_36 : gm_I cX12_load 36 = some (.iconst 1) := by decide +kernel
theorem i167_37 : gm_I cX12_load 37 = some (.if_icmp .ne 7) := by decide +kernel
theorem i167_40 : gm_I cX12_load 40 = some (.iconst 1) := by decide +kernel
theorem i167_41 : gm_I cX12_load 41 = some (.goto 19) := by decide +kernel
theorem i167_44 : gm_I cX12_load 44 = some (.iconst 2) := by decide +kernel
theorem i167_45 : gm_I cX12_load 45 = some (.goto 15) := by decide +kernel
theorem i167_48 : gm_I cX12_load 48 = some (.aload_n 0) := by decide +kernel
theorem i167_49 : gm_I cX12_load 49 = some (.invokevirtual 290) := by decide +kernel
theorem i167_52 : gm_I cX12_load 52 = some (.ifCond .eq 7) := by decide +kernel
theorem i167_55 : gm_I cX12_load 55 = some (.iconst 0) := by decide +kernel
theorem i167_56 : gm_I cX12_load 56 = some (.goto 4) := by decide +kernel
theorem i167_59 : gm_I cX12_load 59 = some (.iconst 3) := by decide +kernel
theorem i167_60 : gm_I cX12_load 60 = some (.putfield 100) := by decide +kernel
theorem i167_63 : gm_I cX12_load 63 = some (.aload_n 0) := by decide +kernel
theorem i167_64 : gm_I cX12_load 64 = some (.getfield 100) := by decide +kernel
theorem i167_67 : gm_I cX12_load 67 = some (.ifCond .le 54) := by decide +kernel
theorem i167_70 : gm_I cX12_load 70 = some (.aload_n 0) := by decide +kernel
theorem i167_71 : gm_I cX12_load 71 = some (.getfield 165) := by decide +kernel
theorem i167_74 : gm_I cX12_load 74 = some (.istore_n 2) := by decide +kernel
theorem i167_75 : gm_I cX12_load 75 = some (.aload_n 0) := by decide +kernel
theorem i167_76 : gm_I cX12_load 76 = some (.getfield 168) := by decide +kernel
theorem i167_79 : gm_I cX12_load 79 = some (.istore_n 3) := by decide +kernel
theorem i167_80 : gm_I cX12_load 80 = some (.aload_n 0) := by decide +kernel
theorem i167_81 : gm_I cX12_load 81 = some (.aload_n 0) := by decide +kernel
theorem i167_82 : gm_I cX12_load 82 = some (.getfield 13) := by decide +kernel
theorem i167_85 : gm_I cX12_load 85 = some (.aload_n 0) := by decide +kernel
theorem i167_86 : gm_I cX12_load 86 = some (.getfield 292) := by decide +kernel
theorem i167_89 : gm_I cX12_load 89 = some (.invokevirtual 283) := by decide +kernel
theorem i167_92 : gm_I cX12_load 92 = some (.aload_n 0) := by decide +kernel
theorem i167_93 : gm_I cX12_load 93 = some (.getfield 295) := by decide +kernel
theorem i167_96 : gm_I cX12_load 96 = some (.ifCond .eq 8) := by decide +kernel
theorem i167_99 : gm_I cX12_load 99 = some (.aload_n 0) := by decide +kernel
theorem i167_100 : gm_I cX12_load 100 = some (.invokevirtual 287) := by decide +kernel
theorem i167_103 : gm_I cX12_load 103 = some (.istore_n 1) := by decide +kernel
theorem i167_104 : gm_I cX12_load 104 = some (.aload_n 0) := by decide +kernel
theorem i167_105 : gm_I cX12_load 105 = some (.iload_n 2) := by decide +kernel
theorem i167_106 : gm_I cX12_load 106 = some (.putfield 165) := by decide +kernel
theorem i167_109 : gm_I cX12_load 109 = some (.aload_n 0) := by decide +kernel
theorem i167_110 : gm_I cX12_load 110 = some (.iload_n 3) := by decide +kernel
theorem i167_111 : gm_I cX12_load 111 = some (.putfield 168) := by decide +kernel
theorem i167_114 : gm_I cX12_load 114 = some (.aload_n 0) := by decide +kernel
theorem i167_115 : gm_I cX12_load 115 = some (.iconst 0) := by decide +kernel
theorem i167_116 : gm_I cX12_load 116 = some (.putfield 254) := by decide +kernel
theorem i167_119 : gm_I cX12_load 119 = some (.iconst 0) := by decide +kernel
theorem i167_120 : gm_I cX12_load 120 = some (.ireturn) := by decide +kernel
theorem i167_121 : gm_I cX12_load 121 = some (.iconst 0) := by decide +kernel
theorem i167_122 : gm_I cX12_load 122 = some (.istore_n 2) := by decide +kernel
theorem i167_123 : gm_I cX12_load 123 = some (.iload_n 2) := by decide +kernel
theorem i167_124 : gm_I cX12_load 124 = some (.aload_n 0) := by decide +kernel
theorem i167_125 : gm_I cX12_load 125 = some (.getfield 112) := by decide +kernel
theorem i167_128 : gm_I cX12_load 128 = some (.if_icmp .ge 21) := by decide +kernel
theorem i167_131 : gm_I cX12_load 131 = some (.aload_n 0) := by decide +kernel
theorem i167_132 : gm_I cX12_load 132 = some (.getfield 13) := by decide +kernel
theorem i167_135 : gm_I cX12_load 135 = some (.iload_n 2) := by decide +kernel
theorem i167_136 : gm_I cX12_load 136 = some (.aload_n 0) := by decide +kernel
theorem i167_137 : gm_I cX12_load 137 = some (.getfield 16) := by decide +kernel
theorem i167_140 : gm_I cX12_load 140 = some (.iload_n 2) := by decide +kernel
theorem i167_141 : gm_I cX12_load 141 = some (.caload) := by decide +kernel
theorem i167_142 : gm_I cX12_load 142 = some (.castore) := by decide +kernel
theorem i167_143 : gm_I cX12_load 143 = some (.iinc 2 1) := by decide +kernel
theorem i167_146 : gm_I cX12_load 146 = some (.goto (-23)) := by decide +kernel
theorem i167_149 : gm_I cX12_load 149 = some (.aload_n 0) := by decide +kernel
theorem i167_150 : gm_I cX12_load 150 = some (.aload_n 0) := by decide +kernel
theorem i167_151 : gm_I cX12_load 151 = some (.getfield 112) := by decide +kernel
theorem i167_154 : gm_I cX12_load 154 = some (.putfield 292) := by decide +kernel
theorem i167_157 : gm_I cX12_load 157 = some (.aload_n 0) := by decide +kernel
theorem i167_158 : gm_I cX12_load 158 = some (.iconst 1) := by decide +kernel
theorem i167_159 : gm_I cX12_load 159 = some (.putfield 295) := by decide +kernel
theorem i167_162 : gm_I cX12_load 162 = some (.aload_n 0) := by decide +kernel
theorem i167_163 : gm_I cX12_load 163 = some (.iconst 0) := by decide +kernel
theorem i167_164 : gm_I cX12_load 164 = some (.putfield 298) := by decide +kernel
theorem i167_167 : gm_I cX12_load 167 = some (.aload_n 0) := by decide +kernel
theorem i167_168 : gm_I cX12_load 168 = some (.iconst 0) := by decide +kernel
theorem i167_169 : gm_I cX12_load 169 = some (.putfield 301) := by decide +kernel
theorem i167_172 : gm_I cX12_load 172 = some (.aload_n 0) := by decide +kernel
theorem i167_173 : gm_I cX12_load 173 = some (.aload_n 0) := by decide +kernel
theorem i167_174 : gm_I cX12_load 174 = some (.getfield 273) := by decide +kernel
theorem i167_177 : gm_I cX12_load 177 = some (.putfield 304) := by decide +kernel
theorem i167_180 : gm_I cX12_load 180 = some (.iconst 0) := by decide +kernel
theorem i167_181 : gm_I cX12_load 181 = some (.istore_n 2) := by decide +kernel
theorem i167_182 : gm_I cX12_load 182 = some (.iload_n 2) := by decide +kernel
theorem i167_183 : gm_I cX12_load 183 = some (.aload_n 0) := by decide +kernel
theorem i167_184 : gm_I cX12_load 184 = some (.getfield 273) := by decide +kernel
theorem i167_187 : gm_I cX12_load 187 = some (.if_icmp .ge 21) := by decide +kernel
theorem i167_190 : gm_I cX12_load 190 = some (.aload_n 0) := by decide +kernel
theorem i167_191 : gm_I cX12_load 191 = some (.getfield 64) := by decide +kernel
theorem i167_194 : gm_I cX12_load 194 = some (.iload_n 2) := by decide +kernel
theorem i167_195 : gm_I cX12_load 195 = some (.aload_n 0) := by decide +kernel
theorem i167_196 : gm_I cX12_load 196 = some (.getfield 67) := by decide +kernel
theorem i167_199 : gm_I cX12_load 199 = some (.iload_n 2) := by decide +kernel
theorem i167_200 : gm_I cX12_load 200 = some (.laload) := by decide +kernel
theorem i167_201 : gm_I cX12_load 201 = some (.lastore) := by decide +kernel
theorem i167_202 : gm_I cX12_load 202 = some (.iinc 2 1) := by decide +kernel
theorem i167_205 : gm_I cX12_load 205 = some (.goto (-23)) := by decide +kernel
theorem i167_208 : gm_I cX12_load 208 = some (.aload_n 0) := by decide +kernel
theorem i167_209 : gm_I cX12_load 209 = some (.invokevirtual 307) := by decide +kernel
theorem i167_212 : gm_I cX12_load 212 = some (.aload_n 0) := by decide +kernel
theorem i167_213 : gm_I cX12_load 213 = some (.invokevirtual 310) := by decide +kernel
theorem i167_216 : gm_I cX12_load 216 = some (.aload_n 0) := by decide +kernel
theorem i167_217 : gm_I cX12_load 217 = some (.sipush 329) := by decide +kernel
theorem i167_220 : gm_I cX12_load 220 = some (.lconst 0) := by decide +kernel
theorem i167_221 : gm_I cX12_load 221 = some (.iconst 0) := by decide +kernel
theorem i167_222 : gm_I cX12_load 222 = some (.invokevirtual 276) := by decide +kernel
theorem i167_225 : gm_I cX12_load 225 = some (.aload_n 0) := by decide +kernel
theorem i167_226 : gm_I cX12_load 226 = some (.aload_n 0) := by decide +kernel
theorem i167_227 : gm_I cX12_load 227 = some (.getfield 270) := by decide +kernel
theorem i167_230 : gm_I cX12_load 230 = some (.putfield 313) := by decide +kernel
theorem i167_233 : gm_I cX12_load 233 = some (.iconst 0) := by decide +kernel
theorem i167_234 : gm_I cX12_load 234 = some (.istore_n 2) := by decide +kernel
theorem i167_235 : gm_I cX12_load 235 = some (.iload_n 2) := by decide +kernel
theorem i167_236 : gm_I cX12_load 236 = some (.aload_n 0) := by decide +kernel
theorem i167_237 : gm_I cX12_load 237 = some (.getfield 313) := by decide +kernel
theorem i167_240 : gm_I cX12_load 240 = some (.if_icmp .ge 21) := by decide +kernel
theorem i167_243 : gm_I cX12_load 243 = some (.aload_n 0) := by decide +kernel
theorem i167_244 : gm_I cX12_load 244 = some (.getfield 70) := by decide +kernel
theorem i167_247 : gm_I cX12_load 247 = some (.iload_n 2) := by decide +kernel
theorem i167_248 : gm_I cX12_load 248 = some (.aload_n 0) := by decide +kernel
theorem i167_249 : gm_I cX12_load 249 = some (.getfield 73) := by decide +kernel
theorem i167_252 : gm_I cX12_load 252 = some (.iload_n 2) := by decide +kernel
theorem i167_253 : gm_I cX12_load 253 = some (.laload) := by decide +kernel
theorem i167_254 : gm_I cX12_load 254 = some (.lastore) := by decide +kernel
theorem i167_255 : gm_I cX12_load 255 = some (.iinc 2 1) := by decide +kernel
theorem i167_258 : gm_I cX12_load 258 = some (.goto (-23)) := by decide +kernel
theorem i167_261 : gm_I cX12_load 261 = some (.aload_n 0) := by decide +kernel
theorem i167_262 : gm_I cX12_load 262 = some (.getfield 148) := by decide +kernel
theorem i167_265 : gm_I cX12_load 265 = some (.ireturn) := by decide +kernel
theorem i168_0 : gm_I cX12_begin 0 = some (.aload_n 0) := by decide +kernel
theorem i168_1 : gm_I cX12_begin 1 = some (.aload_n 0) := by decide +kernel
theorem i168_2 : gm_I cX12_begin 2 = some (.getfield 304) := by decide +kernel
theorem i168_5 : gm_I cX12_begin 5 = some (.putfield 263) := by decide +kernel
theorem i168_8 : gm_I cX12_begin 8 = some (.iconst 0) := by decide +kernel
theorem i168_9 : gm_I cX12_begin 9 = some (.istore_n 1) := by decide +kernel
theorem i168_10 : gm_I cX12_begin 10 = some (.iload_n 1) := by decide +kernel
theorem i168_11 : gm_I cX12_begin 11 = some (.aload_n 0) := by decide +kernel
theorem i168_12 : gm_I cX12_begin 12 = some (.getfield 304) := by decide +kernel
theorem i168_15 : gm_I cX12_begin 15 = some (.if_icmp .ge 21) := by decide +kernel
theorem i168_18 : gm_I cX12_begin 18 = some (.aload_n 0) := by decide +kernel
theorem i168_19 : gm_I cX12_begin 19 = some (.getfield 61) := by decide +kernel
theorem i168_22 : gm_I cX12_begin 22 = some (.iload_n 1) := by decide +kernel
theorem i168_23 : gm_I cX12_begin 23 = some (.aload_n 0) := by decide +kernel
theorem i168_24 : gm_I cX12_begin 24 = some (.getfield 64) := by decide +kernel
theorem i168_27 : gm_I cX12_begin 27 = some (.iload_n 1) := by decide +kernel
theorem i168_28 : gm_I cX12_begin 28 = some (.laload) := by decide +kernel
theorem i168_29 : gm_I cX12_begin 29 = some (.lastore) := by decide +kernel
theorem i168_30 : gm_I cX12_begin 30 = some (.iinc 1 1) := by decide +kernel
theorem i168_33 : gm_I cX12_begin 33 = some (.goto (-23)) := by decide +kernel
theorem i168_36 : gm_I cX12_begin 36 = some (.aload_n 0) := by decide +kernel
theorem i168_37 : gm_I cX12_begin 37 = some (.iconst 0) := by decide +kernel
theorem i168_38 : gm_I cX12_begin 38 = some (.putfield 254) := by decide +kernel
theorem i168_41 : gm_I cX12_begin 41 = some (.return_) := by decide +kernel
theorem i169_0 : gm_I cX12_fault 0 = some (.aload_n 0) := by decide +kernel
theorem i169_1 : gm_I cX12_fault 1 = some (.iconst 0) := by decide +kernel
theorem i169_2 : gm_I cX12_fault 2 = some (.putfield 100) := by decide +kernel
theorem i169_5 : gm_I cX12_fault 5 = some (.iload_n 1) := by decide +kernel
theorem i169_6 : gm_I cX12_fault 6 = some (.ifCond .ne 10) := by decide +kernel
theorem i169_9 : gm_I cX12_fault 9 = some (.aload_n 0) := by decide +kernel
theorem i169_10 : gm_I cX12_fault 10 = some (.getfield 165) := by decide +kernel
theorem i169_13 : gm_I cX12_fault 13 = some (.goto 16) := by decide +kernel
theorem i169_16 : gm_I cX12_fault 16 = some (.iload_n 1) := by decide +kernel
theorem i169_17 : gm_I cX12_fault 17 = some (.iconst 1) := by decide +kernel
theorem i169_18 : gm_I cX12_fault 18 = some (.if_icmp .ne 10) := by decide +kernel
theorem i169_21 : gm_I cX12_fault 21 = some (.aload_n 0) := by decide +kernel
theorem i169_22 : gm_I cX12_fault 22 = some (.getfield 168) := by decide +kernel
theorem i169_25 : gm_I cX12_fault 25 = some (.goto 4) := by decide +kernel
theorem i169_28 : gm_I cX12_fault 28 = some (.iconst (-1)) := by decide +kernel
theorem i169_29 : gm_I cX12_fault 29 = some (.ireturn) := by decide +kernel
theorem i170_0 : gm_I cX12_isPlayer 0 = some (.aload_n 0) := by decide +kernel
theorem i170_1 : gm_I cX12_isPlayer 1 = some (.getfield 295) := by decide +kernel
theorem i170_4 : gm_I cX12_isPlayer 4 = some (.ifCond .eq 24) := by decide +kernel
theorem i170_7 : gm_I cX12_isPlayer 7 = some (.iload_n 1) := by decide +kernel
theorem i170_8 : gm_I cX12_isPlayer 8 = some (.ifCond .lt 20) := by decide +kernel
theorem i170_11 : gm_I cX12_isPlayer 11 = some (.iload_n 1) := by decide +kernel
theorem i170_12 : gm_I cX12_isPlayer 12 = some (.iconst 2) := by decide +kernel
theorem i170_13 : gm_I cX12_isPlayer 13 = some (.if_icmp .ge 15) := by decide +kernel
theorem i170_16 : gm_I cX12_isPlayer 16 = some (.iload_n 1) := by decide +kernel
theorem i170_17 : gm_I cX12_isPlayer 17 = some (.aload_n 0) := by decide +kernel
theorem i170_18 : gm_I cX12_isPlayer 18 = some (.getfield 313) := by decide +kernel
theorem i170_21 : gm_I cX12_isPlayer 21 = some (.if_icmp .ge 7) := by decide +kernel
theorem i170_24 : gm_I cX12_isPlayer 24 = some (.iconst 1) := by decide +kernel
theorem i170_25 : gm_I cX12_isPlayer 25 = some (.goto 4) := by decide +kernel
theorem i170_28 : gm_I cX12_isPlayer 28 = some (.iconst 0) := by decide +kernel
theorem i170_29 : gm_I cX12_isPlayer 29 = some (.ireturn) := by decide +kernel
theorem i171_0 : gm_I cX12_legal 0 = some (.aload_n 0) := by decide +kernel
theorem i171_1 : gm_I cX12_legal 1 = some (.sipush 306) := by decide +kernel
theorem i171_4 : gm_I cX12_legal 4 = some (.aload_n 0) := by decide +kernel
theorem i171_5 : gm_I cX12_legal 5 = some (.getfield 70) := by decide +kernel
theorem i171_8 : gm_I cX12_legal 8 = some (.iload_n 1) := by decide +kernel
theorem i171_9 : gm_I cX12_legal 9 = some (.laload) := by decide +kernel
theorem i171_10 : gm_I cX12_legal 10 = some (.iconst 1) := by decide +kernel
theorem i171_11 : gm_I cX12_legal 11 = some (.invokevirtual 276) := by decide +kernel
theorem i171_14 : gm_I cX12_legal 14 = some (.return_) := by decide +kernel
theorem i172_0 : gm_I cX12_isEnd 0 = some (.aload_n 0) := by decide +kernel
theorem i172_1 : gm_I cX12_isEnd 1 = some (.sipush 276) := by decide +kernel
theorem i172_4 : gm_I cX12_isEnd 4 = some (.lconst 0) := by decide +kernel
theorem i172_5 : gm_I cX12_isEnd 5 = some (.lconst 0) := by decide +kernel
theorem i172_6 : gm_I cX12_isEnd 6 = some (.lconst 0) := by decide +kernel
theorem i172_7 : gm_I cX12_isEnd 7 = some (.invokevirtual 197) := by decide +kernel
theorem i172_10 : gm_I cX12_isEnd 10 = some (.ireturn) := by decide +kernel
theorem i173_0 : gm_I cX12_goalOf 0 = some (.aload_n 0) := by decide +kernel
theorem i173_1 : gm_I cX12_goalOf 1 = some (.sipush 286) := by decide +kernel
theorem i173_4 : gm_I cX12_goalOf 4 = some (.aload_n 0) := by decide +kernel
theorem i173_5 : gm_I cX12_goalOf 5 = some (.getfield 70) := by decide +kernel
theorem i173_8 : gm_I cX12_goalOf 8 = some (.iload_n 1) := by decide +kernel
theorem i173_9 : gm_I cX12_goalOf 9 = some (.laload) := by decide +kernel
theorem i173_10 : gm_I cX12_goalOf 10 = some (.iconst 1) := by decide +kernel
theorem i173_11 : gm_I cX12_goalOf 11 = some (.invokevirtual 276) := by decide +kernel
theorem i173_14 : gm_I cX12_goalOf 14 = some (.aload_n 0) := by decide +kernel
theorem i173_15 : gm_I cX12_goalOf 15 = some (.getfield 270) := by decide +kernel
theorem i173_18 : gm_I cX12_goalOf 18 = some (.iconst 1) := by decide +kernel
theorem i173_19 : gm_I cX12_goalOf 19 = some (.if_icmp .ne 15) := by decide +kernel
theorem i173_22 : gm_I cX12_goalOf 22 = some (.aload_n 0) := by decide +kernel
theorem i173_23 : gm_I cX12_goalOf 23 = some (.getfield 73) := by decide +kernel
theorem i173_26 : gm_I cX12_goalOf 26 = some (.iconst 0) := by decide +kernel
theorem i173_27 : gm_I cX12_goalOf 27 = some (.laload) := by decide +kernel
theorem i173_28 : gm_I cX12_goalOf 28 = some (.invokestatic 204) := by decide +kernel
theorem i173_31 : gm_I cX12_goalOf 31 = some (.ifCond .ne 5) := by decide +kernel
theorem i173_34 : gm_I cX12_goalOf 34 = some (.iconst (-1)) := by decide +kernel
theorem i173_35 : gm_I cX12_goalOf 35 = some (.ireturn) := by decide +kernel
theorem i173_36 : gm_I cX12_goalOf 36 = some (.aload_n 0) := by decide +kernel
theorem i173_37 : gm_I cX12_goalOf 37 = some (.getfield 73) := by decide +kernel
theorem i173_40 : gm_I cX12_goalOf 40 = some (.iconst 0) := by decide +kernel
theorem i173_41 : gm_I cX12_goalOf 41 = some (.laload) := by decide +kernel
theorem i173_42 : gm_I cX12_goalOf 42 = some (.iconst 0) := by decide +kernel
theorem i173_43 : gm_I cX12_goalOf 43 = some (.invokestatic 212) := by decide +kernel
theorem i173_46 : gm_I cX12_goalOf 46 = some (.bipush 48) := by decide +kernel
theorem i173_48 : gm_I cX12_goalOf 48 = some (.isub) := by decide +kernel
theorem i173_49 : gm_I cX12_goalOf 49 = some (.istore_n 2) := by decide +kernel
theorem i173_50 : gm_I cX12_goalOf 50 = some (.iload_n 2) := by decide +kernel
theorem i173_51 : gm_I cX12_goalOf 51 = some (.ifCond .lt 13) := by decide +kernel
theorem i173_54 : gm_I cX12_goalOf 54 = some (.iload_n 2) := by decide +kernel
theorem i173_55 : gm_I cX12_goalOf 55 = some (.bipush 9) := by decide +kernel
theorem i173_57 : gm_I cX12_goalOf 57 = some (.if_icmp .ge 7) := by decide +kernel
theorem i173_60 : gm_I cX12_goalOf 60 = some (.iload_n 2) := by decide +kernel
theorem i173_61 : gm_I cX12_goalOf 61 = some (.goto 4) := by decide +kernel
theorem i173_64 : gm_I cX12_goalOf 64 = some (.iconst (-1)) := by decide +kernel
theorem i173_65 : gm_I cX12_goalOf 65 = some (.ireturn) := by decide +kernel
theorem i174_0 : gm_I cX12_many 0 = some (.aload_n 0) := by decide +kernel
theorem i174_1 : gm_I cX12_many 1 = some (.iconst 0) := by decide +kernel
theorem i174_2 : gm_I cX12_many 2 = some (.putfield 100) := by decide +kernel
theorem i174_5 : gm_I cX12_many 5 = some (.iload_n 1) := by decide +kernel
theorem i174_6 : gm_I cX12_many 6 = some (.ifCond .lt 8) := by decide +kernel
theorem i174_9 : gm_I cX12_many 9 = some (.iload_n 1) := by decide +kernel
theorem i174_10 : gm_I cX12_many 10 = some (.iconst 2) := by decide +kernel
theorem i174_11 : gm_I cX12_many 11 = some (.if_icmp .le 5) := by decide +kernel
theorem i174_14 : gm_I cX12_many 14 = some (.iconst (-1)) := by decide +kernel
theorem i174_15 : gm_I cX12_many 15 = some (.ireturn) := by decide +kernel
theorem i174_16 : gm_I cX12_many 16 = some (.aload_n 0) := by decide +kernel
theorem i174_17 : gm_I cX12_many 17 = some (.getfield 295) := by decide +kernel
theorem i174_20 : gm_I cX12_many 20 = some (.ifCond .ne 7) := by decide +kernel
theorem i174_23 : gm_I cX12_many 23 = some (.iconst 0) := by decide +kernel
theorem i174_24 : gm_I cX12_many 24 = some (.goto 30) := by decide +kernel
theorem i174_27 : gm_I cX12_many 27 = some (.iload_n 1) := by decide +kernel
theorem i174_28 : gm_I cX12_many 28 = some (.ifCond .ne 10) := by decide +kernel
theorem i174_31 : gm_I cX12_many 31 = some (.aload_n 0) := by decide +kernel
theorem i174_32 : gm_I cX12_many 32 = some (.getfield 313) := by decide +kernel
theorem i174_35 : gm_I cX12_many 35 = some (.goto 19) := by decide +kernel
theorem i174_38 : gm_I cX12_many 38 = some (.iload_n 1) := by decide +kernel
theorem i174_39 : gm_I cX12_many 39 = some (.iconst 1) := by decide +kernel
theorem i174_40 : gm_I cX12_many 40 = some (.if_icmp .ne 10) := by decide +kernel
theorem i174_43 : gm_I cX12_many 43 = some (.aload_n 0) := by decide +kernel
theorem i174_44 : gm_I cX12_many 44 = some (.getfield 263) := by decide +kernel
theorem i174_47 : gm_I cX12_many 47 = some (.goto 7) := by decide +kernel
theorem i174_50 : gm_I cX12_many 50 = some (.aload_n 0) := by decide +kernel
theorem i174_51 : gm_I cX12_many 51 = some (.getfield 301) := by decide +kernel
theorem i174_54 : gm_I cX12_many 54 = some (.ireturn) := by decide +kernel
theorem i175_0 : gm_I cX12_facts 0 = some (.aload_n 0) := by decide +kernel
theorem i175_1 : gm_I cX12_facts 1 = some (.iconst 0) := by decide +kernel
theorem i175_2 : gm_I cX12_facts 2 = some (.putfield 100) := by decide +kernel
theorem i175_5 : gm_I cX12_facts 5 = some (.iload_n 1) := by decide +kernel
theorem i175_6 : gm_I cX12_facts 6 = some (.invokestatic 132) := by decide +kernel
theorem i175_9 : gm_I cX12_facts 9 = some (.istore_n 3) := by decide +kernel
theorem i175_10 : gm_I cX12_facts 10 = some (.aload_n 0) := by decide +kernel
theorem i175_11 : gm_I cX12_facts 11 = some (.getfield 295) := by decide +kernel
theorem i175_14 : gm_I cX12_facts 14 = some (.ifCond .eq 24) := by decide +kernel
theorem i175_17 : gm_I cX12_facts 17 = some (.iload_n 2) := by decide +kernel
theorem i175_18 : gm_I cX12_facts 18 = some (.ifCond .lt 20) := by decide +kernel
theorem i175_21 : gm_I cX12_facts 21 = some (.iload_n 2) := by decide +kernel
theorem i175_22 : gm_I cX12_facts 22 = some (.iconst 3) := by decide +kernel
theorem i175_23 : gm_I cX12_facts 23 = some (.if_icmp .gt 15) := by decide +kernel
theorem i175_26 : gm_I cX12_facts 26 = some (.iload_n 1) := by decide +kernel
theorem i175_27 : gm_I cX12_facts 27 = some (.invokestatic 115) := by decide +kernel
theorem i175_30 : gm_I cX12_facts 30 = some (.ifCond .ne 10) := by decide +kernel
theorem i175_33 : gm_I cX12_facts 33 = some (.iload_n 3) := by decide +kernel
theorem i175_34 : gm_I cX12_facts 34 = some (.iload_n 2) := by decide +kernel
theorem i175_35 : gm_I cX12_facts 35 = some (.if_icmp .eq 5) := by decide +kernel
theorem i175_38 : gm_I cX12_facts 38 = some (.iconst 0) := by decide +kernel
theorem i175_39 : gm_I cX12_facts 39 = some (.ireturn) := by decide +kernel
theorem i175_40 : gm_I cX12_facts 40 = some (.aload_n 0) := by decide +kernel
theorem i175_41 : gm_I cX12_facts 41 = some (.invokevirtual 310) := by decide +kernel
theorem i175_44 : gm_I cX12_facts 44 = some (.iconst 0) := by decide +kernel
theorem i175_45 : gm_I cX12_facts 45 = some (.istore 4) := by decide +kernel
theorem i175_47 : gm_I cX12_facts 47 = some (.iconst 0) := by decide +kernel
theorem i175_48 : gm_I cX12_facts 48 = some (.istore 5) := by decide +kernel
theorem i175_50 : gm_I cX12_facts 50 = some (.iload 5) := by decide +kernel
theorem i175_52 : gm_I cX12_facts 52 = some (.aload_n 0) := by decide +kernel
theorem i175_53 : gm_I cX12_facts 53 = some (.getfield 190) := by decide +kernel
theorem i175_56 : gm_I cX12_facts 56 = some (.if_icmp .ge 35) := by decide +kernel
theorem i175_59 : gm_I cX12_facts 59 = some (.aload_n 0) := by decide +kernel
theorem i175_60 : gm_I cX12_facts 60 = some (.getfield 45) := by decide +kernel
theorem i175_63 : gm_I cX12_facts 63 = some (.iload 5) := by decide +kernel
theorem i175_65 : gm_I cX12_facts 65 = some (.iaload) := by decide +kernel
theorem i175_66 : gm_I cX12_facts 66 = some (.iconst 4) := by decide +kernel
theorem i175_67 : gm_I cX12_facts 67 = some (.iload_n 1) := by decide +kernel
theorem i175_68 : gm_I cX12_facts 68 = some (.imul) := by decide +kernel
theorem i175_69 : gm_I cX12_facts 69 = some (.iload_n 2) := by decide +kernel
theorem i175_70 : gm_I cX12_facts 70 = some (.iadd) := by decide +kernel
theorem i175_71 : gm_I cX12_facts 71 = some (.if_icmp .ne 10) := by decide +kernel
theorem i175_74 : gm_I cX12_facts 74 = some (.iload 4) := by decide +kernel
theorem i175_76 : gm_I cX12_facts 76 = some (.iconst 1) := by decide +kernel
theorem i175_77 : gm_I cX12_facts 77 = some (.iadd) := by decide +kernel
theorem i175_78 : gm_I cX12_facts 78 = some (.goto 5) := by decide +kernel
theorem i175_81 : gm_I cX12_facts 81 = some (.iload 4) := by decide +kernel
theorem i175_83 : gm_I cX12_facts 83 = some (.istore 4) := by decide +kernel
theorem i175_85 : gm_I cX12_facts 85 = some (.iinc 5 1) := by decide +kernel
theorem i175_88 : gm_I cX12_facts 88 = some (.goto (-38)) := by decide +kernel
theorem i175_91 : gm_I cX12_facts 91 = some (.iload 4) := by decide +kernel
theorem i175_93 : gm_I cX12_facts 93 = some (.ireturn) := by decide +kernel
theorem i176_0 : gm_I cX12_moves 0 = some (.aload_n 0) := by decide +kernel
theorem i176_1 : gm_I cX12_moves 1 = some (.iconst 0) := by decide +kernel
theorem i176_2 : gm_I cX12_moves 2 = some (.putfield 100) := by decide +kernel
theorem i176_5 : gm_I cX12_moves 5 = some (.aload_n 0) := by decide +kernel
theorem i176_6 : gm_I cX12_moves 6 = some (.iload_n 1) := by decide +kernel
theorem i176_7 : gm_I cX12_moves 7 = some (.invokevirtual 316) := by decide +kernel
theorem i176_10 : gm_I cX12_moves 10 = some (.ifCond .ne 5) := by decide +kernel
theorem i176_13 : gm_I cX12_moves 13 = some (.iconst (-1)) := by decide +kernel
theorem i176_14 : gm_I cX12_moves 14 = some (.ireturn) := by decide +kernel
theorem i176_15 : gm_I cX12_moves 15 = some (.aload_n 0) := by decide +kernel
theorem i176_16 : gm_I cX12_moves 16 = some (.invokevirtual 310) := by decide +kernel
theorem i176_19 : gm_I cX12_moves 19 = some (.aload_n 0) := by decide +kernel
theorem i176_20 : gm_I cX12_moves 20 = some (.iload_n 1) := by decide +kernel
theorem i176_21 : gm_I cX12_moves 21 = some (.invokevirtual 319) := by decide +kernel
theorem i176_24 : gm_I cX12_moves 24 = some (.aload_n 0) := by decide +kernel
theorem i176_25 : gm_I cX12_moves 25 = some (.getfield 270) := by decide +kernel
theorem i176_28 : gm_I cX12_moves 28 = some (.ireturn) := by decide +kernel
theorem i177_0 : gm_I cX12_over 0 = some (.aload_n 0) := by decide +kernel
theorem i177_1 : gm_I cX12_over 1 = some (.iconst 0) := by decide +kernel
theorem i177_2 : gm_I cX12_over 2 = some (.putfield 100) := by decide +kernel
theorem i177_5 : gm_I cX12_over 5 = some (.aload_n 0) := by decide +kernel
theorem i177_6 : gm_I cX12_over 6 = some (.getfield 295) := by decide +kernel
theorem i177_9 : gm_I cX12_over 9 = some (.ifCond .ne 5) := by decide +kernel
theorem i177_12 : gm_I cX12_over 12 = some (.iconst (-1)) := by decide +kernel
theorem i177_13 : gm_I cX12_over 13 = some (.ireturn) := by decide +kernel
theorem i177_14 : gm_I cX12_over 14 = some (.aload_n 0) := by decide +kernel
theorem i177_15 : gm_I cX12_over 15 = some (.invokevirtual 310) := by decide +kernel
theorem i177_18 : gm_I cX12_over 18 = some (.aload_n 0) := by decide +kernel
theorem i177_19 : gm_I cX12_over 19 = some (.invokevirtual 322) := by decide +kernel
theorem i177_22 : gm_I cX12_over 22 = some (.ifCond .eq 7) := by decide +kernel
theorem i177_25 : gm_I cX12_over 25 = some (.iconst 1) := by decide +kernel
theorem i177_26 : gm_I cX12_over 26 = some (.goto 4) := by decide +kernel
theorem i177_29 : gm_I cX12_over 29 = some (.iconst 0) := by decide +kernel
theorem i177_30 : gm_I cX12_over 30 = some (.ireturn) := by decide +kernel
theorem i178_0 : gm_I cX12_goal 0 = some (.aload_n 0) := by decide +kernel
theorem i178_1 : gm_I cX12_goal 1 = some (.iconst 0) := by decide +kernel
theorem i178_2 : gm_I cX12_goal 2 = some (.putfield 100) := by decide +kernel
theorem i178_5 : gm_I cX12_goal 5 = some (.aload_n 0) := by decide +kernel
theorem i178_6 : gm_I cX12_goal 6 = some (.iload_n 1) := by decide +kernel
theorem i178_7 : gm_I cX12_goal 7 = some (.invokevirtual 316) := by decide +kernel
theorem i178_10 : gm_I cX12_goal 10 = some (.ifCond .ne 5) := by decide +kernel
theorem i178_13 : gm_I cX12_goal 13 = some (.iconst (-1)) := by decide +kernel
theorem i178_14 : gm_I cX12_goal 14 = some (.ireturn) := by decide +kernel
theorem i178_15 : gm_I cX12_goal 15 = some (.aload_n 0) := by decide +kernel
theorem i178_16 : gm_I cX12_goal 16 = some (.invokevirtual 310) := by decide +kernel
theorem i178_19 : gm_I cX12_goal 19 = some (.aload_n 0) := by decide +kernel
theorem i178_20 : gm_I cX12_goal 20 = some (.iload_n 1) := by decide +kernel
theorem i178_21 : gm_I cX12_goal 21 = some (.invokevirtual 325) := by decide +kernel
theorem i178_24 : gm_I cX12_goal 24 = some (.ireturn) := by decide +kernel
theorem i179_0 : gm_I cX12_letter 0 = some (.aload_n 0) := by decide +kernel
theorem i179_1 : gm_I cX12_letter 1 = some (.iconst 0) := by decide +kernel
theorem i179_2 : gm_I cX12_letter 2 = some (.putfield 100) := by decide +kernel
theorem i179_5 : gm_I cX12_letter 5 = some (.iload_n 1) := by decide +kernel
theorem i179_6 : gm_I cX12_letter 6 = some (.ifCond .lt 38) := by decide +kernel
theorem i179_9 : gm_I cX12_letter 9 = some (.iload_n 1) := by decide +kernel
theorem i179_10 : gm_I cX12_letter 10 = some (.iconst 3) := by decide +kernel
theorem i179_11 : gm_I cX12_letter 11 = some (.if_icmp .gt 33) := by decide +kernel
theorem i179_14 : gm_I cX12_letter 14 = some (.iload_n 2) := by decide +kernel
theorem i179_15 : gm_I cX12_letter 15 = some (.ifCond .lt 29) := by decide +kernel
theorem i179_18 : gm_I cX12_letter 18 = some (.iload_n 3) := by decide +kernel
theorem i179_19 : gm_I cX12_letter 19 = some (.ifCond .lt 25) := by decide +kernel
theorem i179_22 : gm_I cX12_letter 22 = some (.aload_n 0) := by decide +kernel
theorem i179_23 : gm_I cX12_letter 23 = some (.getfield 295) := by decide +kernel
theorem i179_26 : gm_I cX12_letter 26 = some (.ifCond .eq 18) := by decide +kernel
theorem i179_29 : gm_I cX12_letter 29 = some (.iload_n 1) := by decide +kernel
theorem i179_30 : gm_I cX12_letter 30 = some (.iconst 1) := by decide +kernel
theorem i179_31 : gm_I cX12_letter 31 = some (.if_icmp .le 15) := by decide +kernel
theorem i179_34 : gm_I cX12_letter 34 = some (.aload_n 0) := by decide +kernel
theorem i179_35 : gm_I cX12_letter 35 = some (.iload_n 1) := by decide +kernel
theorem i179_36 : gm_I cX12_letter 36 = some (.iconst 2) := by decide +kernel
theorem i179_37 : gm_I cX12_letter 37 = some (.isub) := by decide +kernel
theorem i179_38 : gm_I cX12_letter 38 = some (.invokevirtual 316) := by decide +kernel
theorem i179_41 : gm_I cX12_letter 41 = some (.ifCond .ne 5) := by decide +kernel
theorem i179_44 : gm_I cX12_letter 44 = some (.iconst (-1)) := by decide +kernel
theorem i179_45 : gm_I cX12_letter 45 = some (.ireturn) := by decide +kernel
theorem i179_46 : gm_I cX12_letter 46 = some (.aload_n 0) := by decide +kernel
theorem i179_47 : gm_I cX12_letter 47 = some (.invokevirtual 310) := by decide +kernel
theorem i179_50 : gm_I cX12_letter 50 = some (.iload_n 1) := by decide +kernel
theorem i179_51 : gm_I cX12_letter 51 = some (.iconst 1) := by decide +kernel
theorem i179_52 : gm_I cX12_letter 52 = some (.if_icmp .le 10) := by decide +kernel
theorem i179_55 : gm_I cX12_letter 55 = some (.aload_n 0) := by decide +kernel
theorem i179_56 : gm_I cX12_letter 56 = some (.iload_n 1) := by decide +kernel
theorem i179_57 : gm_I cX12_letter 57 = some (.iconst 2) := by decide +kernel
theorem i179_58 : gm_I cX12_letter 58 = some (.isub) := by decide +kernel
theorem i179_59 : gm_I cX12_letter 59 = some (.invokevirtual 319) := by decide +kernel
theorem i179_62 : gm_I cX12_letter 62 = some (.iload_n 1) := by decide +kernel
theorem i179_63 : gm_I cX12_letter 63 = some (.ifCond .ne 10) := by decide +kernel
theorem i179_66 : gm_I cX12_letter 66 = some (.aload_n 0) := by decide +kernel
theorem i179_67 : gm_I cX12_letter 67 = some (.getfield 313) := by decide +kernel
theorem i179_70 : gm_I cX12_letter 70 = some (.goto 19) := by decide +kernel
theorem i179_73 : gm_I cX12_letter 73 = some (.iload_n 1) := by decide +kernel
theorem i179_74 : gm_I cX12_letter 74 = some (.iconst 1) := by decide +kernel
theorem i179_75 : gm_I cX12_letter 75 = some (.if_icmp .ne 10) := by decide +kernel
theorem i179_78 : gm_I cX12_letter 78 = some (.aload_n 0) := by decide +kernel
theorem i179_79 : gm_I cX12_letter 79 = some (.getfield 263) := by decide +kernel
theorem i179_82 : gm_I cX12_letter 82 = some (.goto 7) := by decide +kernel
theorem i179_85 : gm_I cX12_letter 85 = some (.aload_n 0) := by decide +kernel
theorem i179_86 : gm_I cX12_letter 86 = some (.getfield 270) := by decide +kernel
theorem i179_89 : gm_I cX12_letter 89 = some (.istore 4) := by decide +kernel
theorem i179_91 : gm_I cX12_letter 91 = some (.iload_n 2) := by decide +kernel
theorem i179_92 : gm_I cX12_letter 92 = some (.iload 4) := by decide +kernel
theorem i179_94 : gm_I cX12_letter 94 = some (.if_icmp .lt 5) := by decide +kernel
theorem i179_97 : gm_I cX12_letter 97 = some (.iconst (-1)) := by decide +kernel
theorem i179_98 : gm_I cX12_letter 98 = some (.ireturn) := by decide +kernel
theorem i179_99 : gm_I cX12_letter 99 = some (.iload_n 1) := by decide +kernel
theorem i179_100 : gm_I cX12_letter 100 = some (.ifCond .ne 12) := by decide +kernel
theorem i179_103 : gm_I cX12_letter 103 = some (.aload_n 0) := by decide +kernel
theorem i179_104 : gm_I cX12_letter 104 = some (.getfield 70) := by decide +kernel
theorem i179_107 : gm_I cX12_letter 107 = some (.iload_n 2) := by decide +kernel
theorem i179_108 : gm_I cX12_letter 108 = some (.laload) := by decide +kernel
theorem i179_109 : gm_I cX12_letter 109 = some (.goto 23) := by decide +kernel
theorem i179_112 : gm_I cX12_letter 112 = some (.iload_n 1) := by decide +kernel
theorem i179_113 : gm_I cX12_letter 113 = some (.iconst 1) := by decide +kernel
theorem i179_114 : gm_I cX12_letter 114 = some (.if_icmp .ne 12) := by decide +kernel
theorem i179_117 : gm_I cX12_letter 117 = some (.aload_n 0) := by decide +kernel
theorem i179_118 : gm_I cX12_letter 118 = some (.getfield 61) := by decide +kernel
theorem i179_121 : gm_I cX12_letter 121 = some (.iload_n 2) := by decide +kernel
theorem i179_122 : gm_I cX12_letter 122 = some (.laload) := by decide +kernel
theorem i179_123 : gm_I cX12_letter 123 = some (.goto 9) := by decide +kernel
theorem i179_126 : gm_I cX12_letter 126 = some (.aload_n 0) := by decide +kernel
theorem i179_127 : gm_I cX12_letter 127 = some (.getfield 73) := by decide +kernel
theorem i179_130 : gm_I cX12_letter 130 = some (.iload_n 2) := by decide +kernel
theorem i179_131 : gm_I cX12_letter 131 = some (.laload) := by decide +kernel
theorem i179_132 : gm_I cX12_letter 132 = some (.iload_n 3) := by decide +kernel
theorem i179_133 : gm_I cX12_letter 133 = some (.bipush 8) := by decide +kernel
theorem i179_135 : gm_I cX12_letter 135 = some (.if_icmp .le 8) := by decide +kernel
theorem i179_138 : gm_I cX12_letter 138 = some (.bipush 8) := by decide +kernel
theorem i179_140 : gm_I cX12_letter 140 = some (.goto 4) := by decide +kernel
theorem i179_143 : gm_I cX12_letter 143 = some (.iload_n 3) := by decide +kernel
theorem i179_144 : gm_I cX12_letter 144 = some (.invokestatic 212) := by decide +kernel
theorem i179_147 : gm_I cX12_letter 147 = some (.istore 5) := by decide +kernel
theorem i179_149 : gm_I cX12_letter 149 = some (.iload 5) := by decide +kernel
theorem i179_151 : gm_I cX12_letter 151 = some (.ifCond .ne 7) := by decide +kernel
theorem i179_154 : gm_I cX12_letter 154 = some (.iconst (-1)) := by decide +kernel
theorem i179_155 : gm_I cX12_letter 155 = some (.goto 5) := by decide +kernel
theorem i179_158 : gm_I cX12_letter 158 = some (.iload 5) := by decide +kernel
theorem i179_160 : gm_I cX12_letter 160 = some (.ireturn) := by decide +kernel
theorem i180_0 : gm_I cX12_play 0 = some (.aload_n 0) := by decide +kernel
theorem i180_1 : gm_I cX12_play 1 = some (.iconst 0) := by decide +kernel
theorem i180_2 : gm_I cX12_play 2 = some (.putfield 100) := by decide +kernel
theorem i180_5 : gm_I cX12_play 5 = some (.aload_n 0) := by decide +kernel
theorem i180_6 : gm_I cX12_play 6 = some (.getfield 295) := by decide +kernel
theorem i180_9 : gm_I cX12_play 9 = some (.ifCond .eq 11) := by decide +kernel
theorem i180_12 : gm_I cX12_play 12 = some (.aload_n 0) := by decide +kernel
theorem i180_13 : gm_I cX12_play 13 = some (.getfield 313) := by decide +kernel
theorem i180_16 : gm_I cX12_play 16 = some (.iconst 2) := by decide +kernel
theorem i180_17 : gm_I cX12_play 17 = some (.if_icmp .eq 9) := by decide +kernel
theorem i180_20 : gm_I cX12_play 20 = some (.aload_n 0) := by decide +kernel
theorem i180_21 : gm_I cX12_play 21 = some (.iconst 1) := by decide +kernel
theorem i180_22 : gm_I cX12_play 22 = some (.invokevirtual 328) := by decide +kernel
theorem i180_25 : gm_I cX12_play 25 = some (.ireturn) := by decide +kernel
theorem i180_26 : gm_I cX12_play 26 = some (.aload_n 0) := by decide +kernel
theorem i180_27 : gm_I cX12_play 27 = some (.invokevirtual 310) := by decide +kernel
theorem i180_30 : gm_I cX12_play 30 = some (.aload_n 0) := by decide +kernel
theorem i180_31 : gm_I cX12_play 31 = some (.invokevirtual 322) := by decide +kernel
theorem i180_34 : gm_I cX12_play 34 = some (.ifCond .eq 9) := by decide +kernel
theorem i180_37 : gm_I cX12_play 37 = some (.aload_n 0) := by decide +kernel
theorem i180_38 : gm_I cX12_play 38 = some (.iconst 1) := by decide +kernel
theorem i180_39 : gm_I cX12_play 39 = some (.invokevirtual 328) := by decide +kernel
theorem i180_42 : gm_I cX12_play 42 = some (.ireturn) := by decide +kernel
theorem i180_43 : gm_I cX12_play 43 = some (.aload_n 0) := by decide +kernel
theorem i180_44 : gm_I cX12_play 44 = some (.iconst 0) := by decide +kernel
theorem i180_45 : gm_I cX12_play 45 = some (.invokevirtual 319) := by decide +kernel
theorem i180_48 : gm_I cX12_play 48 = some (.iload_n 1) := by decide +kernel
theorem i180_49 : gm_I cX12_play 49 = some (.ifCond .lt 11) := by decide +kernel
theorem i180_52 : gm_I cX12_play 52 = some (.iload_n 1) := by decide +kernel
theorem i180_53 : gm_I cX12_play 53 = some (.aload_n 0) := by decide +kernel
theorem i180_54 : gm_I cX12_play 54 = some (.getfield 270) := by decide +kernel
theorem i180_57 : gm_I cX12_play 57 = some (.if_icmp .lt 9) := by decide +kernel
theorem i180_60 : gm_I cX12_play 60 = some (.aload_n 0) := by decide +kernel
theorem i180_61 : gm_I cX12_play 61 = some (.iconst 2) := by decide +kernel
theorem i180_62 : gm_I cX12_play 62 = some (.invokevirtual 328) := by decide +kernel
theorem i180_65 : gm_I cX12_play 65 = some (.ireturn) := by decide +kernel
theorem i180_66 : gm_I cX12_play 66 = some (.aload_n 0) := by decide +kernel
theorem i180_67 : gm_I cX12_play 67 = some (.getfield 73) := by decide +kernel
theorem i180_70 : gm_I cX12_play 70 = some (.iload_n 1) := by decide +kernel
theorem i180_71 : gm_I cX12_play 71 = some (.laload) := by decide +kernel
theorem i180_72 : gm_I cX12_play 72 = some (.lstore_n 3) := by decide +kernel
theorem i180_73 : gm_I cX12_play 73 = some (.aload_n 0) := by decide +kernel
theorem i180_74 : gm_I cX12_play 74 = some (.iconst 1) := by decide +kernel
theorem i180_75 : gm_I cX12_play 75 = some (.invokevirtual 319) := by decide +kernel
theorem i180_78 : gm_I cX12_play 78 = some (.iload_n 2) := by decide +kernel
theorem i180_79 : gm_I cX12_play 79 = some (.ifCond .lt 11) := by decide +kernel
theorem i180_82 : gm_I cX12_play 82 = some (.iload_n 2) := by decide +kernel
theorem i180_83 : gm_I cX12_play 83 = some (.aload_n 0) := by decide +kernel
theorem i180_84 : gm_I cX12_play 84 = some (.getfield 270) := by decide +kernel
theorem i180_87 : gm_I cX12_play 87 = some (.if_icmp .lt 9) := by decide +kernel
theorem i180_90 : gm_I cX12_play 90 = some (.aload_n 0) := by decide +kernel
theorem i180_91 : gm_I cX12_play 91 = some (.iconst 2) := by decide +kernel
theorem i180_92 : gm_I cX12_play 92 = some (.invokevirtual 328) := by decide +kernel
theorem i180_95 : gm_I cX12_play 95 = some (.ireturn) := by decide +kernel
theorem i180_96 : gm_I cX12_play 96 = some (.aload_n 0) := by decide +kernel
theorem i180_97 : gm_I cX12_play 97 = some (.aload_n 0) := by decide +kernel
theorem i180_98 : gm_I cX12_play 98 = some (.getfield 61) := by decide +kernel
theorem i180_101 : gm_I cX12_play 101 = some (.iconst 0) := by decide +kernel
theorem i180_102 : gm_I cX12_play 102 = some (.aload_n 0) := by decide +kernel
theorem i180_103 : gm_I cX12_play 103 = some (.getfield 263) := by decide +kernel
theorem i180_106 : gm_I cX12_play 106 = some (.lload_n 3) := by decide +kernel
theorem i180_107 : gm_I cX12_play 107 = some (.aload_n 0) := by decide +kernel
theorem i180_108 : gm_I cX12_play 108 = some (.getfield 73) := by decide +kernel
theorem i180_111 : gm_I cX12_play 111 = some (.iload_n 2) := by decide +kernel
theorem i180_112 : gm_I cX12_play 112 = some (.laload) := by decide +kernel
theorem i180_113 : gm_I cX12_play 113 = some (.invokevirtual 331) := by decide +kernel
theorem i180_116 : gm_I cX12_play 116 = some (.istore 5) := by decide +kernel
theorem i180_118 : gm_I cX12_play 118 = some (.iload 5) := by decide +kernel
theorem i180_120 : gm_I cX12_play 120 = some (.ifCond .eq 16) := by decide +kernel
theorem i180_123 : gm_I cX12_play 123 = some (.aload_n 0) := by decide +kernel
theorem i180_124 : gm_I cX12_play 124 = some (.aload_n 0) := by decide +kernel
theorem i180_125 : gm_I cX12_play 125 = some (.getfield 67) := by decide +kernel
theorem i180_128 : gm_I cX12_play 128 = some (.iconst 0) := by decide +kernel
theorem i180_129 : gm_I cX12_play 129 = some (.aload_n 0) := by decide +kernel
theorem i180_130 : gm_I cX12_play 130 = some (.getfield 273) := by decide +kernel
theorem i180_133 : gm_I cX12_play 133 = some (.invokevirtual 266) := by decide +kernel
theorem i180_136 : gm_I cX12_play 136 = some (.aload_n 0) := by decide +kernel
theorem i180_137 : gm_I cX12_play 137 = some (.iconst 0) := by decide +kernel
theorem i180_138 : gm_I cX12_play 138 = some (.putfield 254) := by decide +kernel
theorem i180_141 : gm_I cX12_play 141 = some (.iload 5) := by decide +kernel
theorem i180_143 : gm_I cX12_play 143 = some (.ifCond .eq 10) := by decide +kernel
theorem i180_146 : gm_I cX12_play 146 = some (.aload_n 0) := by decide +kernel
theorem i180_147 : gm_I cX12_play 147 = some (.getfield 193) := by decide +kernel
theorem i180_150 : gm_I cX12_play 150 = some (.ifCond .eq 9) := by decide +kernel
theorem i180_153 : gm_I cX12_play 153 = some (.aload_n 0) := by decide +kernel
theorem i180_154 : gm_I cX12_play 154 = some (.iconst 1) := by decide +kernel
theorem i180_155 : gm_I cX12_play 155 = some (.invokevirtual 328) := by decide +kernel
theorem i180_158 : gm_I cX12_play 158 = some (.ireturn) := by decide +kernel
theorem i180_159 : gm_I cX12_play 159 = some (.aload_n 0) := by decide +kernel
theorem i180_160 : gm_I cX12_play 160 = some (.aload_n 0) := by decide +kernel
theorem i180_161 : gm_I cX12_play 161 = some (.getfield 273) := by decide +kernel
theorem i180_164 : gm_I cX12_play 164 = some (.putfield 263) := by decide +kernel
theorem i180_167 : gm_I cX12_play 167 = some (.iconst 0) := by decide +kernel
theorem i180_168 : gm_I cX12_play 168 = some (.istore 6) := by decide +kernel
theorem i180_170 : gm_I cX12_play 170 = some (.iload 6) := by decide +kernel
theorem i180_172 : gm_I cX12_play 172 = some (.aload_n 0) := by decide +kernel
theorem i180_173 : gm_I cX12_play 173 = some (.getfield 273) := by decide +kernel
theorem i180_176 : gm_I cX12_play 176 = some (.if_icmp .ge 23) := by decide +kernel
theorem i180_179 : gm_I cX12_play 179 = some (.aload_n 0) := by decide +kernel
theorem i180_180 : gm_I cX12_play 180 = some (.getfield 61) := by decide +kernel
theorem i180_183 : gm_I cX12_play 183 = some (.iload 6) := by decide +kernel
theorem i180_185 : gm_I cX12_play 185 = some (.aload_n 0) := by decide +kernel
theorem i180_186 : gm_I cX12_play 186 = some (.getfield 67) := by decide +kernel
theorem i180_189 : gm_I cX12_play 189 = some (.iload 6) := by decide +kernel
theorem i180_191 : gm_I cX12_play 191 = some (.laload) := by decide +kernel
theorem i180_192 : gm_I cX12_play 192 = some (.lastore) := by decide +kernel
theorem i180_193 : gm_I cX12_play 193 = some (.iinc 6 1) := by decide +kernel
theorem i180_196 : gm_I cX12_play 196 = some (.goto (-26)) := by decide +kernel
theorem i180_199 : gm_I cX12_play 199 = some (.aload_n 0) := by decide +kernel
theorem i180_200 : gm_I cX12_play 200 = some (.getfield 263) := by decide +kernel
theorem i180_203 : gm_I cX12_play 203 = some (.ireturn) := by decide +kernel
theorem i181_0 : gm_I cX12_restart 0 = some (.aload_n 0) := by decide +kernel
theorem i181_1 : gm_I cX12_restart 1 = some (.iconst 0) := by decide +kernel
theorem i181_2 : gm_I cX12_restart 2 = some (.putfield 100) := by decide +kernel
theorem i181_5 : gm_I cX12_restart 5 = some (.aload_n 0) := by decide +kernel
theorem i181_6 : gm_I cX12_restart 6 = some (.getfield 295) := by decide +kernel
theorem i181_9 : gm_I cX12_restart 9 = some (.ifCond .eq 7) := by decide +kernel
theorem i181_12 : gm_I cX12_restart 12 = some (.aload_n 0) := by decide +kernel
theorem i181_13 : gm_I cX12_restart 13 = some (.invokevirtual 307) := by decide +kernel
theorem i181_16 : gm_I cX12_restart 16 = some (.aload_n 0) := by decide +kernel
theorem i181_17 : gm_I cX12_restart 17 = some (.getfield 295) := by decide +kernel
