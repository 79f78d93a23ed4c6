/-! the code by its places, by program -/
theorem i133_93 : gm_I cX12_rule 93 = some (.aload_n 0) := by decide +kernel
theorem i133_94 : gm_I cX12_rule 94 = some (.bipush 44) := by decide +kernel
theorem i133_96 : gm_I cX12_rule 96 = some (.invokevirtual 129) := by decide +kernel
theorem i133_99 : gm_I cX12_rule 99 = some (.ifCond .ne 5) := by decide +kernel
theorem i133_102 : gm_I cX12_rule 102 = some (.iconst 0) := by decide +kernel
theorem i133_103 : gm_I cX12_rule 103 = some (.ireturn) := by decide +kernel
theorem i133_104 : gm_I cX12_rule 104 = some (.iinc 2 1) := by decide +kernel
theorem i133_107 : gm_I cX12_rule 107 = some (.goto (-53)) := by decide +kernel
theorem i133_110 : gm_I cX12_rule 110 = some (.iconst 0) := by decide +kernel
theorem i133_111 : gm_I cX12_rule 111 = some (.ireturn) := by decide +kernel
theorem i134_0 : gm_I cX12_read 0 = some (.aload_n 0) := by decide +kernel
theorem i134_1 : gm_I cX12_read 1 = some (.iconst 0) := by decide +kernel
theorem i134_2 : gm_I cX12_read 2 = some (.putfield 109) := by decide +kernel
theorem i134_5 : gm_I cX12_read 5 = some (.aload_n 0) := by decide +kernel
theorem i134_6 : gm_I cX12_read 6 = some (.iconst 0) := by decide +kernel
theorem i134_7 : gm_I cX12_read 7 = some (.putfield 148) := by decide +kernel
theorem i134_10 : gm_I cX12_read 10 = some (.aload_n 0) := by decide +kernel
theorem i134_11 : gm_I cX12_read 11 = some (.getfield 109) := by decide +kernel
theorem i134_14 : gm_I cX12_read 14 = some (.aload_n 0) := by decide +kernel
theorem i134_15 : gm_I cX12_read 15 = some (.getfield 112) := by decide +kernel
theorem i134_18 : gm_I cX12_read 18 = some (.if_icmp .lt 10) := by decide +kernel
theorem i134_21 : gm_I cX12_read 21 = some (.aload_n 0) := by decide +kernel
theorem i134_22 : gm_I cX12_read 22 = some (.getfield 148) := by decide +kernel
theorem i134_25 : gm_I cX12_read 25 = some (.ifCond .ne 38) := by decide +kernel
theorem i134_28 : gm_I cX12_read 28 = some (.aload_n 0) := by decide +kernel
theorem i134_29 : gm_I cX12_read 29 = some (.getfield 148) := by decide +kernel
theorem i134_32 : gm_I cX12_read 32 = some (.bipush 24) := by decide +kernel
theorem i134_34 : gm_I cX12_read 34 = some (.if_icmp .eq 14) := by decide +kernel
theorem i134_37 : gm_I cX12_read 37 = some (.aload_n 0) := by decide +kernel
theorem i134_38 : gm_I cX12_read 38 = some (.aload_n 0) := by decide +kernel
theorem i134_39 : gm_I cX12_read 39 = some (.getfield 148) := by decide +kernel
theorem i134_42 : gm_I cX12_read 42 = some (.invokevirtual 151) := by decide +kernel
theorem i134_45 : gm_I cX12_read 45 = some (.ifCond .ne 5) := by decide +kernel
theorem i134_48 : gm_I cX12_read 48 = some (.iconst 0) := by decide +kernel
theorem i134_49 : gm_I cX12_read 49 = some (.ireturn) := by decide +kernel
theorem i134_50 : gm_I cX12_read 50 = some (.aload_n 0) := by decide +kernel
theorem i134_51 : gm_I cX12_read 51 = some (.dup) := by decide +kernel
theorem i134_52 : gm_I cX12_read 52 = some (.getfield 148) := by decide +kernel
theorem i134_55 : gm_I cX12_read 55 = some (.iconst 1) := by decide +kernel
theorem i134_56 : gm_I cX12_read 56 = some (.iadd) := by decide +kernel
theorem i134_57 : gm_I cX12_read 57 = some (.putfield 148) := by decide +kernel
theorem i134_60 : gm_I cX12_read 60 = some (.goto (-50)) := by decide +kernel
theorem i134_63 : gm_I cX12_read 63 = some (.iconst 1) := by decide +kernel
theorem i134_64 : gm_I cX12_read 64 = some (.ireturn) := by decide +kernel
theorem i135_0 : gm_I cX12_bits 0 = some (.iconst 0) := by decide +kernel
theorem i135_1 : gm_I cX12_bits 1 = some (.istore_n 3) := by decide +kernel
theorem i135_2 : gm_I cX12_bits 2 = some (.iconst 3) := by decide +kernel
theorem i135_3 : gm_I cX12_bits 3 = some (.iload_n 1) := by decide +kernel
theorem i135_4 : gm_I cX12_bits 4 = some (.imul) := by decide +kernel
theorem i135_5 : gm_I cX12_bits 5 = some (.istore 4) := by decide +kernel
theorem i135_7 : gm_I cX12_bits 7 = some (.iload 4) := by decide +kernel
theorem i135_9 : gm_I cX12_bits 9 = some (.iconst 3) := by decide +kernel
theorem i135_10 : gm_I cX12_bits 10 = some (.iload_n 1) := by decide +kernel
theorem i135_11 : gm_I cX12_bits 11 = some (.imul) := by decide +kernel
theorem i135_12 : gm_I cX12_bits 12 = some (.iload_n 2) := by decide +kernel
theorem i135_13 : gm_I cX12_bits 13 = some (.iadd) := by decide +kernel
theorem i135_14 : gm_I cX12_bits 14 = some (.if_icmp .ge 70) := by decide +kernel
theorem i135_17 : gm_I cX12_bits 17 = some (.iconst 3) := by decide +kernel
theorem i135_18 : gm_I cX12_bits 18 = some (.iload 4) := by decide +kernel
theorem i135_20 : gm_I cX12_bits 20 = some (.imul) := by decide +kernel
theorem i135_21 : gm_I cX12_bits 21 = some (.istore 5) := by decide +kernel
theorem i135_23 : gm_I cX12_bits 23 = some (.iload 5) := by decide +kernel
theorem i135_25 : gm_I cX12_bits 25 = some (.iconst 3) := by decide +kernel
theorem i135_26 : gm_I cX12_bits 26 = some (.iload 4) := by decide +kernel
theorem i135_28 : gm_I cX12_bits 28 = some (.imul) := by decide +kernel
theorem i135_29 : gm_I cX12_bits 29 = some (.aload_n 0) := by decide +kernel
theorem i135_30 : gm_I cX12_bits 30 = some (.getfield 32) := by decide +kernel
theorem i135_33 : gm_I cX12_bits 33 = some (.iload 4) := by decide +kernel
theorem i135_35 : gm_I cX12_bits 35 = some (.iaload) := by decide +kernel
theorem i135_36 : gm_I cX12_bits 36 = some (.iadd) := by decide +kernel
theorem i135_37 : gm_I cX12_bits 37 = some (.if_icmp .ge 41) := by decide +kernel
theorem i135_40 : gm_I cX12_bits 40 = some (.aload_n 0) := by decide +kernel
theorem i135_41 : gm_I cX12_bits 41 = some (.getfield 35) := by decide +kernel
theorem i135_44 : gm_I cX12_bits 44 = some (.iload 5) := by decide +kernel
theorem i135_46 : gm_I cX12_bits 46 = some (.iaload) := by decide +kernel
theorem i135_47 : gm_I cX12_bits 47 = some (.invokestatic 119) := by decide +kernel
theorem i135_50 : gm_I cX12_bits 50 = some (.ifCond .eq 20) := by decide +kernel
theorem i135_53 : gm_I cX12_bits 53 = some (.iload_n 3) := by decide +kernel
theorem i135_54 : gm_I cX12_bits 54 = some (.iconst 1) := by decide +kernel
theorem i135_55 : gm_I cX12_bits 55 = some (.aload_n 0) := by decide +kernel
theorem i135_56 : gm_I cX12_bits 56 = some (.getfield 35) := by decide +kernel
theorem i135_59 : gm_I cX12_bits 59 = some (.iload 5) := by decide +kernel
theorem i135_61 : gm_I cX12_bits 61 = some (.iaload) := by decide +kernel
theorem i135_62 : gm_I cX12_bits 62 = some (.bipush 85) := by decide +kernel
theorem i135_64 : gm_I cX12_bits 64 = some (.isub) := by decide +kernel
theorem i135_65 : gm_I cX12_bits 65 = some (.ishl) := by decide +kernel
theorem i135_66 : gm_I cX12_bits 66 = some (.ior) := by decide +kernel
theorem i135_67 : gm_I cX12_bits 67 = some (.goto 4) := by decide +kernel
theorem i135_70 : gm_I cX12_bits 70 = some (.iload_n 3) := by decide +kernel
theorem i135_71 : gm_I cX12_bits 71 = some (.istore_n 3) := by decide +kernel
theorem i135_72 : gm_I cX12_bits 72 = some (.iinc 5 1) := by decide +kernel
theorem i135_75 : gm_I cX12_bits 75 = some (.goto (-52)) := by decide +kernel
theorem i135_78 : gm_I cX12_bits 78 = some (.iinc 4 1) := by decide +kernel
theorem i135_81 : gm_I cX12_bits 81 = some (.goto (-74)) := by decide +kernel
theorem i135_84 : gm_I cX12_bits 84 = some (.iload_n 3) := by decide +kernel
theorem i135_85 : gm_I cX12_bits 85 = some (.ireturn) := by decide +kernel
theorem i136_0 : gm_I cX12_variables 0 = some (.aload_n 0) := by decide +kernel
theorem i136_1 : gm_I cX12_variables 1 = some (.iload_n 1) := by decide +kernel
theorem i136_2 : gm_I cX12_variables 2 = some (.aload_n 0) := by decide +kernel
theorem i136_3 : gm_I cX12_variables 3 = some (.getfield 23) := by decide +kernel
theorem i136_6 : gm_I cX12_variables 6 = some (.iload_n 1) := by decide +kernel
theorem i136_7 : gm_I cX12_variables 7 = some (.iaload) := by decide +kernel
theorem i136_8 : gm_I cX12_variables 8 = some (.iconst 2) := by decide +kernel
theorem i136_9 : gm_I cX12_variables 9 = some (.if_icmp .ne 7) := by decide +kernel
theorem i136_12 : gm_I cX12_variables 12 = some (.iconst 2) := by decide +kernel
theorem i136_13 : gm_I cX12_variables 13 = some (.goto 11) := by decide +kernel
theorem i136_16 : gm_I cX12_variables 16 = some (.aload_n 0) := by decide +kernel
theorem i136_17 : gm_I cX12_variables 17 = some (.getfield 26) := by decide +kernel
theorem i136_20 : gm_I cX12_variables 20 = some (.iload_n 1) := by decide +kernel
theorem i136_21 : gm_I cX12_variables 21 = some (.iaload) := by decide +kernel
theorem i136_22 : gm_I cX12_variables 22 = some (.iconst 3) := by decide +kernel
theorem i136_23 : gm_I cX12_variables 23 = some (.iand) := by decide +kernel
theorem i136_24 : gm_I cX12_variables 24 = some (.invokevirtual 154) := by decide +kernel
theorem i136_27 : gm_I cX12_variables 27 = some (.ireturn) := by decide +kernel
theorem i137_0 : gm_I cX12_isHeadWrong 0 = some (.aload_n 0) := by decide +kernel
theorem i137_1 : gm_I cX12_isHeadWrong 1 = some (.getfield 26) := by decide +kernel
theorem i137_4 : gm_I cX12_isHeadWrong 4 = some (.bipush 6) := by decide +kernel
theorem i137_6 : gm_I cX12_isHeadWrong 6 = some (.iload_n 1) := by decide +kernel
theorem i137_7 : gm_I cX12_isHeadWrong 7 = some (.imul) := by decide +kernel
theorem i137_8 : gm_I cX12_isHeadWrong 8 = some (.iaload) := by decide +kernel
theorem i137_9 : gm_I cX12_isHeadWrong 9 = some (.iconst 4) := by decide +kernel
theorem i137_10 : gm_I cX12_isHeadWrong 10 = some (.idiv) := by decide +kernel
theorem i137_11 : gm_I cX12_isHeadWrong 11 = some (.istore_n 2) := by decide +kernel
theorem i137_12 : gm_I cX12_isHeadWrong 12 = some (.iload_n 2) := by decide +kernel
theorem i137_13 : gm_I cX12_isHeadWrong 13 = some (.bipush 84) := by decide +kernel
theorem i137_15 : gm_I cX12_isHeadWrong 15 = some (.if_icmp .eq 35) := by decide +kernel
theorem i137_18 : gm_I cX12_isHeadWrong 18 = some (.iload_n 2) := by decide +kernel
theorem i137_19 : gm_I cX12_isHeadWrong 19 = some (.bipush 68) := by decide +kernel
theorem i137_21 : gm_I cX12_isHeadWrong 21 = some (.if_icmp .eq 29) := by decide +kernel
theorem i137_24 : gm_I cX12_isHeadWrong 24 = some (.iload_n 2) := by decide +kernel
theorem i137_25 : gm_I cX12_isHeadWrong 25 = some (.bipush 82) := by decide +kernel
theorem i137_27 : gm_I cX12_isHeadWrong 27 = some (.if_icmp .ne 27) := by decide +kernel
theorem i137_30 : gm_I cX12_isHeadWrong 30 = some (.aload_n 0) := by decide +kernel
theorem i137_31 : gm_I cX12_isHeadWrong 31 = some (.getfield 19) := by decide +kernel
theorem i137_34 : gm_I cX12_isHeadWrong 34 = some (.iload_n 1) := by decide +kernel
theorem i137_35 : gm_I cX12_isHeadWrong 35 = some (.iaload) := by decide +kernel
theorem i137_36 : gm_I cX12_isHeadWrong 36 = some (.ifCond .gt 14) := by decide +kernel
theorem i137_39 : gm_I cX12_isHeadWrong 39 = some (.aload_n 0) := by decide +kernel
theorem i137_40 : gm_I cX12_isHeadWrong 40 = some (.bipush 6) := by decide +kernel
theorem i137_42 : gm_I cX12_isHeadWrong 42 = some (.iload_n 1) := by decide +kernel
theorem i137_43 : gm_I cX12_isHeadWrong 43 = some (.imul) := by decide +kernel
theorem i137_44 : gm_I cX12_isHeadWrong 44 = some (.invokevirtual 158) := by decide +kernel
theorem i137_47 : gm_I cX12_isHeadWrong 47 = some (.ifCond .eq 7) := by decide +kernel
theorem i137_50 : gm_I cX12_isHeadWrong 50 = some (.iconst 1) := by decide +kernel
theorem i137_51 : gm_I cX12_isHeadWrong 51 = some (.goto 4) := by decide +kernel
theorem i137_54 : gm_I cX12_isHeadWrong 54 = some (.iconst 0) := by decide +kernel
theorem i137_55 : gm_I cX12_isHeadWrong 55 = some (.istore_n 3) := by decide +kernel
theorem i137_56 : gm_I cX12_isHeadWrong 56 = some (.bipush 6) := by decide +kernel
theorem i137_58 : gm_I cX12_isHeadWrong 58 = some (.iload_n 1) := by decide +kernel
theorem i137_59 : gm_I cX12_isHeadWrong 59 = some (.imul) := by decide +kernel
theorem i137_60 : gm_I cX12_isHeadWrong 60 = some (.iconst 1) := by decide +kernel
theorem i137_61 : gm_I cX12_isHeadWrong 61 = some (.iadd) := by decide +kernel
theorem i137_62 : gm_I cX12_isHeadWrong 62 = some (.istore 4) := by decide +kernel
theorem i137_64 : gm_I cX12_isHeadWrong 64 = some (.iload 4) := by decide +kernel
theorem i137_66 : gm_I cX12_isHeadWrong 66 = some (.bipush 6) := by decide +kernel
theorem i137_68 : gm_I cX12_isHeadWrong 68 = some (.iload_n 1) := by decide +kernel
theorem i137_69 : gm_I cX12_isHeadWrong 69 = some (.imul) := by decide +kernel
theorem i137_70 : gm_I cX12_isHeadWrong 70 = some (.aload_n 0) := by decide +kernel
theorem i137_71 : gm_I cX12_isHeadWrong 71 = some (.getfield 19) := by decide +kernel
theorem i137_74 : gm_I cX12_isHeadWrong 74 = some (.iload_n 1) := by decide +kernel
theorem i137_75 : gm_I cX12_isHeadWrong 75 = some (.iaload) := by decide +kernel
theorem i137_76 : gm_I cX12_isHeadWrong 76 = some (.iadd) := by decide +kernel
theorem i137_77 : gm_I cX12_isHeadWrong 77 = some (.if_icmp .gt 58) := by decide +kernel
theorem i137_80 : gm_I cX12_isHeadWrong 80 = some (.iload_n 3) := by decide +kernel
theorem i137_81 : gm_I cX12_isHeadWrong 81 = some (.ifCond .ne 42) := by decide +kernel
theorem i137_84 : gm_I cX12_isHeadWrong 84 = some (.aload_n 0) := by decide +kernel
theorem i137_85 : gm_I cX12_isHeadWrong 85 = some (.getfield 23) := by decide +kernel
theorem i137_88 : gm_I cX12_isHeadWrong 88 = some (.iload 4) := by decide +kernel
theorem i137_90 : gm_I cX12_isHeadWrong 90 = some (.iaload) := by decide +kernel
theorem i137_91 : gm_I cX12_isHeadWrong 91 = some (.iconst 2) := by decide +kernel
theorem i137_92 : gm_I cX12_isHeadWrong 92 = some (.if_icmp .ge 35) := by decide +kernel
theorem i137_95 : gm_I cX12_isHeadWrong 95 = some (.aload_n 0) := by decide +kernel
theorem i137_96 : gm_I cX12_isHeadWrong 96 = some (.getfield 26) := by decide +kernel
theorem i137_99 : gm_I cX12_isHeadWrong 99 = some (.iload 4) := by decide +kernel
theorem i137_101 : gm_I cX12_isHeadWrong 101 = some (.iaload) := by decide +kernel
theorem i137_102 : gm_I cX12_isHeadWrong 102 = some (.iconst 4) := by decide +kernel
theorem i137_103 : gm_I cX12_isHeadWrong 103 = some (.idiv) := by decide +kernel
theorem i137_104 : gm_I cX12_isHeadWrong 104 = some (.bipush 73) := by decide +kernel
theorem i137_106 : gm_I cX12_isHeadWrong 106 = some (.if_icmp .eq 17) := by decide +kernel
theorem i137_109 : gm_I cX12_isHeadWrong 109 = some (.aload_n 0) := by decide +kernel
theorem i137_110 : gm_I cX12_isHeadWrong 110 = some (.getfield 26) := by decide +kernel
theorem i137_113 : gm_I cX12_isHeadWrong 113 = some (.iload 4) := by decide +kernel
theorem i137_115 : gm_I cX12_isHeadWrong 115 = some (.iaload) := by decide +kernel
theorem i137_116 : gm_I cX12_isHeadWrong 116 = some (.iconst 4) := by decide +kernel
theorem i137_117 : gm_I cX12_isHeadWrong 117 = some (.idiv) := by decide +kernel
theorem i137_118 : gm_I cX12_isHeadWrong 118 = some (.bipush 78) := by decide +kernel
theorem i137_120 : gm_I cX12_isHeadWrong 120 = some (.if_icmp .ne 7) := by decide +kernel
theorem i137_123 : gm_I cX12_isHeadWrong 123 = some (.iconst 1) := by decide +kernel
theorem i137_124 : gm_I cX12_isHeadWrong 124 = some (.goto 4) := by decide +kernel
theorem i137_127 : gm_I cX12_isHeadWrong 127 = some (.iconst 0) := by decide +kernel
theorem i137_128 : gm_I cX12_isHeadWrong 128 = some (.istore_n 3) := by decide +kernel
theorem i137_129 : gm_I cX12_isHeadWrong 129 = some (.iinc 4 1) := by decide +kernel
theorem i137_132 : gm_I cX12_isHeadWrong 132 = some (.goto (-68)) := by decide +kernel
theorem i137_135 : gm_I cX12_isHeadWrong 135 = some (.iload_n 3) := by decide +kernel
theorem i137_136 : gm_I cX12_isHeadWrong 136 = some (.ireturn) := by decide +kernel
theorem i138_0 : gm_I cX12_isLoose 0 = some (.aload_n 0) := by decide +kernel
theorem i138_1 : gm_I cX12_isLoose 1 = some (.bipush 6) := by decide +kernel
theorem i138_3 : gm_I cX12_isLoose 3 = some (.iload_n 1) := by decide +kernel
theorem i138_4 : gm_I cX12_isLoose 4 = some (.imul) := by decide +kernel
theorem i138_5 : gm_I cX12_isLoose 5 = some (.invokevirtual 158) := by decide +kernel
theorem i138_8 : gm_I cX12_isLoose 8 = some (.istore_n 2) := by decide +kernel
theorem i138_9 : gm_I cX12_isLoose 9 = some (.iconst 0) := by decide +kernel
theorem i138_10 : gm_I cX12_isLoose 10 = some (.istore_n 3) := by decide +kernel
theorem i138_11 : gm_I cX12_isLoose 11 = some (.bipush 6) := by decide +kernel
theorem i138_13 : gm_I cX12_isLoose 13 = some (.iload_n 1) := by decide +kernel
theorem i138_14 : gm_I cX12_isLoose 14 = some (.imul) := by decide +kernel
theorem i138_15 : gm_I cX12_isLoose 15 = some (.iconst 1) := by decide +kernel
theorem i138_16 : gm_I cX12_isLoose 16 = some (.iadd) := by decide +kernel
theorem i138_17 : gm_I cX12_isLoose 17 = some (.istore 4) := by decide +kernel
theorem i138_19 : gm_I cX12_isLoose 19 = some (.iload 4) := by decide +kernel
theorem i138_21 : gm_I cX12_isLoose 21 = some (.bipush 6) := by decide +kernel
theorem i138_23 : gm_I cX12_isLoose 23 = some (.iload_n 1) := by decide +kernel
theorem i138_24 : gm_I cX12_isLoose 24 = some (.imul) := by decide +kernel
theorem i138_25 : gm_I cX12_isLoose 25 = some (.aload_n 0) := by decide +kernel
theorem i138_26 : gm_I cX12_isLoose 26 = some (.getfield 19) := by decide +kernel
theorem i138_29 : gm_I cX12_isLoose 29 = some (.iload_n 1) := by decide +kernel
theorem i138_30 : gm_I cX12_isLoose 30 = some (.iaload) := by decide +kernel
theorem i138_31 : gm_I cX12_isLoose 31 = some (.iadd) := by decide +kernel
theorem i138_32 : gm_I cX12_isLoose 32 = some (.if_icmp .gt 40) := by decide +kernel
theorem i138_35 : gm_I cX12_isLoose 35 = some (.aload_n 0) := by decide +kernel
theorem i138_36 : gm_I cX12_isLoose 36 = some (.getfield 23) := by decide +kernel
theorem i138_39 : gm_I cX12_isLoose 39 = some (.iload 4) := by decide +kernel
theorem i138_41 : gm_I cX12_isLoose 41 = some (.iaload) := by decide +kernel
theorem i138_42 : gm_I cX12_isLoose 42 = some (.ifCond .ne 15) := by decide +kernel
theorem i138_45 : gm_I cX12_isLoose 45 = some (.iload_n 3) := by decide +kernel
theorem i138_46 : gm_I cX12_isLoose 46 = some (.aload_n 0) := by decide +kernel
theorem i138_47 : gm_I cX12_isLoose 47 = some (.iload 4) := by decide +kernel
theorem i138_49 : gm_I cX12_isLoose 49 = some (.invokevirtual 158) := by decide +kernel
theorem i138_52 : gm_I cX12_isLoose 52 = some (.ior) := by decide +kernel
theorem i138_53 : gm_I cX12_isLoose 53 = some (.istore_n 3) := by decide +kernel
theorem i138_54 : gm_I cX12_isLoose 54 = some (.goto 12) := by decide +kernel
theorem i138_57 : gm_I cX12_isLoose 57 = some (.iload_n 2) := by decide +kernel
theorem i138_58 : gm_I cX12_isLoose 58 = some (.aload_n 0) := by decide +kernel
theorem i138_59 : gm_I cX12_isLoose 59 = some (.iload 4) := by decide +kernel
theorem i138_61 : gm_I cX12_isLoose 61 = some (.invokevirtual 158) := by decide +kernel
theorem i138_64 : gm_I cX12_isLoose 64 = some (.ior) := by decide +kernel
theorem i138_65 : gm_I cX12_isLoose 65 = some (.istore_n 2) := by decide +kernel
theorem i138_66 : gm_I cX12_isLoose 66 = some (.iinc 4 1) := by decide +kernel
theorem i138_69 : gm_I cX12_isLoose 69 = some (.goto (-50)) := by decide +kernel
theorem i138_72 : gm_I cX12_isLoose 72 = some (.iload_n 2) := by decide +kernel
theorem i138_73 : gm_I cX12_isLoose 73 = some (.iload_n 3) := by decide +kernel
theorem i138_74 : gm_I cX12_isLoose 74 = some (.iconst (-1)) := by decide +kernel
theorem i138_75 : gm_I cX12_isLoose 75 = some (.ixor) := by decide +kernel
theorem i138_76 : gm_I cX12_isLoose 76 = some (.iand) := by decide +kernel
theorem i138_77 : gm_I cX12_isLoose 77 = some (.ifCond .eq 7) := by decide +kernel
theorem i138_80 : gm_I cX12_isLoose 80 = some (.iconst 1) := by decide +kernel
theorem i138_81 : gm_I cX12_isLoose 81 = some (.goto 4) := by decide +kernel
theorem i138_84 : gm_I cX12_isLoose 84 = some (.iconst 0) := by decide +kernel
theorem i138_85 : gm_I cX12_isLoose 85 = some (.ireturn) := by decide +kernel
theorem i139_0 : gm_I cX12_depends 0 = some (.iconst 0) := by decide +kernel
theorem i139_1 : gm_I cX12_depends 1 = some (.istore_n 2) := by decide +kernel
theorem i139_2 : gm_I cX12_depends 2 = some (.iload_n 2) := by decide +kernel
theorem i139_3 : gm_I cX12_depends 3 = some (.sipush 512) := by decide +kernel
theorem i139_6 : gm_I cX12_depends 6 = some (.if_icmp .ge 16) := by decide +kernel
theorem i139_9 : gm_I cX12_depends 9 = some (.aload_n 0) := by decide +kernel
theorem i139_10 : gm_I cX12_depends 10 = some (.getfield 38) := by decide +kernel
theorem i139_13 : gm_I cX12_depends 13 = some (.iload_n 2) := by decide +kernel
theorem i139_14 : gm_I cX12_depends 14 = some (.iconst 0) := by decide +kernel
theorem i139_15 : gm_I cX12_depends 15 = some (.bastore) := by decide +kernel
theorem i139_16 : gm_I cX12_depends 16 = some (.iinc 2 1) := by decide +kernel
theorem i139_19 : gm_I cX12_depends 19 = some (.goto (-17)) := by decide +kernel
theorem i139_22 : gm_I cX12_depends 22 = some (.iconst 1) := by decide +kernel
theorem i139_23 : gm_I cX12_depends 23 = some (.istore_n 2) := by decide +kernel
theorem i139_24 : gm_I cX12_depends 24 = some (.iload_n 2) := by decide +kernel
theorem i139_25 : gm_I cX12_depends 25 = some (.ifCond .eq 122) := by decide +kernel
theorem i139_28 : gm_I cX12_depends 28 = some (.iconst 0) := by decide +kernel
theorem i139_29 : gm_I cX12_depends 29 = some (.istore_n 2) := by decide +kernel
theorem i139_30 : gm_I cX12_depends 30 = some (.iconst 0) := by decide +kernel
theorem i139_31 : gm_I cX12_depends 31 = some (.istore_n 3) := by decide +kernel
theorem i139_32 : gm_I cX12_depends 32 = some (.iload_n 3) := by decide +kernel
theorem i139_33 : gm_I cX12_depends 33 = some (.aload_n 0) := by decide +kernel
theorem i139_34 : gm_I cX12_depends 34 = some (.getfield 148) := by decide +kernel
theorem i139_37 : gm_I cX12_depends 37 = some (.if_icmp .ge 107) := by decide +kernel
theorem i139_40 : gm_I cX12_depends 40 = some (.aload_n 0) := by decide +kernel
theorem i139_41 : gm_I cX12_depends 41 = some (.getfield 26) := by decide +kernel
theorem i139_44 : gm_I cX12_depends 44 = some (.bipush 6) := by decide +kernel
theorem i139_46 : gm_I cX12_depends 46 = some (.iload_n 3) := by decide +kernel
theorem i139_47 : gm_I cX12_depends 47 = some (.imul) := by decide +kernel
theorem i139_48 : gm_I cX12_depends 48 = some (.iaload) := by decide +kernel
theorem i139_49 : gm_I cX12_depends 49 = some (.istore 4) := by decide +kernel
theorem i139_51 : gm_I cX12_depends 51 = some (.bipush 6) := by decide +kernel
theorem i139_53 : gm_I cX12_depends 53 = some (.iload_n 3) := by decide +kernel
theorem i139_54 : gm_I cX12_depends 54 = some (.imul) := by decide +kernel
theorem i139_55 : gm_I cX12_depends 55 = some (.iconst 1) := by decide +kernel
theorem i139_56 : gm_I cX12_depends 56 = some (.iadd) := by decide +kernel
theorem i139_57 : gm_I cX12_depends 57 = some (.istore 5) := by decide +kernel
theorem i139_59 : gm_I cX12_depends 59 = some (.iload 5) := by decide +kernel
theorem i139_61 : gm_I cX12_depends 61 = some (.bipush 6) := by decide +kernel
theorem i139_63 : gm_I cX12_depends 63 = some (.iload_n 3) := by decide +kernel
theorem i139_64 : gm_I cX12_depends 64 = some (.imul) := by decide +kernel
theorem i139_65 : gm_I cX12_depends 65 = some (.aload_n 0) := by decide +kernel
theorem i139_66 : gm_I cX12_depends 66 = some (.getfield 19) := by decide +kernel
theorem i139_69 : gm_I cX12_depends 69 = some (.iload_n 3) := by decide +kernel
theorem i139_70 : gm_I cX12_depends 70 = some (.iaload) := by decide +kernel
theorem i139_71 : gm_I cX12_depends 71 = some (.iadd) := by decide +kernel
theorem i139_72 : gm_I cX12_depends 72 = some (.if_icmp .gt 66) := by decide +kernel
theorem i139_75 : gm_I cX12_depends 75 = some (.iload 4) := by decide +kernel
theorem i139_77 : gm_I cX12_depends 77 = some (.iload_n 1) := by decide +kernel
theorem i139_78 : gm_I cX12_depends 78 = some (.if_icmp .eq 13) := by decide +kernel
theorem i139_81 : gm_I cX12_depends 81 = some (.aload_n 0) := by decide +kernel
theorem i139_82 : gm_I cX12_depends 82 = some (.getfield 38) := by decide +kernel
theorem i139_85 : gm_I cX12_depends 85 = some (.iload 4) := by decide +kernel
theorem i139_87 : gm_I cX12_depends 87 = some (.baload) := by decide +kernel
theorem i139_88 : gm_I cX12_depends 88 = some (.ifCond .eq 50) := by decide +kernel
theorem i139_91 : gm_I cX12_depends 91 = some (.aload_n 0) := by decide +kernel
theorem i139_92 : gm_I cX12_depends 92 = some (.getfield 23) := by decide +kernel
theorem i139_95 : gm_I cX12_depends 95 = some (.iload 5) := by decide +kernel
theorem i139_97 : gm_I cX12_depends 97 = some (.iaload) := by decide +kernel
theorem i139_98 : gm_I cX12_depends 98 = some (.iconst 2) := by decide +kernel
theorem i139_99 : gm_I cX12_depends 99 = some (.if_icmp .ge 33) := by decide +kernel
theorem i139_102 : gm_I cX12_depends 102 = some (.aload_n 0) := by decide +kernel
theorem i139_103 : gm_I cX12_depends 103 = some (.getfield 38) := by decide +kernel
theorem i139_106 : gm_I cX12_depends 106 = some (.aload_n 0) := by decide +kernel
theorem i139_107 : gm_I cX12_depends 107 = some (.getfield 26) := by decide +kernel
theorem i139_110 : gm_I cX12_depends 110 = some (.iload 5) := by decide +kernel
theorem i139_112 : gm_I cX12_depends 112 = some (.iaload) := by decide +kernel
theorem i139_113 : gm_I cX12_depends 113 = some (.baload) := by decide +kernel
theorem i139_114 : gm_I cX12_depends 114 = some (.ifCond .ne 18) := by decide +kernel
theorem i139_117 : gm_I cX12_depends 117 = some (.aload_n 0) := by decide +kernel
theorem i139_118 : gm_I cX12_depends 118 = some (.getfield 38) := by decide +kernel
theorem i139_121 : gm_I cX12_depends 121 = some (.aload_n 0) := by decide +kernel
theorem i139_122 : gm_I cX12_depends 122 = some (.getfield 26) := by decide +kernel
theorem i139_125 : gm_I cX12_depends 125 = some (.iload 5) := by decide +kernel
theorem i139_127 : gm_I cX12_depends 127 = some (.iaload) := by decide +kernel
theorem i139_128 : gm_I cX12_depends 128 = some (.iconst 1) := by decide +kernel
theorem i139_129 : gm_I cX12_depends 129 = some (.bastore) := by decide +kernel
theorem i139_130 : gm_I cX12_depends 130 = some (.iconst 1) := by decide +kernel
theorem i139_131 : gm_I cX12_depends 131 = some (.istore_n 2) := by decide +kernel
theorem i139_132 : gm_I cX12_depends 132 = some (.iinc 5 1) := by decide +kernel
theorem i139_135 : gm_I cX12_depends 135 = some (.goto (-76)) := by decide +kernel
theorem i139_138 : gm_I cX12_depends 138 = some (.iinc 3 1) := by decide +kernel
theorem i139_141 : gm_I cX12_depends 141 = some (.goto (-109)) := by decide +kernel
theorem i139_144 : gm_I cX12_depends 144 = some (.goto (-120)) := by decide +kernel
theorem i139_147 : gm_I cX12_depends 147 = some (.return_) := by decide +kernel
theorem i140_0 : gm_I cX12_isCircular 0 = some (.aload_n 0) := by decide +kernel
theorem i140_1 : gm_I cX12_isCircular 1 = some (.getfield 26) := by decide +kernel
theorem i140_4 : gm_I cX12_isCircular 4 = some (.bipush 6) := by decide +kernel
theorem i140_6 : gm_I cX12_isCircular 6 = some (.iload_n 1) := by decide +kernel
theorem i140_7 : gm_I cX12_isCircular 7 = some (.imul) := by decide +kernel
theorem i140_8 : gm_I cX12_isCircular 8 = some (.iaload) := by decide +kernel
theorem i140_9 : gm_I cX12_isCircular 9 = some (.istore_n 2) := by decide +kernel
theorem i140_10 : gm_I cX12_isCircular 10 = some (.iconst 0) := by decide +kernel
theorem i140_11 : gm_I cX12_isCircular 11 = some (.istore_n 3) := by decide +kernel
theorem i140_12 : gm_I cX12_isCircular 12 = some (.bipush 6) := by decide +kernel
theorem i140_14 : gm_I cX12_isCircular 14 = some (.iload_n 1) := by decide +kernel
theorem i140_15 : gm_I cX12_isCircular 15 = some (.imul) := by decide +kernel
theorem i140_16 : gm_I cX12_isCircular 16 = some (.iconst 1) := by decide +kernel
theorem i140_17 : gm_I cX12_isCircular 17 = some (.iadd) := by decide +kernel
theorem i140_18 : gm_I cX12_isCircular 18 = some (.istore 4) := by decide +kernel
theorem i140_20 : gm_I cX12_isCircular 20 = some (.iload 4) := by decide +kernel
theorem i140_22 : gm_I cX12_isCircular 22 = some (.bipush 6) := by decide +kernel
theorem i140_24 : gm_I cX12_isCircular 24 = some (.iload_n 1) := by decide +kernel
theorem i140_25 : gm_I cX12_isCircular 25 = some (.imul) := by decide +kernel
theorem i140_26 : gm_I cX12_isCircular 26 = some (.aload_n 0) := by decide +kernel
theorem i140_27 : gm_I cX12_isCircular 27 = some (.getfield 19) := by decide +kernel
theorem i140_30 : gm_I cX12_isCircular 30 = some (.iload_n 1) := by decide +kernel
theorem i140_31 : gm_I cX12_isCircular 31 = some (.iaload) := by decide +kernel
theorem i140_32 : gm_I cX12_isCircular 32 = some (.iadd) := by decide +kernel
theorem i140_33 : gm_I cX12_isCircular 33 = some (.if_icmp .gt 61) := by decide +kernel
theorem i140_36 : gm_I cX12_isCircular 36 = some (.aload_n 0) := by decide +kernel
theorem i140_37 : gm_I cX12_isCircular 37 = some (.getfield 23) := by decide +kernel
theorem i140_40 : gm_I cX12_isCircular 40 = some (.iload 4) := by decide +kernel
theorem i140_42 : gm_I cX12_isCircular 42 = some (.iaload) := by decide +kernel
theorem i140_43 : gm_I cX12_isCircular 43 = some (.iconst 1) := by decide +kernel
theorem i140_44 : gm_I cX12_isCircular 44 = some (.if_icmp .ne 44) := by decide +kernel
theorem i140_47 : gm_I cX12_isCircular 47 = some (.aload_n 0) := by decide +kernel
theorem i140_48 : gm_I cX12_isCircular 48 = some (.aload_n 0) := by decide +kernel
theorem i140_49 : gm_I cX12_isCircular 49 = some (.getfield 26) := by decide +kernel
theorem i140_52 : gm_I cX12_isCircular 52 = some (.iload 4) := by decide +kernel
theorem i140_54 : gm_I cX12_isCircular 54 = some (.iaload) := by decide +kernel
theorem i140_55 : gm_I cX12_isCircular 55 = some (.invokevirtual 161) := by decide +kernel
theorem i140_58 : gm_I cX12_isCircular 58 = some (.iload_n 3) := by decide +kernel
theorem i140_59 : gm_I cX12_isCircular 59 = some (.ifCond .ne 23) := by decide +kernel
theorem i140_62 : gm_I cX12_isCircular 62 = some (.aload_n 0) := by decide +kernel
theorem i140_63 : gm_I cX12_isCircular 63 = some (.getfield 26) := by decide +kernel
theorem i140_66 : gm_I cX12_isCircular 66 = some (.iload 4) := by decide +kernel
theorem i140_68 : gm_I cX12_isCircular 68 = some (.iaload) := by decide +kernel
theorem i140_69 : gm_I cX12_isCircular 69 = some (.iload_n 2) := by decide +kernel
theorem i140_70 : gm_I cX12_isCircular 70 = some (.if_icmp .eq 12) := by decide +kernel
theorem i140_73 : gm_I cX12_isCircular 73 = some (.aload_n 0) := by decide +kernel
theorem i140_74 : gm_I cX12_isCircular 74 = some (.getfield 38) := by decide +kernel
theorem i140_77 : gm_I cX12_isCircular 77 = some (.iload_n 2) := by decide +kernel
theorem i140_78 : gm_I cX12_isCircular 78 = some (.baload) := by decide +kernel
theorem i140_79 : gm_I cX12_isCircular 79 = some (.ifCond .eq 7) := by decide +kernel
theorem i140_82 : gm_I cX12_isCircular 82 = some (.iconst 1) := by decide +kernel
theorem i140_83 : gm_I cX12_isCircular 83 = some (.goto 4) := by decide +kernel
theorem i140_86 : gm_I cX12_isCircular 86 = some (.iconst 0) := by decide +kernel
theorem i140_87 : gm_I cX12_isCircular 87 = some (.istore_n 3) := by decide +kernel
theorem i140_88 : gm_I cX12_isCircular 88 = some (.iinc 4 1) := by decide +kernel
theorem i140_91 : gm_I cX12_isCircular 91 = some (.goto (-71)) := by decide +kernel
theorem i140_94 : gm_I cX12_isCircular 94 = some (.iload_n 3) := by decide +kernel
theorem i140_95 : gm_I cX12_isCircular 95 = some (.ireturn) := by decide +kernel
theorem i141_0 : gm_I cX12_isMixed 0 = some (.aload_n 0) := by decide +kernel
theorem i141_1 : gm_I cX12_isMixed 1 = some (.getfield 26) := by decide +kernel
theorem i141_4 : gm_I cX12_isMixed 4 = some (.bipush 6) := by decide +kernel
theorem i141_6 : gm_I cX12_isMixed 6 = some (.iload_n 1) := by decide +kernel
theorem i141_7 : gm_I cX12_isMixed 7 = some (.imul) := by decide +kernel
theorem i141_8 : gm_I cX12_isMixed 8 = some (.iaload) := by decide +kernel
theorem i141_9 : gm_I cX12_isMixed 9 = some (.iconst 4) := by decide +kernel
theorem i141_10 : gm_I cX12_isMixed 10 = some (.idiv) := by decide +kernel
theorem i141_11 : gm_I cX12_isMixed 11 = some (.istore_n 2) := by decide +kernel
theorem i141_12 : gm_I cX12_isMixed 12 = some (.iload_n 2) := by decide +kernel
theorem i141_13 : gm_I cX12_isMixed 13 = some (.bipush 73) := by decide +kernel
theorem i141_15 : gm_I cX12_isMixed 15 = some (.if_icmp .eq 23) := by decide +kernel
theorem i141_18 : gm_I cX12_isMixed 18 = some (.iload_n 2) := by decide +kernel
theorem i141_19 : gm_I cX12_isMixed 19 = some (.bipush 76) := by decide +kernel
theorem i141_21 : gm_I cX12_isMixed 21 = some (.if_icmp .eq 17) := by decide +kernel
theorem i141_24 : gm_I cX12_isMixed 24 = some (.iload_n 2) := by decide +kernel
theorem i141_25 : gm_I cX12_isMixed 25 = some (.bipush 71) := by decide +kernel
theorem i141_27 : gm_I cX12_isMixed 27 = some (.if_icmp .eq 11) := by decide +kernel
theorem i141_30 : gm_I cX12_isMixed 30 = some (.iload_n 2) := by decide +kernel
theorem i141_31 : gm_I cX12_isMixed 31 = some (.bipush 69) := by decide +kernel
theorem i141_33 : gm_I cX12_isMixed 33 = some (.if_icmp .eq 5) := by decide +kernel
theorem i141_36 : gm_I cX12_isMixed 36 = some (.iconst 0) := by decide +kernel
theorem i141_37 : gm_I cX12_isMixed 37 = some (.ireturn) := by decide +kernel
theorem i141_38 : gm_I cX12_isMixed 38 = some (.aload_n 0) := by decide +kernel
theorem i141_39 : gm_I cX12_isMixed 39 = some (.aload_n 0) := by decide +kernel
theorem i141_40 : gm_I cX12_isMixed 40 = some (.getfield 26) := by decide +kernel
theorem i141_43 : gm_I cX12_isMixed 43 = some (.bipush 6) := by decide +kernel
theorem i141_45 : gm_I cX12_isMixed 45 = some (.iload_n 1) := by decide +kernel
theorem i141_46 : gm_I cX12_isMixed 46 = some (.imul) := by decide +kernel
theorem i141_47 : gm_I cX12_isMixed 47 = some (.iaload) := by decide +kernel
theorem i141_48 : gm_I cX12_isMixed 48 = some (.invokevirtual 161) := by decide +kernel
theorem i141_51 : gm_I cX12_isMixed 51 = some (.aload_n 0) := by decide +kernel
theorem i141_52 : gm_I cX12_isMixed 52 = some (.getfield 38) := by decide +kernel
theorem i141_55 : gm_I cX12_isMixed 55 = some (.sipush 274) := by decide +kernel
theorem i141_58 : gm_I cX12_isMixed 58 = some (.baload) := by decide +kernel
theorem i141_59 : gm_I cX12_isMixed 59 = some (.istore_n 3) := by decide +kernel
theorem i141_60 : gm_I cX12_isMixed 60 = some (.iload_n 2) := by decide +kernel
theorem i141_61 : gm_I cX12_isMixed 61 = some (.bipush 73) := by decide +kernel
theorem i141_63 : gm_I cX12_isMixed 63 = some (.if_icmp .eq 7) := by decide +kernel
theorem i141_66 : gm_I cX12_isMixed 66 = some (.iload_n 3) := by decide +kernel
theorem i141_67 : gm_I cX12_isMixed 67 = some (.goto 56) := by decide +kernel
theorem i141_70 : gm_I cX12_isMixed 70 = some (.iload_n 3) := by decide +kernel
theorem i141_71 : gm_I cX12_isMixed 71 = some (.ifCond .ne 47) := by decide +kernel
theorem i141_74 : gm_I cX12_isMixed 74 = some (.aload_n 0) := by decide +kernel
theorem i141_75 : gm_I cX12_isMixed 75 = some (.getfield 38) := by decide +kernel
theorem i141_78 : gm_I cX12_isMixed 78 = some (.sipush 337) := by decide +kernel
theorem i141_81 : gm_I cX12_isMixed 81 = some (.baload) := by decide +kernel
theorem i141_82 : gm_I cX12_isMixed 82 = some (.ifCond .ne 36) := by decide +kernel
theorem i141_85 : gm_I cX12_isMixed 85 = some (.aload_n 0) := by decide +kernel
theorem i141_86 : gm_I cX12_isMixed 86 = some (.getfield 38) := by decide +kernel
theorem i141_89 : gm_I cX12_isMixed 89 = some (.sipush 306) := by decide +kernel
theorem i141_92 : gm_I cX12_isMixed 92 = some (.baload) := by decide +kernel
theorem i141_93 : gm_I cX12_isMixed 93 = some (.ifCond .ne 25) := by decide +kernel
theorem i141_96 : gm_I cX12_isMixed 96 = some (.aload_n 0) := by decide +kernel
theorem i141_97 : gm_I cX12_isMixed 97 = some (.getfield 38) := by decide +kernel
theorem i141_100 : gm_I cX12_isMixed 100 = some (.sipush 286) := by decide +kernel
theorem i141_103 : gm_I cX12_isMixed 103 = some (.baload) := by decide +kernel
theorem i141_104 : gm_I cX12_isMixed 104 = some (.ifCond .ne 14) := by decide +kernel
theorem i141_107 : gm_I cX12_isMixed 107 = some (.aload_n 0) := by decide +kernel
theorem i141_108 : gm_I cX12_isMixed 108 = some (.getfield 38) := by decide +kernel
theorem i141_111 : gm_I cX12_isMixed 111 = some (.sipush 276) := by decide +kernel
theorem i141_114 : gm_I cX12_isMixed 114 = some (.baload) := by decide +kernel
theorem i141_115 : gm_I cX12_isMixed 115 = some (.ifCond .eq 7) := by decide +kernel
theorem i141_118 : gm_I cX12_isMixed 118 = some (.iconst 1) := by decide +kernel
theorem i141_119 : gm_I cX12_isMixed 119 = some (.goto 4) := by decide +kernel
theorem i141_122 : gm_I cX12_isMixed 122 = some (.iconst 0) := by decide +kernel
theorem i141_123 : gm_I cX12_isMixed 123 = some (.ireturn) := by decide +kernel
theorem i142_0 : gm_I cX12_isWell 0 = some (.aload_n 0) := by decide +kernel
theorem i142_1 : gm_I cX12_isWell 1 = some (.iconst 0) := by decide +kernel
theorem i142_2 : gm_I cX12_isWell 2 = some (.putfield 165) := by decide +kernel
theorem i142_5 : gm_I cX12_isWell 5 = some (.aload_n 0) := by decide +kernel
theorem i142_6 : gm_I cX12_isWell 6 = some (.iconst 0) := by decide +kernel
theorem i142_7 : gm_I cX12_isWell 7 = some (.putfield 168) := by decide +kernel
theorem i142_10 : gm_I cX12_isWell 10 = some (.aload_n 0) := by decide +kernel
theorem i142_11 : gm_I cX12_isWell 11 = some (.invokevirtual 171) := by decide +kernel
theorem i142_14 : gm_I cX12_isWell 14 = some (.ifCond .ne 18) := by decide +kernel
theorem i142_17 : gm_I cX12_isWell 17 = some (.aload_n 0) := by decide +kernel
theorem i142_18 : gm_I cX12_isWell 18 = some (.iconst 1) := by decide +kernel
theorem i142_19 : gm_I cX12_isWell 19 = some (.putfield 165) := by decide +kernel
theorem i142_22 : gm_I cX12_isWell 22 = some (.aload_n 0) := by decide +kernel
theorem i142_23 : gm_I cX12_isWell 23 = some (.aload_n 0) := by decide +kernel
theorem i142_24 : gm_I cX12_isWell 24 = some (.getfield 109) := by decide +kernel
theorem i142_27 : gm_I cX12_isWell 27 = some (.putfield 168) := by decide +kernel
theorem i142_30 : gm_I cX12_isWell 30 = some (.iconst 0) := by decide +kernel
theorem i142_31 : gm_I cX12_isWell 31 = some (.ireturn) := by decide +kernel
theorem i142_32 : gm_I cX12_isWell 32 = some (.iconst 2) := by decide +kernel
theorem i142_33 : gm_I cX12_isWell 33 = some (.istore_n 1) := by decide +kernel
theorem i142_34 : gm_I cX12_isWell 34 = some (.iload_n 1) := by decide +kernel
theorem i142_35 : gm_I cX12_isWell 35 = some (.bipush 6) := by decide +kernel
theorem i142_37 : gm_I cX12_isWell 37 = some (.if_icmp .ge 93) := by decide +kernel
theorem i142_40 : gm_I cX12_isWell 40 = some (.iconst 0) := by decide +kernel
theorem i142_41 : gm_I cX12_isWell 41 = some (.istore_n 2) := by decide +kernel
theorem i142_42 : gm_I cX12_isWell 42 = some (.iload_n 2) := by decide +kernel
theorem i142_43 : gm_I cX12_isWell 43 = some (.aload_n 0) := by decide +kernel
theorem i142_44 : gm_I cX12_isWell 44 = some (.getfield 148) := by decide +kernel
theorem i142_47 : gm_I cX12_isWell 47 = some (.if_icmp .ge 77) := by decide +kernel
theorem i142_50 : gm_I cX12_isWell 50 = some (.iload_n 1) := by decide +kernel
theorem i142_51 : gm_I cX12_isWell 51 = some (.iconst 2) := by decide +kernel
theorem i142_52 : gm_I cX12_isWell 52 = some (.if_icmp .ne 14) := by decide +kernel
theorem i142_55 : gm_I cX12_isWell 55 = some (.aload_n 0) := by decide +kernel
theorem i142_56 : gm_I cX12_isWell 56 = some (.iload_n 2) := by decide +kernel
theorem i142_57 : gm_I cX12_isWell 57 = some (.invokevirtual 175) := by decide +kernel
theorem i142_60 : gm_I cX12_isWell 60 = some (.ifCond .eq 58) := by decide +kernel
theorem i142_63 : gm_I cX12_isWell 63 = some (.goto 43) := by decide +kernel
theorem i142_66 : gm_I cX12_isWell 66 = some (.iload_n 1) := by decide +kernel
theorem i142_67 : gm_I cX12_isWell 67 = some (.iconst 3) := by decide +kernel
theorem i142_68 : gm_I cX12_isWell 68 = some (.if_icmp .ne 14) := by decide +kernel
theorem i142_71 : gm_I cX12_isWell 71 = some (.aload_n 0) := by decide +kernel
theorem i142_72 : gm_I cX12_isWell 72 = some (.iload_n 2) := by decide +kernel
theorem i142_73 : gm_I cX12_isWell 73 = some (.invokevirtual 178) := by decide +kernel
theorem i142_76 : gm_I cX12_isWell 76 = some (.ifCond .eq 42) := by decide +kernel
theorem i142_79 : gm_I cX12_isWell 79 = some (.goto 27) := by decide +kernel
theorem i142_82 : gm_I cX12_isWell 82 = some (.iload_n 1) := by decide +kernel
theorem i142_83 : gm_I cX12_isWell 83 = some (.iconst 4) := by decide +kernel
theorem i142_84 : gm_I cX12_isWell 84 = some (.if_icmp .ne 14) := by decide +kernel
theorem i142_87 : gm_I cX12_isWell 87 = some (.aload_n 0) := by decide +kernel
theorem i142_88 : gm_I cX12_isWell 88 = some (.iload_n 2) := by decide +kernel
theorem i142_89 : gm_I cX12_isWell 89 = some (.invokevirtual 181) := by decide +kernel
theorem i142_92 : gm_I cX12_isWell 92 = some (.ifCond .eq 26) := by decide +kernel
theorem i142_95 : gm_I cX12_isWell 95 = some (.goto 11) := by decide +kernel
theorem i142_98 : gm_I cX12_isWell 98 = some (.aload_n 0) := by decide +kernel
theorem i142_99 : gm_I cX12_isWell 99 = some (.iload_n 2) := by decide +kernel
theorem i142_100 : gm_I cX12_isWell 100 = some (.invokevirtual 184) := by decide +kernel
theorem i142_103 : gm_I cX12_isWell 103 = some (.ifCond .eq 15) := by decide +kernel
theorem i142_106 : gm_I cX12_isWell 106 = some (.aload_n 0) := by decide +kernel
theorem i142_107 : gm_I cX12_isWell 107 = some (.iload_n 1) := by decide +kernel
theorem i142_108 : gm_I cX12_isWell 108 = some (.putfield 165) := by decide +kernel
theorem i142_111 : gm_I cX12_isWell 111 = some (.aload_n 0) := by decide +kernel
theorem i142_112 : gm_I cX12_isWell 112 = some (.iload_n 2) := by decide +kernel
theorem i142_113 : gm_I cX12_isWell 113 = some (.putfield 168) := by decide +kernel
theorem i142_116 : gm_I cX12_isWell 116 = some (.iconst 0) := by decide +kernel
theorem i142_117 : gm_I cX12_isWell 117 = some (.ireturn) := by decide +kernel
theorem i142_118 : gm_I cX12_isWell 118 = some (.iinc 2 1) := by decide +kernel
theorem i142_121 : gm_I cX12_isWell 121 = some (.goto (-79)) := by decide +kernel
theorem i142_124 : gm_I cX12_isWell 124 = some (.iinc 1 1) := by decide +kernel
theorem i142_127 : gm_I cX12_isWell 127 = some (.goto (-93)) := by decide +kernel
theorem i142_130 : gm_I cX12_isWell 130 = some (.aload_n 0) := by decide +kernel
theorem i142_131 : gm_I cX12_isWell 131 = some (.invokevirtual 187) := by decide +kernel
theorem i142_134 : gm_I cX12_isWell 134 = some (.iconst 1) := by decide +kernel
theorem i142_135 : gm_I cX12_isWell 135 = some (.ireturn) := by decide +kernel
theorem i143_0 : gm_I cX12_layers 0 = some (.iconst 0) := by decide +kernel
theorem i143_1 : gm_I cX12_layers 1 = some (.istore_n 1) := by decide +kernel
theorem i143_2 : gm_I cX12_layers 2 = some (.iload_n 1) := by decide +kernel
theorem i143_3 : gm_I cX12_layers 3 = some (.sipush 512) := by decide +kernel
theorem i143_6 : gm_I cX12_layers 6 = some (.if_icmp .ge 16) := by decide +kernel
theorem i143_9 : gm_I cX12_layers 9 = some (.aload_n 0) := by decide +kernel
theorem i143_10 : gm_I cX12_layers 10 = some (.getfield 42) := by decide +kernel
theorem i143_13 : gm_I cX12_layers 13 = some (.iload_n 1) := by decide +kernel
theorem i143_14 : gm_I cX12_layers 14 = some (.iconst 0) := by decide +kernel
theorem i143_15 : gm_I cX12_layers 15 = some (.iastore) := by decide +kernel
theorem i143_16 : gm_I cX12_layers 16 = some (.iinc 1 1) := by decide +kernel
theorem i143_19 : gm_I cX12_layers 19 = some (.goto (-17)) := by decide +kernel
theorem i143_22 : gm_I cX12_layers 22 = some (.iconst 1) := by decide +kernel
theorem i143_23 : gm_I cX12_layers 23 = some (.istore_n 1) := by decide +kernel
theorem i143_24 : gm_I cX12_layers 24 = some (.iload_n 1) := by decide +kernel
theorem i143_25 : gm_I cX12_layers 25 = some (.ifCond .eq 122) := by decide +kernel
theorem i143_28 : gm_I cX12_layers 28 = some (.iconst 0) := by decide +kernel
theorem i143_29 : gm_I cX12_layers 29 = some (.istore_n 1) := by decide +kernel
theorem i143_30 : gm_I cX12_layers 30 = some (.iconst 0) := by decide +kernel
theorem i143_31 : gm_I cX12_layers 31 = some (.istore_n 2) := by decide +kernel
theorem i143_32 : gm_I cX12_layers 32 = some (.iload_n 2) := by decide +kernel
theorem i143_33 : gm_I cX12_layers 33 = some (.aload_n 0) := by decide +kernel
theorem i143_34 : gm_I cX12_layers 34 = some (.getfield 148) := by decide +kernel
theorem i143_37 : gm_I cX12_layers 37 = some (.if_icmp .ge 107) := by decide +kernel
theorem i143_40 : gm_I cX12_layers 40 = some (.aload_n 0) := by decide +kernel
theorem i143_41 : gm_I cX12_layers 41 = some (.getfield 26) := by decide +kernel
theorem i143_44 : gm_I cX12_layers 44 = some (.bipush 6) := by decide +kernel
theorem i143_46 : gm_I cX12_layers 46 = some (.iload_n 2) := by decide +kernel
theorem i143_47 : gm_I cX12_layers 47 = some (.imul) := by decide +kernel
theorem i143_48 : gm_I cX12_layers 48 = some (.iaload) := by decide +kernel
theorem i143_49 : gm_I cX12_layers 49 = some (.istore_n 3) := by decide +kernel
theorem i143_50 : gm_I cX12_layers 50 = some (.bipush 6) := by decide +kernel
theorem i143_52 : gm_I cX12_layers 52 = some (.iload_n 2) := by decide +kernel
theorem i143_53 : gm_I cX12_layers 53 = some (.imul) := by decide +kernel
theorem i143_54 : gm_I cX12_layers 54 = some (.iconst 1) := by decide +kernel
theorem i143_55 : gm_I cX12_layers 55 = some (.iadd) := by decide +kernel
theorem i143_56 : gm_I cX12_layers 56 = some (.istore 4) := by decide +kernel
theorem i143_58 : gm_I cX12_layers 58 = some (.iload 4) := by decide +kernel
theorem i143_60 : gm_I cX12_layers 60 = some (.bipush 6) := by decide +kernel
theorem i143_62 : gm_I cX12_layers 62 = some (.iload_n 2) := by decide +kernel
theorem i143_63 : gm_I cX12_layers 63 = some (.imul) := by decide +kernel
theorem i143_64 : gm_I cX12_layers 64 = some (.aload_n 0) := by decide +kernel
theorem i143_65 : gm_I cX12_layers 65 = some (.getfield 19) := by decide +kernel
theorem i143_68 : gm_I cX12_layers 68 = some (.iload_n 2) := by decide +kernel
theorem i143_69 : gm_I cX12_layers 69 = some (.iaload) := by decide +kernel
theorem i143_70 : gm_I cX12_layers 70 = some (.iadd) := by decide +kernel
theorem i143_71 : gm_I cX12_layers 71 = some (.if_icmp .gt 67) := by decide +kernel
theorem i143_74 : gm_I cX12_layers 74 = some (.aload_n 0) := by decide +kernel
theorem i143_75 : gm_I cX12_layers 75 = some (.getfield 23) := by decide +kernel
theorem i143_78 : gm_I cX12_layers 78 = some (.iload 4) := by decide +kernel
theorem i143_80 : gm_I cX12_layers 80 = some (.iaload) := by decide +kernel
theorem i143_81 : gm_I cX12_layers 81 = some (.iconst 2) := by decide +kernel
theorem i143_82 : gm_I cX12_layers 82 = some (.if_icmp .ne 7) := by decide +kernel
theorem i143_85 : gm_I cX12_layers 85 = some (.iconst 0) := by decide +kernel
theorem i143_86 : gm_I cX12_layers 86 = some (.goto 23) := by decide +kernel
theorem i143_89 : gm_I cX12_layers 89 = some (.aload_n 0) := by decide +kernel
theorem i143_90 : gm_I cX12_layers 90 = some (.getfield 42) := by decide +kernel
theorem i143_93 : gm_I cX12_layers 93 = some (.aload_n 0) := by decide +kernel
theorem i143_94 : gm_I cX12_layers 94 = some (.getfield 26) := by decide +kernel
theorem i143_97 : gm_I cX12_layers 97 = some (.iload 4) := by decide +kernel
theorem i143_99 : gm_I cX12_layers 99 = some (.iaload) := by decide +kernel
theorem i143_100 : gm_I cX12_layers 100 = some (.iaload) := by decide +kernel
theorem i143_101 : gm_I cX12_layers 101 = some (.aload_n 0) := by decide +kernel
theorem i143_102 : gm_I cX12_layers 102 = some (.getfield 23) := by decide +kernel
theorem i143_105 : gm_I cX12_layers 105 = some (.iload 4) := by decide +kernel
theorem i143_107 : gm_I cX12_layers 107 = some (.iaload) := by decide +kernel
theorem i143_108 : gm_I cX12_layers 108 = some (.iadd) := by decide +kernel
theorem i143_109 : gm_I cX12_layers 109 = some (.istore 5) := by decide +kernel
theorem i143_111 : gm_I cX12_layers 111 = some (.iload 5) := by decide +kernel
theorem i143_113 : gm_I cX12_layers 113 = some (.aload_n 0) := by decide +kernel
theorem i143_114 : gm_I cX12_layers 114 = some (.getfield 42) := by decide +kernel
theorem i143_117 : gm_I cX12_layers 117 = some (.iload_n 3) := by decide +kernel
theorem i143_118 : gm_I cX12_layers 118 = some (.iaload) := by decide +kernel
theorem i143_119 : gm_I cX12_layers 119 = some (.if_icmp .le 13) := by decide +kernel
theorem i143_122 : gm_I cX12_layers 122 = some (.aload_n 0) := by decide +kernel
theorem i143_123 : gm_I cX12_layers 123 = some (.getfield 42) := by decide +kernel
theorem i143_126 : gm_I cX12_layers 126 = some (.iload_n 3) := by decide +kernel
theorem i143_127 : gm_I cX12_layers 127 = some (.iload 5) := by decide +kernel
theorem i143_129 : gm_I cX12_layers 129 = some (.iastore) := by decide +kernel
theorem i143_130 : gm_I cX12_layers 130 = some (.iconst 1) := by decide +kernel
theorem i143_131 : gm_I cX12_layers 131 = some (.istore_n 1) := by decide +kernel
theorem i143_132 : gm_I cX12_layers 132 = some (.iinc 4 1) := by decide +kernel
theorem i143_135 : gm_I cX12_layers 135 = some (.goto (-77)) := by decide +kernel
theorem i143_138 : gm_I cX12_layers 138 = some (.iinc 2 1) := by decide +kernel
theorem i143_141 : gm_I cX12_layers 141 = some (.goto (-109)) := by decide +kernel
theorem i143_144 : gm_I cX12_layers 144 = some (.goto (-120)) := by decide +kernel
theorem i143_147 : gm_I cX12_layers 147 = some (.return_) := by decide +kernel
theorem i144_0 : gm_I cX12_holds 0 = some (.iconst 0) := by decide +kernel
theorem i144_1 : gm_I cX12_holds 1 = some (.istore 8) := by decide +kernel
theorem i144_3 : gm_I cX12_holds 3 = some (.iload 8) := by decide +kernel
theorem i144_5 : gm_I cX12_holds 5 = some (.aload_n 0) := by decide +kernel
theorem i144_6 : gm_I cX12_holds 6 = some (.getfield 190) := by decide +kernel
theorem i144_9 : gm_I cX12_holds 9 = some (.if_icmp .ge 70) := by decide +kernel
theorem i144_12 : gm_I cX12_holds 12 = some (.aload_n 0) := by decide +kernel
theorem i144_13 : gm_I cX12_holds 13 = some (.getfield 45) := by decide +kernel
theorem i144_16 : gm_I cX12_holds 16 = some (.iload 8) := by decide +kernel
theorem i144_18 : gm_I cX12_holds 18 = some (.iaload) := by decide +kernel
theorem i144_19 : gm_I cX12_holds 19 = some (.iload_n 1) := by decide +kernel
theorem i144_20 : gm_I cX12_holds 20 = some (.if_icmp .ne 53) := by decide +kernel
theorem i144_23 : gm_I cX12_holds 23 = some (.aload_n 0) := by decide +kernel
theorem i144_24 : gm_I cX12_holds 24 = some (.getfield 48) := by decide +kernel
theorem i144_27 : gm_I cX12_holds 27 = some (.iconst 3) := by decide +kernel
theorem i144_28 : gm_I cX12_holds 28 = some (.iload 8) := by decide +kernel
theorem i144_30 : gm_I cX12_holds 30 = some (.imul) := by decide +kernel
theorem i144_31 : gm_I cX12_holds 31 = some (.laload) := by decide +kernel
theorem i144_32 : gm_I cX12_holds 32 = some (.lload_n 2) := by decide +kernel
theorem i144_33 : gm_I cX12_holds 33 = some (.lcmp) := by decide +kernel
theorem i144_34 : gm_I cX12_holds 34 = some (.ifCond .ne 39) := by decide +kernel
theorem i144_37 : gm_I cX12_holds 37 = some (.aload_n 0) := by decide +kernel
theorem i144_38 : gm_I cX12_holds 38 = some (.getfield 48) := by decide +kernel
theorem i144_41 : gm_I cX12_holds 41 = some (.iconst 3) := by decide +kernel
theorem i144_42 : gm_I cX12_holds 42 = some (.iload 8) := by decide +kernel
theorem i144_44 : gm_I cX12_holds 44 = some (.imul) := by decide +kernel
theorem i144_45 : gm_I cX12_holds 45 = some (.iconst 1) := by decide +kernel
theorem i144_46 : gm_I cX12_holds 46 = some (.iadd) := by decide +kernel
theorem i144_47 : gm_I cX12_holds 47 = some (.laload) := by decide +kernel
theorem i144_48 : gm_I cX12_holds 48 = some (.lload 4) := by decide +kernel
theorem i144_50 : gm_I cX12_holds 50 = some (.lcmp) := by decide +kernel
theorem i144_51 : gm_I cX12_holds 51 = some (.ifCond .ne 22) := by decide +kernel
theorem i144_54 : gm_I cX12_holds 54 = some (.aload_n 0) := by decide +kernel
theorem i144_55 : gm_I cX12_holds 55 = some (.getfield 48) := by decide +kernel
theorem i144_58 : gm_I cX12_holds 58 = some (.iconst 3) := by decide +kernel
theorem i144_59 : gm_I cX12_holds 59 = some (.iload 8) := by decide +kernel
theorem i144_61 : gm_I cX12_holds 61 = some (.imul) := by decide +kernel
theorem i144_62 : gm_I cX12_holds 62 = some (.iconst 2) := by decide +kernel
theorem i144_63 : gm_I cX12_holds 63 = some (.iadd) := by decide +kernel
theorem i144_64 : gm_I cX12_holds 64 = some (.laload) := by decide +kernel
theorem i144_65 : gm_I cX12_holds 65 = some (.lload 6) := by decide +kernel
theorem i144_67 : gm_I cX12_holds 67 = some (.lcmp) := by decide +kernel
theorem i144_68 : gm_I cX12_holds 68 = some (.ifCond .ne 5) := by decide +kernel
theorem i144_71 : gm_I cX12_holds 71 = some (.iconst 1) := by decide +kernel
theorem i144_72 : gm_I cX12_holds 72 = some (.ireturn) := by decide +kernel
theorem i144_73 : gm_I cX12_holds 73 = some (.iinc 8 1) := by decide +kernel
theorem i144_76 : gm_I cX12_holds 76 = some (.goto (-73)) := by decide +kernel
theorem i144_79 : gm_I cX12_holds 79 = some (.iconst 0) := by decide +kernel
theorem i144_80 : gm_I cX12_holds 80 = some (.ireturn) := by decide +kernel
theorem i145_0 : gm_I cX12_add 0 = some (.aload_n 0) := by decide +kernel
theorem i145_1 : gm_I cX12_add 1 = some (.getfield 193) := by decide +kernel
theorem i145_4 : gm_I cX12_add 4 = some (.ifCond .ne 16) := by decide +kernel
theorem i145_7 : gm_I cX12_add 7 = some (.aload_n 0) := by decide +kernel
theorem i145_8 : gm_I cX12_add 8 = some (.iload_n 1) := by decide +kernel
theorem i145_9 : gm_I cX12_add 9 = some (.lload_n 2) := by decide +kernel
theorem i145_10 : gm_I cX12_add 10 = some (.lload 4) := by decide +kernel
theorem i145_12 : gm_I cX12_add 12 = some (.lload 6) := by decide +kernel
theorem i145_14 : gm_I cX12_add 14 = some (.invokevirtual 197) := by decide +kernel
theorem i145_17 : gm_I cX12_add 17 = some (.ifCond .eq 4) := by decide +kernel
theorem i145_20 : gm_I cX12_add 20 = some (.return_) := by decide +kernel
theorem i145_21 : gm_I cX12_add 21 = some (.aload_n 0) := by decide +kernel
theorem i145_22 : gm_I cX12_add 22 = some (.getfield 190) := by decide +kernel
theorem i145_25 : gm_I cX12_add 25 = some (.sipush 200) := by decide +kernel
theorem i145_28 : gm_I cX12_add 28 = some (.if_icmp .ne 9) := by decide +kernel
theorem i145_31 : gm_I cX12_add 31 = some (.aload_n 0) := by decide +kernel
theorem i145_32 : gm_I cX12_add 32 = some (.iconst 1) := by decide +kernel
theorem i145_33 : gm_I cX12_add 33 = some (.putfield 193) := by decide +kernel
theorem i145_36 : gm_I cX12_add 36 = some (.return_) := by decide +kernel
theorem i145_37 : gm_I cX12_add 37 = some (.aload_n 0) := by decide +kernel
theorem i145_38 : gm_I cX12_add 38 = some (.getfield 45) := by decide +kernel
theorem i145_41 : gm_I cX12_add 41 = some (.aload_n 0) := by decide +kernel
theorem i145_42 : gm_I cX12_add 42 = some (.getfield 190) := by decide +kernel
theorem i145_45 : gm_I cX12_add 45 = some (.iload_n 1) := by decide +kernel
theorem i145_46 : gm_I cX12_add 46 = some (.iastore) := by decide +kernel
theorem i145_47 : gm_I cX12_add 47 = some (.aload_n 0) := by decide +kernel
theorem i145_48 : gm_I cX12_add 48 = some (.getfield 48) := by decide +kernel
theorem i145_51 : gm_I cX12_add 51 = some (.iconst 3) := by decide +kernel
theorem i145_52 : gm_I cX12_add 52 = some (.aload_n 0) := by decide +kernel
theorem i145_53 : gm_I cX12_add 53 = some (.getfield 190) := by decide +kernel
theorem i145_56 : gm_I cX12_add 56 = some (.imul) := by decide +kernel
theorem i145_57 : gm_I cX12_add 57 = some (.lload_n 2) := by decide +kernel
theorem i145_58 : gm_I cX12_add 58 = some (.lastore) := by decide +kernel
theorem i145_59 : gm_I cX12_add 59 = some (.aload_n 0) := by decide +kernel
theorem i145_60 : gm_I cX12_add 60 = some (.getfield 48) := by decide +kernel
theorem i145_63 : gm_I cX12_add 63 = some (.iconst 3) := by decide +kernel
theorem i145_64 : gm_I cX12_add 64 = some (.aload_n 0) := by decide +kernel
theorem i145_65 : gm_I cX12_add 65 = some (.getfield 190) := by decide +kernel
theorem i145_68 : gm_I cX12_add 68 = some (.imul) := by decide +kernel
theorem i145_69 : gm_I cX12_add 69 = some (.iconst 1) := by decide +kernel
theorem i145_70 : gm_I cX12_add 70 = some (.iadd) := by decide +kernel
theorem i145_71 : gm_I cX12_add 71 = some (.lload 4) := by decide +kernel
theorem i145_73 : gm_I cX12_add 73 = some (.lastore) := by decide +kernel
theorem i145_74 : gm_I cX12_add 74 = some (.aload_n 0) := by decide +kernel
theorem i145_75 : gm_I cX12_add 75 = some (.getfield 48) := by decide +kernel
theorem i145_78 : gm_I cX12_add 78 = some (.iconst 3) := by decide +kernel
theorem i145_79 : gm_I cX12_add 79 = some (.aload_n 0) := by decide +kernel
theorem i145_80 : gm_I cX12_add 80 = some (.getfield 190) := by decide +kernel
theorem i145_83 : gm_I cX12_add 83 = some (.imul) := by decide +kernel
theorem i145_84 : gm_I cX12_add 84 = some (.iconst 2) := by decide +kernel
theorem i145_85 : gm_I cX12_add 85 = some (.iadd) := by decide +kernel
theorem i145_86 : gm_I cX12_add 86 = some (.lload 6) := by decide +kernel
theorem i145_88 : gm_I cX12_add 88 = some (.lastore) := by decide +kernel
theorem i145_89 : gm_I cX12_add 89 = some (.aload_n 0) := by decide +kernel
theorem i145_90 : gm_I cX12_add 90 = some (.dup) := by decide +kernel
theorem i145_91 : gm_I cX12_add 91 = some (.getfield 190) := by decide +kernel
theorem i145_94 : gm_I cX12_add 94 = some (.iconst 1) := by decide +kernel
theorem i145_95 : gm_I cX12_add 95 = some (.iadd) := by decide +kernel
theorem i145_96 : gm_I cX12_add 96 = some (.putfield 190) := by decide +kernel
theorem i145_99 : gm_I cX12_add 99 = some (.return_) := by decide +kernel
theorem i146_0 : gm_I cX12_isConstant 0 = some (.lload_n 0) := by decide +kernel
theorem i146_1 : gm_I cX12_isConstant 1 = some (.bipush 8) := by decide +kernel
theorem i146_3 : gm_I cX12_isConstant 3 = some (.lshl) := by decide +kernel
theorem i146_4 : gm_I cX12_isConstant 4 = some (.lconst 0) := by decide +kernel
theorem i146_5 : gm_I cX12_isConstant 5 = some (.lcmp) := by decide +kernel
theorem i146_6 : gm_I cX12_isConstant 6 = some (.ifCond .ne 7) := by decide +kernel
theorem i146_9 : gm_I cX12_isConstant 9 = some (.iconst 1) := by decide +kernel
theorem i146_10 : gm_I cX12_isConstant 10 = some (.goto 4) := by decide +kernel
theorem i146_13 : gm_I cX12_isConstant 13 = some (.iconst 0) := by decide +kernel
theorem i146_14 : gm_I cX12_isConstant 14 = some (.ireturn) := by decide +kernel
theorem i147_0 : gm_I cX12_letterOf 0 = some (.iload_n 2) := by decide +kernel
theorem i147_1 : gm_I cX12_letterOf 1 = some (.bipush 8) := by decide +kernel
theorem i147_3 : gm_I cX12_letterOf 3 = some (.if_icmp .ge 20) := by decide +kernel
theorem i147_6 : gm_I cX12_letterOf 6 = some (.lload_n 0) := by decide +kernel
theorem i147_7 : gm_I cX12_letterOf 7 = some (.bipush 56) := by decide +kernel
theorem i147_9 : gm_I cX12_letterOf 9 = some (.bipush 8) := by decide +kernel
theorem i147_11 : gm_I cX12_letterOf 11 = some (.iload_n 2) := by decide +kernel
theorem i147_12 : gm_I cX12_letterOf 12 = some (.imul) := by decide +kernel
theorem i147_13 : gm_I cX12_letterOf 13 = some (.isub) := by decide +kernel
theorem i147_14 : gm_I cX12_letterOf 14 = some (.lshr) := by decide +kernel
theorem i147_15 : gm_I cX12_letterOf 15 = some (.ldc2_w 104) := by decide +kernel
theorem i147_18 : gm_I cX12_letterOf 18 = some (.land) := by decide +kernel
theorem i147_19 : gm_I cX12_letterOf 19 = some (.l2i) := by decide +kernel
theorem i147_20 : gm_I cX12_letterOf 20 = some (.goto 4) := by decide +kernel
theorem i147_23 : gm_I cX12_letterOf 23 = some (.iconst 0) := by decide +kernel
theorem i147_24 : gm_I cX12_letterOf 24 = some (.ireturn) := by decide +kernel
theorem i148_0 : gm_I cX12_meets 0 = some (.iload_n 1) := by decide +kernel
theorem i148_1 : gm_I cX12_meets 1 = some (.invokestatic 119) := by decide +kernel
theorem i148_4 : gm_I cX12_meets 4 = some (.ifCond .ne 19) := by decide +kernel
theorem i148_7 : gm_I cX12_meets 7 = some (.lload_n 2) := by decide +kernel
theorem i148_8 : gm_I cX12_meets 8 = some (.iload_n 1) := by decide +kernel
theorem i148_9 : gm_I cX12_meets 9 = some (.i2l) := by decide +kernel
theorem i148_10 : gm_I cX12_meets 10 = some (.bipush 56) := by decide +kernel
theorem i148_12 : gm_I cX12_meets 12 = some (.lshl) := by decide +kernel
theorem i148_13 : gm_I cX12_meets 13 = some (.lcmp) := by decide +kernel
theorem i148_14 : gm_I cX12_meets 14 = some (.ifCond .ne 7) := by decide +kernel
theorem i148_17 : gm_I cX12_meets 17 = some (.iconst 1) := by decide +kernel
theorem i148_18 : gm_I cX12_meets 18 = some (.goto 4) := by decide +kernel
theorem i148_21 : gm_I cX12_meets 21 = some (.iconst 0) := by decide +kernel
theorem i148_22 : gm_I cX12_meets 22 = some (.ireturn) := by decide +kernel
theorem i148_23 : gm_I cX12_meets 23 = some (.iload_n 1) := by decide +kernel
theorem i148_24 : gm_I cX12_meets 24 = some (.bipush 85) := by decide +kernel
theorem i148_26 : gm_I cX12_meets 26 = some (.isub) := by decide +kernel
theorem i148_27 : gm_I cX12_meets 27 = some (.istore 5) := by decide +kernel
theorem i148_29 : gm_I cX12_meets 29 = some (.aload_n 0) := by decide +kernel
theorem i148_30 : gm_I cX12_meets 30 = some (.getfield 201) := by decide +kernel
theorem i148_33 : gm_I cX12_meets 33 = some (.iload 5) := by decide +kernel
theorem i148_35 : gm_I cX12_meets 35 = some (.ishr) := by decide +kernel
theorem i148_36 : gm_I cX12_meets 36 = some (.iconst 1) := by decide +kernel
theorem i148_37 : gm_I cX12_meets 37 = some (.iand) := by decide +kernel
theorem i148_38 : gm_I cX12_meets 38 = some (.iconst 1) := by decide +kernel
theorem i148_39 : gm_I cX12_meets 39 = some (.if_icmp .ne 12) := by decide +kernel
theorem i148_42 : gm_I cX12_meets 42 = some (.lload_n 2) := by decide +kernel
theorem i148_43 : gm_I cX12_meets 43 = some (.invokestatic 204) := by decide +kernel
theorem i148_46 : gm_I cX12_meets 46 = some (.ifCond .ne 5) := by decide +kernel
theorem i148_49 : gm_I cX12_meets 49 = some (.iconst 0) := by decide +kernel
theorem i148_50 : gm_I cX12_meets 50 = some (.ireturn) := by decide +kernel
theorem i148_51 : gm_I cX12_meets 51 = some (.aload_n 0) := by decide +kernel
theorem i148_52 : gm_I cX12_meets 52 = some (.getfield 55) := by decide +kernel
theorem i148_55 : gm_I cX12_meets 55 = some (.iload 5) := by decide +kernel
theorem i148_57 : gm_I cX12_meets 57 = some (.iaload) := by decide +kernel
theorem i148_58 : gm_I cX12_meets 58 = some (.ifCond .lt 21) := by decide +kernel
theorem i148_61 : gm_I cX12_meets 61 = some (.aload_n 0) := by decide +kernel
theorem i148_62 : gm_I cX12_meets 62 = some (.getfield 52) := by decide +kernel
theorem i148_65 : gm_I cX12_meets 65 = some (.iload 5) := by decide +kernel
theorem i148_67 : gm_I cX12_meets 67 = some (.laload) := by decide +kernel
theorem i148_68 : gm_I cX12_meets 68 = some (.lload_n 2) := by decide +kernel
theorem i148_69 : gm_I cX12_meets 69 = some (.lcmp) := by decide +kernel
theorem i148_70 : gm_I cX12_meets 70 = some (.ifCond .ne 7) := by decide +kernel
theorem i148_73 : gm_I cX12_meets 73 = some (.iconst 1) := by decide +kernel
theorem i148_74 : gm_I cX12_meets 74 = some (.goto 4) := by decide +kernel
theorem i148_77 : gm_I cX12_meets 77 = some (.iconst 0) := by decide +kernel
