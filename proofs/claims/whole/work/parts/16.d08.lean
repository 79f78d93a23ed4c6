/-! the code by its places, by program -/
theorem i148_78 : gm_I cX12_meets 78 = some (.ireturn) := by decide +kernel
theorem i148_79 : gm_I cX12_meets 79 = some (.aload_n 0) := by decide +kernel
theorem i148_80 : gm_I cX12_meets 80 = some (.getfield 55) := by decide +kernel
theorem i148_83 : gm_I cX12_meets 83 = some (.iload 5) := by decide +kernel
theorem i148_85 : gm_I cX12_meets 85 = some (.iload 4) := by decide +kernel
theorem i148_87 : gm_I cX12_meets 87 = some (.iastore) := by decide +kernel
theorem i148_88 : gm_I cX12_meets 88 = some (.aload_n 0) := by decide +kernel
theorem i148_89 : gm_I cX12_meets 89 = some (.getfield 52) := by decide +kernel
theorem i148_92 : gm_I cX12_meets 92 = some (.iload 5) := by decide +kernel
theorem i148_94 : gm_I cX12_meets 94 = some (.lload_n 2) := by decide +kernel
theorem i148_95 : gm_I cX12_meets 95 = some (.lastore) := by decide +kernel
theorem i148_96 : gm_I cX12_meets 96 = some (.iconst 1) := by decide +kernel
theorem i148_97 : gm_I cX12_meets 97 = some (.ireturn) := by decide +kernel
theorem i149_0 : gm_I cX12_meetsTerm 0 = some (.aload_n 0) := by decide +kernel
theorem i149_1 : gm_I cX12_meetsTerm 1 = some (.getfield 29) := by decide +kernel
theorem i149_4 : gm_I cX12_meetsTerm 4 = some (.iload_n 1) := by decide +kernel
theorem i149_5 : gm_I cX12_meetsTerm 5 = some (.iaload) := by decide +kernel
theorem i149_6 : gm_I cX12_meetsTerm 6 = some (.ifCond .ne 19) := by decide +kernel
theorem i149_9 : gm_I cX12_meetsTerm 9 = some (.aload_n 0) := by decide +kernel
theorem i149_10 : gm_I cX12_meetsTerm 10 = some (.aload_n 0) := by decide +kernel
theorem i149_11 : gm_I cX12_meetsTerm 11 = some (.getfield 35) := by decide +kernel
theorem i149_14 : gm_I cX12_meetsTerm 14 = some (.iconst 3) := by decide +kernel
theorem i149_15 : gm_I cX12_meetsTerm 15 = some (.iload_n 1) := by decide +kernel
theorem i149_16 : gm_I cX12_meetsTerm 16 = some (.imul) := by decide +kernel
theorem i149_17 : gm_I cX12_meetsTerm 17 = some (.iaload) := by decide +kernel
theorem i149_18 : gm_I cX12_meetsTerm 18 = some (.lload_n 2) := by decide +kernel
theorem i149_19 : gm_I cX12_meetsTerm 19 = some (.iload 4) := by decide +kernel
theorem i149_21 : gm_I cX12_meetsTerm 21 = some (.invokevirtual 208) := by decide +kernel
theorem i149_24 : gm_I cX12_meetsTerm 24 = some (.ireturn) := by decide +kernel
theorem i149_25 : gm_I cX12_meetsTerm 25 = some (.aload_n 0) := by decide +kernel
theorem i149_26 : gm_I cX12_meetsTerm 26 = some (.getfield 32) := by decide +kernel
theorem i149_29 : gm_I cX12_meetsTerm 29 = some (.iload_n 1) := by decide +kernel
theorem i149_30 : gm_I cX12_meetsTerm 30 = some (.iaload) := by decide +kernel
theorem i149_31 : gm_I cX12_meetsTerm 31 = some (.istore 5) := by decide +kernel
theorem i149_33 : gm_I cX12_meetsTerm 33 = some (.lload_n 2) := by decide +kernel
theorem i149_34 : gm_I cX12_meetsTerm 34 = some (.iconst 0) := by decide +kernel
theorem i149_35 : gm_I cX12_meetsTerm 35 = some (.invokestatic 212) := by decide +kernel
theorem i149_38 : gm_I cX12_meetsTerm 38 = some (.aload_n 0) := by decide +kernel
theorem i149_39 : gm_I cX12_meetsTerm 39 = some (.getfield 29) := by decide +kernel
theorem i149_42 : gm_I cX12_meetsTerm 42 = some (.iload_n 1) := by decide +kernel
theorem i149_43 : gm_I cX12_meetsTerm 43 = some (.iaload) := by decide +kernel
theorem i149_44 : gm_I cX12_meetsTerm 44 = some (.if_icmp .ne 28) := by decide +kernel
theorem i149_47 : gm_I cX12_meetsTerm 47 = some (.lload_n 2) := by decide +kernel
theorem i149_48 : gm_I cX12_meetsTerm 48 = some (.iconst 1) := by decide +kernel
theorem i149_49 : gm_I cX12_meetsTerm 49 = some (.invokestatic 212) := by decide +kernel
theorem i149_52 : gm_I cX12_meetsTerm 52 = some (.bipush 40) := by decide +kernel
theorem i149_54 : gm_I cX12_meetsTerm 54 = some (.if_icmp .ne 18) := by decide +kernel
theorem i149_57 : gm_I cX12_meetsTerm 57 = some (.lload_n 2) := by decide +kernel
theorem i149_58 : gm_I cX12_meetsTerm 58 = some (.iconst 2) := by decide +kernel
theorem i149_59 : gm_I cX12_meetsTerm 59 = some (.iload 5) := by decide +kernel
theorem i149_61 : gm_I cX12_meetsTerm 61 = some (.imul) := by decide +kernel
theorem i149_62 : gm_I cX12_meetsTerm 62 = some (.iconst 1) := by decide +kernel
theorem i149_63 : gm_I cX12_meetsTerm 63 = some (.iadd) := by decide +kernel
theorem i149_64 : gm_I cX12_meetsTerm 64 = some (.invokestatic 212) := by decide +kernel
theorem i149_67 : gm_I cX12_meetsTerm 67 = some (.bipush 41) := by decide +kernel
theorem i149_69 : gm_I cX12_meetsTerm 69 = some (.if_icmp .eq 5) := by decide +kernel
theorem i149_72 : gm_I cX12_meetsTerm 72 = some (.iconst 0) := by decide +kernel
theorem i149_73 : gm_I cX12_meetsTerm 73 = some (.ireturn) := by decide +kernel
theorem i149_74 : gm_I cX12_meetsTerm 74 = some (.iconst 0) := by decide +kernel
theorem i149_75 : gm_I cX12_meetsTerm 75 = some (.istore 6) := by decide +kernel
theorem i149_77 : gm_I cX12_meetsTerm 77 = some (.iload 6) := by decide +kernel
theorem i149_79 : gm_I cX12_meetsTerm 79 = some (.iload 5) := by decide +kernel
theorem i149_81 : gm_I cX12_meetsTerm 81 = some (.if_icmp .ge 45) := by decide +kernel
theorem i149_84 : gm_I cX12_meetsTerm 84 = some (.aload_n 0) := by decide +kernel
theorem i149_85 : gm_I cX12_meetsTerm 85 = some (.aload_n 0) := by decide +kernel
theorem i149_86 : gm_I cX12_meetsTerm 86 = some (.getfield 35) := by decide +kernel
theorem i149_89 : gm_I cX12_meetsTerm 89 = some (.iconst 3) := by decide +kernel
theorem i149_90 : gm_I cX12_meetsTerm 90 = some (.iload_n 1) := by decide +kernel
theorem i149_91 : gm_I cX12_meetsTerm 91 = some (.imul) := by decide +kernel
theorem i149_92 : gm_I cX12_meetsTerm 92 = some (.iload 6) := by decide +kernel
theorem i149_94 : gm_I cX12_meetsTerm 94 = some (.iadd) := by decide +kernel
theorem i149_95 : gm_I cX12_meetsTerm 95 = some (.iaload) := by decide +kernel
theorem i149_96 : gm_I cX12_meetsTerm 96 = some (.lload_n 2) := by decide +kernel
theorem i149_97 : gm_I cX12_meetsTerm 97 = some (.iconst 2) := by decide +kernel
theorem i149_98 : gm_I cX12_meetsTerm 98 = some (.iconst 2) := by decide +kernel
theorem i149_99 : gm_I cX12_meetsTerm 99 = some (.iload 6) := by decide +kernel
theorem i149_101 : gm_I cX12_meetsTerm 101 = some (.imul) := by decide +kernel
theorem i149_102 : gm_I cX12_meetsTerm 102 = some (.iadd) := by decide +kernel
theorem i149_103 : gm_I cX12_meetsTerm 103 = some (.invokestatic 212) := by decide +kernel
theorem i149_106 : gm_I cX12_meetsTerm 106 = some (.i2l) := by decide +kernel
theorem i149_107 : gm_I cX12_meetsTerm 107 = some (.bipush 56) := by decide +kernel
theorem i149_109 : gm_I cX12_meetsTerm 109 = some (.lshl) := by decide +kernel
theorem i149_110 : gm_I cX12_meetsTerm 110 = some (.iload 4) := by decide +kernel
theorem i149_112 : gm_I cX12_meetsTerm 112 = some (.invokevirtual 208) := by decide +kernel
theorem i149_115 : gm_I cX12_meetsTerm 115 = some (.ifCond .ne 5) := by decide +kernel
theorem i149_118 : gm_I cX12_meetsTerm 118 = some (.iconst 0) := by decide +kernel
theorem i149_119 : gm_I cX12_meetsTerm 119 = some (.ireturn) := by decide +kernel
theorem i149_120 : gm_I cX12_meetsTerm 120 = some (.iinc 6 1) := by decide +kernel
theorem i149_123 : gm_I cX12_meetsTerm 123 = some (.goto (-46)) := by decide +kernel
theorem i149_126 : gm_I cX12_meetsTerm 126 = some (.iconst 1) := by decide +kernel
theorem i149_127 : gm_I cX12_meetsTerm 127 = some (.ireturn) := by decide +kernel
theorem i150_0 : gm_I cX12_meetsFact 0 = some (.aload_n 0) := by decide +kernel
theorem i150_1 : gm_I cX12_meetsFact 1 = some (.getfield 26) := by decide +kernel
theorem i150_4 : gm_I cX12_meetsFact 4 = some (.iload_n 1) := by decide +kernel
theorem i150_5 : gm_I cX12_meetsFact 5 = some (.iaload) := by decide +kernel
theorem i150_6 : gm_I cX12_meetsFact 6 = some (.aload_n 0) := by decide +kernel
theorem i150_7 : gm_I cX12_meetsFact 7 = some (.getfield 45) := by decide +kernel
theorem i150_10 : gm_I cX12_meetsFact 10 = some (.iload_n 2) := by decide +kernel
theorem i150_11 : gm_I cX12_meetsFact 11 = some (.iaload) := by decide +kernel
theorem i150_12 : gm_I cX12_meetsFact 12 = some (.if_icmp .eq 5) := by decide +kernel
theorem i150_15 : gm_I cX12_meetsFact 15 = some (.iconst 0) := by decide +kernel
theorem i150_16 : gm_I cX12_meetsFact 16 = some (.ireturn) := by decide +kernel
theorem i150_17 : gm_I cX12_meetsFact 17 = some (.iconst 0) := by decide +kernel
theorem i150_18 : gm_I cX12_meetsFact 18 = some (.istore 4) := by decide +kernel
theorem i150_20 : gm_I cX12_meetsFact 20 = some (.iload 4) := by decide +kernel
theorem i150_22 : gm_I cX12_meetsFact 22 = some (.aload_n 0) := by decide +kernel
theorem i150_23 : gm_I cX12_meetsFact 23 = some (.getfield 26) := by decide +kernel
theorem i150_26 : gm_I cX12_meetsFact 26 = some (.iload_n 1) := by decide +kernel
theorem i150_27 : gm_I cX12_meetsFact 27 = some (.iaload) := by decide +kernel
theorem i150_28 : gm_I cX12_meetsFact 28 = some (.iconst 3) := by decide +kernel
theorem i150_29 : gm_I cX12_meetsFact 29 = some (.iand) := by decide +kernel
theorem i150_30 : gm_I cX12_meetsFact 30 = some (.if_icmp .ge 36) := by decide +kernel
theorem i150_33 : gm_I cX12_meetsFact 33 = some (.aload_n 0) := by decide +kernel
theorem i150_34 : gm_I cX12_meetsFact 34 = some (.iconst 3) := by decide +kernel
theorem i150_35 : gm_I cX12_meetsFact 35 = some (.iload_n 1) := by decide +kernel
theorem i150_36 : gm_I cX12_meetsFact 36 = some (.imul) := by decide +kernel
theorem i150_37 : gm_I cX12_meetsFact 37 = some (.iload 4) := by decide +kernel
theorem i150_39 : gm_I cX12_meetsFact 39 = some (.iadd) := by decide +kernel
theorem i150_40 : gm_I cX12_meetsFact 40 = some (.aload_n 0) := by decide +kernel
theorem i150_41 : gm_I cX12_meetsFact 41 = some (.getfield 48) := by decide +kernel
theorem i150_44 : gm_I cX12_meetsFact 44 = some (.iconst 3) := by decide +kernel
theorem i150_45 : gm_I cX12_meetsFact 45 = some (.iload_n 2) := by decide +kernel
theorem i150_46 : gm_I cX12_meetsFact 46 = some (.imul) := by decide +kernel
theorem i150_47 : gm_I cX12_meetsFact 47 = some (.iload 4) := by decide +kernel
theorem i150_49 : gm_I cX12_meetsFact 49 = some (.iadd) := by decide +kernel
theorem i150_50 : gm_I cX12_meetsFact 50 = some (.laload) := by decide +kernel
theorem i150_51 : gm_I cX12_meetsFact 51 = some (.iload_n 3) := by decide +kernel
theorem i150_52 : gm_I cX12_meetsFact 52 = some (.invokevirtual 216) := by decide +kernel
theorem i150_55 : gm_I cX12_meetsFact 55 = some (.ifCond .ne 5) := by decide +kernel
theorem i150_58 : gm_I cX12_meetsFact 58 = some (.iconst 0) := by decide +kernel
theorem i150_59 : gm_I cX12_meetsFact 59 = some (.ireturn) := by decide +kernel
theorem i150_60 : gm_I cX12_meetsFact 60 = some (.iinc 4 1) := by decide +kernel
theorem i150_63 : gm_I cX12_meetsFact 63 = some (.goto (-43)) := by decide +kernel
theorem i150_66 : gm_I cX12_meetsFact 66 = some (.iconst 1) := by decide +kernel
theorem i150_67 : gm_I cX12_meetsFact 67 = some (.ireturn) := by decide +kernel
theorem i151_0 : gm_I cX12_valueOf 0 = some (.iload_n 1) := by decide +kernel
theorem i151_1 : gm_I cX12_valueOf 1 = some (.invokestatic 119) := by decide +kernel
theorem i151_4 : gm_I cX12_valueOf 4 = some (.ifCond .eq 15) := by decide +kernel
theorem i151_7 : gm_I cX12_valueOf 7 = some (.aload_n 0) := by decide +kernel
theorem i151_8 : gm_I cX12_valueOf 8 = some (.getfield 52) := by decide +kernel
theorem i151_11 : gm_I cX12_valueOf 11 = some (.iload_n 1) := by decide +kernel
theorem i151_12 : gm_I cX12_valueOf 12 = some (.bipush 85) := by decide +kernel
theorem i151_14 : gm_I cX12_valueOf 14 = some (.isub) := by decide +kernel
theorem i151_15 : gm_I cX12_valueOf 15 = some (.laload) := by decide +kernel
theorem i151_16 : gm_I cX12_valueOf 16 = some (.goto 8) := by decide +kernel
theorem i151_19 : gm_I cX12_valueOf 19 = some (.iload_n 1) := by decide +kernel
theorem i151_20 : gm_I cX12_valueOf 20 = some (.i2l) := by decide +kernel
theorem i151_21 : gm_I cX12_valueOf 21 = some (.bipush 56) := by decide +kernel
theorem i151_23 : gm_I cX12_valueOf 23 = some (.lshl) := by decide +kernel
theorem i151_24 : gm_I cX12_valueOf 24 = some (.lreturn) := by decide +kernel
theorem i152_0 : gm_I cX12_made 0 = some (.aload_n 0) := by decide +kernel
theorem i152_1 : gm_I cX12_made 1 = some (.getfield 29) := by decide +kernel
theorem i152_4 : gm_I cX12_made 4 = some (.iload_n 1) := by decide +kernel
theorem i152_5 : gm_I cX12_made 5 = some (.iaload) := by decide +kernel
theorem i152_6 : gm_I cX12_made 6 = some (.ifCond .ne 16) := by decide +kernel
theorem i152_9 : gm_I cX12_made 9 = some (.aload_n 0) := by decide +kernel
theorem i152_10 : gm_I cX12_made 10 = some (.aload_n 0) := by decide +kernel
theorem i152_11 : gm_I cX12_made 11 = some (.getfield 35) := by decide +kernel
theorem i152_14 : gm_I cX12_made 14 = some (.iconst 3) := by decide +kernel
theorem i152_15 : gm_I cX12_made 15 = some (.iload_n 1) := by decide +kernel
theorem i152_16 : gm_I cX12_made 16 = some (.imul) := by decide +kernel
theorem i152_17 : gm_I cX12_made 17 = some (.iaload) := by decide +kernel
theorem i152_18 : gm_I cX12_made 18 = some (.invokevirtual 219) := by decide +kernel
theorem i152_21 : gm_I cX12_made 21 = some (.lreturn) := by decide +kernel
theorem i152_22 : gm_I cX12_made 22 = some (.aload_n 0) := by decide +kernel
theorem i152_23 : gm_I cX12_made 23 = some (.getfield 29) := by decide +kernel
theorem i152_26 : gm_I cX12_made 26 = some (.iload_n 1) := by decide +kernel
theorem i152_27 : gm_I cX12_made 27 = some (.iaload) := by decide +kernel
theorem i152_28 : gm_I cX12_made 28 = some (.i2l) := by decide +kernel
theorem i152_29 : gm_I cX12_made 29 = some (.bipush 56) := by decide +kernel
theorem i152_31 : gm_I cX12_made 31 = some (.lshl) := by decide +kernel
theorem i152_32 : gm_I cX12_made 32 = some (.ldc2_w 223) := by decide +kernel
theorem i152_35 : gm_I cX12_made 35 = some (.lor) := by decide +kernel
theorem i152_36 : gm_I cX12_made 36 = some (.lstore_n 2) := by decide +kernel
theorem i152_37 : gm_I cX12_made 37 = some (.iconst 0) := by decide +kernel
theorem i152_38 : gm_I cX12_made 38 = some (.istore 4) := by decide +kernel
theorem i152_40 : gm_I cX12_made 40 = some (.iload 4) := by decide +kernel
theorem i152_42 : gm_I cX12_made 42 = some (.aload_n 0) := by decide +kernel
theorem i152_43 : gm_I cX12_made 43 = some (.getfield 32) := by decide +kernel
theorem i152_46 : gm_I cX12_made 46 = some (.iload_n 1) := by decide +kernel
theorem i152_47 : gm_I cX12_made 47 = some (.iaload) := by decide +kernel
theorem i152_48 : gm_I cX12_made 48 = some (.if_icmp .ge 67) := by decide +kernel
theorem i152_51 : gm_I cX12_made 51 = some (.lload_n 2) := by decide +kernel
theorem i152_52 : gm_I cX12_made 52 = some (.aload_n 0) := by decide +kernel
theorem i152_53 : gm_I cX12_made 53 = some (.aload_n 0) := by decide +kernel
theorem i152_54 : gm_I cX12_made 54 = some (.getfield 35) := by decide +kernel
theorem i152_57 : gm_I cX12_made 57 = some (.iconst 3) := by decide +kernel
theorem i152_58 : gm_I cX12_made 58 = some (.iload_n 1) := by decide +kernel
theorem i152_59 : gm_I cX12_made 59 = some (.imul) := by decide +kernel
theorem i152_60 : gm_I cX12_made 60 = some (.iload 4) := by decide +kernel
theorem i152_62 : gm_I cX12_made 62 = some (.iadd) := by decide +kernel
theorem i152_63 : gm_I cX12_made 63 = some (.iaload) := by decide +kernel
theorem i152_64 : gm_I cX12_made 64 = some (.invokevirtual 219) := by decide +kernel
theorem i152_67 : gm_I cX12_made 67 = some (.bipush 16) := by decide +kernel
theorem i152_69 : gm_I cX12_made 69 = some (.bipush 16) := by decide +kernel
theorem i152_71 : gm_I cX12_made 71 = some (.iload 4) := by decide +kernel
theorem i152_73 : gm_I cX12_made 73 = some (.imul) := by decide +kernel
theorem i152_74 : gm_I cX12_made 74 = some (.iadd) := by decide +kernel
theorem i152_75 : gm_I cX12_made 75 = some (.lshr) := by decide +kernel
theorem i152_76 : gm_I cX12_made 76 = some (.lor) := by decide +kernel
theorem i152_77 : gm_I cX12_made 77 = some (.iload 4) := by decide +kernel
theorem i152_79 : gm_I cX12_made 79 = some (.iconst 1) := by decide +kernel
theorem i152_80 : gm_I cX12_made 80 = some (.iadd) := by decide +kernel
theorem i152_81 : gm_I cX12_made 81 = some (.aload_n 0) := by decide +kernel
theorem i152_82 : gm_I cX12_made 82 = some (.getfield 32) := by decide +kernel
theorem i152_85 : gm_I cX12_made 85 = some (.iload_n 1) := by decide +kernel
theorem i152_86 : gm_I cX12_made 86 = some (.iaload) := by decide +kernel
theorem i152_87 : gm_I cX12_made 87 = some (.if_icmp .ne 8) := by decide +kernel
theorem i152_90 : gm_I cX12_made 90 = some (.bipush 41) := by decide +kernel
theorem i152_92 : gm_I cX12_made 92 = some (.goto 5) := by decide +kernel
theorem i152_95 : gm_I cX12_made 95 = some (.bipush 44) := by decide +kernel
theorem i152_97 : gm_I cX12_made 97 = some (.i2l) := by decide +kernel
theorem i152_98 : gm_I cX12_made 98 = some (.bipush 32) := by decide +kernel
theorem i152_100 : gm_I cX12_made 100 = some (.bipush 16) := by decide +kernel
theorem i152_102 : gm_I cX12_made 102 = some (.iload 4) := by decide +kernel
theorem i152_104 : gm_I cX12_made 104 = some (.imul) := by decide +kernel
theorem i152_105 : gm_I cX12_made 105 = some (.isub) := by decide +kernel
theorem i152_106 : gm_I cX12_made 106 = some (.lshl) := by decide +kernel
theorem i152_107 : gm_I cX12_made 107 = some (.lor) := by decide +kernel
theorem i152_108 : gm_I cX12_made 108 = some (.lstore_n 2) := by decide +kernel
theorem i152_109 : gm_I cX12_made 109 = some (.iinc 4 1) := by decide +kernel
theorem i152_112 : gm_I cX12_made 112 = some (.goto (-72)) := by decide +kernel
theorem i152_115 : gm_I cX12_made 115 = some (.lload_n 2) := by decide +kernel
theorem i152_116 : gm_I cX12_made 116 = some (.lreturn) := by decide +kernel
theorem i153_0 : gm_I cX12_part 0 = some (.iload_n 2) := by decide +kernel
theorem i153_1 : gm_I cX12_part 1 = some (.aload_n 0) := by decide +kernel
theorem i153_2 : gm_I cX12_part 2 = some (.getfield 26) := by decide +kernel
theorem i153_5 : gm_I cX12_part 5 = some (.iload_n 1) := by decide +kernel
theorem i153_6 : gm_I cX12_part 6 = some (.iaload) := by decide +kernel
theorem i153_7 : gm_I cX12_part 7 = some (.iconst 3) := by decide +kernel
theorem i153_8 : gm_I cX12_part 8 = some (.iand) := by decide +kernel
theorem i153_9 : gm_I cX12_part 9 = some (.if_icmp .ge 15) := by decide +kernel
theorem i153_12 : gm_I cX12_part 12 = some (.aload_n 0) := by decide +kernel
theorem i153_13 : gm_I cX12_part 13 = some (.iconst 3) := by decide +kernel
theorem i153_14 : gm_I cX12_part 14 = some (.iload_n 1) := by decide +kernel
theorem i153_15 : gm_I cX12_part 15 = some (.imul) := by decide +kernel
theorem i153_16 : gm_I cX12_part 16 = some (.iload_n 2) := by decide +kernel
theorem i153_17 : gm_I cX12_part 17 = some (.iadd) := by decide +kernel
theorem i153_18 : gm_I cX12_part 18 = some (.invokevirtual 225) := by decide +kernel
theorem i153_21 : gm_I cX12_part 21 = some (.goto 4) := by decide +kernel
theorem i153_24 : gm_I cX12_part 24 = some (.lconst 0) := by decide +kernel
theorem i153_25 : gm_I cX12_part 25 = some (.lreturn) := by decide +kernel
theorem i154_0 : gm_I cX12_agrees 0 = some (.bipush 6) := by decide +kernel
theorem i154_2 : gm_I cX12_agrees 2 = some (.iload_n 1) := by decide +kernel
theorem i154_3 : gm_I cX12_agrees 3 = some (.imul) := by decide +kernel
theorem i154_4 : gm_I cX12_agrees 4 = some (.iconst 1) := by decide +kernel
theorem i154_5 : gm_I cX12_agrees 5 = some (.iadd) := by decide +kernel
theorem i154_6 : gm_I cX12_agrees 6 = some (.istore_n 2) := by decide +kernel
theorem i154_7 : gm_I cX12_agrees 7 = some (.iload_n 2) := by decide +kernel
theorem i154_8 : gm_I cX12_agrees 8 = some (.bipush 6) := by decide +kernel
theorem i154_10 : gm_I cX12_agrees 10 = some (.iload_n 1) := by decide +kernel
theorem i154_11 : gm_I cX12_agrees 11 = some (.imul) := by decide +kernel
theorem i154_12 : gm_I cX12_agrees 12 = some (.aload_n 0) := by decide +kernel
theorem i154_13 : gm_I cX12_agrees 13 = some (.getfield 19) := by decide +kernel
theorem i154_16 : gm_I cX12_agrees 16 = some (.iload_n 1) := by decide +kernel
theorem i154_17 : gm_I cX12_agrees 17 = some (.iaload) := by decide +kernel
theorem i154_18 : gm_I cX12_agrees 18 = some (.iadd) := by decide +kernel
theorem i154_19 : gm_I cX12_agrees 19 = some (.if_icmp .gt 84) := by decide +kernel
theorem i154_22 : gm_I cX12_agrees 22 = some (.aload_n 0) := by decide +kernel
theorem i154_23 : gm_I cX12_agrees 23 = some (.getfield 23) := by decide +kernel
theorem i154_26 : gm_I cX12_agrees 26 = some (.iload_n 2) := by decide +kernel
theorem i154_27 : gm_I cX12_agrees 27 = some (.iaload) := by decide +kernel
theorem i154_28 : gm_I cX12_agrees 28 = some (.iconst 1) := by decide +kernel
theorem i154_29 : gm_I cX12_agrees 29 = some (.if_icmp .ne 36) := by decide +kernel
theorem i154_32 : gm_I cX12_agrees 32 = some (.aload_n 0) := by decide +kernel
theorem i154_33 : gm_I cX12_agrees 33 = some (.aload_n 0) := by decide +kernel
theorem i154_34 : gm_I cX12_agrees 34 = some (.getfield 26) := by decide +kernel
theorem i154_37 : gm_I cX12_agrees 37 = some (.iload_n 2) := by decide +kernel
theorem i154_38 : gm_I cX12_agrees 38 = some (.iaload) := by decide +kernel
theorem i154_39 : gm_I cX12_agrees 39 = some (.aload_n 0) := by decide +kernel
theorem i154_40 : gm_I cX12_agrees 40 = some (.iload_n 2) := by decide +kernel
theorem i154_41 : gm_I cX12_agrees 41 = some (.iconst 0) := by decide +kernel
theorem i154_42 : gm_I cX12_agrees 42 = some (.invokevirtual 228) := by decide +kernel
theorem i154_45 : gm_I cX12_agrees 45 = some (.aload_n 0) := by decide +kernel
theorem i154_46 : gm_I cX12_agrees 46 = some (.iload_n 2) := by decide +kernel
theorem i154_47 : gm_I cX12_agrees 47 = some (.iconst 1) := by decide +kernel
theorem i154_48 : gm_I cX12_agrees 48 = some (.invokevirtual 228) := by decide +kernel
theorem i154_51 : gm_I cX12_agrees 51 = some (.aload_n 0) := by decide +kernel
theorem i154_52 : gm_I cX12_agrees 52 = some (.iload_n 2) := by decide +kernel
theorem i154_53 : gm_I cX12_agrees 53 = some (.iconst 2) := by decide +kernel
theorem i154_54 : gm_I cX12_agrees 54 = some (.invokevirtual 228) := by decide +kernel
theorem i154_57 : gm_I cX12_agrees 57 = some (.invokevirtual 197) := by decide +kernel
theorem i154_60 : gm_I cX12_agrees 60 = some (.ifCond .eq 5) := by decide +kernel
theorem i154_63 : gm_I cX12_agrees 63 = some (.iconst 0) := by decide +kernel
theorem i154_64 : gm_I cX12_agrees 64 = some (.ireturn) := by decide +kernel
theorem i154_65 : gm_I cX12_agrees 65 = some (.aload_n 0) := by decide +kernel
theorem i154_66 : gm_I cX12_agrees 66 = some (.getfield 23) := by decide +kernel
theorem i154_69 : gm_I cX12_agrees 69 = some (.iload_n 2) := by decide +kernel
theorem i154_70 : gm_I cX12_agrees 70 = some (.iaload) := by decide +kernel
theorem i154_71 : gm_I cX12_agrees 71 = some (.iconst 2) := by decide +kernel
theorem i154_72 : gm_I cX12_agrees 72 = some (.if_icmp .ne 25) := by decide +kernel
theorem i154_75 : gm_I cX12_agrees 75 = some (.aload_n 0) := by decide +kernel
theorem i154_76 : gm_I cX12_agrees 76 = some (.iconst 3) := by decide +kernel
theorem i154_77 : gm_I cX12_agrees 77 = some (.iload_n 2) := by decide +kernel
theorem i154_78 : gm_I cX12_agrees 78 = some (.imul) := by decide +kernel
theorem i154_79 : gm_I cX12_agrees 79 = some (.invokevirtual 225) := by decide +kernel
theorem i154_82 : gm_I cX12_agrees 82 = some (.aload_n 0) := by decide +kernel
theorem i154_83 : gm_I cX12_agrees 83 = some (.iconst 3) := by decide +kernel
theorem i154_84 : gm_I cX12_agrees 84 = some (.iload_n 2) := by decide +kernel
theorem i154_85 : gm_I cX12_agrees 85 = some (.imul) := by decide +kernel
theorem i154_86 : gm_I cX12_agrees 86 = some (.iconst 1) := by decide +kernel
theorem i154_87 : gm_I cX12_agrees 87 = some (.iadd) := by decide +kernel
theorem i154_88 : gm_I cX12_agrees 88 = some (.invokevirtual 225) := by decide +kernel
theorem i154_91 : gm_I cX12_agrees 91 = some (.lcmp) := by decide +kernel
theorem i154_92 : gm_I cX12_agrees 92 = some (.ifCond .ne 5) := by decide +kernel
theorem i154_95 : gm_I cX12_agrees 95 = some (.iconst 0) := by decide +kernel
theorem i154_96 : gm_I cX12_agrees 96 = some (.ireturn) := by decide +kernel
theorem i154_97 : gm_I cX12_agrees 97 = some (.iinc 2 1) := by decide +kernel
theorem i154_100 : gm_I cX12_agrees 100 = some (.goto (-93)) := by decide +kernel
theorem i154_103 : gm_I cX12_agrees 103 = some (.iconst 1) := by decide +kernel
theorem i154_104 : gm_I cX12_agrees 104 = some (.ireturn) := by decide +kernel
theorem i155_0 : gm_I cX12_held 0 = some (.iconst 0) := by decide +kernel
theorem i155_1 : gm_I cX12_held 1 = some (.istore_n 2) := by decide +kernel
theorem i155_2 : gm_I cX12_held 2 = some (.bipush 6) := by decide +kernel
theorem i155_4 : gm_I cX12_held 4 = some (.iload_n 1) := by decide +kernel
theorem i155_5 : gm_I cX12_held 5 = some (.imul) := by decide +kernel
theorem i155_6 : gm_I cX12_held 6 = some (.istore_n 3) := by decide +kernel
theorem i155_7 : gm_I cX12_held 7 = some (.iload_n 3) := by decide +kernel
theorem i155_8 : gm_I cX12_held 8 = some (.bipush 6) := by decide +kernel
theorem i155_10 : gm_I cX12_held 10 = some (.iload_n 1) := by decide +kernel
theorem i155_11 : gm_I cX12_held 11 = some (.imul) := by decide +kernel
theorem i155_12 : gm_I cX12_held 12 = some (.aload_n 0) := by decide +kernel
theorem i155_13 : gm_I cX12_held 13 = some (.getfield 19) := by decide +kernel
theorem i155_16 : gm_I cX12_held 16 = some (.iload_n 1) := by decide +kernel
theorem i155_17 : gm_I cX12_held 17 = some (.iaload) := by decide +kernel
theorem i155_18 : gm_I cX12_held 18 = some (.iadd) := by decide +kernel
theorem i155_19 : gm_I cX12_held 19 = some (.if_icmp .gt 124) := by decide +kernel
theorem i155_22 : gm_I cX12_held 22 = some (.iconst 3) := by decide +kernel
theorem i155_23 : gm_I cX12_held 23 = some (.iload_n 3) := by decide +kernel
theorem i155_24 : gm_I cX12_held 24 = some (.imul) := by decide +kernel
theorem i155_25 : gm_I cX12_held 25 = some (.istore 4) := by decide +kernel
theorem i155_27 : gm_I cX12_held 27 = some (.iload 4) := by decide +kernel
theorem i155_29 : gm_I cX12_held 29 = some (.iconst 3) := by decide +kernel
theorem i155_30 : gm_I cX12_held 30 = some (.iload_n 3) := by decide +kernel
theorem i155_31 : gm_I cX12_held 31 = some (.imul) := by decide +kernel
theorem i155_32 : gm_I cX12_held 32 = some (.aload_n 0) := by decide +kernel
theorem i155_33 : gm_I cX12_held 33 = some (.getfield 23) := by decide +kernel
theorem i155_36 : gm_I cX12_held 36 = some (.iload_n 3) := by decide +kernel
theorem i155_37 : gm_I cX12_held 37 = some (.iaload) := by decide +kernel
theorem i155_38 : gm_I cX12_held 38 = some (.iconst 2) := by decide +kernel
theorem i155_39 : gm_I cX12_held 39 = some (.if_icmp .ne 7) := by decide +kernel
theorem i155_42 : gm_I cX12_held 42 = some (.iconst 2) := by decide +kernel
theorem i155_43 : gm_I cX12_held 43 = some (.goto 11) := by decide +kernel
theorem i155_46 : gm_I cX12_held 46 = some (.aload_n 0) := by decide +kernel
theorem i155_47 : gm_I cX12_held 47 = some (.getfield 26) := by decide +kernel
theorem i155_50 : gm_I cX12_held 50 = some (.iload_n 3) := by decide +kernel
theorem i155_51 : gm_I cX12_held 51 = some (.iaload) := by decide +kernel
theorem i155_52 : gm_I cX12_held 52 = some (.iconst 3) := by decide +kernel
theorem i155_53 : gm_I cX12_held 53 = some (.iand) := by decide +kernel
theorem i155_54 : gm_I cX12_held 54 = some (.iadd) := by decide +kernel
theorem i155_55 : gm_I cX12_held 55 = some (.if_icmp .ge 82) := by decide +kernel
theorem i155_58 : gm_I cX12_held 58 = some (.iconst 0) := by decide +kernel
theorem i155_59 : gm_I cX12_held 59 = some (.istore 5) := by decide +kernel
theorem i155_61 : gm_I cX12_held 61 = some (.iload 5) := by decide +kernel
theorem i155_63 : gm_I cX12_held 63 = some (.aload_n 0) := by decide +kernel
theorem i155_64 : gm_I cX12_held 64 = some (.getfield 32) := by decide +kernel
theorem i155_67 : gm_I cX12_held 67 = some (.iload 4) := by decide +kernel
theorem i155_69 : gm_I cX12_held 69 = some (.iaload) := by decide +kernel
theorem i155_70 : gm_I cX12_held 70 = some (.if_icmp .ge 61) := by decide +kernel
theorem i155_73 : gm_I cX12_held 73 = some (.aload_n 0) := by decide +kernel
theorem i155_74 : gm_I cX12_held 74 = some (.getfield 29) := by decide +kernel
theorem i155_77 : gm_I cX12_held 77 = some (.iload 4) := by decide +kernel
theorem i155_79 : gm_I cX12_held 79 = some (.iaload) := by decide +kernel
theorem i155_80 : gm_I cX12_held 80 = some (.ifCond .eq 51) := by decide +kernel
theorem i155_83 : gm_I cX12_held 83 = some (.aload_n 0) := by decide +kernel
theorem i155_84 : gm_I cX12_held 84 = some (.getfield 35) := by decide +kernel
theorem i155_87 : gm_I cX12_held 87 = some (.iconst 3) := by decide +kernel
theorem i155_88 : gm_I cX12_held 88 = some (.iload 4) := by decide +kernel
theorem i155_90 : gm_I cX12_held 90 = some (.imul) := by decide +kernel
theorem i155_91 : gm_I cX12_held 91 = some (.iload 5) := by decide +kernel
theorem i155_93 : gm_I cX12_held 93 = some (.iadd) := by decide +kernel
theorem i155_94 : gm_I cX12_held 94 = some (.iaload) := by decide +kernel
theorem i155_95 : gm_I cX12_held 95 = some (.invokestatic 119) := by decide +kernel
theorem i155_98 : gm_I cX12_held 98 = some (.ifCond .eq 25) := by decide +kernel
theorem i155_101 : gm_I cX12_held 101 = some (.iload_n 2) := by decide +kernel
theorem i155_102 : gm_I cX12_held 102 = some (.iconst 1) := by decide +kernel
theorem i155_103 : gm_I cX12_held 103 = some (.aload_n 0) := by decide +kernel
theorem i155_104 : gm_I cX12_held 104 = some (.getfield 35) := by decide +kernel
theorem i155_107 : gm_I cX12_held 107 = some (.iconst 3) := by decide +kernel
theorem i155_108 : gm_I cX12_held 108 = some (.iload 4) := by decide +kernel
theorem i155_110 : gm_I cX12_held 110 = some (.imul) := by decide +kernel
theorem i155_111 : gm_I cX12_held 111 = some (.iload 5) := by decide +kernel
theorem i155_113 : gm_I cX12_held 113 = some (.iadd) := by decide +kernel
theorem i155_114 : gm_I cX12_held 114 = some (.iaload) := by decide +kernel
theorem i155_115 : gm_I cX12_held 115 = some (.bipush 85) := by decide +kernel
theorem i155_117 : gm_I cX12_held 117 = some (.isub) := by decide +kernel
theorem i155_118 : gm_I cX12_held 118 = some (.ishl) := by decide +kernel
theorem i155_119 : gm_I cX12_held 119 = some (.ior) := by decide +kernel
theorem i155_120 : gm_I cX12_held 120 = some (.goto 4) := by decide +kernel
theorem i155_123 : gm_I cX12_held 123 = some (.iload_n 2) := by decide +kernel
theorem i155_124 : gm_I cX12_held 124 = some (.istore_n 2) := by decide +kernel
theorem i155_125 : gm_I cX12_held 125 = some (.iinc 5 1) := by decide +kernel
theorem i155_128 : gm_I cX12_held 128 = some (.goto (-67)) := by decide +kernel
theorem i155_131 : gm_I cX12_held 131 = some (.iinc 4 1) := by decide +kernel
theorem i155_134 : gm_I cX12_held 134 = some (.goto (-107)) := by decide +kernel
theorem i155_137 : gm_I cX12_held 137 = some (.iinc 3 1) := by decide +kernel
theorem i155_140 : gm_I cX12_held 140 = some (.goto (-133)) := by decide +kernel
theorem i155_143 : gm_I cX12_held 143 = some (.iload_n 2) := by decide +kernel
theorem i155_144 : gm_I cX12_held 144 = some (.ireturn) := by decide +kernel
theorem i156_0 : gm_I cX12_ways 0 = some (.lconst 1) := by decide +kernel
theorem i156_1 : gm_I cX12_ways 1 = some (.lstore_n 2) := by decide +kernel
theorem i156_2 : gm_I cX12_ways 2 = some (.bipush 6) := by decide +kernel
theorem i156_4 : gm_I cX12_ways 4 = some (.iload_n 1) := by decide +kernel
theorem i156_5 : gm_I cX12_ways 5 = some (.imul) := by decide +kernel
theorem i156_6 : gm_I cX12_ways 6 = some (.iconst 1) := by decide +kernel
theorem i156_7 : gm_I cX12_ways 7 = some (.iadd) := by decide +kernel
theorem i156_8 : gm_I cX12_ways 8 = some (.istore 4) := by decide +kernel
theorem i156_10 : gm_I cX12_ways 10 = some (.iload 4) := by decide +kernel
theorem i156_12 : gm_I cX12_ways 12 = some (.bipush 6) := by decide +kernel
theorem i156_14 : gm_I cX12_ways 14 = some (.iload_n 1) := by decide +kernel
theorem i156_15 : gm_I cX12_ways 15 = some (.imul) := by decide +kernel
theorem i156_16 : gm_I cX12_ways 16 = some (.aload_n 0) := by decide +kernel
theorem i156_17 : gm_I cX12_ways 17 = some (.getfield 19) := by decide +kernel
theorem i156_20 : gm_I cX12_ways 20 = some (.iload_n 1) := by decide +kernel
theorem i156_21 : gm_I cX12_ways 21 = some (.iaload) := by decide +kernel
theorem i156_22 : gm_I cX12_ways 22 = some (.iadd) := by decide +kernel
theorem i156_23 : gm_I cX12_ways 23 = some (.if_icmp .gt 87) := by decide +kernel
theorem i156_26 : gm_I cX12_ways 26 = some (.lconst 0) := by decide +kernel
theorem i156_27 : gm_I cX12_ways 27 = some (.lstore 5) := by decide +kernel
theorem i156_29 : gm_I cX12_ways 29 = some (.iconst 0) := by decide +kernel
theorem i156_30 : gm_I cX12_ways 30 = some (.istore 7) := by decide +kernel
theorem i156_32 : gm_I cX12_ways 32 = some (.iload 7) := by decide +kernel
theorem i156_34 : gm_I cX12_ways 34 = some (.aload_n 0) := by decide +kernel
theorem i156_35 : gm_I cX12_ways 35 = some (.getfield 190) := by decide +kernel
theorem i156_38 : gm_I cX12_ways 38 = some (.if_icmp .ge 47) := by decide +kernel
theorem i156_41 : gm_I cX12_ways 41 = some (.aload_n 0) := by decide +kernel
theorem i156_42 : gm_I cX12_ways 42 = some (.getfield 23) := by decide +kernel
theorem i156_45 : gm_I cX12_ways 45 = some (.iload 4) := by decide +kernel
theorem i156_47 : gm_I cX12_ways 47 = some (.iaload) := by decide +kernel
theorem i156_48 : gm_I cX12_ways 48 = some (.ifCond .ne 37) := by decide +kernel
theorem i156_51 : gm_I cX12_ways 51 = some (.aload_n 0) := by decide +kernel
theorem i156_52 : gm_I cX12_ways 52 = some (.getfield 45) := by decide +kernel
theorem i156_55 : gm_I cX12_ways 55 = some (.iload 7) := by decide +kernel
theorem i156_57 : gm_I cX12_ways 57 = some (.iaload) := by decide +kernel
theorem i156_58 : gm_I cX12_ways 58 = some (.aload_n 0) := by decide +kernel
theorem i156_59 : gm_I cX12_ways 59 = some (.getfield 26) := by decide +kernel
theorem i156_62 : gm_I cX12_ways 62 = some (.iload 4) := by decide +kernel
theorem i156_64 : gm_I cX12_ways 64 = some (.iaload) := by decide +kernel
theorem i156_65 : gm_I cX12_ways 65 = some (.if_icmp .ne 10) := by decide +kernel
theorem i156_68 : gm_I cX12_ways 68 = some (.lload 5) := by decide +kernel
theorem i156_70 : gm_I cX12_ways 70 = some (.lconst 1) := by decide +kernel
theorem i156_71 : gm_I cX12_ways 71 = some (.ladd) := by decide +kernel
theorem i156_72 : gm_I cX12_ways 72 = some (.goto 5) := by decide +kernel
theorem i156_75 : gm_I cX12_ways 75 = some (.lload 5) := by decide +kernel
theorem i156_77 : gm_I cX12_ways 77 = some (.lstore 5) := by decide +kernel
theorem i156_79 : gm_I cX12_ways 79 = some (.iinc 7 1) := by decide +kernel
theorem i156_82 : gm_I cX12_ways 82 = some (.goto (-50)) := by decide +kernel
theorem i156_85 : gm_I cX12_ways 85 = some (.aload_n 0) := by decide +kernel
theorem i156_86 : gm_I cX12_ways 86 = some (.getfield 23) := by decide +kernel
theorem i156_89 : gm_I cX12_ways 89 = some (.iload 4) := by decide +kernel
theorem i156_91 : gm_I cX12_ways 91 = some (.iaload) := by decide +kernel
theorem i156_92 : gm_I cX12_ways 92 = some (.ifCond .ne 10) := by decide +kernel
theorem i156_95 : gm_I cX12_ways 95 = some (.lload_n 2) := by decide +kernel
theorem i156_96 : gm_I cX12_ways 96 = some (.lload 5) := by decide +kernel
theorem i156_98 : gm_I cX12_ways 98 = some (.lmul) := by decide +kernel
theorem i156_99 : gm_I cX12_ways 99 = some (.goto 4) := by decide +kernel
theorem i156_102 : gm_I cX12_ways 102 = some (.lload_n 2) := by decide +kernel
theorem i156_103 : gm_I cX12_ways 103 = some (.lstore_n 2) := by decide +kernel
theorem i156_104 : gm_I cX12_ways 104 = some (.iinc 4 1) := by decide +kernel
theorem i156_107 : gm_I cX12_ways 107 = some (.goto (-97)) := by decide +kernel
theorem i156_110 : gm_I cX12_ways 110 = some (.lload_n 2) := by decide +kernel
theorem i156_111 : gm_I cX12_ways 111 = some (.lreturn) := by decide +kernel
theorem i157_0 : gm_I cX12_apply 0 = some (.aload_n 0) := by decide +kernel
theorem i157_1 : gm_I cX12_apply 1 = some (.aload_n 0) := by decide +kernel
theorem i157_2 : gm_I cX12_apply 2 = some (.iload_n 1) := by decide +kernel
theorem i157_3 : gm_I cX12_apply 3 = some (.invokevirtual 232) := by decide +kernel
theorem i157_6 : gm_I cX12_apply 6 = some (.putfield 201) := by decide +kernel
theorem i157_9 : gm_I cX12_apply 9 = some (.iconst 0) := by decide +kernel
theorem i157_10 : gm_I cX12_apply 10 = some (.istore_n 2) := by decide +kernel
theorem i157_11 : gm_I cX12_apply 11 = some (.iload_n 2) := by decide +kernel
theorem i157_12 : gm_I cX12_apply 12 = some (.bipush 6) := by decide +kernel
theorem i157_14 : gm_I cX12_apply 14 = some (.if_icmp .ge 16) := by decide +kernel
theorem i157_17 : gm_I cX12_apply 17 = some (.aload_n 0) := by decide +kernel
theorem i157_18 : gm_I cX12_apply 18 = some (.getfield 55) := by decide +kernel
theorem i157_21 : gm_I cX12_apply 21 = some (.iload_n 2) := by decide +kernel
theorem i157_22 : gm_I cX12_apply 22 = some (.iconst (-1)) := by decide +kernel
theorem i157_23 : gm_I cX12_apply 23 = some (.iastore) := by decide +kernel
theorem i157_24 : gm_I cX12_apply 24 = some (.iinc 2 1) := by decide +kernel
theorem i157_27 : gm_I cX12_apply 27 = some (.goto (-16)) := by decide +kernel
theorem i157_30 : gm_I cX12_apply 30 = some (.aload_n 0) := by decide +kernel
theorem i157_31 : gm_I cX12_apply 31 = some (.getfield 19) := by decide +kernel
theorem i157_34 : gm_I cX12_apply 34 = some (.iload_n 1) := by decide +kernel
theorem i157_35 : gm_I cX12_apply 35 = some (.iaload) := by decide +kernel
theorem i157_36 : gm_I cX12_apply 36 = some (.istore_n 2) := by decide +kernel
theorem i157_37 : gm_I cX12_apply 37 = some (.iconst 0) := by decide +kernel
theorem i157_38 : gm_I cX12_apply 38 = some (.istore_n 3) := by decide +kernel
theorem i157_39 : gm_I cX12_apply 39 = some (.aload_n 0) := by decide +kernel
theorem i157_40 : gm_I cX12_apply 40 = some (.getfield 58) := by decide +kernel
theorem i157_43 : gm_I cX12_apply 43 = some (.iconst 0) := by decide +kernel
theorem i157_44 : gm_I cX12_apply 44 = some (.iconst (-1)) := by decide +kernel
theorem i157_45 : gm_I cX12_apply 45 = some (.iastore) := by decide +kernel
theorem i157_46 : gm_I cX12_apply 46 = some (.aload_n 0) := by decide +kernel
theorem i157_47 : gm_I cX12_apply 47 = some (.aload_n 0) := by decide +kernel
theorem i157_48 : gm_I cX12_apply 48 = some (.getfield 193) := by decide +kernel
theorem i157_51 : gm_I cX12_apply 51 = some (.ifCond .ne 15) := by decide +kernel
theorem i157_54 : gm_I cX12_apply 54 = some (.aload_n 0) := by decide +kernel
theorem i157_55 : gm_I cX12_apply 55 = some (.iload_n 1) := by decide +kernel
theorem i157_56 : gm_I cX12_apply 56 = some (.invokevirtual 235) := by decide +kernel
theorem i157_59 : gm_I cX12_apply 59 = some (.ldc2_w 238) := by decide +kernel
theorem i157_62 : gm_I cX12_apply 62 = some (.lcmp) := by decide +kernel
theorem i157_63 : gm_I cX12_apply 63 = some (.ifCond .le 7) := by decide +kernel
theorem i157_66 : gm_I cX12_apply 66 = some (.iconst 1) := by decide +kernel
theorem i157_67 : gm_I cX12_apply 67 = some (.goto 4) := by decide +kernel
theorem i157_70 : gm_I cX12_apply 70 = some (.iconst 0) := by decide +kernel
theorem i157_71 : gm_I cX12_apply 71 = some (.putfield 193) := by decide +kernel
theorem i157_74 : gm_I cX12_apply 74 = some (.iload_n 3) := by decide +kernel
theorem i157_75 : gm_I cX12_apply 75 = some (.ifCond .lt 274) := by decide +kernel
theorem i157_78 : gm_I cX12_apply 78 = some (.aload_n 0) := by decide +kernel
theorem i157_79 : gm_I cX12_apply 79 = some (.getfield 193) := by decide +kernel
theorem i157_82 : gm_I cX12_apply 82 = some (.ifCond .ne 267) := by decide +kernel
theorem i157_85 : gm_I cX12_apply 85 = some (.iload_n 3) := by decide +kernel
theorem i157_86 : gm_I cX12_apply 86 = some (.iload_n 2) := by decide +kernel
theorem i157_87 : gm_I cX12_apply 87 = some (.if_icmp .ne 100) := by decide +kernel
theorem i157_90 : gm_I cX12_apply 90 = some (.aload_n 0) := by decide +kernel
theorem i157_91 : gm_I cX12_apply 91 = some (.getfield 190) := by decide +kernel
theorem i157_94 : gm_I cX12_apply 94 = some (.istore 4) := by decide +kernel
theorem i157_96 : gm_I cX12_apply 96 = some (.aload_n 0) := by decide +kernel
theorem i157_97 : gm_I cX12_apply 97 = some (.iload_n 1) := by decide +kernel
theorem i157_98 : gm_I cX12_apply 98 = some (.invokevirtual 240) := by decide +kernel
theorem i157_101 : gm_I cX12_apply 101 = some (.ifCond .eq 43) := by decide +kernel
theorem i157_104 : gm_I cX12_apply 104 = some (.aload_n 0) := by decide +kernel
theorem i157_105 : gm_I cX12_apply 105 = some (.aload_n 0) := by decide +kernel
theorem i157_106 : gm_I cX12_apply 106 = some (.getfield 26) := by decide +kernel
theorem i157_109 : gm_I cX12_apply 109 = some (.bipush 6) := by decide +kernel
theorem i157_111 : gm_I cX12_apply 111 = some (.iload_n 1) := by decide +kernel
theorem i157_112 : gm_I cX12_apply 112 = some (.imul) := by decide +kernel
theorem i157_113 : gm_I cX12_apply 113 = some (.iaload) := by decide +kernel
theorem i157_114 : gm_I cX12_apply 114 = some (.aload_n 0) := by decide +kernel
theorem i157_115 : gm_I cX12_apply 115 = some (.bipush 6) := by decide +kernel
theorem i157_117 : gm_I cX12_apply 117 = some (.iload_n 1) := by decide +kernel
theorem i157_118 : gm_I cX12_apply 118 = some (.imul) := by decide +kernel
theorem i157_119 : gm_I cX12_apply 119 = some (.iconst 0) := by decide +kernel
theorem i157_120 : gm_I cX12_apply 120 = some (.invokevirtual 228) := by decide +kernel
theorem i157_123 : gm_I cX12_apply 123 = some (.aload_n 0) := by decide +kernel
theorem i157_124 : gm_I cX12_apply 124 = some (.bipush 6) := by decide +kernel
theorem i157_126 : gm_I cX12_apply 126 = some (.iload_n 1) := by decide +kernel
theorem i157_127 : gm_I cX12_apply 127 = some (.imul) := by decide +kernel
theorem i157_128 : gm_I cX12_apply 128 = some (.iconst 1) := by decide +kernel
theorem i157_129 : gm_I cX12_apply 129 = some (.invokevirtual 228) := by decide +kernel
theorem i157_132 : gm_I cX12_apply 132 = some (.aload_n 0) := by decide +kernel
theorem i157_133 : gm_I cX12_apply 133 = some (.bipush 6) := by decide +kernel
theorem i157_135 : gm_I cX12_apply 135 = some (.iload_n 1) := by decide +kernel
theorem i157_136 : gm_I cX12_apply 136 = some (.imul) := by decide +kernel
theorem i157_137 : gm_I cX12_apply 137 = some (.iconst 2) := by decide +kernel
theorem i157_138 : gm_I cX12_apply 138 = some (.invokevirtual 228) := by decide +kernel
theorem i157_141 : gm_I cX12_apply 141 = some (.invokevirtual 243) := by decide +kernel
theorem i157_144 : gm_I cX12_apply 144 = some (.aload_n 0) := by decide +kernel
theorem i157_145 : gm_I cX12_apply 145 = some (.aload_n 0) := by decide +kernel
theorem i157_146 : gm_I cX12_apply 146 = some (.getfield 193) := by decide +kernel
theorem i157_149 : gm_I cX12_apply 149 = some (.ifCond .ne 24) := by decide +kernel
theorem i157_152 : gm_I cX12_apply 152 = some (.aload_n 0) := by decide +kernel
theorem i157_153 : gm_I cX12_apply 153 = some (.getfield 190) := by decide +kernel
theorem i157_156 : gm_I cX12_apply 156 = some (.iload 4) := by decide +kernel
theorem i157_158 : gm_I cX12_apply 158 = some (.if_icmp .le 19) := by decide +kernel
theorem i157_161 : gm_I cX12_apply 161 = some (.aload_n 0) := by decide +kernel
theorem i157_162 : gm_I cX12_apply 162 = some (.iload_n 1) := by decide +kernel
theorem i157_163 : gm_I cX12_apply 163 = some (.invokevirtual 235) := by decide +kernel
theorem i157_166 : gm_I cX12_apply 166 = some (.ldc2_w 238) := by decide +kernel
theorem i157_169 : gm_I cX12_apply 169 = some (.lcmp) := by decide +kernel
theorem i157_170 : gm_I cX12_apply 170 = some (.ifCond .le 7) := by decide +kernel
theorem i157_173 : gm_I cX12_apply 173 = some (.iconst 1) := by decide +kernel
theorem i157_174 : gm_I cX12_apply 174 = some (.goto 4) := by decide +kernel
theorem i157_177 : gm_I cX12_apply 177 = some (.iconst 0) := by decide +kernel
theorem i157_178 : gm_I cX12_apply 178 = some (.putfield 193) := by decide +kernel
theorem i157_181 : gm_I cX12_apply 181 = some (.iinc 3 (-1)) := by decide +kernel
theorem i157_184 : gm_I cX12_apply 184 = some (.goto (-110)) := by decide +kernel
theorem i157_187 : gm_I cX12_apply 187 = some (.iconst 0) := by decide +kernel
theorem i157_188 : gm_I cX12_apply 188 = some (.istore 4) := by decide +kernel
theorem i157_190 : gm_I cX12_apply 190 = some (.iload 4) := by decide +kernel
theorem i157_192 : gm_I cX12_apply 192 = some (.bipush 6) := by decide +kernel
theorem i157_194 : gm_I cX12_apply 194 = some (.if_icmp .ge 38) := by decide +kernel
theorem i157_197 : gm_I cX12_apply 197 = some (.aload_n 0) := by decide +kernel
theorem i157_198 : gm_I cX12_apply 198 = some (.getfield 55) := by decide +kernel
theorem i157_201 : gm_I cX12_apply 201 = some (.iload 4) := by decide +kernel
theorem i157_203 : gm_I cX12_apply 203 = some (.aload_n 0) := by decide +kernel
theorem i157_204 : gm_I cX12_apply 204 = some (.getfield 55) := by decide +kernel
theorem i157_207 : gm_I cX12_apply 207 = some (.iload 4) := by decide +kernel
theorem i157_209 : gm_I cX12_apply 209 = some (.iaload) := by decide +kernel
theorem i157_210 : gm_I cX12_apply 210 = some (.iload_n 3) := by decide +kernel
theorem i157_211 : gm_I cX12_apply 211 = some (.if_icmp .ne 7) := by decide +kernel
theorem i157_214 : gm_I cX12_apply 214 = some (.iconst (-1)) := by decide +kernel
theorem i157_215 : gm_I cX12_apply 215 = some (.goto 10) := by decide +kernel
theorem i157_218 : gm_I cX12_apply 218 = some (.aload_n 0) := by decide +kernel
theorem i157_219 : gm_I cX12_apply 219 = some (.getfield 55) := by decide +kernel
theorem i157_222 : gm_I cX12_apply 222 = some (.iload 4) := by decide +kernel
theorem i157_224 : gm_I cX12_apply 224 = some (.iaload) := by decide +kernel
theorem i157_225 : gm_I cX12_apply 225 = some (.iastore) := by decide +kernel
theorem i157_226 : gm_I cX12_apply 226 = some (.iinc 4 1) := by decide +kernel
theorem i157_229 : gm_I cX12_apply 229 = some (.goto (-39)) := by decide +kernel
theorem i157_232 : gm_I cX12_apply 232 = some (.bipush 6) := by decide +kernel
theorem i157_234 : gm_I cX12_apply 234 = some (.iload_n 1) := by decide +kernel
theorem i157_235 : gm_I cX12_apply 235 = some (.imul) := by decide +kernel
theorem i157_236 : gm_I cX12_apply 236 = some (.iconst 1) := by decide +kernel
theorem i157_237 : gm_I cX12_apply 237 = some (.iadd) := by decide +kernel
theorem i157_238 : gm_I cX12_apply 238 = some (.iload_n 3) := by decide +kernel
theorem i157_239 : gm_I cX12_apply 239 = some (.iadd) := by decide +kernel
theorem i157_240 : gm_I cX12_apply 240 = some (.istore 4) := by decide +kernel
theorem i157_242 : gm_I cX12_apply 242 = some (.aload_n 0) := by decide +kernel
theorem i157_243 : gm_I cX12_apply 243 = some (.getfield 58) := by decide +kernel
theorem i157_246 : gm_I cX12_apply 246 = some (.iload_n 3) := by decide +kernel
theorem i157_247 : gm_I cX12_apply 247 = some (.dup2) := by decide +kernel
theorem i157_248 : gm_I cX12_apply 248 = some (.iaload) := by decide +kernel
theorem i157_249 : gm_I cX12_apply 249 = some (.iconst 1) := by decide +kernel
theorem i157_250 : gm_I cX12_apply 250 = some (.iadd) := by decide +kernel
theorem i157_251 : gm_I cX12_apply 251 = some (.iastore) := by decide +kernel
theorem i157_252 : gm_I cX12_apply 252 = some (.aload_n 0) := by decide +kernel
theorem i157_253 : gm_I cX12_apply 253 = some (.getfield 23) := by decide +kernel
theorem i157_256 : gm_I cX12_apply 256 = some (.iload 4) := by decide +kernel
theorem i157_258 : gm_I cX12_apply 258 = some (.iaload) := by decide +kernel
theorem i157_259 : gm_I cX12_apply 259 = some (.ifCond .eq 20) := by decide +kernel
theorem i157_262 : gm_I cX12_apply 262 = some (.aload_n 0) := by decide +kernel
theorem i157_263 : gm_I cX12_apply 263 = some (.getfield 58) := by decide +kernel
theorem i157_266 : gm_I cX12_apply 266 = some (.iload_n 3) := by decide +kernel
theorem i157_267 : gm_I cX12_apply 267 = some (.iaload) := by decide +kernel
theorem i157_268 : gm_I cX12_apply 268 = some (.ifCond .ne 7) := by decide +kernel
theorem i157_271 : gm_I cX12_apply 271 = some (.iconst 1) := by decide +kernel
theorem i157_272 : gm_I cX12_apply 272 = some (.goto 25) := by decide +kernel
theorem i157_275 : gm_I cX12_apply 275 = some (.iconst 0) := by decide +kernel
theorem i157_276 : gm_I cX12_apply 276 = some (.goto 21) := by decide +kernel
theorem i157_279 : gm_I cX12_apply 279 = some (.aload_n 0) := by decide +kernel
theorem i157_280 : gm_I cX12_apply 280 = some (.getfield 58) := by decide +kernel
theorem i157_283 : gm_I cX12_apply 283 = some (.iload_n 3) := by decide +kernel
theorem i157_284 : gm_I cX12_apply 284 = some (.iaload) := by decide +kernel
theorem i157_285 : gm_I cX12_apply 285 = some (.aload_n 0) := by decide +kernel
theorem i157_286 : gm_I cX12_apply 286 = some (.getfield 190) := by decide +kernel
theorem i157_289 : gm_I cX12_apply 289 = some (.if_icmp .ge 7) := by decide +kernel
theorem i157_292 : gm_I cX12_apply 292 = some (.iconst 1) := by decide +kernel
theorem i157_293 : gm_I cX12_apply 293 = some (.goto 4) := by decide +kernel
theorem i157_296 : gm_I cX12_apply 296 = some (.iconst 0) := by decide +kernel
theorem i157_297 : gm_I cX12_apply 297 = some (.istore 5) := by decide +kernel
theorem i157_299 : gm_I cX12_apply 299 = some (.iload 5) := by decide +kernel
theorem i157_301 : gm_I cX12_apply 301 = some (.ifCond .ne 9) := by decide +kernel
theorem i157_304 : gm_I cX12_apply 304 = some (.iinc 3 (-1)) := by decide +kernel
theorem i157_307 : gm_I cX12_apply 307 = some (.goto 39) := by decide +kernel
theorem i157_310 : gm_I cX12_apply 310 = some (.aload_n 0) := by decide +kernel
theorem i157_311 : gm_I cX12_apply 311 = some (.getfield 23) := by decide +kernel
theorem i157_314 : gm_I cX12_apply 314 = some (.iload 4) := by decide +kernel
theorem i157_316 : gm_I cX12_apply 316 = some (.iaload) := by decide +kernel
theorem i157_317 : gm_I cX12_apply 317 = some (.ifCond .ne 19) := by decide +kernel
theorem i157_320 : gm_I cX12_apply 320 = some (.aload_n 0) := by decide +kernel
theorem i157_321 : gm_I cX12_apply 321 = some (.iload 4) := by decide +kernel
theorem i157_323 : gm_I cX12_apply 323 = some (.aload_n 0) := by decide +kernel
theorem i157_324 : gm_I cX12_apply 324 = some (.getfield 58) := by decide +kernel
theorem i157_327 : gm_I cX12_apply 327 = some (.iload_n 3) := by decide +kernel
theorem i157_328 : gm_I cX12_apply 328 = some (.iaload) := by decide +kernel
theorem i157_329 : gm_I cX12_apply 329 = some (.iload_n 3) := by decide +kernel
theorem i157_330 : gm_I cX12_apply 330 = some (.invokevirtual 247) := by decide +kernel
theorem i157_333 : gm_I cX12_apply 333 = some (.ifCond .eq 13) := by decide +kernel
theorem i157_336 : gm_I cX12_apply 336 = some (.iinc 3 1) := by decide +kernel
theorem i157_339 : gm_I cX12_apply 339 = some (.aload_n 0) := by decide +kernel
theorem i157_340 : gm_I cX12_apply 340 = some (.getfield 58) := by decide +kernel
theorem i157_343 : gm_I cX12_apply 343 = some (.iload_n 3) := by decide +kernel
theorem i157_344 : gm_I cX12_apply 344 = some (.iconst (-1)) := by decide +kernel
theorem i157_345 : gm_I cX12_apply 345 = some (.iastore) := by decide +kernel
theorem i157_346 : gm_I cX12_apply 346 = some (.goto (-272)) := by decide +kernel
theorem i157_349 : gm_I cX12_apply 349 = some (.return_) := by decide +kernel
theorem i158_0 : gm_I cX12_follow 0 = some (.iconst 0) := by decide +kernel
theorem i158_1 : gm_I cX12_follow 1 = some (.istore_n 1) := by decide +kernel
theorem i158_2 : gm_I cX12_follow 2 = some (.iconst 0) := by decide +kernel
theorem i158_3 : gm_I cX12_follow 3 = some (.istore_n 2) := by decide +kernel
theorem i158_4 : gm_I cX12_follow 4 = some (.iload_n 2) := by decide +kernel
theorem i158_5 : gm_I cX12_follow 5 = some (.aload_n 0) := by decide +kernel
theorem i158_6 : gm_I cX12_follow 6 = some (.getfield 148) := by decide +kernel
theorem i158_9 : gm_I cX12_follow 9 = some (.if_icmp .ge 46) := by decide +kernel
theorem i158_12 : gm_I cX12_follow 12 = some (.aload_n 0) := by decide +kernel
theorem i158_13 : gm_I cX12_follow 13 = some (.getfield 42) := by decide +kernel
theorem i158_16 : gm_I cX12_follow 16 = some (.aload_n 0) := by decide +kernel
theorem i158_17 : gm_I cX12_follow 17 = some (.getfield 26) := by decide +kernel
theorem i158_20 : gm_I cX12_follow 20 = some (.bipush 6) := by decide +kernel
theorem i158_22 : gm_I cX12_follow 22 = some (.iload_n 2) := by decide +kernel
theorem i158_23 : gm_I cX12_follow 23 = some (.imul) := by decide +kernel
theorem i158_24 : gm_I cX12_follow 24 = some (.iaload) := by decide +kernel
theorem i158_25 : gm_I cX12_follow 25 = some (.iaload) := by decide +kernel
theorem i158_26 : gm_I cX12_follow 26 = some (.iload_n 1) := by decide +kernel
theorem i158_27 : gm_I cX12_follow 27 = some (.if_icmp .le 20) := by decide +kernel
theorem i158_30 : gm_I cX12_follow 30 = some (.aload_n 0) := by decide +kernel
theorem i158_31 : gm_I cX12_follow 31 = some (.getfield 42) := by decide +kernel
theorem i158_34 : gm_I cX12_follow 34 = some (.aload_n 0) := by decide +kernel
theorem i158_35 : gm_I cX12_follow 35 = some (.getfield 26) := by decide +kernel
theorem i158_38 : gm_I cX12_follow 38 = some (.bipush 6) := by decide +kernel
theorem i158_40 : gm_I cX12_follow 40 = some (.iload_n 2) := by decide +kernel
theorem i158_41 : gm_I cX12_follow 41 = some (.imul) := by decide +kernel
theorem i158_42 : gm_I cX12_follow 42 = some (.iaload) := by decide +kernel
theorem i158_43 : gm_I cX12_follow 43 = some (.iaload) := by decide +kernel
theorem i158_44 : gm_I cX12_follow 44 = some (.goto 4) := by decide +kernel
theorem i158_47 : gm_I cX12_follow 47 = some (.iload_n 1) := by decide +kernel
theorem i158_48 : gm_I cX12_follow 48 = some (.istore_n 1) := by decide +kernel
theorem i158_49 : gm_I cX12_follow 49 = some (.iinc 2 1) := by decide +kernel
theorem i158_52 : gm_I cX12_follow 52 = some (.goto (-48)) := by decide +kernel
theorem i158_55 : gm_I cX12_follow 55 = some (.iconst 0) := by decide +kernel
theorem i158_56 : gm_I cX12_follow 56 = some (.istore_n 2) := by decide +kernel
theorem i158_57 : gm_I cX12_follow 57 = some (.iload_n 2) := by decide +kernel
theorem i158_58 : gm_I cX12_follow 58 = some (.iload_n 1) := by decide +kernel
theorem i158_59 : gm_I cX12_follow 59 = some (.if_icmp .gt 77) := by decide +kernel
theorem i158_62 : gm_I cX12_follow 62 = some (.iconst (-1)) := by decide +kernel
theorem i158_63 : gm_I cX12_follow 63 = some (.istore_n 3) := by decide +kernel
theorem i158_64 : gm_I cX12_follow 64 = some (.iload_n 3) := by decide +kernel
theorem i158_65 : gm_I cX12_follow 65 = some (.aload_n 0) := by decide +kernel
theorem i158_66 : gm_I cX12_follow 66 = some (.getfield 190) := by decide +kernel
theorem i158_69 : gm_I cX12_follow 69 = some (.if_icmp .eq 61) := by decide +kernel
theorem i158_72 : gm_I cX12_follow 72 = some (.aload_n 0) := by decide +kernel
theorem i158_73 : gm_I cX12_follow 73 = some (.getfield 193) := by decide +kernel
theorem i158_76 : gm_I cX12_follow 76 = some (.ifCond .ne 54) := by decide +kernel
theorem i158_79 : gm_I cX12_follow 79 = some (.aload_n 0) := by decide +kernel
theorem i158_80 : gm_I cX12_follow 80 = some (.getfield 190) := by decide +kernel
theorem i158_83 : gm_I cX12_follow 83 = some (.istore_n 3) := by decide +kernel
theorem i158_84 : gm_I cX12_follow 84 = some (.iconst 0) := by decide +kernel
theorem i158_85 : gm_I cX12_follow 85 = some (.istore 4) := by decide +kernel
theorem i158_87 : gm_I cX12_follow 87 = some (.iload 4) := by decide +kernel
theorem i158_89 : gm_I cX12_follow 89 = some (.aload_n 0) := by decide +kernel
theorem i158_90 : gm_I cX12_follow 90 = some (.getfield 148) := by decide +kernel
theorem i158_93 : gm_I cX12_follow 93 = some (.if_icmp .ge 34) := by decide +kernel
theorem i158_96 : gm_I cX12_follow 96 = some (.aload_n 0) := by decide +kernel
theorem i158_97 : gm_I cX12_follow 97 = some (.getfield 42) := by decide +kernel
theorem i158_100 : gm_I cX12_follow 100 = some (.aload_n 0) := by decide +kernel
theorem i158_101 : gm_I cX12_follow 101 = some (.getfield 26) := by decide +kernel
theorem i158_104 : gm_I cX12_follow 104 = some (.bipush 6) := by decide +kernel
theorem i158_106 : gm_I cX12_follow 106 = some (.iload 4) := by decide +kernel
theorem i158_108 : gm_I cX12_follow 108 = some (.imul) := by decide +kernel
theorem i158_109 : gm_I cX12_follow 109 = some (.iaload) := by decide +kernel
theorem i158_110 : gm_I cX12_follow 110 = some (.iaload) := by decide +kernel
theorem i158_111 : gm_I cX12_follow 111 = some (.iload_n 2) := by decide +kernel
theorem i158_112 : gm_I cX12_follow 112 = some (.if_icmp .ne 9) := by decide +kernel
theorem i158_115 : gm_I cX12_follow 115 = some (.aload_n 0) := by decide +kernel
theorem i158_116 : gm_I cX12_follow 116 = some (.iload 4) := by decide +kernel
theorem i158_118 : gm_I cX12_follow 118 = some (.invokevirtual 251) := by decide +kernel
theorem i158_121 : gm_I cX12_follow 121 = some (.iinc 4 1) := by decide +kernel
theorem i158_124 : gm_I cX12_follow 124 = some (.goto (-37)) := by decide +kernel
theorem i158_127 : gm_I cX12_follow 127 = some (.goto (-63)) := by decide +kernel
theorem i158_130 : gm_I cX12_follow 130 = some (.iinc 2 1) := by decide +kernel
theorem i158_133 : gm_I cX12_follow 133 = some (.goto (-76)) := by decide +kernel
theorem i158_136 : gm_I cX12_follow 136 = some (.iconst 0) := by decide +kernel
theorem i158_137 : gm_I cX12_follow 137 = some (.istore_n 2) := by decide +kernel
theorem i158_138 : gm_I cX12_follow 138 = some (.iload_n 2) := by decide +kernel
theorem i158_139 : gm_I cX12_follow 139 = some (.aload_n 0) := by decide +kernel
theorem i158_140 : gm_I cX12_follow 140 = some (.getfield 148) := by decide +kernel
theorem i158_143 : gm_I cX12_follow 143 = some (.if_icmp .ge 37) := by decide +kernel
theorem i158_146 : gm_I cX12_follow 146 = some (.aload_n 0) := by decide +kernel
theorem i158_147 : gm_I cX12_follow 147 = some (.aload_n 0) := by decide +kernel
theorem i158_148 : gm_I cX12_follow 148 = some (.getfield 193) := by decide +kernel
theorem i158_151 : gm_I cX12_follow 151 = some (.ifCond .ne 15) := by decide +kernel
theorem i158_154 : gm_I cX12_follow 154 = some (.aload_n 0) := by decide +kernel
theorem i158_155 : gm_I cX12_follow 155 = some (.iload_n 2) := by decide +kernel
theorem i158_156 : gm_I cX12_follow 156 = some (.invokevirtual 235) := by decide +kernel
theorem i158_159 : gm_I cX12_follow 159 = some (.ldc2_w 238) := by decide +kernel
theorem i158_162 : gm_I cX12_follow 162 = some (.lcmp) := by decide +kernel
theorem i158_163 : gm_I cX12_follow 163 = some (.ifCond .le 7) := by decide +kernel
theorem i158_166 : gm_I cX12_follow 166 = some (.iconst 1) := by decide +kernel
theorem i158_167 : gm_I cX12_follow 167 = some (.goto 4) := by decide +kernel
theorem i158_170 : gm_I cX12_follow 170 = some (.iconst 0) := by decide +kernel
theorem i158_171 : gm_I cX12_follow 171 = some (.putfield 193) := by decide +kernel
theorem i158_174 : gm_I cX12_follow 174 = some (.iinc 2 1) := by decide +kernel
theorem i158_177 : gm_I cX12_follow 177 = some (.goto (-39)) := by decide +kernel
theorem i158_180 : gm_I cX12_follow 180 = some (.return_) := by decide +kernel
theorem i159_0 : gm_I cX12_nothing 0 = some (.aload_n 0) := by decide +kernel
theorem i159_1 : gm_I cX12_nothing 1 = some (.iconst 0) := by decide +kernel
theorem i159_2 : gm_I cX12_nothing 2 = some (.putfield 190) := by decide +kernel
theorem i159_5 : gm_I cX12_nothing 5 = some (.aload_n 0) := by decide +kernel
theorem i159_6 : gm_I cX12_nothing 6 = some (.iconst 0) := by decide +kernel
theorem i159_7 : gm_I cX12_nothing 7 = some (.putfield 193) := by decide +kernel
theorem i159_10 : gm_I cX12_nothing 10 = some (.aload_n 0) := by decide +kernel
theorem i159_11 : gm_I cX12_nothing 11 = some (.iconst 0) := by decide +kernel
theorem i159_12 : gm_I cX12_nothing 12 = some (.putfield 254) := by decide +kernel
theorem i159_15 : gm_I cX12_nothing 15 = some (.return_) := by decide +kernel
theorem i160_0 : gm_I cX12_inState 0 = some (.aload_n 0) := by decide +kernel
theorem i160_1 : gm_I cX12_inState 1 = some (.invokevirtual 257) := by decide +kernel
theorem i160_4 : gm_I cX12_inState 4 = some (.iconst 0) := by decide +kernel
theorem i160_5 : gm_I cX12_inState 5 = some (.istore 4) := by decide +kernel
theorem i160_7 : gm_I cX12_inState 7 = some (.iload 4) := by decide +kernel
theorem i160_9 : gm_I cX12_inState 9 = some (.iload_n 3) := by decide +kernel
theorem i160_10 : gm_I cX12_inState 10 = some (.if_icmp .ge 24) := by decide +kernel
theorem i160_13 : gm_I cX12_inState 13 = some (.aload_n 0) := by decide +kernel
theorem i160_14 : gm_I cX12_inState 14 = some (.sipush 337) := by decide +kernel
theorem i160_17 : gm_I cX12_inState 17 = some (.aload_n 1) := by decide +kernel
theorem i160_18 : gm_I cX12_inState 18 = some (.iload_n 2) := by decide +kernel
theorem i160_19 : gm_I cX12_inState 19 = some (.iload 4) := by decide +kernel
theorem i160_21 : gm_I cX12_inState 21 = some (.iadd) := by decide +kernel
theorem i160_22 : gm_I cX12_inState 22 = some (.laload) := by decide +kernel
theorem i160_23 : gm_I cX12_inState 23 = some (.lconst 0) := by decide +kernel
theorem i160_24 : gm_I cX12_inState 24 = some (.lconst 0) := by decide +kernel
theorem i160_25 : gm_I cX12_inState 25 = some (.invokevirtual 243) := by decide +kernel
theorem i160_28 : gm_I cX12_inState 28 = some (.iinc 4 1) := by decide +kernel
theorem i160_31 : gm_I cX12_inState 31 = some (.goto (-24)) := by decide +kernel
theorem i160_34 : gm_I cX12_inState 34 = some (.aload_n 0) := by decide +kernel
theorem i160_35 : gm_I cX12_inState 35 = some (.invokevirtual 260) := by decide +kernel
theorem i160_38 : gm_I cX12_inState 38 = some (.return_) := by decide +kernel
theorem i161_0 : gm_I cX12_look 0 = some (.aload_n 0) := by decide +kernel
theorem i161_1 : gm_I cX12_look 1 = some (.getfield 254) := by decide +kernel
theorem i161_4 : gm_I cX12_look 4 = some (.ifCond .ne 16) := by decide +kernel
theorem i161_7 : gm_I cX12_look 7 = some (.aload_n 0) := by decide +kernel
theorem i161_8 : gm_I cX12_look 8 = some (.aload_n 0) := by decide +kernel
theorem i161_9 : gm_I cX12_look 9 = some (.getfield 61) := by decide +kernel
theorem i161_12 : gm_I cX12_look 12 = some (.iconst 0) := by decide +kernel
theorem i161_13 : gm_I cX12_look 13 = some (.aload_n 0) := by decide +kernel
theorem i161_14 : gm_I cX12_look 14 = some (.getfield 263) := by decide +kernel
theorem i161_17 : gm_I cX12_look 17 = some (.invokevirtual 266) := by decide +kernel
theorem i161_20 : gm_I cX12_look 20 = some (.aload_n 0) := by decide +kernel
theorem i161_21 : gm_I cX12_look 21 = some (.iconst 1) := by decide +kernel
theorem i161_22 : gm_I cX12_look 22 = some (.putfield 254) := by decide +kernel
theorem i161_25 : gm_I cX12_look 25 = some (.return_) := by decide +kernel
