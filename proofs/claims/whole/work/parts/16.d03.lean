/-! the code by its places, by program -/
theorem i40_120 : gm_I cX3_take 120 = some (.aload_n 0) := by decide +kernel
theorem i40_121 : gm_I cX3_take 121 = some (.getfield 12) := by decide +kernel
theorem i40_124 : gm_I cX3_take 124 = some (.aload_n 0) := by decide +kernel
theorem i40_125 : gm_I cX3_take 125 = some (.getfield 44) := by decide +kernel
theorem i40_128 : gm_I cX3_take 128 = some (.invokevirtual 51) := by decide +kernel
theorem i40_131 : gm_I cX3_take 131 = some (.pop) := by decide +kernel
theorem i40_132 : gm_I cX3_take 132 = some (.aload_n 0) := by decide +kernel
theorem i40_133 : gm_I cX3_take 133 = some (.aload_n 0) := by decide +kernel
theorem i40_134 : gm_I cX3_take 134 = some (.getfield 30) := by decide +kernel
theorem i40_137 : gm_I cX3_take 137 = some (.invokevirtual 74) := by decide +kernel
theorem i40_140 : gm_I cX3_take 140 = some (.pop) := by decide +kernel
theorem i40_141 : gm_I cX3_take 141 = some (.iconst 0) := by decide +kernel
theorem i40_142 : gm_I cX3_take 142 = some (.ireturn) := by decide +kernel
theorem i41_0 : gm_I cX3_look 0 = some (.aload_n 0) := by decide +kernel
theorem i41_1 : gm_I cX3_look 1 = some (.getfield 12) := by decide +kernel
theorem i41_4 : gm_I cX3_look 4 = some (.aload_n 1) := by decide +kernel
theorem i41_5 : gm_I cX3_look 5 = some (.invokevirtual 55) := by decide +kernel
theorem i41_8 : gm_I cX3_look 8 = some (.ifCond .ne 5) := by decide +kernel
theorem i41_11 : gm_I cX3_look 11 = some (.iconst 0) := by decide +kernel
theorem i41_12 : gm_I cX3_look 12 = some (.ireturn) := by decide +kernel
theorem i41_13 : gm_I cX3_look 13 = some (.aload_n 0) := by decide +kernel
theorem i41_14 : gm_I cX3_look 14 = some (.invokevirtual 71) := by decide +kernel
theorem i41_17 : gm_I cX3_look 17 = some (.iconst 1) := by decide +kernel
theorem i41_18 : gm_I cX3_look 18 = some (.ireturn) := by decide +kernel
theorem i42_0 : gm_I cX3_seeMoves 0 = some (.aload_n 0) := by decide +kernel
theorem i42_1 : gm_I cX3_seeMoves 1 = some (.aload_n 0) := by decide +kernel
theorem i42_2 : gm_I cX3_seeMoves 2 = some (.getfield 12) := by decide +kernel
theorem i42_5 : gm_I cX3_seeMoves 5 = some (.getfield 59) := by decide +kernel
theorem i42_8 : gm_I cX3_seeMoves 8 = some (.getfield 77) := by decide +kernel
theorem i42_11 : gm_I cX3_seeMoves 11 = some (.bipush 7) := by decide +kernel
theorem i42_13 : gm_I cX3_seeMoves 13 = some (.iaload) := by decide +kernel
theorem i42_14 : gm_I cX3_seeMoves 14 = some (.ifCond .le 7) := by decide +kernel
theorem i42_17 : gm_I cX3_seeMoves 17 = some (.iconst 1) := by decide +kernel
theorem i42_18 : gm_I cX3_seeMoves 18 = some (.goto 4) := by decide +kernel
theorem i42_21 : gm_I cX3_seeMoves 21 = some (.iconst 0) := by decide +kernel
theorem i42_22 : gm_I cX3_seeMoves 22 = some (.putfield 81) := by decide +kernel
theorem i42_25 : gm_I cX3_seeMoves 25 = some (.aload_n 0) := by decide +kernel
theorem i42_26 : gm_I cX3_seeMoves 26 = some (.getfield 38) := by decide +kernel
theorem i42_29 : gm_I cX3_seeMoves 29 = some (.aload_n 0) := by decide +kernel
theorem i42_30 : gm_I cX3_seeMoves 30 = some (.getfield 12) := by decide +kernel
theorem i42_33 : gm_I cX3_seeMoves 33 = some (.getfield 59) := by decide +kernel
theorem i42_36 : gm_I cX3_seeMoves 36 = some (.aload_n 0) := by decide +kernel
theorem i42_37 : gm_I cX3_seeMoves 37 = some (.getfield 23) := by decide +kernel
theorem i42_40 : gm_I cX3_seeMoves 40 = some (.iconst 0) := by decide +kernel
theorem i42_41 : gm_I cX3_seeMoves 41 = some (.invokevirtual 85) := by decide +kernel
theorem i42_44 : gm_I cX3_seeMoves 44 = some (.invokevirtual 89) := by decide +kernel
theorem i42_47 : gm_I cX3_seeMoves 47 = some (.aload_n 0) := by decide +kernel
theorem i42_48 : gm_I cX3_seeMoves 48 = some (.getfield 41) := by decide +kernel
theorem i42_51 : gm_I cX3_seeMoves 51 = some (.aload_n 0) := by decide +kernel
theorem i42_52 : gm_I cX3_seeMoves 52 = some (.getfield 12) := by decide +kernel
theorem i42_55 : gm_I cX3_seeMoves 55 = some (.getfield 59) := by decide +kernel
theorem i42_58 : gm_I cX3_seeMoves 58 = some (.aload_n 0) := by decide +kernel
theorem i42_59 : gm_I cX3_seeMoves 59 = some (.getfield 23) := by decide +kernel
theorem i42_62 : gm_I cX3_seeMoves 62 = some (.iconst 1) := by decide +kernel
theorem i42_63 : gm_I cX3_seeMoves 63 = some (.invokevirtual 85) := by decide +kernel
theorem i42_66 : gm_I cX3_seeMoves 66 = some (.invokevirtual 89) := by decide +kernel
theorem i42_69 : gm_I cX3_seeMoves 69 = some (.return_) := by decide +kernel
theorem i43_0 : gm_I cX3_goBack 0 = some (.aload_n 0) := by decide +kernel
theorem i43_1 : gm_I cX3_goBack 1 = some (.getfield 30) := by decide +kernel
theorem i43_4 : gm_I cX3_goBack 4 = some (.aload_n 0) := by decide +kernel
theorem i43_5 : gm_I cX3_goBack 5 = some (.getfield 27) := by decide +kernel
theorem i43_8 : gm_I cX3_goBack 8 = some (.invokevirtual 67) := by decide +kernel
theorem i43_11 : gm_I cX3_goBack 11 = some (.aload_n 0) := by decide +kernel
theorem i43_12 : gm_I cX3_goBack 12 = some (.aload_n 0) := by decide +kernel
theorem i43_13 : gm_I cX3_goBack 13 = some (.getfield 30) := by decide +kernel
theorem i43_16 : gm_I cX3_goBack 16 = some (.invokevirtual 74) := by decide +kernel
theorem i43_19 : gm_I cX3_goBack 19 = some (.pop) := by decide +kernel
theorem i43_20 : gm_I cX3_goBack 20 = some (.return_) := by decide +kernel
theorem i44_0 : gm_I cX3_lead 0 = some (.aload_n 0) := by decide +kernel
theorem i44_1 : gm_I cX3_lead 1 = some (.getfield 12) := by decide +kernel
theorem i44_4 : gm_I cX3_lead 4 = some (.aload_n 0) := by decide +kernel
theorem i44_5 : gm_I cX3_lead 5 = some (.getfield 23) := by decide +kernel
theorem i44_8 : gm_I cX3_lead 8 = some (.iconst 0) := by decide +kernel
theorem i44_9 : gm_I cX3_lead 9 = some (.invokevirtual 85) := by decide +kernel
theorem i44_12 : gm_I cX3_lead 12 = some (.aload_n 0) := by decide +kernel
theorem i44_13 : gm_I cX3_lead 13 = some (.getfield 38) := by decide +kernel
theorem i44_16 : gm_I cX3_lead 16 = some (.iload_n 1) := by decide +kernel
theorem i44_17 : gm_I cX3_lead 17 = some (.invokevirtual 85) := by decide +kernel
theorem i44_20 : gm_I cX3_lead 20 = some (.aload_n 0) := by decide +kernel
theorem i44_21 : gm_I cX3_lead 21 = some (.getfield 23) := by decide +kernel
theorem i44_24 : gm_I cX3_lead 24 = some (.iconst 1) := by decide +kernel
theorem i44_25 : gm_I cX3_lead 25 = some (.invokevirtual 85) := by decide +kernel
theorem i44_28 : gm_I cX3_lead 28 = some (.aload_n 0) := by decide +kernel
theorem i44_29 : gm_I cX3_lead 29 = some (.getfield 41) := by decide +kernel
theorem i44_32 : gm_I cX3_lead 32 = some (.iload_n 2) := by decide +kernel
theorem i44_33 : gm_I cX3_lead 33 = some (.invokevirtual 85) := by decide +kernel
theorem i44_36 : gm_I cX3_lead 36 = some (.invokevirtual 93) := by decide +kernel
theorem i44_39 : gm_I cX3_lead 39 = some (.ifCond .eq 25) := by decide +kernel
theorem i44_42 : gm_I cX3_lead 42 = some (.aload_n 0) := by decide +kernel
theorem i44_43 : gm_I cX3_lead 43 = some (.getfield 33) := by decide +kernel
theorem i44_46 : gm_I cX3_lead 46 = some (.aload_n 0) := by decide +kernel
theorem i44_47 : gm_I cX3_lead 47 = some (.getfield 12) := by decide +kernel
theorem i44_50 : gm_I cX3_lead 50 = some (.getfield 59) := by decide +kernel
theorem i44_53 : gm_I cX3_lead 53 = some (.iconst 3) := by decide +kernel
theorem i44_54 : gm_I cX3_lead 54 = some (.invokevirtual 63) := by decide +kernel
theorem i44_57 : gm_I cX3_lead 57 = some (.ifCond .eq 7) := by decide +kernel
theorem i44_60 : gm_I cX3_lead 60 = some (.iconst 1) := by decide +kernel
theorem i44_61 : gm_I cX3_lead 61 = some (.goto 4) := by decide +kernel
theorem i44_64 : gm_I cX3_lead 64 = some (.iconst 0) := by decide +kernel
theorem i44_65 : gm_I cX3_lead 65 = some (.ireturn) := by decide +kernel
theorem i45_0 : gm_I cX3_advance 0 = some (.aload_n 0) := by decide +kernel
theorem i45_1 : gm_I cX3_advance 1 = some (.iload_n 1) := by decide +kernel
theorem i45_2 : gm_I cX3_advance 2 = some (.iload_n 2) := by decide +kernel
theorem i45_3 : gm_I cX3_advance 3 = some (.invokevirtual 97) := by decide +kernel
theorem i45_6 : gm_I cX3_advance 6 = some (.ifCond .eq 27) := by decide +kernel
theorem i45_9 : gm_I cX3_advance 9 = some (.aload_n 0) := by decide +kernel
theorem i45_10 : gm_I cX3_advance 10 = some (.aload_n 0) := by decide +kernel
theorem i45_11 : gm_I cX3_advance 11 = some (.getfield 33) := by decide +kernel
theorem i45_14 : gm_I cX3_advance 14 = some (.invokevirtual 74) := by decide +kernel
theorem i45_17 : gm_I cX3_advance 17 = some (.ifCond .eq 16) := by decide +kernel
theorem i45_20 : gm_I cX3_advance 20 = some (.aload_n 0) := by decide +kernel
theorem i45_21 : gm_I cX3_advance 21 = some (.getfield 30) := by decide +kernel
theorem i45_24 : gm_I cX3_advance 24 = some (.aload_n 0) := by decide +kernel
theorem i45_25 : gm_I cX3_advance 25 = some (.getfield 33) := by decide +kernel
theorem i45_28 : gm_I cX3_advance 28 = some (.invokevirtual 67) := by decide +kernel
theorem i45_31 : gm_I cX3_advance 31 = some (.iconst 1) := by decide +kernel
theorem i45_32 : gm_I cX3_advance 32 = some (.ireturn) := by decide +kernel
theorem i45_33 : gm_I cX3_advance 33 = some (.aload_n 0) := by decide +kernel
theorem i45_34 : gm_I cX3_advance 34 = some (.aload_n 0) := by decide +kernel
theorem i45_35 : gm_I cX3_advance 35 = some (.getfield 30) := by decide +kernel
theorem i45_38 : gm_I cX3_advance 38 = some (.invokevirtual 74) := by decide +kernel
theorem i45_41 : gm_I cX3_advance 41 = some (.pop) := by decide +kernel
theorem i45_42 : gm_I cX3_advance 42 = some (.iconst 0) := by decide +kernel
theorem i45_43 : gm_I cX3_advance 43 = some (.ireturn) := by decide +kernel
theorem i46_0 : gm_I cX3_hasPlayer 0 = some (.iload_n 1) := by decide +kernel
theorem i46_1 : gm_I cX3_hasPlayer 1 = some (.ifCond .lt 22) := by decide +kernel
theorem i46_4 : gm_I cX3_hasPlayer 4 = some (.iload_n 1) := by decide +kernel
theorem i46_5 : gm_I cX3_hasPlayer 5 = some (.iconst 2) := by decide +kernel
theorem i46_6 : gm_I cX3_hasPlayer 6 = some (.aload_n 0) := by decide +kernel
theorem i46_7 : gm_I cX3_hasPlayer 7 = some (.getfield 23) := by decide +kernel
theorem i46_10 : gm_I cX3_hasPlayer 10 = some (.getfield 101) := by decide +kernel
theorem i46_13 : gm_I cX3_hasPlayer 13 = some (.invokestatic 105) := by decide +kernel
theorem i46_16 : gm_I cX3_hasPlayer 16 = some (.if_icmp .ge 7) := by decide +kernel
theorem i46_19 : gm_I cX3_hasPlayer 19 = some (.iconst 1) := by decide +kernel
theorem i46_20 : gm_I cX3_hasPlayer 20 = some (.goto 4) := by decide +kernel
theorem i46_23 : gm_I cX3_hasPlayer 23 = some (.iconst 0) := by decide +kernel
theorem i46_24 : gm_I cX3_hasPlayer 24 = some (.ireturn) := by decide +kernel
theorem i47_0 : gm_I cX3_movesOf 0 = some (.iload_n 1) := by decide +kernel
theorem i47_1 : gm_I cX3_movesOf 1 = some (.ifCond .ne 10) := by decide +kernel
theorem i47_4 : gm_I cX3_movesOf 4 = some (.aload_n 0) := by decide +kernel
theorem i47_5 : gm_I cX3_movesOf 5 = some (.getfield 38) := by decide +kernel
theorem i47_8 : gm_I cX3_movesOf 8 = some (.goto 7) := by decide +kernel
theorem i47_11 : gm_I cX3_movesOf 11 = some (.aload_n 0) := by decide +kernel
theorem i47_12 : gm_I cX3_movesOf 12 = some (.getfield 41) := by decide +kernel
theorem i47_15 : gm_I cX3_movesOf 15 = some (.areturn) := by decide +kernel
theorem i48_0 : gm_I cX3_goalOf 0 = some (.aload_n 0) := by decide +kernel
theorem i48_1 : gm_I cX3_goalOf 1 = some (.getfield 12) := by decide +kernel
theorem i48_4 : gm_I cX3_goalOf 4 = some (.getfield 59) := by decide +kernel
theorem i48_7 : gm_I cX3_goalOf 7 = some (.astore_n 2) := by decide +kernel
theorem i48_8 : gm_I cX3_goalOf 8 = some (.iconst 0) := by decide +kernel
theorem i48_9 : gm_I cX3_goalOf 9 = some (.istore_n 3) := by decide +kernel
theorem i48_10 : gm_I cX3_goalOf 10 = some (.aload_n 2) := by decide +kernel
theorem i48_11 : gm_I cX3_goalOf 11 = some (.getfield 111) := by decide +kernel
theorem i48_14 : gm_I cX3_goalOf 14 = some (.bipush 6) := by decide +kernel
theorem i48_16 : gm_I cX3_goalOf 16 = some (.iaload) := by decide +kernel
theorem i48_17 : gm_I cX3_goalOf 17 = some (.istore 4) := by decide +kernel
theorem i48_19 : gm_I cX3_goalOf 19 = some (.iload 4) := by decide +kernel
theorem i48_21 : gm_I cX3_goalOf 21 = some (.ifCond .le 47) := by decide +kernel
theorem i48_24 : gm_I cX3_goalOf 24 = some (.aload_n 2) := by decide +kernel
theorem i48_25 : gm_I cX3_goalOf 25 = some (.getfield 114) := by decide +kernel
theorem i48_28 : gm_I cX3_goalOf 28 = some (.iload 4) := by decide +kernel
theorem i48_30 : gm_I cX3_goalOf 30 = some (.iaload) := by decide +kernel
theorem i48_31 : gm_I cX3_goalOf 31 = some (.aload_n 0) := by decide +kernel
theorem i48_32 : gm_I cX3_goalOf 32 = some (.getfield 23) := by decide +kernel
theorem i48_35 : gm_I cX3_goalOf 35 = some (.iload_n 1) := by decide +kernel
theorem i48_36 : gm_I cX3_goalOf 36 = some (.invokevirtual 85) := by decide +kernel
theorem i48_39 : gm_I cX3_goalOf 39 = some (.if_icmp .ne 17) := by decide +kernel
theorem i48_42 : gm_I cX3_goalOf 42 = some (.iload_n 3) := by decide +kernel
theorem i48_43 : gm_I cX3_goalOf 43 = some (.ifCond .eq 5) := by decide +kernel
theorem i48_46 : gm_I cX3_goalOf 46 = some (.iconst (-1)) := by decide +kernel
theorem i48_47 : gm_I cX3_goalOf 47 = some (.ireturn) := by decide +kernel
theorem i48_48 : gm_I cX3_goalOf 48 = some (.aload_n 2) := by decide +kernel
theorem i48_49 : gm_I cX3_goalOf 49 = some (.getfield 117) := by decide +kernel
theorem i48_52 : gm_I cX3_goalOf 52 = some (.iload 4) := by decide +kernel
theorem i48_54 : gm_I cX3_goalOf 54 = some (.iaload) := by decide +kernel
theorem i48_55 : gm_I cX3_goalOf 55 = some (.istore_n 3) := by decide +kernel
theorem i48_56 : gm_I cX3_goalOf 56 = some (.aload_n 2) := by decide +kernel
theorem i48_57 : gm_I cX3_goalOf 57 = some (.getfield 120) := by decide +kernel
theorem i48_60 : gm_I cX3_goalOf 60 = some (.iload 4) := by decide +kernel
theorem i48_62 : gm_I cX3_goalOf 62 = some (.iaload) := by decide +kernel
theorem i48_63 : gm_I cX3_goalOf 63 = some (.istore 4) := by decide +kernel
theorem i48_65 : gm_I cX3_goalOf 65 = some (.goto (-46)) := by decide +kernel
theorem i48_68 : gm_I cX3_goalOf 68 = some (.iload_n 3) := by decide +kernel
theorem i48_69 : gm_I cX3_goalOf 69 = some (.bipush 21) := by decide +kernel
theorem i48_71 : gm_I cX3_goalOf 71 = some (.iushr) := by decide +kernel
theorem i48_72 : gm_I cX3_goalOf 72 = some (.bipush 48) := by decide +kernel
theorem i48_74 : gm_I cX3_goalOf 74 = some (.isub) := by decide +kernel
theorem i48_75 : gm_I cX3_goalOf 75 = some (.istore 4) := by decide +kernel
theorem i48_77 : gm_I cX3_goalOf 77 = some (.iload_n 3) := by decide +kernel
theorem i48_78 : gm_I cX3_goalOf 78 = some (.ldc 125) := by decide +kernel
theorem i48_80 : gm_I cX3_goalOf 80 = some (.iand) := by decide +kernel
theorem i48_81 : gm_I cX3_goalOf 81 = some (.ifCond .ne 20) := by decide +kernel
theorem i48_84 : gm_I cX3_goalOf 84 = some (.iload 4) := by decide +kernel
theorem i48_86 : gm_I cX3_goalOf 86 = some (.ifCond .lt 15) := by decide +kernel
theorem i48_89 : gm_I cX3_goalOf 89 = some (.iload 4) := by decide +kernel
theorem i48_91 : gm_I cX3_goalOf 91 = some (.bipush 8) := by decide +kernel
theorem i48_93 : gm_I cX3_goalOf 93 = some (.if_icmp .gt 8) := by decide +kernel
theorem i48_96 : gm_I cX3_goalOf 96 = some (.iload 4) := by decide +kernel
theorem i48_98 : gm_I cX3_goalOf 98 = some (.goto 4) := by decide +kernel
theorem i48_101 : gm_I cX3_goalOf 101 = some (.iconst (-1)) := by decide +kernel
theorem i48_102 : gm_I cX3_goalOf 102 = some (.ireturn) := by decide +kernel
theorem i49_0 : gm_I cX4_init 0 = some (.aload_n 0) := by decide +kernel
theorem i49_1 : gm_I cX4_init 1 = some (.invokespecial 3) := by decide +kernel
theorem i49_4 : gm_I cX4_init 4 = some (.aload_n 0) := by decide +kernel
theorem i49_5 : gm_I cX4_init 5 = some (.bipush 24) := by decide +kernel
theorem i49_7 : gm_I cX4_init 7 = some (.anewarray 9) := by decide +kernel
theorem i49_10 : gm_I cX4_init 10 = some (.putfield 11) := by decide +kernel
theorem i49_13 : gm_I cX4_init 13 = some (.aload_n 0) := by decide +kernel
theorem i49_14 : gm_I cX4_init 14 = some (.bipush 25) := by decide +kernel
theorem i49_16 : gm_I cX4_init 16 = some (.newarray .int) := by decide +kernel
theorem i49_18 : gm_I cX4_init 18 = some (.putfield 17) := by decide +kernel
theorem i49_21 : gm_I cX4_init 21 = some (.aload_n 0) := by decide +kernel
theorem i49_22 : gm_I cX4_init 22 = some (.iconst 3) := by decide +kernel
theorem i49_23 : gm_I cX4_init 23 = some (.newarray .int) := by decide +kernel
theorem i49_25 : gm_I cX4_init 25 = some (.putfield 21) := by decide +kernel
theorem i49_28 : gm_I cX4_init 28 = some (.bipush 24) := by decide +kernel
theorem i49_30 : gm_I cX4_init 30 = some (.newarray .long) := by decide +kernel
theorem i49_32 : gm_I cX4_init 32 = some (.astore_n 2) := by decide +kernel
theorem i49_33 : gm_I cX4_init 33 = some (.bipush 24) := by decide +kernel
theorem i49_35 : gm_I cX4_init 35 = some (.newarray .int) := by decide +kernel
theorem i49_37 : gm_I cX4_init 37 = some (.astore_n 3) := by decide +kernel
theorem i49_38 : gm_I cX4_init 38 = some (.aload_n 1) := by decide +kernel
theorem i49_39 : gm_I cX4_init 39 = some (.aload_n 2) := by decide +kernel
theorem i49_40 : gm_I cX4_init 40 = some (.aload_n 3) := by decide +kernel
theorem i49_41 : gm_I cX4_init 41 = some (.invokestatic 24) := by decide +kernel
theorem i49_44 : gm_I cX4_init 44 = some (.iconst 0) := by decide +kernel
theorem i49_45 : gm_I cX4_init 45 = some (.istore 4) := by decide +kernel
theorem i49_47 : gm_I cX4_init 47 = some (.iconst 0) := by decide +kernel
theorem i49_48 : gm_I cX4_init 48 = some (.istore 5) := by decide +kernel
theorem i49_50 : gm_I cX4_init 50 = some (.iload 5) := by decide +kernel
theorem i49_52 : gm_I cX4_init 52 = some (.aload_n 1) := by decide +kernel
theorem i49_53 : gm_I cX4_init 53 = some (.getfield 28) := by decide +kernel
theorem i49_56 : gm_I cX4_init 56 = some (.if_icmp .ge 123) := by decide +kernel
theorem i49_59 : gm_I cX4_init 59 = some (.aload_n 3) := by decide +kernel
theorem i49_60 : gm_I cX4_init 60 = some (.iload 5) := by decide +kernel
theorem i49_62 : gm_I cX4_init 62 = some (.iaload) := by decide +kernel
theorem i49_63 : gm_I cX4_init 63 = some (.istore 6) := by decide +kernel
theorem i49_65 : gm_I cX4_init 65 = some (.aload_n 0) := by decide +kernel
theorem i49_66 : gm_I cX4_init 66 = some (.getfield 11) := by decide +kernel
theorem i49_69 : gm_I cX4_init 69 = some (.iload 5) := by decide +kernel
theorem i49_71 : gm_I cX4_init 71 = some (.aload_n 1) := by decide +kernel
theorem i49_72 : gm_I cX4_init 72 = some (.getfield 34) := by decide +kernel
theorem i49_75 : gm_I cX4_init 75 = some (.iload 6) := by decide +kernel
theorem i49_77 : gm_I cX4_init 77 = some (.aaload) := by decide +kernel
theorem i49_78 : gm_I cX4_init 78 = some (.aastore) := by decide +kernel
theorem i49_79 : gm_I cX4_init 79 = some (.aload_n 0) := by decide +kernel
theorem i49_80 : gm_I cX4_init 80 = some (.getfield 11) := by decide +kernel
theorem i49_83 : gm_I cX4_init 83 = some (.iload 5) := by decide +kernel
theorem i49_85 : gm_I cX4_init 85 = some (.aaload) := by decide +kernel
theorem i49_86 : gm_I cX4_init 86 = some (.invokevirtual 37) := by decide +kernel
theorem i49_89 : gm_I cX4_init 89 = some (.iload 5) := by decide +kernel
theorem i49_91 : gm_I cX4_init 91 = some (.ifCond .eq 17) := by decide +kernel
theorem i49_94 : gm_I cX4_init 94 = some (.aload_n 2) := by decide +kernel
theorem i49_95 : gm_I cX4_init 95 = some (.iload 5) := by decide +kernel
theorem i49_97 : gm_I cX4_init 97 = some (.laload) := by decide +kernel
theorem i49_98 : gm_I cX4_init 98 = some (.aload_n 2) := by decide +kernel
theorem i49_99 : gm_I cX4_init 99 = some (.iload 5) := by decide +kernel
theorem i49_101 : gm_I cX4_init 101 = some (.iconst 1) := by decide +kernel
theorem i49_102 : gm_I cX4_init 102 = some (.isub) := by decide +kernel
theorem i49_103 : gm_I cX4_init 103 = some (.laload) := by decide +kernel
theorem i49_104 : gm_I cX4_init 104 = some (.lcmp) := by decide +kernel
theorem i49_105 : gm_I cX4_init 105 = some (.ifCond .eq 39) := by decide +kernel
theorem i49_108 : gm_I cX4_init 108 = some (.aload_n 0) := by decide +kernel
theorem i49_109 : gm_I cX4_init 109 = some (.getfield 17) := by decide +kernel
theorem i49_112 : gm_I cX4_init 112 = some (.iload 4) := by decide +kernel
theorem i49_114 : gm_I cX4_init 114 = some (.iload 5) := by decide +kernel
theorem i49_116 : gm_I cX4_init 116 = some (.iastore) := by decide +kernel
theorem i49_117 : gm_I cX4_init 117 = some (.aload_n 0) := by decide +kernel
theorem i49_118 : gm_I cX4_init 118 = some (.dup) := by decide +kernel
theorem i49_119 : gm_I cX4_init 119 = some (.getfield 40) := by decide +kernel
theorem i49_122 : gm_I cX4_init 122 = some (.aload_n 1) := by decide +kernel
theorem i49_123 : gm_I cX4_init 123 = some (.getfield 43) := by decide +kernel
theorem i49_126 : gm_I cX4_init 126 = some (.iload 6) := by decide +kernel
theorem i49_128 : gm_I cX4_init 128 = some (.iaload) := by decide +kernel
theorem i49_129 : gm_I cX4_init 129 = some (.iload 6) := by decide +kernel
theorem i49_131 : gm_I cX4_init 131 = some (.iushr) := by decide +kernel
theorem i49_132 : gm_I cX4_init 132 = some (.iconst 1) := by decide +kernel
theorem i49_133 : gm_I cX4_init 133 = some (.iand) := by decide +kernel
theorem i49_134 : gm_I cX4_init 134 = some (.iload 4) := by decide +kernel
theorem i49_136 : gm_I cX4_init 136 = some (.ishl) := by decide +kernel
theorem i49_137 : gm_I cX4_init 137 = some (.ior) := by decide +kernel
theorem i49_138 : gm_I cX4_init 138 = some (.putfield 40) := by decide +kernel
theorem i49_141 : gm_I cX4_init 141 = some (.iinc 4 1) := by decide +kernel
theorem i49_144 : gm_I cX4_init 144 = some (.aload_n 1) := by decide +kernel
theorem i49_145 : gm_I cX4_init 145 = some (.iload 6) := by decide +kernel
theorem i49_147 : gm_I cX4_init 147 = some (.invokestatic 46) := by decide +kernel
theorem i49_150 : gm_I cX4_init 150 = some (.istore 7) := by decide +kernel
theorem i49_152 : gm_I cX4_init 152 = some (.iload 7) := by decide +kernel
theorem i49_154 : gm_I cX4_init 154 = some (.iconst 3) := by decide +kernel
theorem i49_155 : gm_I cX4_init 155 = some (.if_icmp .ge 18) := by decide +kernel
theorem i49_158 : gm_I cX4_init 158 = some (.aload_n 0) := by decide +kernel
theorem i49_159 : gm_I cX4_init 159 = some (.getfield 21) := by decide +kernel
theorem i49_162 : gm_I cX4_init 162 = some (.iload 7) := by decide +kernel
theorem i49_164 : gm_I cX4_init 164 = some (.iload 4) := by decide +kernel
theorem i49_166 : gm_I cX4_init 166 = some (.iastore) := by decide +kernel
theorem i49_167 : gm_I cX4_init 167 = some (.iinc 7 1) := by decide +kernel
theorem i49_170 : gm_I cX4_init 170 = some (.goto (-18)) := by decide +kernel
theorem i49_173 : gm_I cX4_init 173 = some (.iinc 5 1) := by decide +kernel
theorem i49_176 : gm_I cX4_init 176 = some (.goto (-126)) := by decide +kernel
theorem i49_179 : gm_I cX4_init 179 = some (.aload_n 0) := by decide +kernel
theorem i49_180 : gm_I cX4_init 180 = some (.getfield 17) := by decide +kernel
theorem i49_183 : gm_I cX4_init 183 = some (.iload 4) := by decide +kernel
theorem i49_185 : gm_I cX4_init 185 = some (.aload_n 1) := by decide +kernel
theorem i49_186 : gm_I cX4_init 186 = some (.getfield 28) := by decide +kernel
theorem i49_189 : gm_I cX4_init 189 = some (.iastore) := by decide +kernel
theorem i49_190 : gm_I cX4_init 190 = some (.return_) := by decide +kernel
theorem i50_0 : gm_I cX4_sort 0 = some (.iconst 0) := by decide +kernel
theorem i50_1 : gm_I cX4_sort 1 = some (.istore_n 3) := by decide +kernel
theorem i50_2 : gm_I cX4_sort 2 = some (.iload_n 3) := by decide +kernel
theorem i50_3 : gm_I cX4_sort 3 = some (.aload_n 0) := by decide +kernel
theorem i50_4 : gm_I cX4_sort 4 = some (.getfield 28) := by decide +kernel
theorem i50_7 : gm_I cX4_sort 7 = some (.if_icmp .ge 73) := by decide +kernel
theorem i50_10 : gm_I cX4_sort 10 = some (.aload_n 0) := by decide +kernel
theorem i50_11 : gm_I cX4_sort 11 = some (.iload_n 3) := by decide +kernel
theorem i50_12 : gm_I cX4_sort 12 = some (.invokestatic 50) := by decide +kernel
theorem i50_15 : gm_I cX4_sort 15 = some (.lstore 4) := by decide +kernel
theorem i50_17 : gm_I cX4_sort 17 = some (.iload_n 3) := by decide +kernel
theorem i50_18 : gm_I cX4_sort 18 = some (.istore 6) := by decide +kernel
theorem i50_20 : gm_I cX4_sort 20 = some (.iload 6) := by decide +kernel
theorem i50_22 : gm_I cX4_sort 22 = some (.ifCond .le 41) := by decide +kernel
theorem i50_25 : gm_I cX4_sort 25 = some (.aload_n 1) := by decide +kernel
theorem i50_26 : gm_I cX4_sort 26 = some (.iload 6) := by decide +kernel
theorem i50_28 : gm_I cX4_sort 28 = some (.iconst 1) := by decide +kernel
theorem i50_29 : gm_I cX4_sort 29 = some (.isub) := by decide +kernel
theorem i50_30 : gm_I cX4_sort 30 = some (.laload) := by decide +kernel
theorem i50_31 : gm_I cX4_sort 31 = some (.lload 4) := by decide +kernel
theorem i50_33 : gm_I cX4_sort 33 = some (.lcmp) := by decide +kernel
theorem i50_34 : gm_I cX4_sort 34 = some (.ifCond .le 29) := by decide +kernel
theorem i50_37 : gm_I cX4_sort 37 = some (.aload_n 1) := by decide +kernel
theorem i50_38 : gm_I cX4_sort 38 = some (.iload 6) := by decide +kernel
theorem i50_40 : gm_I cX4_sort 40 = some (.aload_n 1) := by decide +kernel
theorem i50_41 : gm_I cX4_sort 41 = some (.iload 6) := by decide +kernel
theorem i50_43 : gm_I cX4_sort 43 = some (.iconst 1) := by decide +kernel
theorem i50_44 : gm_I cX4_sort 44 = some (.isub) := by decide +kernel
theorem i50_45 : gm_I cX4_sort 45 = some (.laload) := by decide +kernel
theorem i50_46 : gm_I cX4_sort 46 = some (.lastore) := by decide +kernel
theorem i50_47 : gm_I cX4_sort 47 = some (.aload_n 2) := by decide +kernel
theorem i50_48 : gm_I cX4_sort 48 = some (.iload 6) := by decide +kernel
theorem i50_50 : gm_I cX4_sort 50 = some (.aload_n 2) := by decide +kernel
theorem i50_51 : gm_I cX4_sort 51 = some (.iload 6) := by decide +kernel
theorem i50_53 : gm_I cX4_sort 53 = some (.iconst 1) := by decide +kernel
theorem i50_54 : gm_I cX4_sort 54 = some (.isub) := by decide +kernel
theorem i50_55 : gm_I cX4_sort 55 = some (.iaload) := by decide +kernel
theorem i50_56 : gm_I cX4_sort 56 = some (.iastore) := by decide +kernel
theorem i50_57 : gm_I cX4_sort 57 = some (.iinc 6 (-1)) := by decide +kernel
theorem i50_60 : gm_I cX4_sort 60 = some (.goto (-40)) := by decide +kernel
theorem i50_63 : gm_I cX4_sort 63 = some (.aload_n 1) := by decide +kernel
theorem i50_64 : gm_I cX4_sort 64 = some (.iload 6) := by decide +kernel
theorem i50_66 : gm_I cX4_sort 66 = some (.lload 4) := by decide +kernel
theorem i50_68 : gm_I cX4_sort 68 = some (.lastore) := by decide +kernel
theorem i50_69 : gm_I cX4_sort 69 = some (.aload_n 2) := by decide +kernel
theorem i50_70 : gm_I cX4_sort 70 = some (.iload 6) := by decide +kernel
theorem i50_72 : gm_I cX4_sort 72 = some (.iload_n 3) := by decide +kernel
theorem i50_73 : gm_I cX4_sort 73 = some (.iastore) := by decide +kernel
theorem i50_74 : gm_I cX4_sort 74 = some (.iinc 3 1) := by decide +kernel
theorem i50_77 : gm_I cX4_sort 77 = some (.goto (-75)) := by decide +kernel
theorem i50_80 : gm_I cX4_sort 80 = some (.return_) := by decide +kernel
theorem i51_0 : gm_I cX4_keyOf 0 = some (.aload_n 0) := by decide +kernel
theorem i51_1 : gm_I cX4_keyOf 1 = some (.getfield 54) := by decide +kernel
theorem i51_4 : gm_I cX4_keyOf 4 = some (.iload_n 1) := by decide +kernel
theorem i51_5 : gm_I cX4_keyOf 5 = some (.iaload) := by decide +kernel
theorem i51_6 : gm_I cX4_keyOf 6 = some (.aload_n 0) := by decide +kernel
theorem i51_7 : gm_I cX4_keyOf 7 = some (.getfield 43) := by decide +kernel
theorem i51_10 : gm_I cX4_keyOf 10 = some (.iload_n 1) := by decide +kernel
theorem i51_11 : gm_I cX4_keyOf 11 = some (.iaload) := by decide +kernel
theorem i51_12 : gm_I cX4_keyOf 12 = some (.ior) := by decide +kernel
theorem i51_13 : gm_I cX4_keyOf 13 = some (.istore_n 2) := by decide +kernel
theorem i51_14 : gm_I cX4_keyOf 14 = some (.aload_n 0) := by decide +kernel
theorem i51_15 : gm_I cX4_keyOf 15 = some (.iload_n 1) := by decide +kernel
theorem i51_16 : gm_I cX4_keyOf 16 = some (.invokestatic 46) := by decide +kernel
theorem i51_19 : gm_I cX4_keyOf 19 = some (.i2l) := by decide +kernel
theorem i51_20 : gm_I cX4_keyOf 20 = some (.bipush 40) := by decide +kernel
theorem i51_22 : gm_I cX4_keyOf 22 = some (.lshl) := by decide +kernel
theorem i51_23 : gm_I cX4_keyOf 23 = some (.iload_n 2) := by decide +kernel
theorem i51_24 : gm_I cX4_keyOf 24 = some (.invokestatic 57) := by decide +kernel
theorem i51_27 : gm_I cX4_keyOf 27 = some (.i2l) := by decide +kernel
theorem i51_28 : gm_I cX4_keyOf 28 = some (.bipush 32) := by decide +kernel
theorem i51_30 : gm_I cX4_keyOf 30 = some (.lshl) := by decide +kernel
theorem i51_31 : gm_I cX4_keyOf 31 = some (.lor) := by decide +kernel
theorem i51_32 : gm_I cX4_keyOf 32 = some (.iload_n 2) := by decide +kernel
theorem i51_33 : gm_I cX4_keyOf 33 = some (.i2l) := by decide +kernel
theorem i51_34 : gm_I cX4_keyOf 34 = some (.lor) := by decide +kernel
theorem i51_35 : gm_I cX4_keyOf 35 = some (.lreturn) := by decide +kernel
theorem i52_0 : gm_I cX4_stageOf 0 = some (.aload_n 0) := by decide +kernel
theorem i52_1 : gm_I cX4_stageOf 1 = some (.getfield 63) := by decide +kernel
theorem i52_4 : gm_I cX4_stageOf 4 = some (.iload_n 1) := by decide +kernel
theorem i52_5 : gm_I cX4_stageOf 5 = some (.iaload) := by decide +kernel
theorem i52_6 : gm_I cX4_stageOf 6 = some (.bipush 16) := by decide +kernel
theorem i52_8 : gm_I cX4_stageOf 8 = some (.iand) := by decide +kernel
theorem i52_9 : gm_I cX4_stageOf 9 = some (.ifCond .eq 5) := by decide +kernel
theorem i52_12 : gm_I cX4_stageOf 12 = some (.iconst 2) := by decide +kernel
theorem i52_13 : gm_I cX4_stageOf 13 = some (.ireturn) := by decide +kernel
theorem i52_14 : gm_I cX4_stageOf 14 = some (.aload_n 0) := by decide +kernel
theorem i52_15 : gm_I cX4_stageOf 15 = some (.getfield 63) := by decide +kernel
theorem i52_18 : gm_I cX4_stageOf 18 = some (.iload_n 1) := by decide +kernel
theorem i52_19 : gm_I cX4_stageOf 19 = some (.iaload) := by decide +kernel
theorem i52_20 : gm_I cX4_stageOf 20 = some (.iconst 4) := by decide +kernel
theorem i52_21 : gm_I cX4_stageOf 21 = some (.iand) := by decide +kernel
theorem i52_22 : gm_I cX4_stageOf 22 = some (.ifCond .eq 7) := by decide +kernel
theorem i52_25 : gm_I cX4_stageOf 25 = some (.iconst 1) := by decide +kernel
theorem i52_26 : gm_I cX4_stageOf 26 = some (.goto 4) := by decide +kernel
theorem i52_29 : gm_I cX4_stageOf 29 = some (.iconst 0) := by decide +kernel
theorem i52_30 : gm_I cX4_stageOf 30 = some (.ireturn) := by decide +kernel
theorem i53_0 : gm_I cX4_isRecursive 0 = some (.aload_n 0) := by decide +kernel
theorem i53_1 : gm_I cX4_isRecursive 1 = some (.getfield 40) := by decide +kernel
theorem i53_4 : gm_I cX4_isRecursive 4 = some (.iload_n 1) := by decide +kernel
theorem i53_5 : gm_I cX4_isRecursive 5 = some (.iushr) := by decide +kernel
theorem i53_6 : gm_I cX4_isRecursive 6 = some (.iconst 1) := by decide +kernel
theorem i53_7 : gm_I cX4_isRecursive 7 = some (.iand) := by decide +kernel
theorem i53_8 : gm_I cX4_isRecursive 8 = some (.ifCond .eq 7) := by decide +kernel
theorem i53_11 : gm_I cX4_isRecursive 11 = some (.iconst 1) := by decide +kernel
theorem i53_12 : gm_I cX4_isRecursive 12 = some (.goto 4) := by decide +kernel
theorem i53_15 : gm_I cX4_isRecursive 15 = some (.iconst 0) := by decide +kernel
theorem i53_16 : gm_I cX4_isRecursive 16 = some (.ireturn) := by decide +kernel
theorem i54_0 : gm_I cX5_init 0 = some (.aload_n 0) := by decide +kernel
theorem i54_1 : gm_I cX5_init 1 = some (.invokespecial 3) := by decide +kernel
theorem i54_4 : gm_I cX5_init 4 = some (.aload_n 0) := by decide +kernel
theorem i54_5 : gm_I cX5_init 5 = some (.iload_n 1) := by decide +kernel
theorem i54_6 : gm_I cX5_init 6 = some (.putfield 9) := by decide +kernel
theorem i54_9 : gm_I cX5_init 9 = some (.aload_n 0) := by decide +kernel
theorem i54_10 : gm_I cX5_init 10 = some (.iload_n 2) := by decide +kernel
theorem i54_11 : gm_I cX5_init 11 = some (.putfield 15) := by decide +kernel
theorem i54_14 : gm_I cX5_init 14 = some (.aload_n 0) := by decide +kernel
theorem i54_15 : gm_I cX5_init 15 = some (.iload_n 3) := by decide +kernel
theorem i54_16 : gm_I cX5_init 16 = some (.putfield 18) := by decide +kernel
theorem i54_19 : gm_I cX5_init 19 = some (.aload_n 0) := by decide +kernel
theorem i54_20 : gm_I cX5_init 20 = some (.iload 4) := by decide +kernel
theorem i54_22 : gm_I cX5_init 22 = some (.putfield 21) := by decide +kernel
theorem i54_25 : gm_I cX5_init 25 = some (.aload_n 0) := by decide +kernel
theorem i54_26 : gm_I cX5_init 26 = some (.iload 5) := by decide +kernel
theorem i54_28 : gm_I cX5_init 28 = some (.putfield 24) := by decide +kernel
theorem i54_31 : gm_I cX5_init 31 = some (.return_) := by decide +kernel
theorem i55_0 : gm_I cX5_relationOf 0 = some (.ldc 27) := by decide +kernel
theorem i55_2 : gm_I cX5_relationOf 2 = some (.iload_n 0) := by decide +kernel
theorem i55_3 : gm_I cX5_relationOf 3 = some (.invokevirtual 29) := by decide +kernel
theorem i55_6 : gm_I cX5_relationOf 6 = some (.istore_n 2) := by decide +kernel
theorem i55_7 : gm_I cX5_relationOf 7 = some (.iload_n 2) := by decide +kernel
theorem i55_8 : gm_I cX5_relationOf 8 = some (.ifCond .lt 18) := by decide +kernel
theorem i55_11 : gm_I cX5_relationOf 11 = some (.getstatic 35) := by decide +kernel
theorem i55_14 : gm_I cX5_relationOf 14 = some (.iload_n 2) := by decide +kernel
theorem i55_15 : gm_I cX5_relationOf 15 = some (.iaload) := by decide +kernel
theorem i55_16 : gm_I cX5_relationOf 16 = some (.iload_n 1) := by decide +kernel
theorem i55_17 : gm_I cX5_relationOf 17 = some (.if_icmp .ne 7) := by decide +kernel
theorem i55_20 : gm_I cX5_relationOf 20 = some (.iload_n 2) := by decide +kernel
theorem i55_21 : gm_I cX5_relationOf 21 = some (.goto 4) := by decide +kernel
theorem i55_24 : gm_I cX5_relationOf 24 = some (.iconst (-1)) := by decide +kernel
theorem i55_25 : gm_I cX5_relationOf 25 = some (.ireturn) := by decide +kernel
theorem i55_26 : gm_I cX5_relationOf 26 = some (.iload_n 0) := by decide +kernel
theorem i55_27 : gm_I cX5_relationOf 27 = some (.invokestatic 39) := by decide +kernel
theorem i55_30 : gm_I cX5_relationOf 30 = some (.ifCond .eq 12) := by decide +kernel
theorem i55_33 : gm_I cX5_relationOf 33 = some (.iload_n 1) := by decide +kernel
theorem i55_34 : gm_I cX5_relationOf 34 = some (.ifCond .lt 8) := by decide +kernel
theorem i55_37 : gm_I cX5_relationOf 37 = some (.iload_n 1) := by decide +kernel
theorem i55_38 : gm_I cX5_relationOf 38 = some (.iconst 3) := by decide +kernel
theorem i55_39 : gm_I cX5_relationOf 39 = some (.if_icmp .le 5) := by decide +kernel
theorem i55_42 : gm_I cX5_relationOf 42 = some (.iconst (-1)) := by decide +kernel
theorem i55_43 : gm_I cX5_relationOf 43 = some (.ireturn) := by decide +kernel
theorem i55_44 : gm_I cX5_relationOf 44 = some (.bipush 8) := by decide +kernel
theorem i55_46 : gm_I cX5_relationOf 46 = some (.iload_n 0) := by decide +kernel
theorem i55_47 : gm_I cX5_relationOf 47 = some (.bipush 97) := by decide +kernel
theorem i55_49 : gm_I cX5_relationOf 49 = some (.isub) := by decide +kernel
theorem i55_50 : gm_I cX5_relationOf 50 = some (.iconst 4) := by decide +kernel
theorem i55_51 : gm_I cX5_relationOf 51 = some (.imul) := by decide +kernel
theorem i55_52 : gm_I cX5_relationOf 52 = some (.iadd) := by decide +kernel
theorem i55_53 : gm_I cX5_relationOf 53 = some (.iload_n 1) := by decide +kernel
theorem i55_54 : gm_I cX5_relationOf 54 = some (.iadd) := by decide +kernel
theorem i55_55 : gm_I cX5_relationOf 55 = some (.ireturn) := by decide +kernel
theorem i56_0 : gm_I cX5_variables 0 = some (.aload_n 0) := by decide +kernel
theorem i56_1 : gm_I cX5_variables 1 = some (.getfield 18) := by decide +kernel
theorem i56_4 : gm_I cX5_variables 4 = some (.invokestatic 45) := by decide +kernel
theorem i56_7 : gm_I cX5_variables 7 = some (.aload_n 0) := by decide +kernel
theorem i56_8 : gm_I cX5_variables 8 = some (.getfield 21) := by decide +kernel
theorem i56_11 : gm_I cX5_variables 11 = some (.invokestatic 45) := by decide +kernel
theorem i56_14 : gm_I cX5_variables 14 = some (.ior) := by decide +kernel
theorem i56_15 : gm_I cX5_variables 15 = some (.aload_n 0) := by decide +kernel
theorem i56_16 : gm_I cX5_variables 16 = some (.getfield 24) := by decide +kernel
theorem i56_19 : gm_I cX5_variables 19 = some (.invokestatic 45) := by decide +kernel
theorem i56_22 : gm_I cX5_variables 22 = some (.ior) := by decide +kernel
theorem i56_23 : gm_I cX5_variables 23 = some (.ireturn) := by decide +kernel
theorem i57_0 : gm_I cX5_partVariables 0 = some (.aload_n 0) := by decide +kernel
theorem i57_1 : gm_I cX5_partVariables 1 = some (.getfield 18) := by decide +kernel
theorem i57_4 : gm_I cX5_partVariables 4 = some (.ldc 48) := by decide +kernel
theorem i57_6 : gm_I cX5_partVariables 6 = some (.iand) := by decide +kernel
theorem i57_7 : gm_I cX5_partVariables 7 = some (.invokestatic 45) := by decide +kernel
theorem i57_10 : gm_I cX5_partVariables 10 = some (.aload_n 0) := by decide +kernel
theorem i57_11 : gm_I cX5_partVariables 11 = some (.getfield 21) := by decide +kernel
theorem i57_14 : gm_I cX5_partVariables 14 = some (.ldc 48) := by decide +kernel
theorem i57_16 : gm_I cX5_partVariables 16 = some (.iand) := by decide +kernel
theorem i57_17 : gm_I cX5_partVariables 17 = some (.invokestatic 45) := by decide +kernel
theorem i57_20 : gm_I cX5_partVariables 20 = some (.ior) := by decide +kernel
theorem i57_21 : gm_I cX5_partVariables 21 = some (.aload_n 0) := by decide +kernel
theorem i57_22 : gm_I cX5_partVariables 22 = some (.getfield 24) := by decide +kernel
theorem i57_25 : gm_I cX5_partVariables 25 = some (.ldc 48) := by decide +kernel
theorem i57_27 : gm_I cX5_partVariables 27 = some (.iand) := by decide +kernel
theorem i57_28 : gm_I cX5_partVariables 28 = some (.invokestatic 45) := by decide +kernel
theorem i57_31 : gm_I cX5_partVariables 31 = some (.ior) := by decide +kernel
theorem i57_32 : gm_I cX5_partVariables 32 = some (.ireturn) := by decide +kernel
theorem i58_0 : gm_I cX5_asTerm 0 = some (.aload_n 0) := by decide +kernel
theorem i58_1 : gm_I cX5_asTerm 1 = some (.getfield 15) := by decide +kernel
theorem i58_4 : gm_I cX5_asTerm 4 = some (.bipush 8) := by decide +kernel
theorem i58_6 : gm_I cX5_asTerm 6 = some (.if_icmp .lt 23) := by decide +kernel
theorem i58_9 : gm_I cX5_asTerm 9 = some (.aload_n 0) := by decide +kernel
theorem i58_10 : gm_I cX5_asTerm 10 = some (.getfield 18) := by decide +kernel
theorem i58_13 : gm_I cX5_asTerm 13 = some (.aload_n 0) := by decide +kernel
theorem i58_14 : gm_I cX5_asTerm 14 = some (.getfield 21) := by decide +kernel
theorem i58_17 : gm_I cX5_asTerm 17 = some (.ior) := by decide +kernel
theorem i58_18 : gm_I cX5_asTerm 18 = some (.aload_n 0) := by decide +kernel
theorem i58_19 : gm_I cX5_asTerm 19 = some (.getfield 24) := by decide +kernel
theorem i58_22 : gm_I cX5_asTerm 22 = some (.ior) := by decide +kernel
theorem i58_23 : gm_I cX5_asTerm 23 = some (.ldc 48) := by decide +kernel
theorem i58_25 : gm_I cX5_asTerm 25 = some (.iand) := by decide +kernel
theorem i58_26 : gm_I cX5_asTerm 26 = some (.ifCond .eq 5) := by decide +kernel
theorem i58_29 : gm_I cX5_asTerm 29 = some (.iconst 0) := by decide +kernel
theorem i58_30 : gm_I cX5_asTerm 30 = some (.ireturn) := by decide +kernel
theorem i58_31 : gm_I cX5_asTerm 31 = some (.bipush 97) := by decide +kernel
theorem i58_33 : gm_I cX5_asTerm 33 = some (.aload_n 0) := by decide +kernel
theorem i58_34 : gm_I cX5_asTerm 34 = some (.getfield 15) := by decide +kernel
theorem i58_37 : gm_I cX5_asTerm 37 = some (.bipush 8) := by decide +kernel
theorem i58_39 : gm_I cX5_asTerm 39 = some (.isub) := by decide +kernel
theorem i58_40 : gm_I cX5_asTerm 40 = some (.iconst 4) := by decide +kernel
theorem i58_41 : gm_I cX5_asTerm 41 = some (.idiv) := by decide +kernel
theorem i58_42 : gm_I cX5_asTerm 42 = some (.iadd) := by decide +kernel
theorem i58_43 : gm_I cX5_asTerm 43 = some (.istore_n 1) := by decide +kernel
theorem i58_44 : gm_I cX5_asTerm 44 = some (.iload_n 1) := by decide +kernel
theorem i58_45 : gm_I cX5_asTerm 45 = some (.bipush 21) := by decide +kernel
theorem i58_47 : gm_I cX5_asTerm 47 = some (.ishl) := by decide +kernel
theorem i58_48 : gm_I cX5_asTerm 48 = some (.aload_n 0) := by decide +kernel
theorem i58_49 : gm_I cX5_asTerm 49 = some (.getfield 18) := by decide +kernel
theorem i58_52 : gm_I cX5_asTerm 52 = some (.bipush 7) := by decide +kernel
theorem i58_54 : gm_I cX5_asTerm 54 = some (.iushr) := by decide +kernel
theorem i58_55 : gm_I cX5_asTerm 55 = some (.ior) := by decide +kernel
theorem i58_56 : gm_I cX5_asTerm 56 = some (.aload_n 0) := by decide +kernel
theorem i58_57 : gm_I cX5_asTerm 57 = some (.getfield 21) := by decide +kernel
theorem i58_60 : gm_I cX5_asTerm 60 = some (.bipush 14) := by decide +kernel
theorem i58_62 : gm_I cX5_asTerm 62 = some (.iushr) := by decide +kernel
theorem i58_63 : gm_I cX5_asTerm 63 = some (.ior) := by decide +kernel
theorem i58_64 : gm_I cX5_asTerm 64 = some (.aload_n 0) := by decide +kernel
theorem i58_65 : gm_I cX5_asTerm 65 = some (.getfield 24) := by decide +kernel
theorem i58_68 : gm_I cX5_asTerm 68 = some (.bipush 21) := by decide +kernel
theorem i58_70 : gm_I cX5_asTerm 70 = some (.iushr) := by decide +kernel
theorem i58_71 : gm_I cX5_asTerm 71 = some (.ior) := by decide +kernel
theorem i58_72 : gm_I cX5_asTerm 72 = some (.ireturn) := by decide +kernel
theorem i59_0 : gm_I cX5_plan 0 = some (.iload_n 1) := by decide +kernel
theorem i59_1 : gm_I cX5_plan 1 = some (.aload_n 0) := by decide +kernel
theorem i59_2 : gm_I cX5_plan 2 = some (.getfield 18) := by decide +kernel
theorem i59_5 : gm_I cX5_plan 5 = some (.invokestatic 45) := by decide +kernel
theorem i59_8 : gm_I cX5_plan 8 = some (.iconst (-1)) := by decide +kernel
theorem i59_9 : gm_I cX5_plan 9 = some (.ixor) := by decide +kernel
theorem i59_10 : gm_I cX5_plan 10 = some (.iand) := by decide +kernel
theorem i59_11 : gm_I cX5_plan 11 = some (.istore_n 2) := by decide +kernel
theorem i59_12 : gm_I cX5_plan 12 = some (.iload_n 2) := by decide +kernel
theorem i59_13 : gm_I cX5_plan 13 = some (.aload_n 0) := by decide +kernel
theorem i59_14 : gm_I cX5_plan 14 = some (.getfield 21) := by decide +kernel
theorem i59_17 : gm_I cX5_plan 17 = some (.invokestatic 45) := by decide +kernel
theorem i59_20 : gm_I cX5_plan 20 = some (.iconst (-1)) := by decide +kernel
theorem i59_21 : gm_I cX5_plan 21 = some (.ixor) := by decide +kernel
theorem i59_22 : gm_I cX5_plan 22 = some (.iand) := by decide +kernel
theorem i59_23 : gm_I cX5_plan 23 = some (.istore_n 3) := by decide +kernel
theorem i59_24 : gm_I cX5_plan 24 = some (.aload_n 0) := by decide +kernel
theorem i59_25 : gm_I cX5_plan 25 = some (.aload_n 0) := by decide +kernel
theorem i59_26 : gm_I cX5_plan 26 = some (.getfield 18) := by decide +kernel
theorem i59_29 : gm_I cX5_plan 29 = some (.iload_n 1) := by decide +kernel
theorem i59_30 : gm_I cX5_plan 30 = some (.invokestatic 49) := by decide +kernel
theorem i59_33 : gm_I cX5_plan 33 = some (.putfield 18) := by decide +kernel
theorem i59_36 : gm_I cX5_plan 36 = some (.aload_n 0) := by decide +kernel
theorem i59_37 : gm_I cX5_plan 37 = some (.aload_n 0) := by decide +kernel
theorem i59_38 : gm_I cX5_plan 38 = some (.getfield 21) := by decide +kernel
theorem i59_41 : gm_I cX5_plan 41 = some (.iload_n 2) := by decide +kernel
theorem i59_42 : gm_I cX5_plan 42 = some (.invokestatic 49) := by decide +kernel
theorem i59_45 : gm_I cX5_plan 45 = some (.putfield 21) := by decide +kernel
theorem i59_48 : gm_I cX5_plan 48 = some (.aload_n 0) := by decide +kernel
theorem i59_49 : gm_I cX5_plan 49 = some (.aload_n 0) := by decide +kernel
theorem i59_50 : gm_I cX5_plan 50 = some (.getfield 24) := by decide +kernel
theorem i59_53 : gm_I cX5_plan 53 = some (.iload_n 3) := by decide +kernel
theorem i59_54 : gm_I cX5_plan 54 = some (.invokestatic 49) := by decide +kernel
theorem i59_57 : gm_I cX5_plan 57 = some (.putfield 24) := by decide +kernel
theorem i59_60 : gm_I cX5_plan 60 = some (.return_) := by decide +kernel
theorem i60_0 : gm_I cX6_init 0 = some (.aload_n 0) := by decide +kernel
theorem i60_1 : gm_I cX6_init 1 = some (.invokespecial 3) := by decide +kernel
theorem i60_4 : gm_I cX6_init 4 = some (.aload_n 0) := by decide +kernel
theorem i60_5 : gm_I cX6_init 5 = some (.iconst 3) := by decide +kernel
theorem i60_6 : gm_I cX6_init 6 = some (.newarray .int) := by decide +kernel
theorem i60_8 : gm_I cX6_init 8 = some (.putfield 9) := by decide +kernel
theorem i60_11 : gm_I cX6_init 11 = some (.aload_n 0) := by decide +kernel
theorem i60_12 : gm_I cX6_init 12 = some (.aconst_null) := by decide +kernel
theorem i60_13 : gm_I cX6_init 13 = some (.putfield 15) := by decide +kernel
theorem i60_16 : gm_I cX6_init 16 = some (.return_) := by decide +kernel
theorem i61_0 : gm_I cX6_place 0 = some (.aload_n 0) := by decide +kernel
theorem i61_1 : gm_I cX6_place 1 = some (.getfield 19) := by decide +kernel
theorem i61_4 : gm_I cX6_place 4 = some (.ireturn) := by decide +kernel
theorem i62_0 : gm_I cX6_read 0 = some (.aload_n 0) := by decide +kernel
theorem i62_1 : gm_I cX6_read 1 = some (.aload_n 1) := by decide +kernel
theorem i62_2 : gm_I cX6_read 2 = some (.putfield 15) := by decide +kernel
theorem i62_5 : gm_I cX6_read 5 = some (.aload_n 0) := by decide +kernel
theorem i62_6 : gm_I cX6_read 6 = some (.getfield 15) := by decide +kernel
theorem i62_9 : gm_I cX6_read 9 = some (.iload_n 2) := by decide +kernel
theorem i62_10 : gm_I cX6_read 10 = some (.iconst 0) := by decide +kernel
theorem i62_11 : gm_I cX6_read 11 = some (.castore) := by decide +kernel
theorem i62_12 : gm_I cX6_read 12 = some (.aload_n 0) := by decide +kernel
theorem i62_13 : gm_I cX6_read 13 = some (.iconst 0) := by decide +kernel
theorem i62_14 : gm_I cX6_read 14 = some (.putfield 19) := by decide +kernel
theorem i62_17 : gm_I cX6_read 17 = some (.new 23) := by decide +kernel
theorem i62_20 : gm_I cX6_read 20 = some (.dup) := by decide +kernel
theorem i62_21 : gm_I cX6_read 21 = some (.invokespecial 25) := by decide +kernel
theorem i62_24 : gm_I cX6_read 24 = some (.astore_n 3) := by decide +kernel
theorem i62_25 : gm_I cX6_read 25 = some (.iconst 0) := by decide +kernel
theorem i62_26 : gm_I cX6_read 26 = some (.istore 4) := by decide +kernel
theorem i62_28 : gm_I cX6_read 28 = some (.iload 4) := by decide +kernel
theorem i62_30 : gm_I cX6_read 30 = some (.bipush 24) := by decide +kernel
theorem i62_32 : gm_I cX6_read 32 = some (.if_icmp .ge 38) := by decide +kernel
theorem i62_35 : gm_I cX6_read 35 = some (.aload_n 0) := by decide +kernel
theorem i62_36 : gm_I cX6_read 36 = some (.invokevirtual 26) := by decide +kernel
theorem i62_39 : gm_I cX6_read 39 = some (.astore 5) := by decide +kernel
theorem i62_41 : gm_I cX6_read 41 = some (.aload 5) := by decide +kernel
theorem i62_43 : gm_I cX6_read 43 = some (.ifnonnull 5) := by decide +kernel
theorem i62_46 : gm_I cX6_read 46 = some (.aconst_null) := by decide +kernel
theorem i62_47 : gm_I cX6_read 47 = some (.areturn) := by decide +kernel
theorem i62_48 : gm_I cX6_read 48 = some (.aload_n 3) := by decide +kernel
theorem i62_49 : gm_I cX6_read 49 = some (.aload 5) := by decide +kernel
theorem i62_51 : gm_I cX6_read 51 = some (.invokevirtual 30) := by decide +kernel
theorem i62_54 : gm_I cX6_read 54 = some (.aload_n 0) := by decide +kernel
theorem i62_55 : gm_I cX6_read 55 = some (.getfield 19) := by decide +kernel
theorem i62_58 : gm_I cX6_read 58 = some (.iload_n 2) := by decide +kernel
theorem i62_59 : gm_I cX6_read 59 = some (.if_icmp .ne 5) := by decide +kernel
theorem i62_62 : gm_I cX6_read 62 = some (.aload_n 3) := by decide +kernel
theorem i62_63 : gm_I cX6_read 63 = some (.areturn) := by decide +kernel
theorem i62_64 : gm_I cX6_read 64 = some (.iinc 4 1) := by decide +kernel
theorem i62_67 : gm_I cX6_read 67 = some (.goto (-39)) := by decide +kernel
theorem i62_70 : gm_I cX6_read 70 = some (.aconst_null) := by decide +kernel
theorem i62_71 : gm_I cX6_read 71 = some (.areturn) := by decide +kernel
theorem i63_0 : gm_I cX6_take 0 = some (.aload_n 0) := by decide +kernel
theorem i63_1 : gm_I cX6_take 1 = some (.getfield 15) := by decide +kernel
theorem i63_4 : gm_I cX6_take 4 = some (.aload_n 0) := by decide +kernel
theorem i63_5 : gm_I cX6_take 5 = some (.getfield 19) := by decide +kernel
theorem i63_8 : gm_I cX6_take 8 = some (.caload) := by decide +kernel
theorem i63_9 : gm_I cX6_take 9 = some (.iload_n 1) := by decide +kernel
theorem i63_10 : gm_I cX6_take 10 = some (.if_icmp .eq 5) := by decide +kernel
theorem i63_13 : gm_I cX6_take 13 = some (.iconst 0) := by decide +kernel
theorem i63_14 : gm_I cX6_take 14 = some (.ireturn) := by decide +kernel
theorem i63_15 : gm_I cX6_take 15 = some (.aload_n 0) := by decide +kernel
theorem i63_16 : gm_I cX6_take 16 = some (.dup) := by decide +kernel
theorem i63_17 : gm_I cX6_take 17 = some (.getfield 19) := by decide +kernel
theorem i63_20 : gm_I cX6_take 20 = some (.iconst 1) := by decide +kernel
theorem i63_21 : gm_I cX6_take 21 = some (.iadd) := by decide +kernel
theorem i63_22 : gm_I cX6_take 22 = some (.putfield 19) := by decide +kernel
theorem i63_25 : gm_I cX6_take 25 = some (.iconst 1) := by decide +kernel
theorem i63_26 : gm_I cX6_take 26 = some (.ireturn) := by decide +kernel
theorem i64_0 : gm_I cX6_readRule 0 = some (.aload_n 0) := by decide +kernel
theorem i64_1 : gm_I cX6_readRule 1 = some (.iconst 0) := by decide +kernel
theorem i64_2 : gm_I cX6_readRule 2 = some (.invokevirtual 36) := by decide +kernel
theorem i64_5 : gm_I cX6_readRule 5 = some (.astore_n 1) := by decide +kernel
theorem i64_6 : gm_I cX6_readRule 6 = some (.aload_n 1) := by decide +kernel
theorem i64_7 : gm_I cX6_readRule 7 = some (.ifnonnull 5) := by decide +kernel
theorem i64_10 : gm_I cX6_readRule 10 = some (.aconst_null) := by decide +kernel
theorem i64_11 : gm_I cX6_readRule 11 = some (.areturn) := by decide +kernel
theorem i64_12 : gm_I cX6_readRule 12 = some (.new 40) := by decide +kernel
theorem i64_15 : gm_I cX6_readRule 15 = some (.dup) := by decide +kernel
theorem i64_16 : gm_I cX6_readRule 16 = some (.aload_n 1) := by decide +kernel
theorem i64_17 : gm_I cX6_readRule 17 = some (.invokespecial 42) := by decide +kernel
theorem i64_20 : gm_I cX6_readRule 20 = some (.astore_n 2) := by decide +kernel
theorem i64_21 : gm_I cX6_readRule 21 = some (.aload_n 0) := by decide +kernel
theorem i64_22 : gm_I cX6_readRule 22 = some (.bipush 58) := by decide +kernel
theorem i64_24 : gm_I cX6_readRule 24 = some (.invokevirtual 45) := by decide +kernel
theorem i64_27 : gm_I cX6_readRule 27 = some (.ifCond .eq 13) := by decide +kernel
theorem i64_30 : gm_I cX6_readRule 30 = some (.aload_n 0) := by decide +kernel
theorem i64_31 : gm_I cX6_readRule 31 = some (.aload_n 2) := by decide +kernel
theorem i64_32 : gm_I cX6_readRule 32 = some (.invokevirtual 49) := by decide +kernel
theorem i64_35 : gm_I cX6_readRule 35 = some (.ifCond .ne 5) := by decide +kernel
theorem i64_38 : gm_I cX6_readRule 38 = some (.aconst_null) := by decide +kernel
theorem i64_39 : gm_I cX6_readRule 39 = some (.areturn) := by decide +kernel
theorem i64_40 : gm_I cX6_readRule 40 = some (.aload_n 0) := by decide +kernel
theorem i64_41 : gm_I cX6_readRule 41 = some (.bipush 46) := by decide +kernel
theorem i64_43 : gm_I cX6_readRule 43 = some (.invokevirtual 45) := by decide +kernel
theorem i64_46 : gm_I cX6_readRule 46 = some (.ifCond .eq 7) := by decide +kernel
theorem i64_49 : gm_I cX6_readRule 49 = some (.aload_n 2) := by decide +kernel
theorem i64_50 : gm_I cX6_readRule 50 = some (.goto 4) := by decide +kernel
theorem i64_53 : gm_I cX6_readRule 53 = some (.aconst_null) := by decide +kernel
theorem i64_54 : gm_I cX6_readRule 54 = some (.areturn) := by decide +kernel
theorem i65_0 : gm_I cX6_readBody 0 = some (.iconst 0) := by decide +kernel
theorem i65_1 : gm_I cX6_readBody 1 = some (.istore_n 2) := by decide +kernel
theorem i65_2 : gm_I cX6_readBody 2 = some (.iload_n 2) := by decide +kernel
theorem i65_3 : gm_I cX6_readBody 3 = some (.iconst 5) := by decide +kernel
theorem i65_4 : gm_I cX6_readBody 4 = some (.if_icmp .ge 36) := by decide +kernel
theorem i65_7 : gm_I cX6_readBody 7 = some (.aload_n 0) := by decide +kernel
theorem i65_8 : gm_I cX6_readBody 8 = some (.invokevirtual 53) := by decide +kernel
theorem i65_11 : gm_I cX6_readBody 11 = some (.astore_n 3) := by decide +kernel
theorem i65_12 : gm_I cX6_readBody 12 = some (.aload_n 3) := by decide +kernel
theorem i65_13 : gm_I cX6_readBody 13 = some (.ifnonnull 5) := by decide +kernel
theorem i65_16 : gm_I cX6_readBody 16 = some (.iconst 0) := by decide +kernel
theorem i65_17 : gm_I cX6_readBody 17 = some (.ireturn) := by decide +kernel
theorem i65_18 : gm_I cX6_readBody 18 = some (.aload_n 1) := by decide +kernel
theorem i65_19 : gm_I cX6_readBody 19 = some (.aload_n 3) := by decide +kernel
theorem i65_20 : gm_I cX6_readBody 20 = some (.invokevirtual 57) := by decide +kernel
theorem i65_23 : gm_I cX6_readBody 23 = some (.aload_n 0) := by decide +kernel
theorem i65_24 : gm_I cX6_readBody 24 = some (.bipush 44) := by decide +kernel
theorem i65_26 : gm_I cX6_readBody 26 = some (.invokevirtual 45) := by decide +kernel
theorem i65_29 : gm_I cX6_readBody 29 = some (.ifCond .ne 5) := by decide +kernel
theorem i65_32 : gm_I cX6_readBody 32 = some (.iconst 1) := by decide +kernel
theorem i65_33 : gm_I cX6_readBody 33 = some (.ireturn) := by decide +kernel
theorem i65_34 : gm_I cX6_readBody 34 = some (.iinc 2 1) := by decide +kernel
theorem i65_37 : gm_I cX6_readBody 37 = some (.goto (-35)) := by decide +kernel
theorem i65_40 : gm_I cX6_readBody 40 = some (.iconst 0) := by decide +kernel
theorem i65_41 : gm_I cX6_readBody 41 = some (.ireturn) := by decide +kernel
theorem i66_0 : gm_I cX6_readLiteral 0 = some (.aload_n 0) := by decide +kernel
theorem i66_1 : gm_I cX6_readLiteral 1 = some (.bipush 126) := by decide +kernel
theorem i66_3 : gm_I cX6_readLiteral 3 = some (.invokevirtual 45) := by decide +kernel
theorem i66_6 : gm_I cX6_readLiteral 6 = some (.ifCond .eq 9) := by decide +kernel
theorem i66_9 : gm_I cX6_readLiteral 9 = some (.aload_n 0) := by decide +kernel
theorem i66_10 : gm_I cX6_readLiteral 10 = some (.iconst 1) := by decide +kernel
theorem i66_11 : gm_I cX6_readLiteral 11 = some (.invokevirtual 36) := by decide +kernel
theorem i66_14 : gm_I cX6_readLiteral 14 = some (.areturn) := by decide +kernel
theorem i66_15 : gm_I cX6_readLiteral 15 = some (.aload_n 0) := by decide +kernel
theorem i66_16 : gm_I cX6_readLiteral 16 = some (.getfield 15) := by decide +kernel
theorem i66_19 : gm_I cX6_readLiteral 19 = some (.aload_n 0) := by decide +kernel
theorem i66_20 : gm_I cX6_readLiteral 20 = some (.getfield 19) := by decide +kernel
theorem i66_23 : gm_I cX6_readLiteral 23 = some (.caload) := by decide +kernel
theorem i66_24 : gm_I cX6_readLiteral 24 = some (.invokestatic 59) := by decide +kernel
theorem i66_27 : gm_I cX6_readLiteral 27 = some (.ifCond .eq 27) := by decide +kernel
theorem i66_30 : gm_I cX6_readLiteral 30 = some (.aload_n 0) := by decide +kernel
theorem i66_31 : gm_I cX6_readLiteral 31 = some (.getfield 15) := by decide +kernel
theorem i66_34 : gm_I cX6_readLiteral 34 = some (.aload_n 0) := by decide +kernel
theorem i66_35 : gm_I cX6_readLiteral 35 = some (.getfield 19) := by decide +kernel
theorem i66_38 : gm_I cX6_readLiteral 38 = some (.caload) := by decide +kernel
theorem i66_39 : gm_I cX6_readLiteral 39 = some (.invokestatic 65) := by decide +kernel
theorem i66_42 : gm_I cX6_readLiteral 42 = some (.ifCond .ne 12) := by decide +kernel
theorem i66_45 : gm_I cX6_readLiteral 45 = some (.aload_n 0) := by decide +kernel
theorem i66_46 : gm_I cX6_readLiteral 46 = some (.aload_n 0) := by decide +kernel
theorem i66_47 : gm_I cX6_readLiteral 47 = some (.invokevirtual 68) := by decide +kernel
theorem i66_50 : gm_I cX6_readLiteral 50 = some (.invokevirtual 72) := by decide +kernel
theorem i66_53 : gm_I cX6_readLiteral 53 = some (.areturn) := by decide +kernel
theorem i66_54 : gm_I cX6_readLiteral 54 = some (.aload_n 0) := by decide +kernel
theorem i66_55 : gm_I cX6_readLiteral 55 = some (.iconst 0) := by decide +kernel
theorem i66_56 : gm_I cX6_readLiteral 56 = some (.invokevirtual 36) := by decide +kernel
theorem i66_59 : gm_I cX6_readLiteral 59 = some (.astore_n 1) := by decide +kernel
theorem i66_60 : gm_I cX6_readLiteral 60 = some (.aload_n 1) := by decide +kernel
theorem i66_61 : gm_I cX6_readLiteral 61 = some (.ifnull 24) := by decide +kernel
theorem i66_64 : gm_I cX6_readLiteral 64 = some (.aload_n 0) := by decide +kernel
theorem i66_65 : gm_I cX6_readLiteral 65 = some (.getfield 15) := by decide +kernel
theorem i66_68 : gm_I cX6_readLiteral 68 = some (.aload_n 0) := by decide +kernel
theorem i66_69 : gm_I cX6_readLiteral 69 = some (.getfield 19) := by decide +kernel
theorem i66_72 : gm_I cX6_readLiteral 72 = some (.caload) := by decide +kernel
theorem i66_73 : gm_I cX6_readLiteral 73 = some (.bipush 35) := by decide +kernel
theorem i66_75 : gm_I cX6_readLiteral 75 = some (.if_icmp .ne 10) := by decide +kernel
theorem i66_78 : gm_I cX6_readLiteral 78 = some (.aload_n 1) := by decide +kernel
theorem i66_79 : gm_I cX6_readLiteral 79 = some (.invokevirtual 75) := by decide +kernel
theorem i66_82 : gm_I cX6_readLiteral 82 = some (.ifCond .ne 5) := by decide +kernel
theorem i66_85 : gm_I cX6_readLiteral 85 = some (.aload_n 1) := by decide +kernel
theorem i66_86 : gm_I cX6_readLiteral 86 = some (.areturn) := by decide +kernel
theorem i66_87 : gm_I cX6_readLiteral 87 = some (.aload_n 0) := by decide +kernel
theorem i66_88 : gm_I cX6_readLiteral 88 = some (.aload_n 1) := by decide +kernel
theorem i66_89 : gm_I cX6_readLiteral 89 = some (.invokevirtual 75) := by decide +kernel
theorem i66_92 : gm_I cX6_readLiteral 92 = some (.invokevirtual 72) := by decide +kernel
theorem i66_95 : gm_I cX6_readLiteral 95 = some (.areturn) := by decide +kernel
theorem i67_0 : gm_I cX6_readUnlike 0 = some (.aload_n 0) := by decide +kernel
theorem i67_1 : gm_I cX6_readUnlike 1 = some (.bipush 35) := by decide +kernel
theorem i67_3 : gm_I cX6_readUnlike 3 = some (.invokevirtual 45) := by decide +kernel
theorem i67_6 : gm_I cX6_readUnlike 6 = some (.ifCond .ne 5) := by decide +kernel
theorem i67_9 : gm_I cX6_readUnlike 9 = some (.aconst_null) := by decide +kernel
theorem i67_10 : gm_I cX6_readUnlike 10 = some (.areturn) := by decide +kernel
theorem i67_11 : gm_I cX6_readUnlike 11 = some (.aload_n 0) := by decide +kernel
theorem i67_12 : gm_I cX6_readUnlike 12 = some (.invokevirtual 68) := by decide +kernel
theorem i67_15 : gm_I cX6_readUnlike 15 = some (.istore_n 2) := by decide +kernel
theorem i67_16 : gm_I cX6_readUnlike 16 = some (.iload_n 2) := by decide +kernel
theorem i67_17 : gm_I cX6_readUnlike 17 = some (.ifCond .ne 7) := by decide +kernel
theorem i67_20 : gm_I cX6_readUnlike 20 = some (.aconst_null) := by decide +kernel
theorem i67_21 : gm_I cX6_readUnlike 21 = some (.goto 15) := by decide +kernel
theorem i67_24 : gm_I cX6_readUnlike 24 = some (.new 34) := by decide +kernel
theorem i67_27 : gm_I cX6_readUnlike 27 = some (.dup) := by decide +kernel
theorem i67_28 : gm_I cX6_readUnlike 28 = some (.iconst 2) := by decide +kernel
theorem i67_29 : gm_I cX6_readUnlike 29 = some (.iconst (-1)) := by decide +kernel
theorem i67_30 : gm_I cX6_readUnlike 30 = some (.iload_n 1) := by decide +kernel
theorem i67_31 : gm_I cX6_readUnlike 31 = some (.iload_n 2) := by decide +kernel
theorem i67_32 : gm_I cX6_readUnlike 32 = some (.iconst 0) := by decide +kernel
theorem i67_33 : gm_I cX6_readUnlike 33 = some (.invokespecial 78) := by decide +kernel
theorem i67_36 : gm_I cX6_readUnlike 36 = some (.areturn) := by decide +kernel
theorem i68_0 : gm_I cX6_readAtom 0 = some (.aload_n 0) := by decide +kernel
theorem i68_1 : gm_I cX6_readAtom 1 = some (.getfield 15) := by decide +kernel
theorem i68_4 : gm_I cX6_readAtom 4 = some (.aload_n 0) := by decide +kernel
theorem i68_5 : gm_I cX6_readAtom 5 = some (.getfield 19) := by decide +kernel
theorem i68_8 : gm_I cX6_readAtom 8 = some (.caload) := by decide +kernel
theorem i68_9 : gm_I cX6_readAtom 9 = some (.istore_n 2) := by decide +kernel
theorem i68_10 : gm_I cX6_readAtom 10 = some (.ldc 81) := by decide +kernel
theorem i68_12 : gm_I cX6_readAtom 12 = some (.iload_n 2) := by decide +kernel
theorem i68_13 : gm_I cX6_readAtom 13 = some (.invokevirtual 83) := by decide +kernel
theorem i68_16 : gm_I cX6_readAtom 16 = some (.istore_n 3) := by decide +kernel
theorem i68_17 : gm_I cX6_readAtom 17 = some (.iload_n 3) := by decide +kernel
theorem i68_18 : gm_I cX6_readAtom 18 = some (.ifCond .ge 12) := by decide +kernel
theorem i68_21 : gm_I cX6_readAtom 21 = some (.iload_n 2) := by decide +kernel
theorem i68_22 : gm_I cX6_readAtom 22 = some (.invokestatic 65) := by decide +kernel
theorem i68_25 : gm_I cX6_readAtom 25 = some (.ifCond .ne 5) := by decide +kernel
theorem i68_28 : gm_I cX6_readAtom 28 = some (.aconst_null) := by decide +kernel
theorem i68_29 : gm_I cX6_readAtom 29 = some (.areturn) := by decide +kernel
theorem i68_30 : gm_I cX6_readAtom 30 = some (.aload_n 0) := by decide +kernel
theorem i68_31 : gm_I cX6_readAtom 31 = some (.dup) := by decide +kernel
theorem i68_32 : gm_I cX6_readAtom 32 = some (.getfield 19) := by decide +kernel
theorem i68_35 : gm_I cX6_readAtom 35 = some (.iconst 1) := by decide +kernel
theorem i68_36 : gm_I cX6_readAtom 36 = some (.iadd) := by decide +kernel
theorem i68_37 : gm_I cX6_readAtom 37 = some (.putfield 19) := by decide +kernel
theorem i68_40 : gm_I cX6_readAtom 40 = some (.iload_n 3) := by decide +kernel
theorem i68_41 : gm_I cX6_readAtom 41 = some (.ifCond .ge 7) := by decide +kernel
