/-! the code by its places, by program -/
theorem i86_78 : gm_I cX8_deniesItself 78 = some (.ifCond .eq 5) := by decide +kernel
theorem i86_81 : gm_I cX8_deniesItself 81 = some (.iconst 1) := by decide +kernel
theorem i86_82 : gm_I cX8_deniesItself 82 = some (.ireturn) := by decide +kernel
theorem i86_83 : gm_I cX8_deniesItself 83 = some (.iinc 4 1) := by decide +kernel
theorem i86_86 : gm_I cX8_deniesItself 86 = some (.goto (-56)) := by decide +kernel
theorem i86_89 : gm_I cX8_deniesItself 89 = some (.iinc 2 1) := by decide +kernel
theorem i86_92 : gm_I cX8_deniesItself 92 = some (.goto (-90)) := by decide +kernel
theorem i86_95 : gm_I cX8_deniesItself 95 = some (.iconst 0) := by decide +kernel
theorem i86_96 : gm_I cX8_deniesItself 96 = some (.ireturn) := by decide +kernel
theorem i87_0 : gm_I cX8_looksAhead 0 = some (.aload_n 0) := by decide +kernel
theorem i87_1 : gm_I cX8_looksAhead 1 = some (.getfield 11) := by decide +kernel
theorem i87_4 : gm_I cX8_looksAhead 4 = some (.iload_n 1) := by decide +kernel
theorem i87_5 : gm_I cX8_looksAhead 5 = some (.aaload) := by decide +kernel
theorem i87_6 : gm_I cX8_looksAhead 6 = some (.getfield 35) := by decide +kernel
theorem i87_9 : gm_I cX8_looksAhead 9 = some (.getfield 39) := by decide +kernel
theorem i87_12 : gm_I cX8_looksAhead 12 = some (.tableswitch 81 1 7 #[44, 81, 81, 81, 63, 63, 63]) := by decide +kernel
theorem i87_56 : gm_I cX8_looksAhead 56 = some (.aload_n 0) := by decide +kernel
theorem i87_57 : gm_I cX8_looksAhead 57 = some (.getfield 24) := by decide +kernel
theorem i87_60 : gm_I cX8_looksAhead 60 = some (.iload_n 1) := by decide +kernel
theorem i87_61 : gm_I cX8_looksAhead 61 = some (.iaload) := by decide +kernel
theorem i87_62 : gm_I cX8_looksAhead 62 = some (.sipush 244) := by decide +kernel
theorem i87_65 : gm_I cX8_looksAhead 65 = some (.iand) := by decide +kernel
theorem i87_66 : gm_I cX8_looksAhead 66 = some (.ifCond .eq 7) := by decide +kernel
theorem i87_69 : gm_I cX8_looksAhead 69 = some (.iconst 1) := by decide +kernel
theorem i87_70 : gm_I cX8_looksAhead 70 = some (.goto 4) := by decide +kernel
theorem i87_73 : gm_I cX8_looksAhead 73 = some (.iconst 0) := by decide +kernel
theorem i87_74 : gm_I cX8_looksAhead 74 = some (.ireturn) := by decide +kernel
theorem i87_75 : gm_I cX8_looksAhead 75 = some (.aload_n 0) := by decide +kernel
theorem i87_76 : gm_I cX8_looksAhead 76 = some (.getfield 24) := by decide +kernel
theorem i87_79 : gm_I cX8_looksAhead 79 = some (.iload_n 1) := by decide +kernel
theorem i87_80 : gm_I cX8_looksAhead 80 = some (.iaload) := by decide +kernel
theorem i87_81 : gm_I cX8_looksAhead 81 = some (.bipush 16) := by decide +kernel
theorem i87_83 : gm_I cX8_looksAhead 83 = some (.iand) := by decide +kernel
theorem i87_84 : gm_I cX8_looksAhead 84 = some (.ifCond .eq 7) := by decide +kernel
theorem i87_87 : gm_I cX8_looksAhead 87 = some (.iconst 1) := by decide +kernel
theorem i87_88 : gm_I cX8_looksAhead 88 = some (.goto 4) := by decide +kernel
theorem i87_91 : gm_I cX8_looksAhead 91 = some (.iconst 0) := by decide +kernel
theorem i87_92 : gm_I cX8_looksAhead 92 = some (.ireturn) := by decide +kernel
theorem i87_93 : gm_I cX8_looksAhead 93 = some (.iconst 0) := by decide +kernel
theorem i87_94 : gm_I cX8_looksAhead 94 = some (.ireturn) := by decide +kernel
theorem i88_0 : gm_I cX9_isLetter 0 = some (.iload_n 0) := by decide +kernel
theorem i88_1 : gm_I cX9_isLetter 1 = some (.bipush 97) := by decide +kernel
theorem i88_3 : gm_I cX9_isLetter 3 = some (.if_icmp .lt 13) := by decide +kernel
theorem i88_6 : gm_I cX9_isLetter 6 = some (.iload_n 0) := by decide +kernel
theorem i88_7 : gm_I cX9_isLetter 7 = some (.bipush 122) := by decide +kernel
theorem i88_9 : gm_I cX9_isLetter 9 = some (.if_icmp .gt 7) := by decide +kernel
theorem i88_12 : gm_I cX9_isLetter 12 = some (.iconst 1) := by decide +kernel
theorem i88_13 : gm_I cX9_isLetter 13 = some (.goto 4) := by decide +kernel
theorem i88_16 : gm_I cX9_isLetter 16 = some (.iconst 0) := by decide +kernel
theorem i88_17 : gm_I cX9_isLetter 17 = some (.ireturn) := by decide +kernel
theorem i89_0 : gm_I cX9_isVariable 0 = some (.iload_n 0) := by decide +kernel
theorem i89_1 : gm_I cX9_isVariable 1 = some (.bipush 85) := by decide +kernel
theorem i89_3 : gm_I cX9_isVariable 3 = some (.if_icmp .lt 13) := by decide +kernel
theorem i89_6 : gm_I cX9_isVariable 6 = some (.iload_n 0) := by decide +kernel
theorem i89_7 : gm_I cX9_isVariable 7 = some (.bipush 90) := by decide +kernel
theorem i89_9 : gm_I cX9_isVariable 9 = some (.if_icmp .gt 7) := by decide +kernel
theorem i89_12 : gm_I cX9_isVariable 12 = some (.iconst 1) := by decide +kernel
theorem i89_13 : gm_I cX9_isVariable 13 = some (.goto 4) := by decide +kernel
theorem i89_16 : gm_I cX9_isVariable 16 = some (.iconst 0) := by decide +kernel
theorem i89_17 : gm_I cX9_isVariable 17 = some (.ireturn) := by decide +kernel
theorem i90_0 : gm_I cX9_isPlain 0 = some (.iload_n 0) := by decide +kernel
theorem i90_1 : gm_I cX9_isPlain 1 = some (.bipush 97) := by decide +kernel
theorem i90_3 : gm_I cX9_isPlain 3 = some (.if_icmp .lt 9) := by decide +kernel
theorem i90_6 : gm_I cX9_isPlain 6 = some (.iload_n 0) := by decide +kernel
theorem i90_7 : gm_I cX9_isPlain 7 = some (.bipush 122) := by decide +kernel
theorem i90_9 : gm_I cX9_isPlain 9 = some (.if_icmp .le 27) := by decide +kernel
theorem i90_12 : gm_I cX9_isPlain 12 = some (.iload_n 0) := by decide +kernel
theorem i90_13 : gm_I cX9_isPlain 13 = some (.bipush 85) := by decide +kernel
theorem i90_15 : gm_I cX9_isPlain 15 = some (.if_icmp .lt 9) := by decide +kernel
theorem i90_18 : gm_I cX9_isPlain 18 = some (.iload_n 0) := by decide +kernel
theorem i90_19 : gm_I cX9_isPlain 19 = some (.bipush 90) := by decide +kernel
theorem i90_21 : gm_I cX9_isPlain 21 = some (.if_icmp .le 15) := by decide +kernel
theorem i90_24 : gm_I cX9_isPlain 24 = some (.iload_n 0) := by decide +kernel
theorem i90_25 : gm_I cX9_isPlain 25 = some (.bipush 48) := by decide +kernel
theorem i90_27 : gm_I cX9_isPlain 27 = some (.if_icmp .lt 13) := by decide +kernel
theorem i90_30 : gm_I cX9_isPlain 30 = some (.iload_n 0) := by decide +kernel
theorem i90_31 : gm_I cX9_isPlain 31 = some (.bipush 57) := by decide +kernel
theorem i90_33 : gm_I cX9_isPlain 33 = some (.if_icmp .gt 7) := by decide +kernel
theorem i90_36 : gm_I cX9_isPlain 36 = some (.iconst 1) := by decide +kernel
theorem i90_37 : gm_I cX9_isPlain 37 = some (.goto 4) := by decide +kernel
theorem i90_40 : gm_I cX9_isPlain 40 = some (.iconst 0) := by decide +kernel
theorem i90_41 : gm_I cX9_isPlain 41 = some (.ireturn) := by decide +kernel
theorem i91_0 : gm_I cX9_variables 0 = some (.iconst 0) := by decide +kernel
theorem i91_1 : gm_I cX9_variables 1 = some (.istore_n 1) := by decide +kernel
theorem i91_2 : gm_I cX9_variables 2 = some (.bipush 21) := by decide +kernel
theorem i91_4 : gm_I cX9_variables 4 = some (.istore_n 2) := by decide +kernel
theorem i91_5 : gm_I cX9_variables 5 = some (.iload_n 2) := by decide +kernel
theorem i91_6 : gm_I cX9_variables 6 = some (.ifCond .lt 32) := by decide +kernel
theorem i91_9 : gm_I cX9_variables 9 = some (.iload_n 0) := by decide +kernel
theorem i91_10 : gm_I cX9_variables 10 = some (.iload_n 2) := by decide +kernel
theorem i91_11 : gm_I cX9_variables 11 = some (.iushr) := by decide +kernel
theorem i91_12 : gm_I cX9_variables 12 = some (.bipush 127) := by decide +kernel
theorem i91_14 : gm_I cX9_variables 14 = some (.iand) := by decide +kernel
theorem i91_15 : gm_I cX9_variables 15 = some (.istore_n 3) := by decide +kernel
theorem i91_16 : gm_I cX9_variables 16 = some (.iload_n 3) := by decide +kernel
theorem i91_17 : gm_I cX9_variables 17 = some (.invokestatic 11) := by decide +kernel
theorem i91_20 : gm_I cX9_variables 20 = some (.ifCond .eq 12) := by decide +kernel
theorem i91_23 : gm_I cX9_variables 23 = some (.iload_n 1) := by decide +kernel
theorem i91_24 : gm_I cX9_variables 24 = some (.iconst 1) := by decide +kernel
theorem i91_25 : gm_I cX9_variables 25 = some (.iload_n 3) := by decide +kernel
theorem i91_26 : gm_I cX9_variables 26 = some (.bipush 85) := by decide +kernel
theorem i91_28 : gm_I cX9_variables 28 = some (.isub) := by decide +kernel
theorem i91_29 : gm_I cX9_variables 29 = some (.ishl) := by decide +kernel
theorem i91_30 : gm_I cX9_variables 30 = some (.ior) := by decide +kernel
theorem i91_31 : gm_I cX9_variables 31 = some (.istore_n 1) := by decide +kernel
theorem i91_32 : gm_I cX9_variables 32 = some (.iinc 2 (-7)) := by decide +kernel
theorem i91_35 : gm_I cX9_variables 35 = some (.goto (-30)) := by decide +kernel
theorem i91_38 : gm_I cX9_variables 38 = some (.iload_n 1) := by decide +kernel
theorem i91_39 : gm_I cX9_variables 39 = some (.ireturn) := by decide +kernel
theorem i92_0 : gm_I cX9_plan 0 = some (.iload_n 0) := by decide +kernel
theorem i92_1 : gm_I cX9_plan 1 = some (.istore_n 2) := by decide +kernel
theorem i92_2 : gm_I cX9_plan 2 = some (.iload_n 1) := by decide +kernel
theorem i92_3 : gm_I cX9_plan 3 = some (.istore_n 3) := by decide +kernel
theorem i92_4 : gm_I cX9_plan 4 = some (.bipush 21) := by decide +kernel
theorem i92_6 : gm_I cX9_plan 6 = some (.istore 4) := by decide +kernel
theorem i92_8 : gm_I cX9_plan 8 = some (.iload 4) := by decide +kernel
theorem i92_10 : gm_I cX9_plan 10 = some (.ifCond .lt 77) := by decide +kernel
theorem i92_13 : gm_I cX9_plan 13 = some (.iload_n 0) := by decide +kernel
theorem i92_14 : gm_I cX9_plan 14 = some (.iload 4) := by decide +kernel
theorem i92_16 : gm_I cX9_plan 16 = some (.iushr) := by decide +kernel
theorem i92_17 : gm_I cX9_plan 17 = some (.bipush 127) := by decide +kernel
theorem i92_19 : gm_I cX9_plan 19 = some (.iand) := by decide +kernel
theorem i92_20 : gm_I cX9_plan 20 = some (.istore 5) := by decide +kernel
theorem i92_22 : gm_I cX9_plan 22 = some (.iload 5) := by decide +kernel
theorem i92_24 : gm_I cX9_plan 24 = some (.invokestatic 11) := by decide +kernel
theorem i92_27 : gm_I cX9_plan 27 = some (.ifCond .eq 54) := by decide +kernel
theorem i92_30 : gm_I cX9_plan 30 = some (.iload 5) := by decide +kernel
theorem i92_32 : gm_I cX9_plan 32 = some (.bipush 85) := by decide +kernel
theorem i92_34 : gm_I cX9_plan 34 = some (.isub) := by decide +kernel
theorem i92_35 : gm_I cX9_plan 35 = some (.iconst 1) := by decide +kernel
theorem i92_36 : gm_I cX9_plan 36 = some (.iadd) := by decide +kernel
theorem i92_37 : gm_I cX9_plan 37 = some (.istore 6) := by decide +kernel
theorem i92_39 : gm_I cX9_plan 39 = some (.iconst 1) := by decide +kernel
theorem i92_40 : gm_I cX9_plan 40 = some (.iload 5) := by decide +kernel
theorem i92_42 : gm_I cX9_plan 42 = some (.bipush 85) := by decide +kernel
theorem i92_44 : gm_I cX9_plan 44 = some (.isub) := by decide +kernel
theorem i92_45 : gm_I cX9_plan 45 = some (.ishl) := by decide +kernel
theorem i92_46 : gm_I cX9_plan 46 = some (.istore 7) := by decide +kernel
theorem i92_48 : gm_I cX9_plan 48 = some (.iload_n 2) := by decide +kernel
theorem i92_49 : gm_I cX9_plan 49 = some (.iload_n 3) := by decide +kernel
theorem i92_50 : gm_I cX9_plan 50 = some (.iload 7) := by decide +kernel
theorem i92_52 : gm_I cX9_plan 52 = some (.iand) := by decide +kernel
theorem i92_53 : gm_I cX9_plan 53 = some (.ifCond .eq 8) := by decide +kernel
theorem i92_56 : gm_I cX9_plan 56 = some (.iload 6) := by decide +kernel
theorem i92_58 : gm_I cX9_plan 58 = some (.goto 8) := by decide +kernel
theorem i92_61 : gm_I cX9_plan 61 = some (.iload 6) := by decide +kernel
theorem i92_63 : gm_I cX9_plan 63 = some (.bipush 6) := by decide +kernel
theorem i92_65 : gm_I cX9_plan 65 = some (.iadd) := by decide +kernel
theorem i92_66 : gm_I cX9_plan 66 = some (.iload 5) := by decide +kernel
theorem i92_68 : gm_I cX9_plan 68 = some (.isub) := by decide +kernel
theorem i92_69 : gm_I cX9_plan 69 = some (.iload 4) := by decide +kernel
theorem i92_71 : gm_I cX9_plan 71 = some (.ishl) := by decide +kernel
theorem i92_72 : gm_I cX9_plan 72 = some (.iadd) := by decide +kernel
theorem i92_73 : gm_I cX9_plan 73 = some (.istore_n 2) := by decide +kernel
theorem i92_74 : gm_I cX9_plan 74 = some (.iload_n 3) := by decide +kernel
theorem i92_75 : gm_I cX9_plan 75 = some (.iload 7) := by decide +kernel
theorem i92_77 : gm_I cX9_plan 77 = some (.iconst (-1)) := by decide +kernel
theorem i92_78 : gm_I cX9_plan 78 = some (.ixor) := by decide +kernel
theorem i92_79 : gm_I cX9_plan 79 = some (.iand) := by decide +kernel
theorem i92_80 : gm_I cX9_plan 80 = some (.istore_n 3) := by decide +kernel
theorem i92_81 : gm_I cX9_plan 81 = some (.iinc 4 (-7)) := by decide +kernel
theorem i92_84 : gm_I cX9_plan 84 = some (.goto (-76)) := by decide +kernel
theorem i92_87 : gm_I cX9_plan 87 = some (.iload_n 2) := by decide +kernel
theorem i92_88 : gm_I cX9_plan 88 = some (.ireturn) := by decide +kernel
theorem i93_0 : gm_I cX9_character 0 = some (.iconst 0) := by decide +kernel
theorem i93_1 : gm_I cX9_character 1 = some (.istore_n 2) := by decide +kernel
theorem i93_2 : gm_I cX9_character 2 = some (.bipush 14) := by decide +kernel
theorem i93_4 : gm_I cX9_character 4 = some (.istore_n 3) := by decide +kernel
theorem i93_5 : gm_I cX9_character 5 = some (.iload_n 3) := by decide +kernel
theorem i93_6 : gm_I cX9_character 6 = some (.ifCond .lt 26) := by decide +kernel
theorem i93_9 : gm_I cX9_character 9 = some (.iload_n 2) := by decide +kernel
theorem i93_10 : gm_I cX9_character 10 = some (.iload_n 0) := by decide +kernel
theorem i93_11 : gm_I cX9_character 11 = some (.iload_n 3) := by decide +kernel
theorem i93_12 : gm_I cX9_character 12 = some (.iushr) := by decide +kernel
theorem i93_13 : gm_I cX9_character 13 = some (.bipush 127) := by decide +kernel
theorem i93_15 : gm_I cX9_character 15 = some (.iand) := by decide +kernel
theorem i93_16 : gm_I cX9_character 16 = some (.ifCond .eq 7) := by decide +kernel
theorem i93_19 : gm_I cX9_character 19 = some (.iconst 1) := by decide +kernel
theorem i93_20 : gm_I cX9_character 20 = some (.goto 4) := by decide +kernel
theorem i93_23 : gm_I cX9_character 23 = some (.iconst 0) := by decide +kernel
theorem i93_24 : gm_I cX9_character 24 = some (.iadd) := by decide +kernel
theorem i93_25 : gm_I cX9_character 25 = some (.istore_n 2) := by decide +kernel
theorem i93_26 : gm_I cX9_character 26 = some (.iinc 3 (-7)) := by decide +kernel
theorem i93_29 : gm_I cX9_character 29 = some (.goto (-24)) := by decide +kernel
theorem i93_32 : gm_I cX9_character 32 = some (.iload_n 2) := by decide +kernel
theorem i93_33 : gm_I cX9_character 33 = some (.ifCond .ne 7) := by decide +kernel
theorem i93_36 : gm_I cX9_character 36 = some (.iconst 0) := by decide +kernel
theorem i93_37 : gm_I cX9_character 37 = some (.goto 8) := by decide +kernel
theorem i93_40 : gm_I cX9_character 40 = some (.iconst 2) := by decide +kernel
theorem i93_41 : gm_I cX9_character 41 = some (.iload_n 2) := by decide +kernel
theorem i93_42 : gm_I cX9_character 42 = some (.imul) := by decide +kernel
theorem i93_43 : gm_I cX9_character 43 = some (.iconst 1) := by decide +kernel
theorem i93_44 : gm_I cX9_character 44 = some (.iadd) := by decide +kernel
theorem i93_45 : gm_I cX9_character 45 = some (.istore_n 3) := by decide +kernel
theorem i93_46 : gm_I cX9_character 46 = some (.iload_n 0) := by decide +kernel
theorem i93_47 : gm_I cX9_character 47 = some (.ifCond .eq 12) := by decide +kernel
theorem i93_50 : gm_I cX9_character 50 = some (.iload_n 1) := by decide +kernel
theorem i93_51 : gm_I cX9_character 51 = some (.ifCond .lt 8) := by decide +kernel
theorem i93_54 : gm_I cX9_character 54 = some (.iload_n 1) := by decide +kernel
theorem i93_55 : gm_I cX9_character 55 = some (.iload_n 3) := by decide +kernel
theorem i93_56 : gm_I cX9_character 56 = some (.if_icmp .le 5) := by decide +kernel
theorem i93_59 : gm_I cX9_character 59 = some (.iconst (-1)) := by decide +kernel
theorem i93_60 : gm_I cX9_character 60 = some (.ireturn) := by decide +kernel
theorem i93_61 : gm_I cX9_character 61 = some (.iload_n 1) := by decide +kernel
theorem i93_62 : gm_I cX9_character 62 = some (.iconst 2) := by decide +kernel
theorem i93_63 : gm_I cX9_character 63 = some (.irem) := by decide +kernel
theorem i93_64 : gm_I cX9_character 64 = some (.ifCond .ne 18) := by decide +kernel
theorem i93_67 : gm_I cX9_character 67 = some (.iload_n 0) := by decide +kernel
theorem i93_68 : gm_I cX9_character 68 = some (.bipush 21) := by decide +kernel
theorem i93_70 : gm_I cX9_character 70 = some (.bipush 7) := by decide +kernel
theorem i93_72 : gm_I cX9_character 72 = some (.iload_n 1) := by decide +kernel
theorem i93_73 : gm_I cX9_character 73 = some (.iconst 2) := by decide +kernel
theorem i93_74 : gm_I cX9_character 74 = some (.idiv) := by decide +kernel
theorem i93_75 : gm_I cX9_character 75 = some (.imul) := by decide +kernel
theorem i93_76 : gm_I cX9_character 76 = some (.isub) := by decide +kernel
theorem i93_77 : gm_I cX9_character 77 = some (.iushr) := by decide +kernel
theorem i93_78 : gm_I cX9_character 78 = some (.bipush 127) := by decide +kernel
theorem i93_80 : gm_I cX9_character 80 = some (.iand) := by decide +kernel
theorem i93_81 : gm_I cX9_character 81 = some (.ireturn) := by decide +kernel
theorem i93_82 : gm_I cX9_character 82 = some (.iload_n 1) := by decide +kernel
theorem i93_83 : gm_I cX9_character 83 = some (.iconst 1) := by decide +kernel
theorem i93_84 : gm_I cX9_character 84 = some (.if_icmp .ne 6) := by decide +kernel
theorem i93_87 : gm_I cX9_character 87 = some (.bipush 40) := by decide +kernel
theorem i93_89 : gm_I cX9_character 89 = some (.ireturn) := by decide +kernel
theorem i93_90 : gm_I cX9_character 90 = some (.iload_n 1) := by decide +kernel
theorem i93_91 : gm_I cX9_character 91 = some (.iload_n 3) := by decide +kernel
theorem i93_92 : gm_I cX9_character 92 = some (.if_icmp .ne 8) := by decide +kernel
theorem i93_95 : gm_I cX9_character 95 = some (.bipush 41) := by decide +kernel
theorem i93_97 : gm_I cX9_character 97 = some (.goto 5) := by decide +kernel
theorem i93_100 : gm_I cX9_character 100 = some (.bipush 44) := by decide +kernel
theorem i93_102 : gm_I cX9_character 102 = some (.ireturn) := by decide +kernel
theorem i94_0 : gm_I cX10_init 0 = some (.aload_n 0) := by decide +kernel
theorem i94_1 : gm_I cX10_init 1 = some (.invokespecial 3) := by decide +kernel
theorem i94_4 : gm_I cX10_init 4 = some (.aload_n 0) := by decide +kernel
theorem i94_5 : gm_I cX10_init 5 = some (.iload_n 1) := by decide +kernel
theorem i94_6 : gm_I cX10_init 6 = some (.newarray .int) := by decide +kernel
theorem i94_8 : gm_I cX10_init 8 = some (.putfield 9) := by decide +kernel
theorem i94_11 : gm_I cX10_init 11 = some (.return_) := by decide +kernel
theorem i95_0 : gm_I cX10_at 0 = some (.iload_n 1) := by decide +kernel
theorem i95_1 : gm_I cX10_at 1 = some (.ifCond .lt 20) := by decide +kernel
theorem i95_4 : gm_I cX10_at 4 = some (.iload_n 1) := by decide +kernel
theorem i95_5 : gm_I cX10_at 5 = some (.aload_n 0) := by decide +kernel
theorem i95_6 : gm_I cX10_at 6 = some (.getfield 15) := by decide +kernel
theorem i95_9 : gm_I cX10_at 9 = some (.if_icmp .ge 12) := by decide +kernel
theorem i95_12 : gm_I cX10_at 12 = some (.aload_n 0) := by decide +kernel
theorem i95_13 : gm_I cX10_at 13 = some (.getfield 9) := by decide +kernel
theorem i95_16 : gm_I cX10_at 16 = some (.iload_n 1) := by decide +kernel
theorem i95_17 : gm_I cX10_at 17 = some (.iaload) := by decide +kernel
theorem i95_18 : gm_I cX10_at 18 = some (.goto 4) := by decide +kernel
theorem i95_21 : gm_I cX10_at 21 = some (.iconst 0) := by decide +kernel
theorem i95_22 : gm_I cX10_at 22 = some (.ireturn) := by decide +kernel
theorem i96_0 : gm_I cX10_clear 0 = some (.aload_n 0) := by decide +kernel
theorem i96_1 : gm_I cX10_clear 1 = some (.iconst 0) := by decide +kernel
theorem i96_2 : gm_I cX10_clear 2 = some (.putfield 15) := by decide +kernel
theorem i96_5 : gm_I cX10_clear 5 = some (.return_) := by decide +kernel
theorem i97_0 : gm_I cX10_copy 0 = some (.aload_n 0) := by decide +kernel
theorem i97_1 : gm_I cX10_copy 1 = some (.aload_n 1) := by decide +kernel
theorem i97_2 : gm_I cX10_copy 2 = some (.getfield 15) := by decide +kernel
theorem i97_5 : gm_I cX10_copy 5 = some (.aload_n 0) := by decide +kernel
theorem i97_6 : gm_I cX10_copy 6 = some (.getfield 9) := by decide +kernel
theorem i97_9 : gm_I cX10_copy 9 = some (.arraylength) := by decide +kernel
theorem i97_10 : gm_I cX10_copy 10 = some (.invokestatic 19) := by decide +kernel
theorem i97_13 : gm_I cX10_copy 13 = some (.putfield 15) := by decide +kernel
theorem i97_16 : gm_I cX10_copy 16 = some (.aload_n 1) := by decide +kernel
theorem i97_17 : gm_I cX10_copy 17 = some (.getfield 9) := by decide +kernel
theorem i97_20 : gm_I cX10_copy 20 = some (.iconst 0) := by decide +kernel
theorem i97_21 : gm_I cX10_copy 21 = some (.aload_n 0) := by decide +kernel
theorem i97_22 : gm_I cX10_copy 22 = some (.getfield 9) := by decide +kernel
theorem i97_25 : gm_I cX10_copy 25 = some (.iconst 0) := by decide +kernel
theorem i97_26 : gm_I cX10_copy 26 = some (.aload_n 0) := by decide +kernel
theorem i97_27 : gm_I cX10_copy 27 = some (.getfield 15) := by decide +kernel
theorem i97_30 : gm_I cX10_copy 30 = some (.invokestatic 25) := by decide +kernel
theorem i97_33 : gm_I cX10_copy 33 = some (.return_) := by decide +kernel
theorem i98_0 : gm_I cX10_isSame 0 = some (.aload_n 0) := by decide +kernel
theorem i98_1 : gm_I cX10_isSame 1 = some (.getfield 15) := by decide +kernel
theorem i98_4 : gm_I cX10_isSame 4 = some (.aload_n 1) := by decide +kernel
theorem i98_5 : gm_I cX10_isSame 5 = some (.getfield 15) := by decide +kernel
theorem i98_8 : gm_I cX10_isSame 8 = some (.if_icmp .eq 5) := by decide +kernel
theorem i98_11 : gm_I cX10_isSame 11 = some (.iconst 0) := by decide +kernel
theorem i98_12 : gm_I cX10_isSame 12 = some (.ireturn) := by decide +kernel
theorem i98_13 : gm_I cX10_isSame 13 = some (.iconst 0) := by decide +kernel
theorem i98_14 : gm_I cX10_isSame 14 = some (.istore_n 2) := by decide +kernel
theorem i98_15 : gm_I cX10_isSame 15 = some (.iload_n 2) := by decide +kernel
theorem i98_16 : gm_I cX10_isSame 16 = some (.aload_n 0) := by decide +kernel
theorem i98_17 : gm_I cX10_isSame 17 = some (.getfield 15) := by decide +kernel
theorem i98_20 : gm_I cX10_isSame 20 = some (.if_icmp .ge 26) := by decide +kernel
theorem i98_23 : gm_I cX10_isSame 23 = some (.aload_n 0) := by decide +kernel
theorem i98_24 : gm_I cX10_isSame 24 = some (.getfield 9) := by decide +kernel
theorem i98_27 : gm_I cX10_isSame 27 = some (.iload_n 2) := by decide +kernel
theorem i98_28 : gm_I cX10_isSame 28 = some (.iaload) := by decide +kernel
theorem i98_29 : gm_I cX10_isSame 29 = some (.aload_n 1) := by decide +kernel
theorem i98_30 : gm_I cX10_isSame 30 = some (.getfield 9) := by decide +kernel
theorem i98_33 : gm_I cX10_isSame 33 = some (.iload_n 2) := by decide +kernel
theorem i98_34 : gm_I cX10_isSame 34 = some (.iaload) := by decide +kernel
theorem i98_35 : gm_I cX10_isSame 35 = some (.if_icmp .eq 5) := by decide +kernel
theorem i98_38 : gm_I cX10_isSame 38 = some (.iconst 0) := by decide +kernel
theorem i98_39 : gm_I cX10_isSame 39 = some (.ireturn) := by decide +kernel
theorem i98_40 : gm_I cX10_isSame 40 = some (.iinc 2 1) := by decide +kernel
theorem i98_43 : gm_I cX10_isSame 43 = some (.goto (-28)) := by decide +kernel
theorem i98_46 : gm_I cX10_isSame 46 = some (.iconst 1) := by decide +kernel
theorem i98_47 : gm_I cX10_isSame 47 = some (.ireturn) := by decide +kernel
theorem i99_0 : gm_I cX10_insert 0 = some (.iconst 0) := by decide +kernel
theorem i99_1 : gm_I cX10_insert 1 = some (.istore_n 2) := by decide +kernel
theorem i99_2 : gm_I cX10_insert 2 = some (.aload_n 0) := by decide +kernel
theorem i99_3 : gm_I cX10_insert 3 = some (.getfield 15) := by decide +kernel
theorem i99_6 : gm_I cX10_insert 6 = some (.istore_n 3) := by decide +kernel
theorem i99_7 : gm_I cX10_insert 7 = some (.iload_n 2) := by decide +kernel
theorem i99_8 : gm_I cX10_insert 8 = some (.iload_n 3) := by decide +kernel
theorem i99_9 : gm_I cX10_insert 9 = some (.if_icmp .ge 35) := by decide +kernel
theorem i99_12 : gm_I cX10_insert 12 = some (.iload_n 2) := by decide +kernel
theorem i99_13 : gm_I cX10_insert 13 = some (.iload_n 3) := by decide +kernel
theorem i99_14 : gm_I cX10_insert 14 = some (.iadd) := by decide +kernel
theorem i99_15 : gm_I cX10_insert 15 = some (.iconst 1) := by decide +kernel
theorem i99_16 : gm_I cX10_insert 16 = some (.iushr) := by decide +kernel
theorem i99_17 : gm_I cX10_insert 17 = some (.istore 4) := by decide +kernel
theorem i99_19 : gm_I cX10_insert 19 = some (.aload_n 0) := by decide +kernel
theorem i99_20 : gm_I cX10_insert 20 = some (.getfield 9) := by decide +kernel
theorem i99_23 : gm_I cX10_insert 23 = some (.iload 4) := by decide +kernel
theorem i99_25 : gm_I cX10_insert 25 = some (.iaload) := by decide +kernel
theorem i99_26 : gm_I cX10_insert 26 = some (.iload_n 1) := by decide +kernel
theorem i99_27 : gm_I cX10_insert 27 = some (.if_icmp .ge 11) := by decide +kernel
theorem i99_30 : gm_I cX10_insert 30 = some (.iload 4) := by decide +kernel
theorem i99_32 : gm_I cX10_insert 32 = some (.iconst 1) := by decide +kernel
theorem i99_33 : gm_I cX10_insert 33 = some (.iadd) := by decide +kernel
theorem i99_34 : gm_I cX10_insert 34 = some (.istore_n 2) := by decide +kernel
theorem i99_35 : gm_I cX10_insert 35 = some (.goto 6) := by decide +kernel
theorem i99_38 : gm_I cX10_insert 38 = some (.iload 4) := by decide +kernel
theorem i99_40 : gm_I cX10_insert 40 = some (.istore_n 3) := by decide +kernel
theorem i99_41 : gm_I cX10_insert 41 = some (.goto (-34)) := by decide +kernel
theorem i99_44 : gm_I cX10_insert 44 = some (.iload_n 2) := by decide +kernel
theorem i99_45 : gm_I cX10_insert 45 = some (.aload_n 0) := by decide +kernel
theorem i99_46 : gm_I cX10_insert 46 = some (.getfield 15) := by decide +kernel
theorem i99_49 : gm_I cX10_insert 49 = some (.if_icmp .ge 15) := by decide +kernel
theorem i99_52 : gm_I cX10_insert 52 = some (.aload_n 0) := by decide +kernel
theorem i99_53 : gm_I cX10_insert 53 = some (.getfield 9) := by decide +kernel
theorem i99_56 : gm_I cX10_insert 56 = some (.iload_n 2) := by decide +kernel
theorem i99_57 : gm_I cX10_insert 57 = some (.iaload) := by decide +kernel
theorem i99_58 : gm_I cX10_insert 58 = some (.iload_n 1) := by decide +kernel
theorem i99_59 : gm_I cX10_insert 59 = some (.if_icmp .ne 5) := by decide +kernel
theorem i99_62 : gm_I cX10_insert 62 = some (.iconst 1) := by decide +kernel
theorem i99_63 : gm_I cX10_insert 63 = some (.ireturn) := by decide +kernel
theorem i99_64 : gm_I cX10_insert 64 = some (.aload_n 0) := by decide +kernel
theorem i99_65 : gm_I cX10_insert 65 = some (.getfield 15) := by decide +kernel
theorem i99_68 : gm_I cX10_insert 68 = some (.aload_n 0) := by decide +kernel
theorem i99_69 : gm_I cX10_insert 69 = some (.getfield 9) := by decide +kernel
theorem i99_72 : gm_I cX10_insert 72 = some (.arraylength) := by decide +kernel
theorem i99_73 : gm_I cX10_insert 73 = some (.if_icmp .ne 5) := by decide +kernel
theorem i99_76 : gm_I cX10_insert 76 = some (.iconst 0) := by decide +kernel
theorem i99_77 : gm_I cX10_insert 77 = some (.ireturn) := by decide +kernel
theorem i99_78 : gm_I cX10_insert 78 = some (.aload_n 0) := by decide +kernel
theorem i99_79 : gm_I cX10_insert 79 = some (.getfield 9) := by decide +kernel
theorem i99_82 : gm_I cX10_insert 82 = some (.iload_n 2) := by decide +kernel
theorem i99_83 : gm_I cX10_insert 83 = some (.aload_n 0) := by decide +kernel
theorem i99_84 : gm_I cX10_insert 84 = some (.getfield 9) := by decide +kernel
theorem i99_87 : gm_I cX10_insert 87 = some (.iload_n 2) := by decide +kernel
theorem i99_88 : gm_I cX10_insert 88 = some (.iconst 1) := by decide +kernel
theorem i99_89 : gm_I cX10_insert 89 = some (.iadd) := by decide +kernel
theorem i99_90 : gm_I cX10_insert 90 = some (.aload_n 0) := by decide +kernel
theorem i99_91 : gm_I cX10_insert 91 = some (.getfield 15) := by decide +kernel
theorem i99_94 : gm_I cX10_insert 94 = some (.iload_n 2) := by decide +kernel
theorem i99_95 : gm_I cX10_insert 95 = some (.isub) := by decide +kernel
theorem i99_96 : gm_I cX10_insert 96 = some (.invokestatic 25) := by decide +kernel
theorem i99_99 : gm_I cX10_insert 99 = some (.aload_n 0) := by decide +kernel
theorem i99_100 : gm_I cX10_insert 100 = some (.getfield 9) := by decide +kernel
theorem i99_103 : gm_I cX10_insert 103 = some (.iload_n 2) := by decide +kernel
theorem i99_104 : gm_I cX10_insert 104 = some (.iload_n 1) := by decide +kernel
theorem i99_105 : gm_I cX10_insert 105 = some (.iastore) := by decide +kernel
theorem i99_106 : gm_I cX10_insert 106 = some (.aload_n 0) := by decide +kernel
theorem i99_107 : gm_I cX10_insert 107 = some (.dup) := by decide +kernel
theorem i99_108 : gm_I cX10_insert 108 = some (.getfield 15) := by decide +kernel
theorem i99_111 : gm_I cX10_insert 111 = some (.iconst 1) := by decide +kernel
theorem i99_112 : gm_I cX10_insert 112 = some (.iadd) := by decide +kernel
theorem i99_113 : gm_I cX10_insert 113 = some (.putfield 15) := by decide +kernel
theorem i99_116 : gm_I cX10_insert 116 = some (.iconst 1) := by decide +kernel
theorem i99_117 : gm_I cX10_insert 117 = some (.ireturn) := by decide +kernel
theorem i100_0 : gm_I cX10_collect 0 = some (.aload_n 0) := by decide +kernel
theorem i100_1 : gm_I cX10_collect 1 = some (.iconst 0) := by decide +kernel
theorem i100_2 : gm_I cX10_collect 2 = some (.putfield 15) := by decide +kernel
theorem i100_5 : gm_I cX10_collect 5 = some (.aload_n 1) := by decide +kernel
theorem i100_6 : gm_I cX10_collect 6 = some (.getfield 31) := by decide +kernel
theorem i100_9 : gm_I cX10_collect 9 = some (.iload_n 2) := by decide +kernel
theorem i100_10 : gm_I cX10_collect 10 = some (.iaload) := by decide +kernel
theorem i100_11 : gm_I cX10_collect 11 = some (.istore_n 3) := by decide +kernel
theorem i100_12 : gm_I cX10_collect 12 = some (.iload_n 3) := by decide +kernel
theorem i100_13 : gm_I cX10_collect 13 = some (.ifCond .le 28) := by decide +kernel
theorem i100_16 : gm_I cX10_collect 16 = some (.aload_n 0) := by decide +kernel
theorem i100_17 : gm_I cX10_collect 17 = some (.aload_n 1) := by decide +kernel
theorem i100_18 : gm_I cX10_collect 18 = some (.getfield 36) := by decide +kernel
theorem i100_21 : gm_I cX10_collect 21 = some (.iload_n 3) := by decide +kernel
theorem i100_22 : gm_I cX10_collect 22 = some (.iaload) := by decide +kernel
theorem i100_23 : gm_I cX10_collect 23 = some (.invokevirtual 39) := by decide +kernel
theorem i100_26 : gm_I cX10_collect 26 = some (.ifCond .ne 5) := by decide +kernel
theorem i100_29 : gm_I cX10_collect 29 = some (.iconst 0) := by decide +kernel
theorem i100_30 : gm_I cX10_collect 30 = some (.ireturn) := by decide +kernel
theorem i100_31 : gm_I cX10_collect 31 = some (.aload_n 1) := by decide +kernel
theorem i100_32 : gm_I cX10_collect 32 = some (.getfield 43) := by decide +kernel
theorem i100_35 : gm_I cX10_collect 35 = some (.iload_n 3) := by decide +kernel
theorem i100_36 : gm_I cX10_collect 36 = some (.iaload) := by decide +kernel
theorem i100_37 : gm_I cX10_collect 37 = some (.istore_n 3) := by decide +kernel
theorem i100_38 : gm_I cX10_collect 38 = some (.goto (-26)) := by decide +kernel
theorem i100_41 : gm_I cX10_collect 41 = some (.iconst 1) := by decide +kernel
theorem i100_42 : gm_I cX10_collect 42 = some (.ireturn) := by decide +kernel
theorem i101_0 : gm_I cX10_collectMoves 0 = some (.aload_n 0) := by decide +kernel
theorem i101_1 : gm_I cX10_collectMoves 1 = some (.iconst 0) := by decide +kernel
theorem i101_2 : gm_I cX10_collectMoves 2 = some (.putfield 15) := by decide +kernel
theorem i101_5 : gm_I cX10_collectMoves 5 = some (.aload_n 1) := by decide +kernel
theorem i101_6 : gm_I cX10_collectMoves 6 = some (.getfield 31) := by decide +kernel
theorem i101_9 : gm_I cX10_collectMoves 9 = some (.iconst 5) := by decide +kernel
theorem i101_10 : gm_I cX10_collectMoves 10 = some (.iaload) := by decide +kernel
theorem i101_11 : gm_I cX10_collectMoves 11 = some (.istore_n 3) := by decide +kernel
theorem i101_12 : gm_I cX10_collectMoves 12 = some (.iload_n 3) := by decide +kernel
theorem i101_13 : gm_I cX10_collectMoves 13 = some (.ifCond .le 34) := by decide +kernel
theorem i101_16 : gm_I cX10_collectMoves 16 = some (.aload_n 1) := by decide +kernel
theorem i101_17 : gm_I cX10_collectMoves 17 = some (.getfield 36) := by decide +kernel
theorem i101_20 : gm_I cX10_collectMoves 20 = some (.iload_n 3) := by decide +kernel
theorem i101_21 : gm_I cX10_collectMoves 21 = some (.iaload) := by decide +kernel
theorem i101_22 : gm_I cX10_collectMoves 22 = some (.iload_n 2) := by decide +kernel
theorem i101_23 : gm_I cX10_collectMoves 23 = some (.if_icmp .ne 14) := by decide +kernel
theorem i101_26 : gm_I cX10_collectMoves 26 = some (.aload_n 0) := by decide +kernel
theorem i101_27 : gm_I cX10_collectMoves 27 = some (.aload_n 1) := by decide +kernel
theorem i101_28 : gm_I cX10_collectMoves 28 = some (.getfield 46) := by decide +kernel
theorem i101_31 : gm_I cX10_collectMoves 31 = some (.iload_n 3) := by decide +kernel
theorem i101_32 : gm_I cX10_collectMoves 32 = some (.iaload) := by decide +kernel
theorem i101_33 : gm_I cX10_collectMoves 33 = some (.invokevirtual 39) := by decide +kernel
theorem i101_36 : gm_I cX10_collectMoves 36 = some (.pop) := by decide +kernel
theorem i101_37 : gm_I cX10_collectMoves 37 = some (.aload_n 1) := by decide +kernel
theorem i101_38 : gm_I cX10_collectMoves 38 = some (.getfield 43) := by decide +kernel
theorem i101_41 : gm_I cX10_collectMoves 41 = some (.iload_n 3) := by decide +kernel
theorem i101_42 : gm_I cX10_collectMoves 42 = some (.iaload) := by decide +kernel
theorem i101_43 : gm_I cX10_collectMoves 43 = some (.istore_n 3) := by decide +kernel
theorem i101_44 : gm_I cX10_collectMoves 44 = some (.goto (-32)) := by decide +kernel
theorem i101_47 : gm_I cX10_collectMoves 47 = some (.return_) := by decide +kernel
theorem i102_0 : gm_I cX11_init 0 = some (.aload_n 0) := by decide +kernel
theorem i102_1 : gm_I cX11_init 1 = some (.invokespecial 3) := by decide +kernel
theorem i102_4 : gm_I cX11_init 4 = some (.aload_n 0) := by decide +kernel
theorem i102_5 : gm_I cX11_init 5 = some (.sipush 241) := by decide +kernel
theorem i102_8 : gm_I cX11_init 8 = some (.newarray .char) := by decide +kernel
theorem i102_10 : gm_I cX11_init 10 = some (.putfield 9) := by decide +kernel
theorem i102_13 : gm_I cX11_init 13 = some (.aload_n 0) := by decide +kernel
theorem i102_14 : gm_I cX11_init 14 = some (.new 13) := by decide +kernel
theorem i102_17 : gm_I cX11_init 17 = some (.dup) := by decide +kernel
theorem i102_18 : gm_I cX11_init 18 = some (.invokespecial 15) := by decide +kernel
theorem i102_21 : gm_I cX11_init 21 = some (.putfield 16) := by decide +kernel
theorem i102_24 : gm_I cX11_init 24 = some (.aload_n 0) := by decide +kernel
theorem i102_25 : gm_I cX11_init 25 = some (.new 20) := by decide +kernel
theorem i102_28 : gm_I cX11_init 28 = some (.dup) := by decide +kernel
theorem i102_29 : gm_I cX11_init 29 = some (.invokespecial 22) := by decide +kernel
theorem i102_32 : gm_I cX11_init 32 = some (.putfield 23) := by decide +kernel
theorem i102_35 : gm_I cX11_init 35 = some (.aload_n 0) := by decide +kernel
theorem i102_36 : gm_I cX11_init 36 = some (.new 27) := by decide +kernel
theorem i102_39 : gm_I cX11_init 39 = some (.dup) := by decide +kernel
theorem i102_40 : gm_I cX11_init 40 = some (.invokespecial 29) := by decide +kernel
theorem i102_43 : gm_I cX11_init 43 = some (.putfield 30) := by decide +kernel
theorem i102_46 : gm_I cX11_init 46 = some (.aload_n 0) := by decide +kernel
theorem i102_47 : gm_I cX11_init 47 = some (.iconst 0) := by decide +kernel
theorem i102_48 : gm_I cX11_init 48 = some (.putfield 34) := by decide +kernel
theorem i102_51 : gm_I cX11_init 51 = some (.return_) := by decide +kernel
theorem i103_0 : gm_I cX11_write 0 = some (.iconst 0) := by decide +kernel
theorem i103_1 : gm_I cX11_write 1 = some (.istore_n 3) := by decide +kernel
theorem i103_2 : gm_I cX11_write 2 = some (.bipush 56) := by decide +kernel
theorem i103_4 : gm_I cX11_write 4 = some (.istore 4) := by decide +kernel
theorem i103_6 : gm_I cX11_write 6 = some (.iload 4) := by decide +kernel
theorem i103_8 : gm_I cX11_write 8 = some (.ifCond .lt 54) := by decide +kernel
theorem i103_11 : gm_I cX11_write 11 = some (.lload_n 1) := by decide +kernel
theorem i103_12 : gm_I cX11_write 12 = some (.iload 4) := by decide +kernel
theorem i103_14 : gm_I cX11_write 14 = some (.lushr) := by decide +kernel
theorem i103_15 : gm_I cX11_write 15 = some (.l2i) := by decide +kernel
theorem i103_16 : gm_I cX11_write 16 = some (.sipush 255) := by decide +kernel
theorem i103_19 : gm_I cX11_write 19 = some (.iand) := by decide +kernel
theorem i103_20 : gm_I cX11_write 20 = some (.istore 5) := by decide +kernel
theorem i103_22 : gm_I cX11_write 22 = some (.iload 5) := by decide +kernel
theorem i103_24 : gm_I cX11_write 24 = some (.ifCond .eq 19) := by decide +kernel
theorem i103_27 : gm_I cX11_write 27 = some (.iload 5) := by decide +kernel
theorem i103_29 : gm_I cX11_write 29 = some (.bipush 32) := by decide +kernel
theorem i103_31 : gm_I cX11_write 31 = some (.if_icmp .lt 10) := by decide +kernel
theorem i103_34 : gm_I cX11_write 34 = some (.iload 5) := by decide +kernel
theorem i103_36 : gm_I cX11_write 36 = some (.bipush 126) := by decide +kernel
theorem i103_38 : gm_I cX11_write 38 = some (.if_icmp .le 5) := by decide +kernel
theorem i103_41 : gm_I cX11_write 41 = some (.iconst 0) := by decide +kernel
theorem i103_42 : gm_I cX11_write 42 = some (.ireturn) := by decide +kernel
theorem i103_43 : gm_I cX11_write 43 = some (.iload_n 3) := by decide +kernel
theorem i103_44 : gm_I cX11_write 44 = some (.iload 5) := by decide +kernel
theorem i103_46 : gm_I cX11_write 46 = some (.ifCond .eq 7) := by decide +kernel
theorem i103_49 : gm_I cX11_write 49 = some (.iconst 1) := by decide +kernel
theorem i103_50 : gm_I cX11_write 50 = some (.goto 4) := by decide +kernel
theorem i103_53 : gm_I cX11_write 53 = some (.iconst 0) := by decide +kernel
theorem i103_54 : gm_I cX11_write 54 = some (.iadd) := by decide +kernel
theorem i103_55 : gm_I cX11_write 55 = some (.istore_n 3) := by decide +kernel
theorem i103_56 : gm_I cX11_write 56 = some (.iinc 4 (-8)) := by decide +kernel
theorem i103_59 : gm_I cX11_write 59 = some (.goto (-53)) := by decide +kernel
theorem i103_62 : gm_I cX11_write 62 = some (.aload_n 0) := by decide +kernel
theorem i103_63 : gm_I cX11_write 63 = some (.getfield 34) := by decide +kernel
theorem i103_66 : gm_I cX11_write 66 = some (.iload_n 3) := by decide +kernel
theorem i103_67 : gm_I cX11_write 67 = some (.iadd) := by decide +kernel
theorem i103_68 : gm_I cX11_write 68 = some (.sipush 240) := by decide +kernel
theorem i103_71 : gm_I cX11_write 71 = some (.if_icmp .le 5) := by decide +kernel
theorem i103_74 : gm_I cX11_write 74 = some (.iconst 0) := by decide +kernel
theorem i103_75 : gm_I cX11_write 75 = some (.ireturn) := by decide +kernel
theorem i103_76 : gm_I cX11_write 76 = some (.bipush 56) := by decide +kernel
theorem i103_78 : gm_I cX11_write 78 = some (.istore 4) := by decide +kernel
theorem i103_80 : gm_I cX11_write 80 = some (.iload 4) := by decide +kernel
theorem i103_82 : gm_I cX11_write 82 = some (.ifCond .lt 47) := by decide +kernel
theorem i103_85 : gm_I cX11_write 85 = some (.lload_n 1) := by decide +kernel
theorem i103_86 : gm_I cX11_write 86 = some (.iload 4) := by decide +kernel
theorem i103_88 : gm_I cX11_write 88 = some (.lushr) := by decide +kernel
theorem i103_89 : gm_I cX11_write 89 = some (.l2i) := by decide +kernel
theorem i103_90 : gm_I cX11_write 90 = some (.sipush 255) := by decide +kernel
theorem i103_93 : gm_I cX11_write 93 = some (.iand) := by decide +kernel
theorem i103_94 : gm_I cX11_write 94 = some (.istore 5) := by decide +kernel
theorem i103_96 : gm_I cX11_write 96 = some (.iload 5) := by decide +kernel
theorem i103_98 : gm_I cX11_write 98 = some (.ifCond .eq 25) := by decide +kernel
theorem i103_101 : gm_I cX11_write 101 = some (.aload_n 0) := by decide +kernel
theorem i103_102 : gm_I cX11_write 102 = some (.getfield 9) := by decide +kernel
theorem i103_105 : gm_I cX11_write 105 = some (.aload_n 0) := by decide +kernel
theorem i103_106 : gm_I cX11_write 106 = some (.getfield 34) := by decide +kernel
theorem i103_109 : gm_I cX11_write 109 = some (.iload 5) := by decide +kernel
theorem i103_111 : gm_I cX11_write 111 = some (.i2c) := by decide +kernel
theorem i103_112 : gm_I cX11_write 112 = some (.castore) := by decide +kernel
theorem i103_113 : gm_I cX11_write 113 = some (.aload_n 0) := by decide +kernel
theorem i103_114 : gm_I cX11_write 114 = some (.dup) := by decide +kernel
theorem i103_115 : gm_I cX11_write 115 = some (.getfield 34) := by decide +kernel
theorem i103_118 : gm_I cX11_write 118 = some (.iconst 1) := by decide +kernel
theorem i103_119 : gm_I cX11_write 119 = some (.iadd) := by decide +kernel
theorem i103_120 : gm_I cX11_write 120 = some (.putfield 34) := by decide +kernel
theorem i103_123 : gm_I cX11_write 123 = some (.iinc 4 (-8)) := by decide +kernel
theorem i103_126 : gm_I cX11_write 126 = some (.goto (-46)) := by decide +kernel
theorem i103_129 : gm_I cX11_write 129 = some (.iconst 1) := by decide +kernel
theorem i103_130 : gm_I cX11_write 130 = some (.ireturn) := by decide +kernel
theorem i104_0 : gm_I cX11_wipe 0 = some (.aload_n 0) := by decide +kernel
theorem i104_1 : gm_I cX11_wipe 1 = some (.iconst 0) := by decide +kernel
theorem i104_2 : gm_I cX11_wipe 2 = some (.putfield 34) := by decide +kernel
theorem i104_5 : gm_I cX11_wipe 5 = some (.return_) := by decide +kernel
theorem i105_0 : gm_I cX11_load 0 = some (.aload_n 0) := by decide +kernel
theorem i105_1 : gm_I cX11_load 1 = some (.getfield 34) := by decide +kernel
theorem i105_4 : gm_I cX11_load 4 = some (.istore_n 1) := by decide +kernel
theorem i105_5 : gm_I cX11_load 5 = some (.aload_n 0) := by decide +kernel
theorem i105_6 : gm_I cX11_load 6 = some (.iconst 0) := by decide +kernel
theorem i105_7 : gm_I cX11_load 7 = some (.putfield 34) := by decide +kernel
theorem i105_10 : gm_I cX11_load 10 = some (.aload_n 0) := by decide +kernel
theorem i105_11 : gm_I cX11_load 11 = some (.iconst 0) := by decide +kernel
theorem i105_12 : gm_I cX11_load 12 = some (.putfield 38) := by decide +kernel
theorem i105_15 : gm_I cX11_load 15 = some (.aload_n 0) := by decide +kernel
theorem i105_16 : gm_I cX11_load 16 = some (.iconst 0) := by decide +kernel
theorem i105_17 : gm_I cX11_load 17 = some (.putfield 41) := by decide +kernel
theorem i105_20 : gm_I cX11_load 20 = some (.aload_n 0) := by decide +kernel
theorem i105_21 : gm_I cX11_load 21 = some (.getfield 16) := by decide +kernel
theorem i105_24 : gm_I cX11_load 24 = some (.aload_n 0) := by decide +kernel
theorem i105_25 : gm_I cX11_load 25 = some (.getfield 9) := by decide +kernel
theorem i105_28 : gm_I cX11_load 28 = some (.iload_n 1) := by decide +kernel
theorem i105_29 : gm_I cX11_load 29 = some (.invokevirtual 44) := by decide +kernel
theorem i105_32 : gm_I cX11_load 32 = some (.astore_n 2) := by decide +kernel
theorem i105_33 : gm_I cX11_load 33 = some (.aload_n 2) := by decide +kernel
theorem i105_34 : gm_I cX11_load 34 = some (.ifnonnull 27) := by decide +kernel
theorem i105_37 : gm_I cX11_load 37 = some (.aload_n 0) := by decide +kernel
theorem i105_38 : gm_I cX11_load 38 = some (.iconst 1) := by decide +kernel
theorem i105_39 : gm_I cX11_load 39 = some (.putfield 38) := by decide +kernel
theorem i105_42 : gm_I cX11_load 42 = some (.aload_n 0) := by decide +kernel
theorem i105_43 : gm_I cX11_load 43 = some (.aload_n 0) := by decide +kernel
theorem i105_44 : gm_I cX11_load 44 = some (.getfield 16) := by decide +kernel
theorem i105_47 : gm_I cX11_load 47 = some (.invokevirtual 48) := by decide +kernel
theorem i105_50 : gm_I cX11_load 50 = some (.putfield 41) := by decide +kernel
theorem i105_53 : gm_I cX11_load 53 = some (.new 52) := by decide +kernel
theorem i105_56 : gm_I cX11_load 56 = some (.dup) := by decide +kernel
theorem i105_57 : gm_I cX11_load 57 = some (.invokespecial 54) := by decide +kernel
theorem i105_60 : gm_I cX11_load 60 = some (.athrow) := by decide +kernel
theorem i105_61 : gm_I cX11_load 61 = some (.aload_n 2) := by decide +kernel
theorem i105_62 : gm_I cX11_load 62 = some (.invokevirtual 55) := by decide +kernel
theorem i105_65 : gm_I cX11_load 65 = some (.iconst 2) := by decide +kernel
theorem i105_66 : gm_I cX11_load 66 = some (.istore_n 3) := by decide +kernel
theorem i105_67 : gm_I cX11_load 67 = some (.iload_n 3) := by decide +kernel
theorem i105_68 : gm_I cX11_load 68 = some (.iconst 5) := by decide +kernel
theorem i105_69 : gm_I cX11_load 69 = some (.if_icmp .gt 41) := by decide +kernel
theorem i105_72 : gm_I cX11_load 72 = some (.aload_n 2) := by decide +kernel
theorem i105_73 : gm_I cX11_load 73 = some (.iload_n 3) := by decide +kernel
theorem i105_74 : gm_I cX11_load 74 = some (.invokevirtual 60) := by decide +kernel
theorem i105_77 : gm_I cX11_load 77 = some (.istore 4) := by decide +kernel
theorem i105_79 : gm_I cX11_load 79 = some (.iload 4) := by decide +kernel
theorem i105_81 : gm_I cX11_load 81 = some (.iconst (-1)) := by decide +kernel
theorem i105_82 : gm_I cX11_load 82 = some (.if_icmp .eq 22) := by decide +kernel
theorem i105_85 : gm_I cX11_load 85 = some (.aload_n 0) := by decide +kernel
theorem i105_86 : gm_I cX11_load 86 = some (.iload_n 3) := by decide +kernel
theorem i105_87 : gm_I cX11_load 87 = some (.putfield 38) := by decide +kernel
theorem i105_90 : gm_I cX11_load 90 = some (.aload_n 0) := by decide +kernel
theorem i105_91 : gm_I cX11_load 91 = some (.iload 4) := by decide +kernel
theorem i105_93 : gm_I cX11_load 93 = some (.putfield 41) := by decide +kernel
theorem i105_96 : gm_I cX11_load 96 = some (.new 64) := by decide +kernel
theorem i105_99 : gm_I cX11_load 99 = some (.dup) := by decide +kernel
theorem i105_100 : gm_I cX11_load 100 = some (.invokespecial 66) := by decide +kernel
theorem i105_103 : gm_I cX11_load 103 = some (.athrow) := by decide +kernel
theorem i105_104 : gm_I cX11_load 104 = some (.iinc 3 1) := by decide +kernel
theorem i105_107 : gm_I cX11_load 107 = some (.goto (-40)) := by decide +kernel
theorem i105_110 : gm_I cX11_load 110 = some (.aload_n 0) := by decide +kernel
theorem i105_111 : gm_I cX11_load 111 = some (.getfield 23) := by decide +kernel
theorem i105_114 : gm_I cX11_load 114 = some (.new 67) := by decide +kernel
theorem i105_117 : gm_I cX11_load 117 = some (.dup) := by decide +kernel
theorem i105_118 : gm_I cX11_load 118 = some (.aload_n 2) := by decide +kernel
theorem i105_119 : gm_I cX11_load 119 = some (.invokespecial 69) := by decide +kernel
theorem i105_122 : gm_I cX11_load 122 = some (.invokevirtual 72) := by decide +kernel
theorem i105_125 : gm_I cX11_load 125 = some (.ifCond .ne 11) := by decide +kernel
theorem i105_128 : gm_I cX11_load 128 = some (.new 76) := by decide +kernel
theorem i105_131 : gm_I cX11_load 131 = some (.dup) := by decide +kernel
theorem i105_132 : gm_I cX11_load 132 = some (.invokespecial 78) := by decide +kernel
theorem i105_135 : gm_I cX11_load 135 = some (.athrow) := by decide +kernel
theorem i105_136 : gm_I cX11_load 136 = some (.aload_n 0) := by decide +kernel
theorem i105_137 : gm_I cX11_load 137 = some (.getfield 30) := by decide +kernel
theorem i105_140 : gm_I cX11_load 140 = some (.invokevirtual 79) := by decide +kernel
theorem i105_143 : gm_I cX11_load 143 = some (.aload_n 2) := by decide +kernel
theorem i105_144 : gm_I cX11_load 144 = some (.getfield 82) := by decide +kernel
theorem i105_147 : gm_I cX11_load 147 = some (.ireturn) := by decide +kernel
theorem i106_0 : gm_I cX11_fault 0 = some (.iload_n 1) := by decide +kernel
theorem i106_1 : gm_I cX11_fault 1 = some (.lookupswitch 37 #[(0, 27), (1, 32)]) := by decide +kernel
theorem i106_28 : gm_I cX11_fault 28 = some (.aload_n 0) := by decide +kernel
theorem i106_29 : gm_I cX11_fault 29 = some (.getfield 38) := by decide +kernel
theorem i106_32 : gm_I cX11_fault 32 = some (.ireturn) := by decide +kernel
theorem i106_33 : gm_I cX11_fault 33 = some (.aload_n 0) := by decide +kernel
theorem i106_34 : gm_I cX11_fault 34 = some (.getfield 41) := by decide +kernel
theorem i106_37 : gm_I cX11_fault 37 = some (.ireturn) := by decide +kernel
theorem i106_38 : gm_I cX11_fault 38 = some (.iconst (-1)) := by decide +kernel
theorem i106_39 : gm_I cX11_fault 39 = some (.ireturn) := by decide +kernel
theorem i107_0 : gm_I cX11_many 0 = some (.iload_n 1) := by decide +kernel
theorem i107_1 : gm_I cX11_many 1 = some (.tableswitch 57 0 2 #[27, 38, 49]) := by decide +kernel
theorem i107_28 : gm_I cX11_many 28 = some (.aload_n 0) := by decide +kernel
theorem i107_29 : gm_I cX11_many 29 = some (.getfield 23) := by decide +kernel
theorem i107_32 : gm_I cX11_many 32 = some (.getfield 85) := by decide +kernel
theorem i107_35 : gm_I cX11_many 35 = some (.getfield 89) := by decide +kernel
theorem i107_38 : gm_I cX11_many 38 = some (.ireturn) := by decide +kernel
theorem i107_39 : gm_I cX11_many 39 = some (.aload_n 0) := by decide +kernel
theorem i107_40 : gm_I cX11_many 40 = some (.getfield 23) := by decide +kernel
theorem i107_43 : gm_I cX11_many 43 = some (.getfield 92) := by decide +kernel
theorem i107_46 : gm_I cX11_many 46 = some (.getfield 89) := by decide +kernel
theorem i107_49 : gm_I cX11_many 49 = some (.ireturn) := by decide +kernel
theorem i107_50 : gm_I cX11_many 50 = some (.aload_n 0) := by decide +kernel
theorem i107_51 : gm_I cX11_many 51 = some (.getfield 30) := by decide +kernel
theorem i107_54 : gm_I cX11_many 54 = some (.getfield 95) := by decide +kernel
theorem i107_57 : gm_I cX11_many 57 = some (.ireturn) := by decide +kernel
theorem i107_58 : gm_I cX11_many 58 = some (.iconst (-1)) := by decide +kernel
theorem i107_59 : gm_I cX11_many 59 = some (.ireturn) := by decide +kernel
theorem i108_0 : gm_I cX11_facts 0 = some (.iload_n 1) := by decide +kernel
theorem i108_1 : gm_I cX11_facts 1 = some (.iload_n 2) := by decide +kernel
theorem i108_2 : gm_I cX11_facts 2 = some (.invokestatic 98) := by decide +kernel
theorem i108_5 : gm_I cX11_facts 5 = some (.istore_n 3) := by decide +kernel
theorem i108_6 : gm_I cX11_facts 6 = some (.aload_n 0) := by decide +kernel
theorem i108_7 : gm_I cX11_facts 7 = some (.getfield 23) := by decide +kernel
theorem i108_10 : gm_I cX11_facts 10 = some (.invokevirtual 104) := by decide +kernel
theorem i108_13 : gm_I cX11_facts 13 = some (.ifCond .ne 8) := by decide +kernel
theorem i108_16 : gm_I cX11_facts 16 = some (.iload_n 3) := by decide +kernel
theorem i108_17 : gm_I cX11_facts 17 = some (.iconst (-1)) := by decide +kernel
theorem i108_18 : gm_I cX11_facts 18 = some (.if_icmp .ne 7) := by decide +kernel
theorem i108_21 : gm_I cX11_facts 21 = some (.iconst 0) := by decide +kernel
theorem i108_22 : gm_I cX11_facts 22 = some (.goto 18) := by decide +kernel
theorem i108_25 : gm_I cX11_facts 25 = some (.aload_n 0) := by decide +kernel
theorem i108_26 : gm_I cX11_facts 26 = some (.getfield 23) := by decide +kernel
theorem i108_29 : gm_I cX11_facts 29 = some (.getfield 108) := by decide +kernel
theorem i108_32 : gm_I cX11_facts 32 = some (.getfield 112) := by decide +kernel
theorem i108_35 : gm_I cX11_facts 35 = some (.getfield 118) := by decide +kernel
theorem i108_38 : gm_I cX11_facts 38 = some (.iload_n 3) := by decide +kernel
theorem i108_39 : gm_I cX11_facts 39 = some (.iaload) := by decide +kernel
theorem i108_40 : gm_I cX11_facts 40 = some (.ireturn) := by decide +kernel
theorem i109_0 : gm_I cX11_moves 0 = some (.aload_n 0) := by decide +kernel
theorem i109_1 : gm_I cX11_moves 1 = some (.getfield 23) := by decide +kernel
theorem i109_4 : gm_I cX11_moves 4 = some (.iload_n 1) := by decide +kernel
theorem i109_5 : gm_I cX11_moves 5 = some (.invokevirtual 124) := by decide +kernel
theorem i109_8 : gm_I cX11_moves 8 = some (.ifCond .eq 17) := by decide +kernel
theorem i109_11 : gm_I cX11_moves 11 = some (.aload_n 0) := by decide +kernel
theorem i109_12 : gm_I cX11_moves 12 = some (.getfield 23) := by decide +kernel
theorem i109_15 : gm_I cX11_moves 15 = some (.iload_n 1) := by decide +kernel
theorem i109_16 : gm_I cX11_moves 16 = some (.invokevirtual 128) := by decide +kernel
theorem i109_19 : gm_I cX11_moves 19 = some (.getfield 89) := by decide +kernel
theorem i109_22 : gm_I cX11_moves 22 = some (.goto 4) := by decide +kernel
theorem i109_25 : gm_I cX11_moves 25 = some (.iconst (-1)) := by decide +kernel
theorem i109_26 : gm_I cX11_moves 26 = some (.ireturn) := by decide +kernel
theorem i110_0 : gm_I cX11_over 0 = some (.aload_n 0) := by decide +kernel
theorem i110_1 : gm_I cX11_over 1 = some (.getfield 23) := by decide +kernel
theorem i110_4 : gm_I cX11_over 4 = some (.invokevirtual 104) := by decide +kernel
theorem i110_7 : gm_I cX11_over 7 = some (.ifCond .eq 5) := by decide +kernel
theorem i110_10 : gm_I cX11_over 10 = some (.iconst (-1)) := by decide +kernel
theorem i110_11 : gm_I cX11_over 11 = some (.ireturn) := by decide +kernel
theorem i110_12 : gm_I cX11_over 12 = some (.aload_n 0) := by decide +kernel
theorem i110_13 : gm_I cX11_over 13 = some (.getfield 23) := by decide +kernel
theorem i110_16 : gm_I cX11_over 16 = some (.getfield 132) := by decide +kernel
theorem i110_19 : gm_I cX11_over 19 = some (.ifCond .eq 7) := by decide +kernel
theorem i110_22 : gm_I cX11_over 22 = some (.iconst 1) := by decide +kernel
theorem i110_23 : gm_I cX11_over 23 = some (.goto 4) := by decide +kernel
theorem i110_26 : gm_I cX11_over 26 = some (.iconst 0) := by decide +kernel
theorem i110_27 : gm_I cX11_over 27 = some (.ireturn) := by decide +kernel
theorem i111_0 : gm_I cX11_goal 0 = some (.aload_n 0) := by decide +kernel
theorem i111_1 : gm_I cX11_goal 1 = some (.getfield 23) := by decide +kernel
theorem i111_4 : gm_I cX11_goal 4 = some (.iload_n 1) := by decide +kernel
theorem i111_5 : gm_I cX11_goal 5 = some (.invokevirtual 124) := by decide +kernel
theorem i111_8 : gm_I cX11_goal 8 = some (.ifCond .eq 14) := by decide +kernel
theorem i111_11 : gm_I cX11_goal 11 = some (.aload_n 0) := by decide +kernel
theorem i111_12 : gm_I cX11_goal 12 = some (.getfield 23) := by decide +kernel
theorem i111_15 : gm_I cX11_goal 15 = some (.iload_n 1) := by decide +kernel
theorem i111_16 : gm_I cX11_goal 16 = some (.invokevirtual 136) := by decide +kernel
theorem i111_19 : gm_I cX11_goal 19 = some (.goto 4) := by decide +kernel
theorem i111_22 : gm_I cX11_goal 22 = some (.iconst (-1)) := by decide +kernel
theorem i111_23 : gm_I cX11_goal 23 = some (.ireturn) := by decide +kernel
theorem i112_0 : gm_I cX11_letter 0 = some (.iload_n 1) := by decide +kernel
theorem i112_1 : gm_I cX11_letter 1 = some (.tableswitch 82 0 3 #[31, 47, 63, 63]) := by decide +kernel
theorem i112_32 : gm_I cX11_letter 32 = some (.aload_n 0) := by decide +kernel
theorem i112_33 : gm_I cX11_letter 33 = some (.getfield 23) := by decide +kernel
theorem i112_36 : gm_I cX11_letter 36 = some (.getfield 85) := by decide +kernel
theorem i112_39 : gm_I cX11_letter 39 = some (.iload_n 2) := by decide +kernel
theorem i112_40 : gm_I cX11_letter 40 = some (.invokevirtual 139) := by decide +kernel
theorem i112_43 : gm_I cX11_letter 43 = some (.iload_n 3) := by decide +kernel
theorem i112_44 : gm_I cX11_letter 44 = some (.invokestatic 142) := by decide +kernel
theorem i112_47 : gm_I cX11_letter 47 = some (.ireturn) := by decide +kernel
theorem i112_48 : gm_I cX11_letter 48 = some (.aload_n 0) := by decide +kernel
theorem i112_49 : gm_I cX11_letter 49 = some (.getfield 23) := by decide +kernel
theorem i112_52 : gm_I cX11_letter 52 = some (.getfield 92) := by decide +kernel
theorem i112_55 : gm_I cX11_letter 55 = some (.iload_n 2) := by decide +kernel
theorem i112_56 : gm_I cX11_letter 56 = some (.invokevirtual 139) := by decide +kernel
theorem i112_59 : gm_I cX11_letter 59 = some (.iload_n 3) := by decide +kernel
theorem i112_60 : gm_I cX11_letter 60 = some (.invokestatic 142) := by decide +kernel
theorem i112_63 : gm_I cX11_letter 63 = some (.ireturn) := by decide +kernel
theorem i112_64 : gm_I cX11_letter 64 = some (.aload_n 0) := by decide +kernel
theorem i112_65 : gm_I cX11_letter 65 = some (.getfield 23) := by decide +kernel
theorem i112_68 : gm_I cX11_letter 68 = some (.iload_n 1) := by decide +kernel
theorem i112_69 : gm_I cX11_letter 69 = some (.iconst 2) := by decide +kernel
theorem i112_70 : gm_I cX11_letter 70 = some (.isub) := by decide +kernel
theorem i112_71 : gm_I cX11_letter 71 = some (.invokevirtual 128) := by decide +kernel
theorem i112_74 : gm_I cX11_letter 74 = some (.iload_n 2) := by decide +kernel
theorem i112_75 : gm_I cX11_letter 75 = some (.invokevirtual 139) := by decide +kernel
theorem i112_78 : gm_I cX11_letter 78 = some (.iload_n 3) := by decide +kernel
theorem i112_79 : gm_I cX11_letter 79 = some (.invokestatic 142) := by decide +kernel
theorem i112_82 : gm_I cX11_letter 82 = some (.ireturn) := by decide +kernel
theorem i112_83 : gm_I cX11_letter 83 = some (.iconst (-1)) := by decide +kernel
theorem i112_84 : gm_I cX11_letter 84 = some (.ireturn) := by decide +kernel
theorem i113_0 : gm_I cX11_play 0 = some (.aload_n 0) := by decide +kernel
theorem i113_1 : gm_I cX11_play 1 = some (.getfield 23) := by decide +kernel
theorem i113_4 : gm_I cX11_play 4 = some (.invokevirtual 104) := by decide +kernel
theorem i113_7 : gm_I cX11_play 7 = some (.ifCond .ne 27) := by decide +kernel
theorem i113_10 : gm_I cX11_play 10 = some (.aload_n 0) := by decide +kernel
theorem i113_11 : gm_I cX11_play 11 = some (.getfield 23) := by decide +kernel
theorem i113_14 : gm_I cX11_play 14 = some (.getfield 85) := by decide +kernel
theorem i113_17 : gm_I cX11_play 17 = some (.getfield 89) := by decide +kernel
theorem i113_20 : gm_I cX11_play 20 = some (.iconst 2) := by decide +kernel
theorem i113_21 : gm_I cX11_play 21 = some (.if_icmp .ne 13) := by decide +kernel
theorem i113_24 : gm_I cX11_play 24 = some (.aload_n 0) := by decide +kernel
theorem i113_25 : gm_I cX11_play 25 = some (.getfield 23) := by decide +kernel
theorem i113_28 : gm_I cX11_play 28 = some (.getfield 132) := by decide +kernel
theorem i113_31 : gm_I cX11_play 31 = some (.ifCond .eq 11) := by decide +kernel
theorem i113_34 : gm_I cX11_play 34 = some (.new 76) := by decide +kernel
theorem i113_37 : gm_I cX11_play 37 = some (.dup) := by decide +kernel
theorem i113_38 : gm_I cX11_play 38 = some (.invokespecial 78) := by decide +kernel
theorem i113_41 : gm_I cX11_play 41 = some (.athrow) := by decide +kernel
theorem i113_42 : gm_I cX11_play 42 = some (.aload_n 0) := by decide +kernel
theorem i113_43 : gm_I cX11_play 43 = some (.getfield 23) := by decide +kernel
theorem i113_46 : gm_I cX11_play 46 = some (.iconst 0) := by decide +kernel
theorem i113_47 : gm_I cX11_play 47 = some (.invokevirtual 128) := by decide +kernel
theorem i113_50 : gm_I cX11_play 50 = some (.iload_n 1) := by decide +kernel
theorem i113_51 : gm_I cX11_play 51 = some (.invokevirtual 139) := by decide +kernel
theorem i113_54 : gm_I cX11_play 54 = some (.ifCond .eq 18) := by decide +kernel
theorem i113_57 : gm_I cX11_play 57 = some (.aload_n 0) := by decide +kernel
theorem i113_58 : gm_I cX11_play 58 = some (.getfield 23) := by decide +kernel
theorem i113_61 : gm_I cX11_play 61 = some (.iconst 1) := by decide +kernel
theorem i113_62 : gm_I cX11_play 62 = some (.invokevirtual 128) := by decide +kernel
theorem i113_65 : gm_I cX11_play 65 = some (.iload_n 2) := by decide +kernel
theorem i113_66 : gm_I cX11_play 66 = some (.invokevirtual 139) := by decide +kernel
theorem i113_69 : gm_I cX11_play 69 = some (.ifCond .ne 11) := by decide +kernel
theorem i113_72 : gm_I cX11_play 72 = some (.new 148) := by decide +kernel
theorem i113_75 : gm_I cX11_play 75 = some (.dup) := by decide +kernel
theorem i113_76 : gm_I cX11_play 76 = some (.invokespecial 150) := by decide +kernel
theorem i113_79 : gm_I cX11_play 79 = some (.athrow) := by decide +kernel
theorem i113_80 : gm_I cX11_play 80 = some (.aload_n 0) := by decide +kernel
theorem i113_81 : gm_I cX11_play 81 = some (.getfield 23) := by decide +kernel
theorem i113_84 : gm_I cX11_play 84 = some (.iload_n 1) := by decide +kernel
theorem i113_85 : gm_I cX11_play 85 = some (.iload_n 2) := by decide +kernel
theorem i113_86 : gm_I cX11_play 86 = some (.invokevirtual 151) := by decide +kernel
theorem i113_89 : gm_I cX11_play 89 = some (.ifCond .ne 11) := by decide +kernel
theorem i113_92 : gm_I cX11_play 92 = some (.new 76) := by decide +kernel
theorem i113_95 : gm_I cX11_play 95 = some (.dup) := by decide +kernel
theorem i113_96 : gm_I cX11_play 96 = some (.invokespecial 78) := by decide +kernel
theorem i113_99 : gm_I cX11_play 99 = some (.athrow) := by decide +kernel
theorem i113_100 : gm_I cX11_play 100 = some (.aload_n 0) := by decide +kernel
theorem i113_101 : gm_I cX11_play 101 = some (.getfield 23) := by decide +kernel
theorem i113_104 : gm_I cX11_play 104 = some (.getfield 92) := by decide +kernel
theorem i113_107 : gm_I cX11_play 107 = some (.getfield 89) := by decide +kernel
theorem i113_110 : gm_I cX11_play 110 = some (.ireturn) := by decide +kernel
theorem i114_0 : gm_I cX11_restart 0 = some (.aload_n 0) := by decide +kernel
theorem i114_1 : gm_I cX11_restart 1 = some (.getfield 23) := by decide +kernel
theorem i114_4 : gm_I cX11_restart 4 = some (.invokevirtual 104) := by decide +kernel
theorem i114_7 : gm_I cX11_restart 7 = some (.ifCond .eq 5) := by decide +kernel
theorem i114_10 : gm_I cX11_restart 10 = some (.iconst 0) := by decide +kernel
theorem i114_11 : gm_I cX11_restart 11 = some (.ireturn) := by decide +kernel
theorem i114_12 : gm_I cX11_restart 12 = some (.aload_n 0) := by decide +kernel
theorem i114_13 : gm_I cX11_restart 13 = some (.getfield 23) := by decide +kernel
theorem i114_16 : gm_I cX11_restart 16 = some (.invokevirtual 155) := by decide +kernel
theorem i114_19 : gm_I cX11_restart 19 = some (.iconst 1) := by decide +kernel
theorem i114_20 : gm_I cX11_restart 20 = some (.ireturn) := by decide +kernel
theorem i115_0 : gm_I cX11_audit 0 = some (.aload_n 0) := by decide +kernel
theorem i115_1 : gm_I cX11_audit 1 = some (.getfield 23) := by decide +kernel
theorem i115_4 : gm_I cX11_audit 4 = some (.invokevirtual 104) := by decide +kernel
theorem i115_7 : gm_I cX11_audit 7 = some (.ifCond .eq 11) := by decide +kernel
theorem i115_10 : gm_I cX11_audit 10 = some (.new 76) := by decide +kernel
theorem i115_13 : gm_I cX11_audit 13 = some (.dup) := by decide +kernel
theorem i115_14 : gm_I cX11_audit 14 = some (.invokespecial 78) := by decide +kernel
theorem i115_17 : gm_I cX11_audit 17 = some (.athrow) := by decide +kernel
theorem i115_18 : gm_I cX11_audit 18 = some (.aload_n 0) := by decide +kernel
theorem i115_19 : gm_I cX11_audit 19 = some (.getfield 30) := by decide +kernel
