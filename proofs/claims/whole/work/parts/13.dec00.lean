theorem d_Chan_init_0 : decode b_Chan_init 0 = .ok (.aload_n 0, 1) := by decide +kernel
theorem d_Chan_init_1 : decode b_Chan_init 1 = .ok (.invokespecial 1, 3) := by decide +kernel
theorem d_Chan_init_4 : decode b_Chan_init 4 = .ok (.aload_n 0, 1) := by decide +kernel
theorem d_Chan_init_5 : decode b_Chan_init 5 = .ok (.new 7, 3) := by decide +kernel
theorem d_Chan_init_8 : decode b_Chan_init 8 = .ok (.dup, 1) := by decide +kernel
theorem d_Chan_init_9 : decode b_Chan_init 9 = .ok (.invokespecial 9, 3) := by decide +kernel
theorem d_Chan_init_12 : decode b_Chan_init 12 = .ok (.putfield 10, 3) := by decide +kernel
theorem d_Chan_init_15 : decode b_Chan_init 15 = .ok (.aload_n 0, 1) := by decide +kernel
theorem d_Chan_init_16 : decode b_Chan_init 16 = .ok (.new 16, 3) := by decide +kernel
theorem d_Chan_init_19 : decode b_Chan_init 19 = .ok (.dup, 1) := by decide +kernel
theorem d_Chan_init_20 : decode b_Chan_init 20 = .ok (.aload_n 0, 1) := by decide +kernel
theorem d_Chan_init_21 : decode b_Chan_init 21 = .ok (.getfield 10, 3) := by decide +kernel
theorem d_Chan_init_24 : decode b_Chan_init 24 = .ok (.invokespecial 18, 3) := by decide +kernel
theorem d_Chan_init_27 : decode b_Chan_init 27 = .ok (.putfield 21, 3) := by decide +kernel
theorem d_Chan_init_30 : decode b_Chan_init 30 = .ok (.aload_n 0, 1) := by decide +kernel
theorem d_Chan_init_31 : decode b_Chan_init 31 = .ok (.new 25, 3) := by decide +kernel
theorem d_Chan_init_34 : decode b_Chan_init 34 = .ok (.dup, 1) := by decide +kernel
theorem d_Chan_init_35 : decode b_Chan_init 35 = .ok (.invokespecial 27, 3) := by decide +kernel
theorem d_Chan_init_38 : decode b_Chan_init 38 = .ok (.putfield 28, 3) := by decide +kernel
theorem d_Chan_init_41 : decode b_Chan_init 41 = .ok (.aload_n 0, 1) := by decide +kernel
theorem d_Chan_init_42 : decode b_Chan_init 42 = .ok (.new 32, 3) := by decide +kernel
theorem d_Chan_init_45 : decode b_Chan_init 45 = .ok (.dup, 1) := by decide +kernel
theorem d_Chan_init_46 : decode b_Chan_init 46 = .ok (.invokespecial 34, 3) := by decide +kernel
theorem d_Chan_init_49 : decode b_Chan_init 49 = .ok (.putfield 35, 3) := by decide +kernel
theorem d_Chan_init_52 : decode b_Chan_init 52 = .ok (.aload_n 0, 1) := by decide +kernel
theorem d_Chan_init_53 : decode b_Chan_init 53 = .ok (.new 39, 3) := by decide +kernel
theorem d_Chan_init_56 : decode b_Chan_init 56 = .ok (.dup, 1) := by decide +kernel
theorem d_Chan_init_57 : decode b_Chan_init 57 = .ok (.invokespecial 41, 3) := by decide +kernel
theorem d_Chan_init_60 : decode b_Chan_init 60 = .ok (.putfield 42, 3) := by decide +kernel
theorem d_Chan_init_63 : decode b_Chan_init 63 = .ok (.aload_n 0, 1) := by decide +kernel
theorem d_Chan_init_64 : decode b_Chan_init 64 = .ok (.new 46, 3) := by decide +kernel
theorem d_Chan_init_67 : decode b_Chan_init 67 = .ok (.dup, 1) := by decide +kernel
theorem d_Chan_init_68 : decode b_Chan_init 68 = .ok (.invokespecial 48, 3) := by decide +kernel
theorem d_Chan_init_71 : decode b_Chan_init 71 = .ok (.putfield 49, 3) := by decide +kernel
theorem d_Chan_init_74 : decode b_Chan_init 74 = .ok (.aload_n 0, 1) := by decide +kernel
theorem d_Chan_init_75 : decode b_Chan_init 75 = .ok (.new 53, 3) := by decide +kernel
theorem d_Chan_init_78 : decode b_Chan_init 78 = .ok (.dup, 1) := by decide +kernel
theorem d_Chan_init_79 : decode b_Chan_init 79 = .ok (.aload_n 0, 1) := by decide +kernel
theorem d_Chan_init_80 : decode b_Chan_init 80 = .ok (.getfield 28, 3) := by decide +kernel
theorem d_Chan_init_83 : decode b_Chan_init 83 = .ok (.aload_n 0, 1) := by decide +kernel
theorem d_Chan_init_84 : decode b_Chan_init 84 = .ok (.getfield 35, 3) := by decide +kernel
theorem d_Chan_init_87 : decode b_Chan_init 87 = .ok (.aload_n 0, 1) := by decide +kernel
theorem d_Chan_init_88 : decode b_Chan_init 88 = .ok (.getfield 42, 3) := by decide +kernel
theorem d_Chan_init_91 : decode b_Chan_init 91 = .ok (.aload_n 0, 1) := by decide +kernel
theorem d_Chan_init_92 : decode b_Chan_init 92 = .ok (.getfield 49, 3) := by decide +kernel
theorem d_Chan_init_95 : decode b_Chan_init 95 = .ok (.invokespecial 55, 3) := by decide +kernel
theorem d_Chan_init_98 : decode b_Chan_init 98 = .ok (.putfield 58, 3) := by decide +kernel
theorem d_Chan_init_101 : decode b_Chan_init 101 = .ok (.aload_n 0, 1) := by decide +kernel
theorem d_Chan_init_102 : decode b_Chan_init 102 = .ok (.new 62, 3) := by decide +kernel
theorem d_Chan_init_105 : decode b_Chan_init 105 = .ok (.dup, 1) := by decide +kernel
theorem d_Chan_init_106 : decode b_Chan_init 106 = .ok (.aload_n 0, 1) := by decide +kernel
theorem d_Chan_init_107 : decode b_Chan_init 107 = .ok (.getfield 28, 3) := by decide +kernel
theorem d_Chan_init_110 : decode b_Chan_init 110 = .ok (.invokespecial 64, 3) := by decide +kernel
theorem d_Chan_init_113 : decode b_Chan_init 113 = .ok (.putfield 67, 3) := by decide +kernel
theorem d_Chan_init_116 : decode b_Chan_init 116 = .ok (.aload_n 0, 1) := by decide +kernel
theorem d_Chan_init_117 : decode b_Chan_init 117 = .ok (.new 71, 3) := by decide +kernel
theorem d_Chan_init_120 : decode b_Chan_init 120 = .ok (.dup, 1) := by decide +kernel
theorem d_Chan_init_121 : decode b_Chan_init 121 = .ok (.invokespecial 73, 3) := by decide +kernel
theorem d_Chan_init_124 : decode b_Chan_init 124 = .ok (.putfield 74, 3) := by decide +kernel
theorem d_Chan_init_127 : decode b_Chan_init 127 = .ok (.aload_n 0, 1) := by decide +kernel
theorem d_Chan_init_128 : decode b_Chan_init 128 = .ok (.bipush 48, 2) := by decide +kernel
theorem d_Chan_init_130 : decode b_Chan_init 130 = .ok (.newarray .int, 2) := by decide +kernel
theorem d_Chan_init_132 : decode b_Chan_init 132 = .ok (.putfield 78, 3) := by decide +kernel
theorem d_Chan_init_135 : decode b_Chan_init 135 = .ok (.aload_n 0, 1) := by decide +kernel
theorem d_Chan_init_136 : decode b_Chan_init 136 = .ok (.iconst (-1), 1) := by decide +kernel
theorem d_Chan_init_137 : decode b_Chan_init 137 = .ok (.putfield 82, 3) := by decide +kernel
theorem d_Chan_init_140 : decode b_Chan_init 140 = .ok (.return_, 1) := by decide +kernel
theorem d_Tape_init_0 : decode b_Tape_init 0 = .ok (.aload_n 0, 1) := by decide +kernel
theorem d_Tape_init_1 : decode b_Tape_init 1 = .ok (.invokespecial 3, 3) := by decide +kernel
theorem d_Tape_init_4 : decode b_Tape_init 4 = .ok (.aload_n 0, 1) := by decide +kernel
theorem d_Tape_init_5 : decode b_Tape_init 5 = .ok (.sipush 400, 3) := by decide +kernel
theorem d_Tape_init_8 : decode b_Tape_init 8 = .ok (.newarray .int, 2) := by decide +kernel
theorem d_Tape_init_10 : decode b_Tape_init 10 = .ok (.putfield 9, 3) := by decide +kernel
theorem d_Tape_init_13 : decode b_Tape_init 13 = .ok (.return_, 1) := by decide +kernel
theorem d_RuleReader_init_0 : decode b_RuleReader_init 0 = .ok (.aload_n 0, 1) := by decide +kernel
theorem d_RuleReader_init_1 : decode b_RuleReader_init 1 = .ok (.invokespecial 3, 3) := by decide +kernel
theorem d_RuleReader_init_4 : decode b_RuleReader_init 4 = .ok (.aload_n 0, 1) := by decide +kernel
theorem d_RuleReader_init_5 : decode b_RuleReader_init 5 = .ok (.new 9, 3) := by decide +kernel
theorem d_RuleReader_init_8 : decode b_RuleReader_init 8 = .ok (.dup, 1) := by decide +kernel
theorem d_RuleReader_init_9 : decode b_RuleReader_init 9 = .ok (.invokespecial 11, 3) := by decide +kernel
theorem d_RuleReader_init_12 : decode b_RuleReader_init 12 = .ok (.putfield 12, 3) := by decide +kernel
theorem d_RuleReader_init_15 : decode b_RuleReader_init 15 = .ok (.aload_n 0, 1) := by decide +kernel
theorem d_RuleReader_init_16 : decode b_RuleReader_init 16 = .ok (.new 18, 3) := by decide +kernel
theorem d_RuleReader_init_19 : decode b_RuleReader_init 19 = .ok (.dup, 1) := by decide +kernel
theorem d_RuleReader_init_20 : decode b_RuleReader_init 20 = .ok (.aload_n 1, 1) := by decide +kernel
theorem d_RuleReader_init_21 : decode b_RuleReader_init 21 = .ok (.invokespecial 20, 3) := by decide +kernel
theorem d_RuleReader_init_24 : decode b_RuleReader_init 24 = .ok (.putfield 23, 3) := by decide +kernel
theorem d_RuleReader_init_27 : decode b_RuleReader_init 27 = .ok (.aload_n 0, 1) := by decide +kernel
theorem d_RuleReader_init_28 : decode b_RuleReader_init 28 = .ok (.iconst (-1), 1) := by decide +kernel
theorem d_RuleReader_init_29 : decode b_RuleReader_init 29 = .ok (.putfield 27, 3) := by decide +kernel
theorem d_RuleReader_init_32 : decode b_RuleReader_init 32 = .ok (.return_, 1) := by decide +kernel
theorem d_RuleBook_init_0 : decode b_RuleBook_init 0 = .ok (.aload_n 0, 1) := by decide +kernel
theorem d_RuleBook_init_1 : decode b_RuleBook_init 1 = .ok (.invokespecial 3, 3) := by decide +kernel
theorem d_RuleBook_init_4 : decode b_RuleBook_init 4 = .ok (.aload_n 0, 1) := by decide +kernel
theorem d_RuleBook_init_5 : decode b_RuleBook_init 5 = .ok (.bipush 16, 2) := by decide +kernel
theorem d_RuleBook_init_7 : decode b_RuleBook_init 7 = .ok (.newarray .int, 2) := by decide +kernel
theorem d_RuleBook_init_9 : decode b_RuleBook_init 9 = .ok (.putfield 9, 3) := by decide +kernel
theorem d_RuleBook_init_12 : decode b_RuleBook_init 12 = .ok (.aload_n 0, 1) := by decide +kernel
theorem d_RuleBook_init_13 : decode b_RuleBook_init 13 = .ok (.bipush 16, 2) := by decide +kernel
theorem d_RuleBook_init_15 : decode b_RuleBook_init 15 = .ok (.newarray .int, 2) := by decide +kernel
theorem d_RuleBook_init_17 : decode b_RuleBook_init 17 = .ok (.putfield 15, 3) := by decide +kernel
theorem d_RuleBook_init_20 : decode b_RuleBook_init 20 = .ok (.aload_n 0, 1) := by decide +kernel
theorem d_RuleBook_init_21 : decode b_RuleBook_init 21 = .ok (.bipush 16, 2) := by decide +kernel
theorem d_RuleBook_init_23 : decode b_RuleBook_init 23 = .ok (.newarray .int, 2) := by decide +kernel
theorem d_RuleBook_init_25 : decode b_RuleBook_init 25 = .ok (.putfield 18, 3) := by decide +kernel
theorem d_RuleBook_init_28 : decode b_RuleBook_init 28 = .ok (.aload_n 0, 1) := by decide +kernel
theorem d_RuleBook_init_29 : decode b_RuleBook_init 29 = .ok (.bipush 16, 2) := by decide +kernel
theorem d_RuleBook_init_31 : decode b_RuleBook_init 31 = .ok (.newarray .int, 2) := by decide +kernel
theorem d_RuleBook_init_33 : decode b_RuleBook_init 33 = .ok (.putfield 21, 3) := by decide +kernel
theorem d_RuleBook_init_36 : decode b_RuleBook_init 36 = .ok (.aload_n 0, 1) := by decide +kernel
theorem d_RuleBook_init_37 : decode b_RuleBook_init 37 = .ok (.bipush 64, 2) := by decide +kernel
theorem d_RuleBook_init_39 : decode b_RuleBook_init 39 = .ok (.newarray .int, 2) := by decide +kernel
theorem d_RuleBook_init_41 : decode b_RuleBook_init 41 = .ok (.putfield 24, 3) := by decide +kernel
theorem d_RuleBook_init_44 : decode b_RuleBook_init 44 = .ok (.aload_n 0, 1) := by decide +kernel
theorem d_RuleBook_init_45 : decode b_RuleBook_init 45 = .ok (.bipush 64, 2) := by decide +kernel
theorem d_RuleBook_init_47 : decode b_RuleBook_init 47 = .ok (.newarray .int, 2) := by decide +kernel
theorem d_RuleBook_init_49 : decode b_RuleBook_init 49 = .ok (.putfield 27, 3) := by decide +kernel
theorem d_RuleBook_init_52 : decode b_RuleBook_init 52 = .ok (.aload_n 0, 1) := by decide +kernel
theorem d_RuleBook_init_53 : decode b_RuleBook_init 53 = .ok (.bipush 64, 2) := by decide +kernel
theorem d_RuleBook_init_55 : decode b_RuleBook_init 55 = .ok (.newarray .int, 2) := by decide +kernel
theorem d_RuleBook_init_57 : decode b_RuleBook_init 57 = .ok (.putfield 30, 3) := by decide +kernel
theorem d_RuleBook_init_60 : decode b_RuleBook_init 60 = .ok (.return_, 1) := by decide +kernel
theorem d_TokenRow_init_0 : decode b_TokenRow_init 0 = .ok (.aload_n 0, 1) := by decide +kernel
theorem d_TokenRow_init_1 : decode b_TokenRow_init 1 = .ok (.invokespecial 3, 3) := by decide +kernel
theorem d_TokenRow_init_4 : decode b_TokenRow_init 4 = .ok (.aload_n 0, 1) := by decide +kernel
theorem d_TokenRow_init_5 : decode b_TokenRow_init 5 = .ok (.sipush 401, 3) := by decide +kernel
theorem d_TokenRow_init_8 : decode b_TokenRow_init 8 = .ok (.newarray .int, 2) := by decide +kernel
theorem d_TokenRow_init_10 : decode b_TokenRow_init 10 = .ok (.putfield 9, 3) := by decide +kernel
theorem d_TokenRow_init_13 : decode b_TokenRow_init 13 = .ok (.aload_n 0, 1) := by decide +kernel
theorem d_TokenRow_init_14 : decode b_TokenRow_init 14 = .ok (.sipush 401, 3) := by decide +kernel
theorem d_TokenRow_init_17 : decode b_TokenRow_init 17 = .ok (.newarray .int, 2) := by decide +kernel
theorem d_TokenRow_init_19 : decode b_TokenRow_init 19 = .ok (.putfield 15, 3) := by decide +kernel
theorem d_TokenRow_init_22 : decode b_TokenRow_init 22 = .ok (.aload_n 0, 1) := by decide +kernel
theorem d_TokenRow_init_23 : decode b_TokenRow_init 23 = .ok (.sipush 401, 3) := by decide +kernel
theorem d_TokenRow_init_26 : decode b_TokenRow_init 26 = .ok (.newarray .int, 2) := by decide +kernel
theorem d_TokenRow_init_28 : decode b_TokenRow_init 28 = .ok (.putfield 18, 3) := by decide +kernel
theorem d_TokenRow_init_31 : decode b_TokenRow_init 31 = .ok (.aload_n 0, 1) := by decide +kernel
theorem d_TokenRow_init_32 : decode b_TokenRow_init 32 = .ok (.aload_n 1, 1) := by decide +kernel
theorem d_TokenRow_init_33 : decode b_TokenRow_init 33 = .ok (.putfield 21, 3) := by decide +kernel
theorem d_TokenRow_init_36 : decode b_TokenRow_init 36 = .ok (.return_, 1) := by decide +kernel
theorem d_Roll_init_0 : decode b_Roll_init 0 = .ok (.aload_n 0, 1) := by decide +kernel
theorem d_Roll_init_1 : decode b_Roll_init 1 = .ok (.invokespecial 3, 3) := by decide +kernel
theorem d_Roll_init_4 : decode b_Roll_init 4 = .ok (.aload_n 0, 1) := by decide +kernel
theorem d_Roll_init_5 : decode b_Roll_init 5 = .ok (.bipush 24, 2) := by decide +kernel
theorem d_Roll_init_7 : decode b_Roll_init 7 = .ok (.newarray .int, 2) := by decide +kernel
theorem d_Roll_init_9 : decode b_Roll_init 9 = .ok (.putfield 9, 3) := by decide +kernel
theorem d_Roll_init_12 : decode b_Roll_init 12 = .ok (.aload_n 0, 1) := by decide +kernel
theorem d_Roll_init_13 : decode b_Roll_init 13 = .ok (.bipush 24, 2) := by decide +kernel
theorem d_Roll_init_15 : decode b_Roll_init 15 = .ok (.newarray .int, 2) := by decide +kernel
theorem d_Roll_init_17 : decode b_Roll_init 17 = .ok (.putfield 15, 3) := by decide +kernel
theorem d_Roll_init_20 : decode b_Roll_init 20 = .ok (.aload_n 0, 1) := by decide +kernel
theorem d_Roll_init_21 : decode b_Roll_init 21 = .ok (.bipush 24, 2) := by decide +kernel
theorem d_Roll_init_23 : decode b_Roll_init 23 = .ok (.newarray .int, 2) := by decide +kernel
theorem d_Roll_init_25 : decode b_Roll_init 25 = .ok (.putfield 18, 3) := by decide +kernel
theorem d_Roll_init_28 : decode b_Roll_init 28 = .ok (.aload_n 0, 1) := by decide +kernel
theorem d_Roll_init_29 : decode b_Roll_init 29 = .ok (.bipush 16, 2) := by decide +kernel
theorem d_Roll_init_31 : decode b_Roll_init 31 = .ok (.newarray .int, 2) := by decide +kernel
theorem d_Roll_init_33 : decode b_Roll_init 33 = .ok (.putfield 21, 3) := by decide +kernel
theorem d_Roll_init_36 : decode b_Roll_init 36 = .ok (.aload_n 0, 1) := by decide +kernel
theorem d_Roll_init_37 : decode b_Roll_init 37 = .ok (.bipush 16, 2) := by decide +kernel
theorem d_Roll_init_39 : decode b_Roll_init 39 = .ok (.newarray .int, 2) := by decide +kernel
theorem d_Roll_init_41 : decode b_Roll_init 41 = .ok (.putfield 24, 3) := by decide +kernel
theorem d_Roll_init_44 : decode b_Roll_init 44 = .ok (.aload_n 0, 1) := by decide +kernel
theorem d_Roll_init_45 : decode b_Roll_init 45 = .ok (.bipush 16, 2) := by decide +kernel
theorem d_Roll_init_47 : decode b_Roll_init 47 = .ok (.newarray .int, 2) := by decide +kernel
theorem d_Roll_init_49 : decode b_Roll_init 49 = .ok (.putfield 27, 3) := by decide +kernel
theorem d_Roll_init_52 : decode b_Roll_init 52 = .ok (.return_, 1) := by decide +kernel
theorem d_PaperBox_init_0 : decode b_PaperBox_init 0 = .ok (.aload_n 0, 1) := by decide +kernel
theorem d_PaperBox_init_1 : decode b_PaperBox_init 1 = .ok (.invokespecial 3, 3) := by decide +kernel
theorem d_PaperBox_init_4 : decode b_PaperBox_init 4 = .ok (.aload_n 0, 1) := by decide +kernel
theorem d_PaperBox_init_5 : decode b_PaperBox_init 5 = .ok (.bipush 48, 2) := by decide +kernel
theorem d_PaperBox_init_7 : decode b_PaperBox_init 7 = .ok (.newarray .int, 2) := by decide +kernel
theorem d_PaperBox_init_9 : decode b_PaperBox_init 9 = .ok (.putfield 9, 3) := by decide +kernel
theorem d_PaperBox_init_12 : decode b_PaperBox_init 12 = .ok (.aload_n 0, 1) := by decide +kernel
theorem d_PaperBox_init_13 : decode b_PaperBox_init 13 = .ok (.bipush 48, 2) := by decide +kernel
theorem d_PaperBox_init_15 : decode b_PaperBox_init 15 = .ok (.newarray .int, 2) := by decide +kernel
theorem d_PaperBox_init_17 : decode b_PaperBox_init 17 = .ok (.putfield 15, 3) := by decide +kernel
theorem d_PaperBox_init_20 : decode b_PaperBox_init 20 = .ok (.aload_n 0, 1) := by decide +kernel
theorem d_PaperBox_init_21 : decode b_PaperBox_init 21 = .ok (.bipush 48, 2) := by decide +kernel
theorem d_PaperBox_init_23 : decode b_PaperBox_init 23 = .ok (.newarray .int, 2) := by decide +kernel
theorem d_PaperBox_init_25 : decode b_PaperBox_init 25 = .ok (.putfield 18, 3) := by decide +kernel
theorem d_PaperBox_init_28 : decode b_PaperBox_init 28 = .ok (.aload_n 0, 1) := by decide +kernel
theorem d_PaperBox_init_29 : decode b_PaperBox_init 29 = .ok (.bipush 48, 2) := by decide +kernel
theorem d_PaperBox_init_31 : decode b_PaperBox_init 31 = .ok (.newarray .int, 2) := by decide +kernel
theorem d_PaperBox_init_33 : decode b_PaperBox_init 33 = .ok (.putfield 21, 3) := by decide +kernel
theorem d_PaperBox_init_36 : decode b_PaperBox_init 36 = .ok (.aload_n 0, 1) := by decide +kernel
theorem d_PaperBox_init_37 : decode b_PaperBox_init 37 = .ok (.bipush 48, 2) := by decide +kernel
theorem d_PaperBox_init_39 : decode b_PaperBox_init 39 = .ok (.newarray .int, 2) := by decide +kernel
theorem d_PaperBox_init_41 : decode b_PaperBox_init 41 = .ok (.putfield 24, 3) := by decide +kernel
theorem d_PaperBox_init_44 : decode b_PaperBox_init 44 = .ok (.aload_n 0, 1) := by decide +kernel
theorem d_PaperBox_init_45 : decode b_PaperBox_init 45 = .ok (.bipush 48, 2) := by decide +kernel
theorem d_PaperBox_init_47 : decode b_PaperBox_init 47 = .ok (.newarray .int, 2) := by decide +kernel
theorem d_PaperBox_init_49 : decode b_PaperBox_init 49 = .ok (.putfield 27, 3) := by decide +kernel
theorem d_PaperBox_init_52 : decode b_PaperBox_init 52 = .ok (.aload_n 0, 1) := by decide +kernel
theorem d_PaperBox_init_53 : decode b_PaperBox_init 53 = .ok (.bipush 48, 2) := by decide +kernel
theorem d_PaperBox_init_55 : decode b_PaperBox_init 55 = .ok (.newarray .int, 2) := by decide +kernel
theorem d_PaperBox_init_57 : decode b_PaperBox_init 57 = .ok (.putfield 30, 3) := by decide +kernel
theorem d_PaperBox_init_60 : decode b_PaperBox_init 60 = .ok (.aload_n 0, 1) := by decide +kernel
theorem d_PaperBox_init_61 : decode b_PaperBox_init 61 = .ok (.bipush 48, 2) := by decide +kernel
theorem d_PaperBox_init_63 : decode b_PaperBox_init 63 = .ok (.newarray .int, 2) := by decide +kernel
theorem d_PaperBox_init_65 : decode b_PaperBox_init 65 = .ok (.putfield 33, 3) := by decide +kernel
theorem d_PaperBox_init_68 : decode b_PaperBox_init 68 = .ok (.return_, 1) := by decide +kernel
theorem d_Gazette_init_0 : decode b_Gazette_init 0 = .ok (.aload_n 0, 1) := by decide +kernel
theorem d_Gazette_init_1 : decode b_Gazette_init 1 = .ok (.invokespecial 3, 3) := by decide +kernel
theorem d_Gazette_init_4 : decode b_Gazette_init 4 = .ok (.aload_n 0, 1) := by decide +kernel
theorem d_Gazette_init_5 : decode b_Gazette_init 5 = .ok (.sipush 161, 3) := by decide +kernel
theorem d_Gazette_init_8 : decode b_Gazette_init 8 = .ok (.newarray .int, 2) := by decide +kernel
theorem d_Gazette_init_10 : decode b_Gazette_init 10 = .ok (.putfield 9, 3) := by decide +kernel
theorem d_Gazette_init_13 : decode b_Gazette_init 13 = .ok (.aload_n 0, 1) := by decide +kernel
theorem d_Gazette_init_14 : decode b_Gazette_init 14 = .ok (.sipush 161, 3) := by decide +kernel
theorem d_Gazette_init_17 : decode b_Gazette_init 17 = .ok (.newarray .int, 2) := by decide +kernel
theorem d_Gazette_init_19 : decode b_Gazette_init 19 = .ok (.putfield 15, 3) := by decide +kernel
theorem d_Gazette_init_22 : decode b_Gazette_init 22 = .ok (.aload_n 0, 1) := by decide +kernel
theorem d_Gazette_init_23 : decode b_Gazette_init 23 = .ok (.sipush 161, 3) := by decide +kernel
theorem d_Gazette_init_26 : decode b_Gazette_init 26 = .ok (.newarray .int, 2) := by decide +kernel
theorem d_Gazette_init_28 : decode b_Gazette_init 28 = .ok (.putfield 18, 3) := by decide +kernel
theorem d_Gazette_init_31 : decode b_Gazette_init 31 = .ok (.aload_n 0, 1) := by decide +kernel
theorem d_Gazette_init_32 : decode b_Gazette_init 32 = .ok (.sipush 161, 3) := by decide +kernel
theorem d_Gazette_init_35 : decode b_Gazette_init 35 = .ok (.newarray .int, 2) := by decide +kernel
theorem d_Gazette_init_37 : decode b_Gazette_init 37 = .ok (.putfield 21, 3) := by decide +kernel
theorem d_Gazette_init_40 : decode b_Gazette_init 40 = .ok (.aload_n 0, 1) := by decide +kernel
theorem d_Gazette_init_41 : decode b_Gazette_init 41 = .ok (.sipush 160, 3) := by decide +kernel
theorem d_Gazette_init_44 : decode b_Gazette_init 44 = .ok (.newarray .int, 2) := by decide +kernel
theorem d_Gazette_init_46 : decode b_Gazette_init 46 = .ok (.putfield 24, 3) := by decide +kernel
theorem d_Gazette_init_49 : decode b_Gazette_init 49 = .ok (.return_, 1) := by decide +kernel
theorem d_Reigns_init_0 : decode b_Reigns_init 0 = .ok (.aload_n 0, 1) := by decide +kernel
theorem d_Reigns_init_1 : decode b_Reigns_init 1 = .ok (.invokespecial 3, 3) := by decide +kernel
theorem d_Reigns_init_4 : decode b_Reigns_init 4 = .ok (.aload_n 0, 1) := by decide +kernel
theorem d_Reigns_init_5 : decode b_Reigns_init 5 = .ok (.bipush 6, 2) := by decide +kernel
theorem d_Reigns_init_7 : decode b_Reigns_init 7 = .ok (.newarray .int, 2) := by decide +kernel
theorem d_Reigns_init_9 : decode b_Reigns_init 9 = .ok (.putfield 9, 3) := by decide +kernel
theorem d_Reigns_init_12 : decode b_Reigns_init 12 = .ok (.aload_n 0, 1) := by decide +kernel
theorem d_Reigns_init_13 : decode b_Reigns_init 13 = .ok (.bipush 6, 2) := by decide +kernel
theorem d_Reigns_init_15 : decode b_Reigns_init 15 = .ok (.anewarray 15, 3) := by decide +kernel
theorem d_Reigns_init_18 : decode b_Reigns_init 18 = .ok (.putfield 17, 3) := by decide +kernel
theorem d_Reigns_init_21 : decode b_Reigns_init 21 = .ok (.aload_n 0, 1) := by decide +kernel
theorem d_Reigns_init_22 : decode b_Reigns_init 22 = .ok (.new 15, 3) := by decide +kernel
theorem d_Reigns_init_25 : decode b_Reigns_init 25 = .ok (.dup, 1) := by decide +kernel
theorem d_Reigns_init_26 : decode b_Reigns_init 26 = .ok (.invokespecial 21, 3) := by decide +kernel
theorem d_Reigns_init_29 : decode b_Reigns_init 29 = .ok (.putfield 22, 3) := by decide +kernel
theorem d_Reigns_init_32 : decode b_Reigns_init 32 = .ok (.return_, 1) := by decide +kernel
theorem d_Course_init_0 : decode b_Course_init 0 = .ok (.aload_n 0, 1) := by decide +kernel
theorem d_Course_init_1 : decode b_Course_init 1 = .ok (.invokespecial 3, 3) := by decide +kernel
theorem d_Course_init_4 : decode b_Course_init 4 = .ok (.aload_n 0, 1) := by decide +kernel
theorem d_Course_init_5 : decode b_Course_init 5 = .ok (.bipush 16, 2) := by decide +kernel
theorem d_Course_init_7 : decode b_Course_init 7 = .ok (.newarray .int, 2) := by decide +kernel
theorem d_Course_init_9 : decode b_Course_init 9 = .ok (.putfield 9, 3) := by decide +kernel
theorem d_Course_init_12 : decode b_Course_init 12 = .ok (.aload_n 0, 1) := by decide +kernel
theorem d_Course_init_13 : decode b_Course_init 13 = .ok (.bipush 16, 2) := by decide +kernel
theorem d_Course_init_15 : decode b_Course_init 15 = .ok (.newarray .int, 2) := by decide +kernel
theorem d_Course_init_17 : decode b_Course_init 17 = .ok (.putfield 15, 3) := by decide +kernel
theorem d_Course_init_20 : decode b_Course_init 20 = .ok (.aload_n 0, 1) := by decide +kernel
theorem d_Course_init_21 : decode b_Course_init 21 = .ok (.bipush 24, 2) := by decide +kernel
theorem d_Course_init_23 : decode b_Course_init 23 = .ok (.newarray .int, 2) := by decide +kernel
theorem d_Course_init_25 : decode b_Course_init 25 = .ok (.putfield 18, 3) := by decide +kernel
theorem d_Course_init_28 : decode b_Course_init 28 = .ok (.aload_n 0, 1) := by decide +kernel
theorem d_Course_init_29 : decode b_Course_init 29 = .ok (.bipush 24, 2) := by decide +kernel
theorem d_Course_init_31 : decode b_Course_init 31 = .ok (.newarray .long, 2) := by decide +kernel
theorem d_Course_init_33 : decode b_Course_init 33 = .ok (.putfield 21, 3) := by decide +kernel
theorem d_Course_init_36 : decode b_Course_init 36 = .ok (.aload_n 0, 1) := by decide +kernel
theorem d_Course_init_37 : decode b_Course_init 37 = .ok (.bipush 24, 2) := by decide +kernel
theorem d_Course_init_39 : decode b_Course_init 39 = .ok (.newarray .boolean, 2) := by decide +kernel
theorem d_Course_init_41 : decode b_Course_init 41 = .ok (.putfield 25, 3) := by decide +kernel
theorem d_Course_init_44 : decode b_Course_init 44 = .ok (.aload_n 0, 1) := by decide +kernel
theorem d_Course_init_45 : decode b_Course_init 45 = .ok (.bipush 48, 2) := by decide +kernel
theorem d_Course_init_47 : decode b_Course_init 47 = .ok (.newarray .boolean, 2) := by decide +kernel
theorem d_Course_init_49 : decode b_Course_init 49 = .ok (.putfield 29, 3) := by decide +kernel
theorem d_Course_init_52 : decode b_Course_init 52 = .ok (.aload_n 0, 1) := by decide +kernel
theorem d_Course_init_53 : decode b_Course_init 53 = .ok (.bipush 48, 2) := by decide +kernel
theorem d_Course_init_55 : decode b_Course_init 55 = .ok (.newarray .int, 2) := by decide +kernel
theorem d_Course_init_57 : decode b_Course_init 57 = .ok (.putfield 32, 3) := by decide +kernel
theorem d_Course_init_60 : decode b_Course_init 60 = .ok (.aload_n 0, 1) := by decide +kernel
theorem d_Course_init_61 : decode b_Course_init 61 = .ok (.bipush 48, 2) := by decide +kernel
theorem d_Course_init_63 : decode b_Course_init 63 = .ok (.newarray .int, 2) := by decide +kernel
theorem d_Course_init_65 : decode b_Course_init 65 = .ok (.putfield 35, 3) := by decide +kernel
theorem d_Course_init_68 : decode b_Course_init 68 = .ok (.aload_n 0, 1) := by decide +kernel
theorem d_Course_init_69 : decode b_Course_init 69 = .ok (.bipush 9, 2) := by decide +kernel
theorem d_Course_init_71 : decode b_Course_init 71 = .ok (.newarray .int, 2) := by decide +kernel
theorem d_Course_init_73 : decode b_Course_init 73 = .ok (.putfield 38, 3) := by decide +kernel
theorem d_Course_init_76 : decode b_Course_init 76 = .ok (.aload_n 0, 1) := by decide +kernel
theorem d_Course_init_77 : decode b_Course_init 77 = .ok (.bipush 9, 2) := by decide +kernel
theorem d_Course_init_79 : decode b_Course_init 79 = .ok (.newarray .int, 2) := by decide +kernel
theorem d_Course_init_81 : decode b_Course_init 81 = .ok (.putfield 41, 3) := by decide +kernel
theorem d_Course_init_84 : decode b_Course_init 84 = .ok (.aload_n 0, 1) := by decide +kernel
theorem d_Course_init_85 : decode b_Course_init 85 = .ok (.aload_n 1, 1) := by decide +kernel
theorem d_Course_init_86 : decode b_Course_init 86 = .ok (.putfield 44, 3) := by decide +kernel
theorem d_Course_init_89 : decode b_Course_init 89 = .ok (.aload_n 0, 1) := by decide +kernel
theorem d_Course_init_90 : decode b_Course_init 90 = .ok (.aload_n 2, 1) := by decide +kernel
theorem d_Course_init_91 : decode b_Course_init 91 = .ok (.putfield 48, 3) := by decide +kernel
theorem d_Course_init_94 : decode b_Course_init 94 = .ok (.aload_n 0, 1) := by decide +kernel
theorem d_Course_init_95 : decode b_Course_init 95 = .ok (.aload_n 3, 1) := by decide +kernel
theorem d_Course_init_96 : decode b_Course_init 96 = .ok (.putfield 52, 3) := by decide +kernel
theorem d_Course_init_99 : decode b_Course_init 99 = .ok (.aload_n 0, 1) := by decide +kernel
theorem d_Course_init_100 : decode b_Course_init 100 = .ok (.aload 4, 2) := by decide +kernel
theorem d_Course_init_102 : decode b_Course_init 102 = .ok (.putfield 56, 3) := by decide +kernel
theorem d_Course_init_105 : decode b_Course_init 105 = .ok (.aload_n 0, 1) := by decide +kernel
theorem d_Course_init_106 : decode b_Course_init 106 = .ok (.aload 4, 2) := by decide +kernel
theorem d_Course_init_108 : decode b_Course_init 108 = .ok (.getfield 60, 3) := by decide +kernel
theorem d_Course_init_111 : decode b_Course_init 111 = .ok (.putfield 66, 3) := by decide +kernel
theorem d_Course_init_114 : decode b_Course_init 114 = .ok (.aload_n 0, 1) := by decide +kernel
theorem d_Course_init_115 : decode b_Course_init 115 = .ok (.iconst (-1), 1) := by decide +kernel
theorem d_Course_init_116 : decode b_Course_init 116 = .ok (.putfield 69, 3) := by decide +kernel
theorem d_Course_init_119 : decode b_Course_init 119 = .ok (.return_, 1) := by decide +kernel
theorem d_Ends_init_0 : decode b_Ends_init 0 = .ok (.aload_n 0, 1) := by decide +kernel
theorem d_Ends_init_1 : decode b_Ends_init 1 = .ok (.invokespecial 3, 3) := by decide +kernel
theorem d_Ends_init_4 : decode b_Ends_init 4 = .ok (.aload_n 0, 1) := by decide +kernel
theorem d_Ends_init_5 : decode b_Ends_init 5 = .ok (.sipush 2576, 3) := by decide +kernel
theorem d_Ends_init_8 : decode b_Ends_init 8 = .ok (.newarray .int, 2) := by decide +kernel
theorem d_Ends_init_10 : decode b_Ends_init 10 = .ok (.putfield 9, 3) := by decide +kernel
theorem d_Ends_init_13 : decode b_Ends_init 13 = .ok (.aload_n 0, 1) := by decide +kernel
theorem d_Ends_init_14 : decode b_Ends_init 14 = .ok (.sipush 161, 3) := by decide +kernel
theorem d_Ends_init_17 : decode b_Ends_init 17 = .ok (.newarray .int, 2) := by decide +kernel
theorem d_Ends_init_19 : decode b_Ends_init 19 = .ok (.putfield 15, 3) := by decide +kernel
theorem d_Ends_init_22 : decode b_Ends_init 22 = .ok (.aload_n 0, 1) := by decide +kernel
theorem d_Ends_init_23 : decode b_Ends_init 23 = .ok (.aload_n 1, 1) := by decide +kernel
theorem d_Ends_init_24 : decode b_Ends_init 24 = .ok (.putfield 18, 3) := by decide +kernel
theorem d_Ends_init_27 : decode b_Ends_init 27 = .ok (.aload_n 0, 1) := by decide +kernel
theorem d_Ends_init_28 : decode b_Ends_init 28 = .ok (.getfield 15, 3) := by decide +kernel
theorem d_Ends_init_31 : decode b_Ends_init 31 = .ok (.iconst (-1), 1) := by decide +kernel
theorem d_Ends_init_32 : decode b_Ends_init 32 = .ok (.invokestatic 22, 3) := by decide +kernel
theorem d_Ends_init_35 : decode b_Ends_init 35 = .ok (.return_, 1) := by decide +kernel
theorem d_Arrays_fill_i_0 : decode b_Arrays_fill_i 0 = .ok (.iconst 0, 1) := by decide +kernel
theorem d_Arrays_fill_i_1 : decode b_Arrays_fill_i 1 = .ok (.istore_n 2, 1) := by decide +kernel
theorem d_Arrays_fill_i_2 : decode b_Arrays_fill_i 2 = .ok (.aload_n 0, 1) := by decide +kernel
theorem d_Arrays_fill_i_3 : decode b_Arrays_fill_i 3 = .ok (.arraylength, 1) := by decide +kernel
theorem d_Arrays_fill_i_4 : decode b_Arrays_fill_i 4 = .ok (.istore_n 3, 1) := by decide +kernel
theorem d_Arrays_fill_i_5 : decode b_Arrays_fill_i 5 = .ok (.iload_n 2, 1) := by decide +kernel
theorem d_Arrays_fill_i_6 : decode b_Arrays_fill_i 6 = .ok (.iload_n 3, 1) := by decide +kernel
theorem d_Arrays_fill_i_7 : decode b_Arrays_fill_i 7 = .ok (.if_icmp .ge 13, 3) := by decide +kernel
theorem d_Arrays_fill_i_10 : decode b_Arrays_fill_i 10 = .ok (.aload_n 0, 1) := by decide +kernel
theorem d_Arrays_fill_i_11 : decode b_Arrays_fill_i 11 = .ok (.iload_n 2, 1) := by decide +kernel
theorem d_Arrays_fill_i_12 : decode b_Arrays_fill_i 12 = .ok (.iload_n 1, 1) := by decide +kernel
theorem d_Arrays_fill_i_13 : decode b_Arrays_fill_i 13 = .ok (.iastore, 1) := by decide +kernel
theorem d_Arrays_fill_i_14 : decode b_Arrays_fill_i 14 = .ok (.iinc 2 1, 3) := by decide +kernel
theorem d_Arrays_fill_i_17 : decode b_Arrays_fill_i 17 = .ok (.goto (-12), 3) := by decide +kernel
theorem d_Arrays_fill_i_20 : decode b_Arrays_fill_i 20 = .ok (.return_, 1) := by decide +kernel
theorem d_Exchange_init_0 : decode b_Exchange_init 0 = .ok (.aload_n 0, 1) := by decide +kernel
theorem d_Exchange_init_1 : decode b_Exchange_init 1 = .ok (.invokespecial 3, 3) := by decide +kernel
theorem d_Exchange_init_4 : decode b_Exchange_init 4 = .ok (.aload_n 0, 1) := by decide +kernel
theorem d_Exchange_init_5 : decode b_Exchange_init 5 = .ok (.bipush 72, 2) := by decide +kernel
theorem d_Exchange_init_7 : decode b_Exchange_init 7 = .ok (.newarray .int, 2) := by decide +kernel
theorem d_Exchange_init_9 : decode b_Exchange_init 9 = .ok (.putfield 9, 3) := by decide +kernel
theorem d_Exchange_init_12 : decode b_Exchange_init 12 = .ok (.aload_n 0, 1) := by decide +kernel
theorem d_Exchange_init_13 : decode b_Exchange_init 13 = .ok (.bipush 24, 2) := by decide +kernel
theorem d_Exchange_init_15 : decode b_Exchange_init 15 = .ok (.newarray .int, 2) := by decide +kernel
theorem d_Exchange_init_17 : decode b_Exchange_init 17 = .ok (.putfield 15, 3) := by decide +kernel
theorem d_Exchange_init_20 : decode b_Exchange_init 20 = .ok (.aload_n 0, 1) := by decide +kernel
theorem d_Exchange_init_21 : decode b_Exchange_init 21 = .ok (.bipush 24, 2) := by decide +kernel
theorem d_Exchange_init_23 : decode b_Exchange_init 23 = .ok (.newarray .int, 2) := by decide +kernel
theorem d_Exchange_init_25 : decode b_Exchange_init 25 = .ok (.putfield 18, 3) := by decide +kernel
theorem d_Exchange_init_28 : decode b_Exchange_init 28 = .ok (.aload_n 0, 1) := by decide +kernel
theorem d_Exchange_init_29 : decode b_Exchange_init 29 = .ok (.bipush 24, 2) := by decide +kernel
theorem d_Exchange_init_31 : decode b_Exchange_init 31 = .ok (.newarray .int, 2) := by decide +kernel
theorem d_Exchange_init_33 : decode b_Exchange_init 33 = .ok (.putfield 21, 3) := by decide +kernel
theorem d_Exchange_init_36 : decode b_Exchange_init 36 = .ok (.aload_n 0, 1) := by decide +kernel
theorem d_Exchange_init_37 : decode b_Exchange_init 37 = .ok (.bipush 24, 2) := by decide +kernel
theorem d_Exchange_init_39 : decode b_Exchange_init 39 = .ok (.newarray .int, 2) := by decide +kernel
theorem d_Exchange_init_41 : decode b_Exchange_init 41 = .ok (.putfield 24, 3) := by decide +kernel
theorem d_Exchange_init_44 : decode b_Exchange_init 44 = .ok (.aload_n 0, 1) := by decide +kernel
theorem d_Exchange_init_45 : decode b_Exchange_init 45 = .ok (.getfield 24, 3) := by decide +kernel
theorem d_Exchange_init_48 : decode b_Exchange_init 48 = .ok (.iconst (-1), 1) := by decide +kernel
theorem d_Exchange_init_49 : decode b_Exchange_init 49 = .ok (.invokestatic 27, 3) := by decide +kernel
theorem d_Exchange_init_52 : decode b_Exchange_init 52 = .ok (.return_, 1) := by decide +kernel
theorem d_Chan_feed_0 : decode b_Chan_feed 0 = .ok (.aload_n 0, 1) := by decide +kernel
theorem d_Chan_feed_1 : decode b_Chan_feed 1 = .ok (.getfield 10, 3) := by decide +kernel
theorem d_Chan_feed_4 : decode b_Chan_feed 4 = .ok (.invokevirtual 86, 3) := by decide +kernel
theorem d_Chan_feed_7 : decode b_Chan_feed 7 = .ok (.ifCond .ne 5, 3) := by decide +kernel
theorem d_Chan_feed_10 : decode b_Chan_feed 10 = .ok (.iconst (-1), 1) := by decide +kernel
theorem d_Chan_feed_11 : decode b_Chan_feed 11 = .ok (.ireturn, 1) := by decide +kernel
theorem d_Chan_feed_12 : decode b_Chan_feed 12 = .ok (.aload_n 0, 1) := by decide +kernel
theorem d_Chan_feed_13 : decode b_Chan_feed 13 = .ok (.getfield 10, 3) := by decide +kernel
theorem d_Chan_feed_16 : decode b_Chan_feed 16 = .ok (.iload_n 1, 1) := by decide +kernel
theorem d_Chan_feed_17 : decode b_Chan_feed 17 = .ok (.invokevirtual 90, 3) := by decide +kernel
theorem d_Chan_feed_20 : decode b_Chan_feed 20 = .ok (.aload_n 0, 1) := by decide +kernel
theorem d_Chan_feed_21 : decode b_Chan_feed 21 = .ok (.getfield 10, 3) := by decide +kernel
theorem d_Chan_feed_24 : decode b_Chan_feed 24 = .ok (.iload_n 2, 1) := by decide +kernel
theorem d_Chan_feed_25 : decode b_Chan_feed 25 = .ok (.invokevirtual 90, 3) := by decide +kernel
theorem d_Chan_feed_28 : decode b_Chan_feed 28 = .ok (.aload_n 0, 1) := by decide +kernel
theorem d_Chan_feed_29 : decode b_Chan_feed 29 = .ok (.getfield 10, 3) := by decide +kernel
theorem d_Chan_feed_32 : decode b_Chan_feed 32 = .ok (.iload_n 3, 1) := by decide +kernel
theorem d_Chan_feed_33 : decode b_Chan_feed 33 = .ok (.invokevirtual 90, 3) := by decide +kernel
theorem d_Chan_feed_36 : decode b_Chan_feed 36 = .ok (.aload_n 0, 1) := by decide +kernel
theorem d_Chan_feed_37 : decode b_Chan_feed 37 = .ok (.getfield 10, 3) := by decide +kernel
theorem d_Chan_feed_40 : decode b_Chan_feed 40 = .ok (.iload 4, 2) := by decide +kernel
theorem d_Chan_feed_42 : decode b_Chan_feed 42 = .ok (.invokevirtual 90, 3) := by decide +kernel
theorem d_Chan_feed_45 : decode b_Chan_feed 45 = .ok (.aload_n 0, 1) := by decide +kernel
theorem d_Chan_feed_46 : decode b_Chan_feed 46 = .ok (.getfield 10, 3) := by decide +kernel
theorem d_Chan_feed_49 : decode b_Chan_feed 49 = .ok (.iload 5, 2) := by decide +kernel
theorem d_Chan_feed_51 : decode b_Chan_feed 51 = .ok (.invokevirtual 90, 3) := by decide +kernel
theorem d_Chan_feed_54 : decode b_Chan_feed 54 = .ok (.aload_n 0, 1) := by decide +kernel
theorem d_Chan_feed_55 : decode b_Chan_feed 55 = .ok (.getfield 10, 3) := by decide +kernel
theorem d_Chan_feed_58 : decode b_Chan_feed 58 = .ok (.getfield 94, 3) := by decide +kernel
theorem d_Chan_feed_61 : decode b_Chan_feed 61 = .ok (.ireturn, 1) := by decide +kernel
theorem d_Tape_hasRoom_0 : decode b_Tape_hasRoom 0 = .ok (.aload_n 0, 1) := by decide +kernel
theorem d_Tape_hasRoom_1 : decode b_Tape_hasRoom 1 = .ok (.getfield 15, 3) := by decide +kernel
theorem d_Tape_hasRoom_4 : decode b_Tape_hasRoom 4 = .ok (.bipush 20, 2) := by decide +kernel
theorem d_Tape_hasRoom_6 : decode b_Tape_hasRoom 6 = .ok (.iadd, 1) := by decide +kernel
theorem d_Tape_hasRoom_7 : decode b_Tape_hasRoom 7 = .ok (.sipush 400, 3) := by decide +kernel
theorem d_Tape_hasRoom_10 : decode b_Tape_hasRoom 10 = .ok (.if_icmp .gt 7, 3) := by decide +kernel
theorem d_Tape_hasRoom_13 : decode b_Tape_hasRoom 13 = .ok (.iconst 1, 1) := by decide +kernel
theorem d_Tape_hasRoom_14 : decode b_Tape_hasRoom 14 = .ok (.goto 4, 3) := by decide +kernel
theorem d_Tape_hasRoom_17 : decode b_Tape_hasRoom 17 = .ok (.iconst 0, 1) := by decide +kernel
theorem d_Tape_hasRoom_18 : decode b_Tape_hasRoom 18 = .ok (.ireturn, 1) := by decide +kernel
theorem d_Tape_append_0 : decode b_Tape_append 0 = .ok (.bipush 24, 2) := by decide +kernel
theorem d_Tape_append_2 : decode b_Tape_append 2 = .ok (.istore_n 2, 1) := by decide +kernel
theorem d_Tape_append_3 : decode b_Tape_append 3 = .ok (.iload_n 2, 1) := by decide +kernel
theorem d_Tape_append_4 : decode b_Tape_append 4 = .ok (.ifCond .lt 47, 3) := by decide +kernel
theorem d_Tape_append_7 : decode b_Tape_append 7 = .ok (.aload_n 0, 1) := by decide +kernel
theorem d_Tape_append_8 : decode b_Tape_append 8 = .ok (.getfield 15, 3) := by decide +kernel
theorem d_Tape_append_11 : decode b_Tape_append 11 = .ok (.aload_n 0, 1) := by decide +kernel
theorem d_Tape_append_12 : decode b_Tape_append 12 = .ok (.getfield 9, 3) := by decide +kernel
theorem d_Tape_append_15 : decode b_Tape_append 15 = .ok (.arraylength, 1) := by decide +kernel
theorem d_Tape_append_16 : decode b_Tape_append 16 = .ok (.if_icmp .ge 35, 3) := by decide +kernel
theorem d_Tape_append_19 : decode b_Tape_append 19 = .ok (.aload_n 0, 1) := by decide +kernel
theorem d_Tape_append_20 : decode b_Tape_append 20 = .ok (.getfield 9, 3) := by decide +kernel
theorem d_Tape_append_23 : decode b_Tape_append 23 = .ok (.aload_n 0, 1) := by decide +kernel
theorem d_Tape_append_24 : decode b_Tape_append 24 = .ok (.getfield 15, 3) := by decide +kernel
theorem d_Tape_append_27 : decode b_Tape_append 27 = .ok (.iload_n 1, 1) := by decide +kernel
theorem d_Tape_append_28 : decode b_Tape_append 28 = .ok (.iload_n 2, 1) := by decide +kernel
theorem d_Tape_append_29 : decode b_Tape_append 29 = .ok (.iushr, 1) := by decide +kernel
theorem d_Tape_append_30 : decode b_Tape_append 30 = .ok (.sipush 255, 3) := by decide +kernel
theorem d_Tape_append_33 : decode b_Tape_append 33 = .ok (.iand, 1) := by decide +kernel
theorem d_Tape_append_34 : decode b_Tape_append 34 = .ok (.iastore, 1) := by decide +kernel
theorem d_Tape_append_35 : decode b_Tape_append 35 = .ok (.aload_n 0, 1) := by decide +kernel
theorem d_Tape_append_36 : decode b_Tape_append 36 = .ok (.dup, 1) := by decide +kernel
theorem d_Tape_append_37 : decode b_Tape_append 37 = .ok (.getfield 15, 3) := by decide +kernel
theorem d_Tape_append_40 : decode b_Tape_append 40 = .ok (.iconst 1, 1) := by decide +kernel
theorem d_Tape_append_41 : decode b_Tape_append 41 = .ok (.iadd, 1) := by decide +kernel
theorem d_Tape_append_42 : decode b_Tape_append 42 = .ok (.putfield 15, 3) := by decide +kernel
theorem d_Tape_append_45 : decode b_Tape_append 45 = .ok (.iinc 2 (-8), 3) := by decide +kernel
theorem d_Tape_append_48 : decode b_Tape_append 48 = .ok (.goto (-45), 3) := by decide +kernel
theorem d_Tape_append_51 : decode b_Tape_append 51 = .ok (.return_, 1) := by decide +kernel
theorem d_Chan_end_0 : decode b_Chan_end 0 = .ok (.aload_n 0, 1) := by decide +kernel
theorem d_Chan_end_1 : decode b_Chan_end 1 = .ok (.getfield 10, 3) := by decide +kernel
theorem d_Chan_end_4 : decode b_Chan_end 4 = .ok (.iload_n 1, 1) := by decide +kernel
theorem d_Chan_end_5 : decode b_Chan_end 5 = .ok (.invokevirtual 97, 3) := by decide +kernel
theorem d_Chan_end_8 : decode b_Chan_end 8 = .ok (.ireturn, 1) := by decide +kernel
theorem d_Tape_cutTo_0 : decode b_Tape_cutTo 0 = .ok (.iload_n 1, 1) := by decide +kernel
theorem d_Tape_cutTo_1 : decode b_Tape_cutTo 1 = .ok (.ifCond .lt 11, 3) := by decide +kernel
theorem d_Tape_cutTo_4 : decode b_Tape_cutTo 4 = .ok (.iload_n 1, 1) := by decide +kernel
theorem d_Tape_cutTo_5 : decode b_Tape_cutTo 5 = .ok (.aload_n 0, 1) := by decide +kernel
theorem d_Tape_cutTo_6 : decode b_Tape_cutTo 6 = .ok (.getfield 15, 3) := by decide +kernel
theorem d_Tape_cutTo_9 : decode b_Tape_cutTo 9 = .ok (.if_icmp .le 5, 3) := by decide +kernel
theorem d_Tape_cutTo_12 : decode b_Tape_cutTo 12 = .ok (.iconst 0, 1) := by decide +kernel
theorem d_Tape_cutTo_13 : decode b_Tape_cutTo 13 = .ok (.ireturn, 1) := by decide +kernel
theorem d_Tape_cutTo_14 : decode b_Tape_cutTo 14 = .ok (.aload_n 0, 1) := by decide +kernel
theorem d_Tape_cutTo_15 : decode b_Tape_cutTo 15 = .ok (.iload_n 1, 1) := by decide +kernel
theorem d_Tape_cutTo_16 : decode b_Tape_cutTo 16 = .ok (.putfield 15, 3) := by decide +kernel
theorem d_Tape_cutTo_19 : decode b_Tape_cutTo 19 = .ok (.iconst 1, 1) := by decide +kernel
theorem d_Tape_cutTo_20 : decode b_Tape_cutTo 20 = .ok (.ireturn, 1) := by decide +kernel
theorem d_Chan_person_0 : decode b_Chan_person 0 = .ok (.iload_n 1, 1) := by decide +kernel
theorem d_Chan_person_1 : decode b_Chan_person 1 = .ok (.iconst 0, 1) := by decide +kernel
theorem d_Chan_person_2 : decode b_Chan_person 2 = .ok (.bipush 9, 2) := by decide +kernel
theorem d_Chan_person_4 : decode b_Chan_person 4 = .ok (.invokestatic 101, 3) := by decide +kernel
theorem d_Chan_person_7 : decode b_Chan_person 7 = .ok (.ifCond .eq 23, 3) := by decide +kernel
theorem d_Chan_person_10 : decode b_Chan_person 10 = .ok (.iload_n 2, 1) := by decide +kernel
theorem d_Chan_person_11 : decode b_Chan_person 11 = .ok (.iconst 0, 1) := by decide +kernel
theorem d_Chan_person_12 : decode b_Chan_person 12 = .ok (.bipush 9, 2) := by decide +kernel
theorem d_Chan_person_14 : decode b_Chan_person 14 = .ok (.invokestatic 101, 3) := by decide +kernel
theorem d_Chan_person_17 : decode b_Chan_person 17 = .ok (.ifCond .eq 13, 3) := by decide +kernel
theorem d_Chan_person_20 : decode b_Chan_person 20 = .ok (.iload_n 3, 1) := by decide +kernel
theorem d_Chan_person_21 : decode b_Chan_person 21 = .ok (.iconst 0, 1) := by decide +kernel
theorem d_Chan_person_22 : decode b_Chan_person 22 = .ok (.bipush 7, 2) := by decide +kernel
theorem d_Chan_person_24 : decode b_Chan_person 24 = .ok (.invokestatic 101, 3) := by decide +kernel
theorem d_Chan_person_27 : decode b_Chan_person 27 = .ok (.ifCond .ne 5, 3) := by decide +kernel
theorem d_Chan_person_30 : decode b_Chan_person 30 = .ok (.iconst (-1), 1) := by decide +kernel
theorem d_Chan_person_31 : decode b_Chan_person 31 = .ok (.ireturn, 1) := by decide +kernel
theorem d_Chan_person_32 : decode b_Chan_person 32 = .ok (.aload_n 0, 1) := by decide +kernel
theorem d_Chan_person_33 : decode b_Chan_person 33 = .ok (.getfield 28, 3) := by decide +kernel
theorem d_Chan_person_36 : decode b_Chan_person 36 = .ok (.iload_n 1, 1) := by decide +kernel
theorem d_Chan_person_37 : decode b_Chan_person 37 = .ok (.iload_n 2, 1) := by decide +kernel
theorem d_Chan_person_38 : decode b_Chan_person 38 = .ok (.iload_n 3, 1) := by decide +kernel
theorem d_Chan_person_39 : decode b_Chan_person 39 = .ok (.invokevirtual 105, 3) := by decide +kernel
theorem d_Chan_person_42 : decode b_Chan_person 42 = .ok (.ireturn, 1) := by decide +kernel
theorem d_Chan_isWithin_0 : decode b_Chan_isWithin 0 = .ok (.iload_n 0, 1) := by decide +kernel
theorem d_Chan_isWithin_1 : decode b_Chan_isWithin 1 = .ok (.iload_n 1, 1) := by decide +kernel
theorem d_Chan_isWithin_2 : decode b_Chan_isWithin 2 = .ok (.if_icmp .lt 12, 3) := by decide +kernel
theorem d_Chan_isWithin_5 : decode b_Chan_isWithin 5 = .ok (.iload_n 0, 1) := by decide +kernel
theorem d_Chan_isWithin_6 : decode b_Chan_isWithin 6 = .ok (.iload_n 2, 1) := by decide +kernel
theorem d_Chan_isWithin_7 : decode b_Chan_isWithin 7 = .ok (.if_icmp .gt 7, 3) := by decide +kernel
theorem d_Chan_isWithin_10 : decode b_Chan_isWithin 10 = .ok (.iconst 1, 1) := by decide +kernel
theorem d_Chan_isWithin_11 : decode b_Chan_isWithin 11 = .ok (.goto 4, 3) := by decide +kernel
theorem d_Chan_isWithin_14 : decode b_Chan_isWithin 14 = .ok (.iconst 0, 1) := by decide +kernel
theorem d_Chan_isWithin_15 : decode b_Chan_isWithin 15 = .ok (.ireturn, 1) := by decide +kernel
theorem d_Roll_addPerson_0 : decode b_Roll_addPerson 0 = .ok (.aload_n 0, 1) := by decide +kernel
theorem d_Roll_addPerson_1 : decode b_Roll_addPerson 1 = .ok (.getfield 30, 3) := by decide +kernel
theorem d_Roll_addPerson_4 : decode b_Roll_addPerson 4 = .ok (.bipush 24, 2) := by decide +kernel
theorem d_Roll_addPerson_6 : decode b_Roll_addPerson 6 = .ok (.if_icmp .lt 5, 3) := by decide +kernel
theorem d_Roll_addPerson_9 : decode b_Roll_addPerson 9 = .ok (.iconst (-1), 1) := by decide +kernel
theorem d_Roll_addPerson_10 : decode b_Roll_addPerson 10 = .ok (.ireturn, 1) := by decide +kernel
theorem d_Roll_addPerson_11 : decode b_Roll_addPerson 11 = .ok (.aload_n 0, 1) := by decide +kernel
theorem d_Roll_addPerson_12 : decode b_Roll_addPerson 12 = .ok (.getfield 9, 3) := by decide +kernel
theorem d_Roll_addPerson_15 : decode b_Roll_addPerson 15 = .ok (.aload_n 0, 1) := by decide +kernel
theorem d_Roll_addPerson_16 : decode b_Roll_addPerson 16 = .ok (.getfield 30, 3) := by decide +kernel
theorem d_Roll_addPerson_19 : decode b_Roll_addPerson 19 = .ok (.iload_n 1, 1) := by decide +kernel
theorem d_Roll_addPerson_20 : decode b_Roll_addPerson 20 = .ok (.iastore, 1) := by decide +kernel
theorem d_Roll_addPerson_21 : decode b_Roll_addPerson 21 = .ok (.aload_n 0, 1) := by decide +kernel
theorem d_Roll_addPerson_22 : decode b_Roll_addPerson 22 = .ok (.getfield 15, 3) := by decide +kernel
theorem d_Roll_addPerson_25 : decode b_Roll_addPerson 25 = .ok (.aload_n 0, 1) := by decide +kernel
theorem d_Roll_addPerson_26 : decode b_Roll_addPerson 26 = .ok (.getfield 30, 3) := by decide +kernel
theorem d_Roll_addPerson_29 : decode b_Roll_addPerson 29 = .ok (.iload_n 2, 1) := by decide +kernel
theorem d_Roll_addPerson_30 : decode b_Roll_addPerson 30 = .ok (.iastore, 1) := by decide +kernel
theorem d_Roll_addPerson_31 : decode b_Roll_addPerson 31 = .ok (.aload_n 0, 1) := by decide +kernel
theorem d_Roll_addPerson_32 : decode b_Roll_addPerson 32 = .ok (.getfield 18, 3) := by decide +kernel
theorem d_Roll_addPerson_35 : decode b_Roll_addPerson 35 = .ok (.aload_n 0, 1) := by decide +kernel
theorem d_Roll_addPerson_36 : decode b_Roll_addPerson 36 = .ok (.getfield 30, 3) := by decide +kernel
theorem d_Roll_addPerson_39 : decode b_Roll_addPerson 39 = .ok (.iload_n 3, 1) := by decide +kernel
theorem d_Roll_addPerson_40 : decode b_Roll_addPerson 40 = .ok (.iastore, 1) := by decide +kernel
theorem d_Roll_addPerson_41 : decode b_Roll_addPerson 41 = .ok (.aload_n 0, 1) := by decide +kernel
theorem d_Roll_addPerson_42 : decode b_Roll_addPerson 42 = .ok (.dup, 1) := by decide +kernel
theorem d_Roll_addPerson_43 : decode b_Roll_addPerson 43 = .ok (.getfield 30, 3) := by decide +kernel
theorem d_Roll_addPerson_46 : decode b_Roll_addPerson 46 = .ok (.iconst 1, 1) := by decide +kernel
theorem d_Roll_addPerson_47 : decode b_Roll_addPerson 47 = .ok (.iadd, 1) := by decide +kernel
theorem d_Roll_addPerson_48 : decode b_Roll_addPerson 48 = .ok (.putfield 30, 3) := by decide +kernel
theorem d_Roll_addPerson_51 : decode b_Roll_addPerson 51 = .ok (.aload_n 0, 1) := by decide +kernel
theorem d_Roll_addPerson_52 : decode b_Roll_addPerson 52 = .ok (.getfield 30, 3) := by decide +kernel
theorem d_Roll_addPerson_55 : decode b_Roll_addPerson 55 = .ok (.iconst 1, 1) := by decide +kernel
theorem d_Roll_addPerson_56 : decode b_Roll_addPerson 56 = .ok (.isub, 1) := by decide +kernel
theorem d_Roll_addPerson_57 : decode b_Roll_addPerson 57 = .ok (.ireturn, 1) := by decide +kernel
theorem d_Chan_post_0 : decode b_Chan_post 0 = .ok (.iload_n 1, 1) := by decide +kernel
theorem d_Chan_post_1 : decode b_Chan_post 1 = .ok (.iconst 0, 1) := by decide +kernel
theorem d_Chan_post_2 : decode b_Chan_post 2 = .ok (.bipush 7, 2) := by decide +kernel
theorem d_Chan_post_4 : decode b_Chan_post 4 = .ok (.invokestatic 101, 3) := by decide +kernel
theorem d_Chan_post_7 : decode b_Chan_post 7 = .ok (.ifCond .eq 14, 3) := by decide +kernel
theorem d_Chan_post_10 : decode b_Chan_post 10 = .ok (.iload_n 2, 1) := by decide +kernel
theorem d_Chan_post_11 : decode b_Chan_post 11 = .ok (.iconst 1, 1) := by decide +kernel
theorem d_Chan_post_12 : decode b_Chan_post 12 = .ok (.sipush 1000, 3) := by decide +kernel
theorem d_Chan_post_15 : decode b_Chan_post 15 = .ok (.invokestatic 101, 3) := by decide +kernel
theorem d_Chan_post_18 : decode b_Chan_post 18 = .ok (.ifCond .ne 5, 3) := by decide +kernel
theorem d_Chan_post_21 : decode b_Chan_post 21 = .ok (.iconst (-1), 1) := by decide +kernel
theorem d_Chan_post_22 : decode b_Chan_post 22 = .ok (.ireturn, 1) := by decide +kernel
theorem d_Chan_post_23 : decode b_Chan_post 23 = .ok (.aload_n 0, 1) := by decide +kernel
theorem d_Chan_post_24 : decode b_Chan_post 24 = .ok (.getfield 28, 3) := by decide +kernel
theorem d_Chan_post_27 : decode b_Chan_post 27 = .ok (.iload_n 1, 1) := by decide +kernel
theorem d_Chan_post_28 : decode b_Chan_post 28 = .ok (.iload_n 2, 1) := by decide +kernel
theorem d_Chan_post_29 : decode b_Chan_post 29 = .ok (.invokevirtual 109, 3) := by decide +kernel
theorem d_Chan_post_32 : decode b_Chan_post 32 = .ok (.ireturn, 1) := by decide +kernel
theorem d_Roll_addPost_0 : decode b_Roll_addPost 0 = .ok (.aload_n 0, 1) := by decide +kernel
theorem d_Roll_addPost_1 : decode b_Roll_addPost 1 = .ok (.getfield 34, 3) := by decide +kernel
theorem d_Roll_addPost_4 : decode b_Roll_addPost 4 = .ok (.bipush 16, 2) := by decide +kernel
theorem d_Roll_addPost_6 : decode b_Roll_addPost 6 = .ok (.if_icmp .lt 5, 3) := by decide +kernel
theorem d_Roll_addPost_9 : decode b_Roll_addPost 9 = .ok (.iconst (-1), 1) := by decide +kernel
theorem d_Roll_addPost_10 : decode b_Roll_addPost 10 = .ok (.ireturn, 1) := by decide +kernel
theorem d_Roll_addPost_11 : decode b_Roll_addPost 11 = .ok (.aload_n 0, 1) := by decide +kernel
theorem d_Roll_addPost_12 : decode b_Roll_addPost 12 = .ok (.getfield 21, 3) := by decide +kernel
theorem d_Roll_addPost_15 : decode b_Roll_addPost 15 = .ok (.aload_n 0, 1) := by decide +kernel
theorem d_Roll_addPost_16 : decode b_Roll_addPost 16 = .ok (.getfield 34, 3) := by decide +kernel
theorem d_Roll_addPost_19 : decode b_Roll_addPost 19 = .ok (.iload_n 1, 1) := by decide +kernel
theorem d_Roll_addPost_20 : decode b_Roll_addPost 20 = .ok (.iastore, 1) := by decide +kernel
theorem d_Roll_addPost_21 : decode b_Roll_addPost 21 = .ok (.aload_n 0, 1) := by decide +kernel
theorem d_Roll_addPost_22 : decode b_Roll_addPost 22 = .ok (.getfield 24, 3) := by decide +kernel
theorem d_Roll_addPost_25 : decode b_Roll_addPost 25 = .ok (.aload_n 0, 1) := by decide +kernel
theorem d_Roll_addPost_26 : decode b_Roll_addPost 26 = .ok (.getfield 34, 3) := by decide +kernel
theorem d_Roll_addPost_29 : decode b_Roll_addPost 29 = .ok (.iload_n 2, 1) := by decide +kernel
theorem d_Roll_addPost_30 : decode b_Roll_addPost 30 = .ok (.iastore, 1) := by decide +kernel
theorem d_Roll_addPost_31 : decode b_Roll_addPost 31 = .ok (.aload_n 0, 1) := by decide +kernel
theorem d_Roll_addPost_32 : decode b_Roll_addPost 32 = .ok (.getfield 27, 3) := by decide +kernel
theorem d_Roll_addPost_35 : decode b_Roll_addPost 35 = .ok (.aload_n 0, 1) := by decide +kernel
theorem d_Roll_addPost_36 : decode b_Roll_addPost 36 = .ok (.getfield 34, 3) := by decide +kernel
theorem d_Roll_addPost_39 : decode b_Roll_addPost 39 = .ok (.iconst (-1), 1) := by decide +kernel
theorem d_Roll_addPost_40 : decode b_Roll_addPost 40 = .ok (.iastore, 1) := by decide +kernel
theorem d_Roll_addPost_41 : decode b_Roll_addPost 41 = .ok (.aload_n 0, 1) := by decide +kernel
theorem d_Roll_addPost_42 : decode b_Roll_addPost 42 = .ok (.dup, 1) := by decide +kernel
theorem d_Roll_addPost_43 : decode b_Roll_addPost 43 = .ok (.getfield 34, 3) := by decide +kernel
theorem d_Roll_addPost_46 : decode b_Roll_addPost 46 = .ok (.iconst 1, 1) := by decide +kernel
theorem d_Roll_addPost_47 : decode b_Roll_addPost 47 = .ok (.iadd, 1) := by decide +kernel
theorem d_Roll_addPost_48 : decode b_Roll_addPost 48 = .ok (.putfield 34, 3) := by decide +kernel
theorem d_Roll_addPost_51 : decode b_Roll_addPost 51 = .ok (.aload_n 0, 1) := by decide +kernel
theorem d_Roll_addPost_52 : decode b_Roll_addPost 52 = .ok (.dup, 1) := by decide +kernel
theorem d_Roll_addPost_53 : decode b_Roll_addPost 53 = .ok (.getfield 37, 3) := by decide +kernel
theorem d_Roll_addPost_56 : decode b_Roll_addPost 56 = .ok (.iconst 1, 1) := by decide +kernel
theorem d_Roll_addPost_57 : decode b_Roll_addPost 57 = .ok (.iadd, 1) := by decide +kernel
theorem d_Roll_addPost_58 : decode b_Roll_addPost 58 = .ok (.putfield 37, 3) := by decide +kernel
theorem d_Roll_addPost_61 : decode b_Roll_addPost 61 = .ok (.aload_n 0, 1) := by decide +kernel
theorem d_Roll_addPost_62 : decode b_Roll_addPost 62 = .ok (.getfield 34, 3) := by decide +kernel
theorem d_Roll_addPost_65 : decode b_Roll_addPost 65 = .ok (.iconst 1, 1) := by decide +kernel
theorem d_Roll_addPost_66 : decode b_Roll_addPost 66 = .ok (.isub, 1) := by decide +kernel
theorem d_Roll_addPost_67 : decode b_Roll_addPost 67 = .ok (.ireturn, 1) := by decide +kernel
theorem d_Chan_seat_0 : decode b_Chan_seat 0 = .ok (.aload_n 0, 1) := by decide +kernel
theorem d_Chan_seat_1 : decode b_Chan_seat 1 = .ok (.getfield 28, 3) := by decide +kernel
theorem d_Chan_seat_4 : decode b_Chan_seat 4 = .ok (.iload_n 1, 1) := by decide +kernel
theorem d_Chan_seat_5 : decode b_Chan_seat 5 = .ok (.invokevirtual 113, 3) := by decide +kernel
theorem d_Chan_seat_8 : decode b_Chan_seat 8 = .ok (.ifCond .eq 29, 3) := by decide +kernel
theorem d_Chan_seat_11 : decode b_Chan_seat 11 = .ok (.iload_n 2, 1) := by decide +kernel
theorem d_Chan_seat_12 : decode b_Chan_seat 12 = .ok (.iconst (-1), 1) := by decide +kernel
theorem d_Chan_seat_13 : decode b_Chan_seat 13 = .ok (.if_icmp .eq 14, 3) := by decide +kernel
theorem d_Chan_seat_16 : decode b_Chan_seat 16 = .ok (.aload_n 0, 1) := by decide +kernel
theorem d_Chan_seat_17 : decode b_Chan_seat 17 = .ok (.getfield 28, 3) := by decide +kernel
theorem d_Chan_seat_20 : decode b_Chan_seat 20 = .ok (.iload_n 2, 1) := by decide +kernel
theorem d_Chan_seat_21 : decode b_Chan_seat 21 = .ok (.invokevirtual 116, 3) := by decide +kernel
theorem d_Chan_seat_24 : decode b_Chan_seat 24 = .ok (.ifCond .eq 13, 3) := by decide +kernel
theorem d_Chan_seat_27 : decode b_Chan_seat 27 = .ok (.aload_n 0, 1) := by decide +kernel
theorem d_Chan_seat_28 : decode b_Chan_seat 28 = .ok (.getfield 42, 3) := by decide +kernel
theorem d_Chan_seat_31 : decode b_Chan_seat 31 = .ok (.getfield 119, 3) := by decide +kernel
theorem d_Chan_seat_34 : decode b_Chan_seat 34 = .ok (.ifCond .le 5, 3) := by decide +kernel
theorem d_Chan_seat_37 : decode b_Chan_seat 37 = .ok (.iconst 0, 1) := by decide +kernel
theorem d_Chan_seat_38 : decode b_Chan_seat 38 = .ok (.ireturn, 1) := by decide +kernel
theorem d_Chan_seat_39 : decode b_Chan_seat 39 = .ok (.aload_n 0, 1) := by decide +kernel
theorem d_Chan_seat_40 : decode b_Chan_seat 40 = .ok (.getfield 28, 3) := by decide +kernel
theorem d_Chan_seat_43 : decode b_Chan_seat 43 = .ok (.iload_n 1, 1) := by decide +kernel
theorem d_Chan_seat_44 : decode b_Chan_seat 44 = .ok (.iload_n 2, 1) := by decide +kernel
theorem d_Chan_seat_45 : decode b_Chan_seat 45 = .ok (.invokevirtual 122, 3) := by decide +kernel
theorem d_Chan_seat_48 : decode b_Chan_seat 48 = .ok (.iconst 1, 1) := by decide +kernel
theorem d_Chan_seat_49 : decode b_Chan_seat 49 = .ok (.ireturn, 1) := by decide +kernel
theorem d_Roll_isPost_0 : decode b_Roll_isPost 0 = .ok (.iload_n 1, 1) := by decide +kernel
theorem d_Roll_isPost_1 : decode b_Roll_isPost 1 = .ok (.ifCond .lt 15, 3) := by decide +kernel
theorem d_Roll_isPost_4 : decode b_Roll_isPost 4 = .ok (.iload_n 1, 1) := by decide +kernel
theorem d_Roll_isPost_5 : decode b_Roll_isPost 5 = .ok (.aload_n 0, 1) := by decide +kernel
theorem d_Roll_isPost_6 : decode b_Roll_isPost 6 = .ok (.getfield 34, 3) := by decide +kernel
theorem d_Roll_isPost_9 : decode b_Roll_isPost 9 = .ok (.if_icmp .ge 7, 3) := by decide +kernel
theorem d_Roll_isPost_12 : decode b_Roll_isPost 12 = .ok (.iconst 1, 1) := by decide +kernel
theorem d_Roll_isPost_13 : decode b_Roll_isPost 13 = .ok (.goto 4, 3) := by decide +kernel
theorem d_Roll_isPost_16 : decode b_Roll_isPost 16 = .ok (.iconst 0, 1) := by decide +kernel
theorem d_Roll_isPost_17 : decode b_Roll_isPost 17 = .ok (.ireturn, 1) := by decide +kernel
theorem d_Roll_isPerson_0 : decode b_Roll_isPerson 0 = .ok (.iload_n 1, 1) := by decide +kernel
theorem d_Roll_isPerson_1 : decode b_Roll_isPerson 1 = .ok (.ifCond .lt 15, 3) := by decide +kernel
theorem d_Roll_isPerson_4 : decode b_Roll_isPerson 4 = .ok (.iload_n 1, 1) := by decide +kernel
theorem d_Roll_isPerson_5 : decode b_Roll_isPerson 5 = .ok (.aload_n 0, 1) := by decide +kernel
theorem d_Roll_isPerson_6 : decode b_Roll_isPerson 6 = .ok (.getfield 30, 3) := by decide +kernel
theorem d_Roll_isPerson_9 : decode b_Roll_isPerson 9 = .ok (.if_icmp .ge 7, 3) := by decide +kernel
theorem d_Roll_isPerson_12 : decode b_Roll_isPerson 12 = .ok (.iconst 1, 1) := by decide +kernel
theorem d_Roll_isPerson_13 : decode b_Roll_isPerson 13 = .ok (.goto 4, 3) := by decide +kernel
theorem d_Roll_isPerson_16 : decode b_Roll_isPerson 16 = .ok (.iconst 0, 1) := by decide +kernel
theorem d_Roll_isPerson_17 : decode b_Roll_isPerson 17 = .ok (.ireturn, 1) := by decide +kernel
theorem d_Roll_putSeat_0 : decode b_Roll_putSeat 0 = .ok (.aload_n 0, 1) := by decide +kernel
theorem d_Roll_putSeat_1 : decode b_Roll_putSeat 1 = .ok (.iload_n 1, 1) := by decide +kernel
theorem d_Roll_putSeat_2 : decode b_Roll_putSeat 2 = .ok (.invokevirtual 40, 3) := by decide +kernel
theorem d_Roll_putSeat_5 : decode b_Roll_putSeat 5 = .ok (.ifCond .eq 20, 3) := by decide +kernel
theorem d_Roll_putSeat_8 : decode b_Roll_putSeat 8 = .ok (.aload_n 0, 1) := by decide +kernel
theorem d_Roll_putSeat_9 : decode b_Roll_putSeat 9 = .ok (.getfield 27, 3) := by decide +kernel
theorem d_Roll_putSeat_12 : decode b_Roll_putSeat 12 = .ok (.iload_n 1, 1) := by decide +kernel
theorem d_Roll_putSeat_13 : decode b_Roll_putSeat 13 = .ok (.iload_n 2, 1) := by decide +kernel
theorem d_Roll_putSeat_14 : decode b_Roll_putSeat 14 = .ok (.iastore, 1) := by decide +kernel
theorem d_Roll_putSeat_15 : decode b_Roll_putSeat 15 = .ok (.aload_n 0, 1) := by decide +kernel
theorem d_Roll_putSeat_16 : decode b_Roll_putSeat 16 = .ok (.dup, 1) := by decide +kernel
theorem d_Roll_putSeat_17 : decode b_Roll_putSeat 17 = .ok (.getfield 37, 3) := by decide +kernel
theorem d_Roll_putSeat_20 : decode b_Roll_putSeat 20 = .ok (.iconst 1, 1) := by decide +kernel
theorem d_Roll_putSeat_21 : decode b_Roll_putSeat 21 = .ok (.iadd, 1) := by decide +kernel
theorem d_Roll_putSeat_22 : decode b_Roll_putSeat 22 = .ok (.putfield 37, 3) := by decide +kernel
theorem d_Roll_putSeat_25 : decode b_Roll_putSeat 25 = .ok (.return_, 1) := by decide +kernel
theorem d_Chan_reign_0 : decode b_Chan_reign 0 = .ok (.aload_n 0, 1) := by decide +kernel
theorem d_Chan_reign_1 : decode b_Chan_reign 1 = .ok (.getfield 21, 3) := by decide +kernel
theorem d_Chan_reign_4 : decode b_Chan_reign 4 = .ok (.invokevirtual 126, 3) := by decide +kernel
theorem d_Chan_reign_7 : decode b_Chan_reign 7 = .ok (.istore_n 2, 1) := by decide +kernel
theorem d_Chan_reign_8 : decode b_Chan_reign 8 = .ok (.aload_n 0, 1) := by decide +kernel
theorem d_Chan_reign_9 : decode b_Chan_reign 9 = .ok (.getfield 10, 3) := by decide +kernel
theorem d_Chan_reign_12 : decode b_Chan_reign 12 = .ok (.iconst 0, 1) := by decide +kernel
theorem d_Chan_reign_13 : decode b_Chan_reign 13 = .ok (.invokevirtual 97, 3) := by decide +kernel
theorem d_Chan_reign_16 : decode b_Chan_reign 16 = .ok (.pop, 1) := by decide +kernel
theorem d_Chan_reign_17 : decode b_Chan_reign 17 = .ok (.iload_n 2, 1) := by decide +kernel
theorem d_Chan_reign_18 : decode b_Chan_reign 18 = .ok (.ifCond .ne 5, 3) := by decide +kernel
theorem d_Chan_reign_21 : decode b_Chan_reign 21 = .ok (.iconst (-1), 1) := by decide +kernel
theorem d_Chan_reign_22 : decode b_Chan_reign 22 = .ok (.ireturn, 1) := by decide +kernel
theorem d_Chan_reign_23 : decode b_Chan_reign 23 = .ok (.iload_n 1, 1) := by decide +kernel
theorem d_Chan_reign_24 : decode b_Chan_reign 24 = .ok (.invokestatic 129, 3) := by decide +kernel
theorem d_Chan_reign_27 : decode b_Chan_reign 27 = .ok (.ifCond .eq 15, 3) := by decide +kernel
theorem d_Chan_reign_30 : decode b_Chan_reign 30 = .ok (.aload_n 0, 1) := by decide +kernel
theorem d_Chan_reign_31 : decode b_Chan_reign 31 = .ok (.getfield 49, 3) := by decide +kernel
theorem d_Chan_reign_34 : decode b_Chan_reign 34 = .ok (.getfield 132, 3) := by decide +kernel
theorem d_Chan_reign_37 : decode b_Chan_reign 37 = .ok (.bipush 6, 2) := by decide +kernel
theorem d_Chan_reign_39 : decode b_Chan_reign 39 = .ok (.if_icmp .lt 6, 3) := by decide +kernel
theorem d_Chan_reign_42 : decode b_Chan_reign 42 = .ok (.bipush (-2), 2) := by decide +kernel
theorem d_Chan_reign_44 : decode b_Chan_reign 44 = .ok (.ireturn, 1) := by decide +kernel
theorem d_Chan_reign_45 : decode b_Chan_reign 45 = .ok (.aload_n 0, 1) := by decide +kernel
theorem d_Chan_reign_46 : decode b_Chan_reign 46 = .ok (.getfield 49, 3) := by decide +kernel
theorem d_Chan_reign_49 : decode b_Chan_reign 49 = .ok (.iload_n 1, 1) := by decide +kernel
theorem d_Chan_reign_50 : decode b_Chan_reign 50 = .ok (.aload_n 0, 1) := by decide +kernel
theorem d_Chan_reign_51 : decode b_Chan_reign 51 = .ok (.getfield 21, 3) := by decide +kernel
theorem d_Chan_reign_54 : decode b_Chan_reign 54 = .ok (.getfield 133, 3) := by decide +kernel
theorem d_Chan_reign_57 : decode b_Chan_reign 57 = .ok (.invokevirtual 137, 3) := by decide +kernel
theorem d_Chan_reign_60 : decode b_Chan_reign 60 = .ok (.aload_n 0, 1) := by decide +kernel
theorem d_Chan_reign_61 : decode b_Chan_reign 61 = .ok (.getfield 28, 3) := by decide +kernel
theorem d_Chan_reign_64 : decode b_Chan_reign 64 = .ok (.dup, 1) := by decide +kernel
theorem d_Chan_reign_65 : decode b_Chan_reign 65 = .ok (.getfield 141, 3) := by decide +kernel
theorem d_Chan_reign_68 : decode b_Chan_reign 68 = .ok (.iconst 1, 1) := by decide +kernel
theorem d_Chan_reign_69 : decode b_Chan_reign 69 = .ok (.iadd, 1) := by decide +kernel
theorem d_Chan_reign_70 : decode b_Chan_reign 70 = .ok (.putfield 141, 3) := by decide +kernel
theorem d_Chan_reign_73 : decode b_Chan_reign 73 = .ok (.aload_n 0, 1) := by decide +kernel
theorem d_Chan_reign_74 : decode b_Chan_reign 74 = .ok (.getfield 21, 3) := by decide +kernel
theorem d_Chan_reign_77 : decode b_Chan_reign 77 = .ok (.getfield 133, 3) := by decide +kernel
theorem d_Chan_reign_80 : decode b_Chan_reign 80 = .ok (.getfield 144, 3) := by decide +kernel
theorem d_Chan_reign_83 : decode b_Chan_reign 83 = .ok (.ireturn, 1) := by decide +kernel
theorem d_RuleReader_read_0 : decode b_RuleReader_read 0 = .ok (.aload_n 0, 1) := by decide +kernel
theorem d_RuleReader_read_1 : decode b_RuleReader_read 1 = .ok (.iconst 0, 1) := by decide +kernel
theorem d_RuleReader_read_2 : decode b_RuleReader_read 2 = .ok (.putfield 31, 3) := by decide +kernel
theorem d_RuleReader_read_5 : decode b_RuleReader_read 5 = .ok (.aload_n 0, 1) := by decide +kernel
theorem d_RuleReader_read_6 : decode b_RuleReader_read 6 = .ok (.iconst (-1), 1) := by decide +kernel
theorem d_RuleReader_read_7 : decode b_RuleReader_read 7 = .ok (.putfield 27, 3) := by decide +kernel
theorem d_RuleReader_read_10 : decode b_RuleReader_read 10 = .ok (.aload_n 0, 1) := by decide +kernel
theorem d_RuleReader_read_11 : decode b_RuleReader_read 11 = .ok (.getfield 12, 3) := by decide +kernel
theorem d_RuleReader_read_14 : decode b_RuleReader_read 14 = .ok (.invokevirtual 34, 3) := by decide +kernel
theorem d_RuleReader_read_17 : decode b_RuleReader_read 17 = .ok (.aload_n 0, 1) := by decide +kernel
theorem d_RuleReader_read_18 : decode b_RuleReader_read 18 = .ok (.getfield 23, 3) := by decide +kernel
theorem d_RuleReader_read_21 : decode b_RuleReader_read 21 = .ok (.invokevirtual 37, 3) := by decide +kernel
theorem d_RuleReader_read_24 : decode b_RuleReader_read 24 = .ok (.aload_n 0, 1) := by decide +kernel
theorem d_RuleReader_read_25 : decode b_RuleReader_read 25 = .ok (.iconst 0, 1) := by decide +kernel
theorem d_RuleReader_read_26 : decode b_RuleReader_read 26 = .ok (.putfield 40, 3) := by decide +kernel
theorem d_RuleReader_read_29 : decode b_RuleReader_read 29 = .ok (.aload_n 0, 1) := by decide +kernel
theorem d_RuleReader_read_30 : decode b_RuleReader_read 30 = .ok (.aload_n 0, 1) := by decide +kernel
theorem d_RuleReader_read_31 : decode b_RuleReader_read 31 = .ok (.getfield 23, 3) := by decide +kernel
theorem d_RuleReader_read_34 : decode b_RuleReader_read 34 = .ok (.getfield 43, 3) := by decide +kernel
theorem d_RuleReader_read_37 : decode b_RuleReader_read 37 = .ok (.iconst 0, 1) := by decide +kernel
theorem d_RuleReader_read_38 : decode b_RuleReader_read 38 = .ok (.iaload, 1) := by decide +kernel
theorem d_RuleReader_read_39 : decode b_RuleReader_read 39 = .ok (.putfield 47, 3) := by decide +kernel
theorem d_RuleReader_read_42 : decode b_RuleReader_read 42 = .ok (.iconst 1, 1) := by decide +kernel
theorem d_RuleReader_read_43 : decode b_RuleReader_read 43 = .ok (.istore_n 1, 1) := by decide +kernel
theorem d_RuleReader_read_44 : decode b_RuleReader_read 44 = .ok (.iconst 0, 1) := by decide +kernel
theorem d_RuleReader_read_45 : decode b_RuleReader_read 45 = .ok (.istore_n 2, 1) := by decide +kernel
theorem d_RuleReader_read_46 : decode b_RuleReader_read 46 = .ok (.iload_n 2, 1) := by decide +kernel
theorem d_RuleReader_read_47 : decode b_RuleReader_read 47 = .ok (.bipush 16, 2) := by decide +kernel
theorem d_RuleReader_read_49 : decode b_RuleReader_read 49 = .ok (.if_icmp .gt 27, 3) := by decide +kernel
theorem d_RuleReader_read_52 : decode b_RuleReader_read 52 = .ok (.iload_n 1, 1) := by decide +kernel
theorem d_RuleReader_read_53 : decode b_RuleReader_read 53 = .ok (.ifCond .eq 23, 3) := by decide +kernel
theorem d_RuleReader_read_56 : decode b_RuleReader_read 56 = .ok (.aload_n 0, 1) := by decide +kernel
theorem d_RuleReader_read_57 : decode b_RuleReader_read 57 = .ok (.getfield 47, 3) := by decide +kernel
theorem d_RuleReader_read_60 : decode b_RuleReader_read 60 = .ok (.bipush 19, 2) := by decide +kernel
theorem d_RuleReader_read_62 : decode b_RuleReader_read 62 = .ok (.if_icmp .eq 14, 3) := by decide +kernel
theorem d_RuleReader_read_65 : decode b_RuleReader_read 65 = .ok (.aload_n 0, 1) := by decide +kernel
theorem d_RuleReader_read_66 : decode b_RuleReader_read 66 = .ok (.invokevirtual 50, 3) := by decide +kernel
theorem d_RuleReader_read_69 : decode b_RuleReader_read 69 = .ok (.istore_n 1, 1) := by decide +kernel
theorem d_RuleReader_read_70 : decode b_RuleReader_read 70 = .ok (.iinc 2 1, 3) := by decide +kernel
theorem d_RuleReader_read_73 : decode b_RuleReader_read 73 = .ok (.goto (-27), 3) := by decide +kernel
theorem d_RuleReader_read_76 : decode b_RuleReader_read 76 = .ok (.iload_n 1, 1) := by decide +kernel
theorem d_RuleReader_read_77 : decode b_RuleReader_read 77 = .ok (.ireturn, 1) := by decide +kernel
theorem d_RuleBook_clear_0 : decode b_RuleBook_clear 0 = .ok (.aload_n 0, 1) := by decide +kernel
theorem d_RuleBook_clear_1 : decode b_RuleBook_clear 1 = .ok (.iconst 0, 1) := by decide +kernel
theorem d_RuleBook_clear_2 : decode b_RuleBook_clear 2 = .ok (.putfield 33, 3) := by decide +kernel
theorem d_RuleBook_clear_5 : decode b_RuleBook_clear 5 = .ok (.aload_n 0, 1) := by decide +kernel
theorem d_RuleBook_clear_6 : decode b_RuleBook_clear 6 = .ok (.iconst 0, 1) := by decide +kernel
theorem d_RuleBook_clear_7 : decode b_RuleBook_clear 7 = .ok (.putfield 37, 3) := by decide +kernel
theorem d_RuleBook_clear_10 : decode b_RuleBook_clear 10 = .ok (.return_, 1) := by decide +kernel
theorem d_TokenRow_scan_0 : decode b_TokenRow_scan 0 = .ok (.aload_n 0, 1) := by decide +kernel
theorem d_TokenRow_scan_1 : decode b_TokenRow_scan 1 = .ok (.iconst 0, 1) := by decide +kernel
theorem d_TokenRow_scan_2 : decode b_TokenRow_scan 2 = .ok (.putfield 25, 3) := by decide +kernel
theorem d_TokenRow_scan_5 : decode b_TokenRow_scan 5 = .ok (.aload_n 0, 1) := by decide +kernel
theorem d_TokenRow_scan_6 : decode b_TokenRow_scan 6 = .ok (.iconst 0, 1) := by decide +kernel
theorem d_TokenRow_scan_7 : decode b_TokenRow_scan 7 = .ok (.invokevirtual 29, 3) := by decide +kernel
theorem d_TokenRow_scan_10 : decode b_TokenRow_scan 10 = .ok (.istore_n 1, 1) := by decide +kernel
theorem d_TokenRow_scan_11 : decode b_TokenRow_scan 11 = .ok (.iload_n 1, 1) := by decide +kernel
theorem d_TokenRow_scan_12 : decode b_TokenRow_scan 12 = .ok (.aload_n 0, 1) := by decide +kernel
theorem d_TokenRow_scan_13 : decode b_TokenRow_scan 13 = .ok (.getfield 21, 3) := by decide +kernel
theorem d_TokenRow_scan_16 : decode b_TokenRow_scan 16 = .ok (.getfield 33, 3) := by decide +kernel
theorem d_TokenRow_scan_19 : decode b_TokenRow_scan 19 = .ok (.if_icmp .ge 64, 3) := by decide +kernel
theorem d_TokenRow_scan_22 : decode b_TokenRow_scan 22 = .ok (.aload_n 0, 1) := by decide +kernel
theorem d_TokenRow_scan_23 : decode b_TokenRow_scan 23 = .ok (.getfield 25, 3) := by decide +kernel
theorem d_TokenRow_scan_26 : decode b_TokenRow_scan 26 = .ok (.sipush 400, 3) := by decide +kernel
theorem d_TokenRow_scan_29 : decode b_TokenRow_scan 29 = .ok (.if_icmp .ge 54, 3) := by decide +kernel
theorem d_TokenRow_scan_32 : decode b_TokenRow_scan 32 = .ok (.aload_n 0, 1) := by decide +kernel
theorem d_TokenRow_scan_33 : decode b_TokenRow_scan 33 = .ok (.getfield 15, 3) := by decide +kernel
theorem d_TokenRow_scan_36 : decode b_TokenRow_scan 36 = .ok (.aload_n 0, 1) := by decide +kernel
theorem d_TokenRow_scan_37 : decode b_TokenRow_scan 37 = .ok (.getfield 25, 3) := by decide +kernel
theorem d_TokenRow_scan_40 : decode b_TokenRow_scan 40 = .ok (.iload_n 1, 1) := by decide +kernel
theorem d_TokenRow_scan_41 : decode b_TokenRow_scan 41 = .ok (.iastore, 1) := by decide +kernel
theorem d_TokenRow_scan_42 : decode b_TokenRow_scan 42 = .ok (.aload_n 0, 1) := by decide +kernel
theorem d_TokenRow_scan_43 : decode b_TokenRow_scan 43 = .ok (.getfield 18, 3) := by decide +kernel
theorem d_TokenRow_scan_46 : decode b_TokenRow_scan 46 = .ok (.aload_n 0, 1) := by decide +kernel
theorem d_TokenRow_scan_47 : decode b_TokenRow_scan 47 = .ok (.getfield 25, 3) := by decide +kernel
theorem d_TokenRow_scan_50 : decode b_TokenRow_scan 50 = .ok (.iconst 0, 1) := by decide +kernel
theorem d_TokenRow_scan_51 : decode b_TokenRow_scan 51 = .ok (.iastore, 1) := by decide +kernel
theorem d_TokenRow_scan_52 : decode b_TokenRow_scan 52 = .ok (.iload_n 1, 1) := by decide +kernel
theorem d_TokenRow_scan_53 : decode b_TokenRow_scan 53 = .ok (.iconst 1, 1) := by decide +kernel
theorem d_TokenRow_scan_54 : decode b_TokenRow_scan 54 = .ok (.iadd, 1) := by decide +kernel
theorem d_TokenRow_scan_55 : decode b_TokenRow_scan 55 = .ok (.aload_n 0, 1) := by decide +kernel
theorem d_TokenRow_scan_56 : decode b_TokenRow_scan 56 = .ok (.iload_n 1, 1) := by decide +kernel
theorem d_TokenRow_scan_57 : decode b_TokenRow_scan 57 = .ok (.invokevirtual 38, 3) := by decide +kernel
theorem d_TokenRow_scan_60 : decode b_TokenRow_scan 60 = .ok (.invokestatic 41, 3) := by decide +kernel
theorem d_TokenRow_scan_63 : decode b_TokenRow_scan 63 = .ok (.istore_n 2, 1) := by decide +kernel
theorem d_TokenRow_scan_64 : decode b_TokenRow_scan 64 = .ok (.aload_n 0, 1) := by decide +kernel
theorem d_TokenRow_scan_65 : decode b_TokenRow_scan 65 = .ok (.dup, 1) := by decide +kernel
theorem d_TokenRow_scan_66 : decode b_TokenRow_scan 66 = .ok (.getfield 25, 3) := by decide +kernel
theorem d_TokenRow_scan_69 : decode b_TokenRow_scan 69 = .ok (.iconst 1, 1) := by decide +kernel
theorem d_TokenRow_scan_70 : decode b_TokenRow_scan 70 = .ok (.iadd, 1) := by decide +kernel
theorem d_TokenRow_scan_71 : decode b_TokenRow_scan 71 = .ok (.putfield 25, 3) := by decide +kernel
theorem d_TokenRow_scan_74 : decode b_TokenRow_scan 74 = .ok (.aload_n 0, 1) := by decide +kernel
theorem d_TokenRow_scan_75 : decode b_TokenRow_scan 75 = .ok (.iload_n 2, 1) := by decide +kernel
theorem d_TokenRow_scan_76 : decode b_TokenRow_scan 76 = .ok (.invokevirtual 29, 3) := by decide +kernel
theorem d_TokenRow_scan_79 : decode b_TokenRow_scan 79 = .ok (.istore_n 1, 1) := by decide +kernel
theorem d_TokenRow_scan_80 : decode b_TokenRow_scan 80 = .ok (.goto (-69), 3) := by decide +kernel
theorem d_TokenRow_scan_83 : decode b_TokenRow_scan 83 = .ok (.aload_n 0, 1) := by decide +kernel
theorem d_TokenRow_scan_84 : decode b_TokenRow_scan 84 = .ok (.getfield 9, 3) := by decide +kernel
theorem d_TokenRow_scan_87 : decode b_TokenRow_scan 87 = .ok (.aload_n 0, 1) := by decide +kernel
theorem d_TokenRow_scan_88 : decode b_TokenRow_scan 88 = .ok (.getfield 25, 3) := by decide +kernel
theorem d_TokenRow_scan_91 : decode b_TokenRow_scan 91 = .ok (.bipush 19, 2) := by decide +kernel
theorem d_TokenRow_scan_93 : decode b_TokenRow_scan 93 = .ok (.iastore, 1) := by decide +kernel
theorem d_TokenRow_scan_94 : decode b_TokenRow_scan 94 = .ok (.aload_n 0, 1) := by decide +kernel
theorem d_TokenRow_scan_95 : decode b_TokenRow_scan 95 = .ok (.getfield 15, 3) := by decide +kernel
theorem d_TokenRow_scan_98 : decode b_TokenRow_scan 98 = .ok (.aload_n 0, 1) := by decide +kernel
theorem d_TokenRow_scan_99 : decode b_TokenRow_scan 99 = .ok (.getfield 25, 3) := by decide +kernel
theorem d_TokenRow_scan_102 : decode b_TokenRow_scan 102 = .ok (.aload_n 0, 1) := by decide +kernel
theorem d_TokenRow_scan_103 : decode b_TokenRow_scan 103 = .ok (.getfield 21, 3) := by decide +kernel
theorem d_TokenRow_scan_106 : decode b_TokenRow_scan 106 = .ok (.getfield 33, 3) := by decide +kernel
theorem d_TokenRow_scan_109 : decode b_TokenRow_scan 109 = .ok (.iastore, 1) := by decide +kernel
theorem d_TokenRow_scan_110 : decode b_TokenRow_scan 110 = .ok (.aload_n 0, 1) := by decide +kernel
theorem d_TokenRow_scan_111 : decode b_TokenRow_scan 111 = .ok (.dup, 1) := by decide +kernel
theorem d_TokenRow_scan_112 : decode b_TokenRow_scan 112 = .ok (.getfield 25, 3) := by decide +kernel
theorem d_TokenRow_scan_115 : decode b_TokenRow_scan 115 = .ok (.iconst 1, 1) := by decide +kernel
theorem d_TokenRow_scan_116 : decode b_TokenRow_scan 116 = .ok (.iadd, 1) := by decide +kernel
theorem d_TokenRow_scan_117 : decode b_TokenRow_scan 117 = .ok (.putfield 25, 3) := by decide +kernel
theorem d_TokenRow_scan_120 : decode b_TokenRow_scan 120 = .ok (.return_, 1) := by decide +kernel
theorem d_TokenRow_skipBlanks_0 : decode b_TokenRow_skipBlanks 0 = .ok (.iload_n 1, 1) := by decide +kernel
theorem d_TokenRow_skipBlanks_1 : decode b_TokenRow_skipBlanks 1 = .ok (.istore_n 2, 1) := by decide +kernel
theorem d_TokenRow_skipBlanks_2 : decode b_TokenRow_skipBlanks 2 = .ok (.iload_n 2, 1) := by decide +kernel
theorem d_TokenRow_skipBlanks_3 : decode b_TokenRow_skipBlanks 3 = .ok (.aload_n 0, 1) := by decide +kernel
theorem d_TokenRow_skipBlanks_4 : decode b_TokenRow_skipBlanks 4 = .ok (.getfield 21, 3) := by decide +kernel
theorem d_TokenRow_skipBlanks_7 : decode b_TokenRow_skipBlanks 7 = .ok (.getfield 33, 3) := by decide +kernel
theorem d_TokenRow_skipBlanks_10 : decode b_TokenRow_skipBlanks 10 = .ok (.if_icmp .ge 37, 3) := by decide +kernel
theorem d_TokenRow_skipBlanks_13 : decode b_TokenRow_skipBlanks 13 = .ok (.aload_n 0, 1) := by decide +kernel
theorem d_TokenRow_skipBlanks_14 : decode b_TokenRow_skipBlanks 14 = .ok (.getfield 21, 3) := by decide +kernel
theorem d_TokenRow_skipBlanks_17 : decode b_TokenRow_skipBlanks 17 = .ok (.getfield 47, 3) := by decide +kernel
theorem d_TokenRow_skipBlanks_20 : decode b_TokenRow_skipBlanks 20 = .ok (.iload_n 2, 1) := by decide +kernel
theorem d_TokenRow_skipBlanks_21 : decode b_TokenRow_skipBlanks 21 = .ok (.iaload, 1) := by decide +kernel
theorem d_TokenRow_skipBlanks_22 : decode b_TokenRow_skipBlanks 22 = .ok (.bipush 32, 2) := by decide +kernel
theorem d_TokenRow_skipBlanks_24 : decode b_TokenRow_skipBlanks 24 = .ok (.if_icmp .eq 17, 3) := by decide +kernel
theorem d_TokenRow_skipBlanks_27 : decode b_TokenRow_skipBlanks 27 = .ok (.aload_n 0, 1) := by decide +kernel
theorem d_TokenRow_skipBlanks_28 : decode b_TokenRow_skipBlanks 28 = .ok (.getfield 21, 3) := by decide +kernel
theorem d_TokenRow_skipBlanks_31 : decode b_TokenRow_skipBlanks 31 = .ok (.getfield 47, 3) := by decide +kernel
theorem d_TokenRow_skipBlanks_34 : decode b_TokenRow_skipBlanks 34 = .ok (.iload_n 2, 1) := by decide +kernel
theorem d_TokenRow_skipBlanks_35 : decode b_TokenRow_skipBlanks 35 = .ok (.iaload, 1) := by decide +kernel
theorem d_TokenRow_skipBlanks_36 : decode b_TokenRow_skipBlanks 36 = .ok (.bipush 10, 2) := by decide +kernel
theorem d_TokenRow_skipBlanks_38 : decode b_TokenRow_skipBlanks 38 = .ok (.if_icmp .ne 9, 3) := by decide +kernel
theorem d_TokenRow_skipBlanks_41 : decode b_TokenRow_skipBlanks 41 = .ok (.iinc 2 1, 3) := by decide +kernel
theorem d_TokenRow_skipBlanks_44 : decode b_TokenRow_skipBlanks 44 = .ok (.goto (-42), 3) := by decide +kernel
theorem d_TokenRow_skipBlanks_47 : decode b_TokenRow_skipBlanks 47 = .ok (.iload_n 2, 1) := by decide +kernel
theorem d_TokenRow_skipBlanks_48 : decode b_TokenRow_skipBlanks 48 = .ok (.ireturn, 1) := by decide +kernel
theorem d_TokenRow_take_0 : decode b_TokenRow_take 0 = .ok (.aload_n 0, 1) := by decide +kernel
theorem d_TokenRow_take_1 : decode b_TokenRow_take 1 = .ok (.getfield 21, 3) := by decide +kernel
theorem d_TokenRow_take_4 : decode b_TokenRow_take 4 = .ok (.getfield 47, 3) := by decide +kernel
theorem d_TokenRow_take_7 : decode b_TokenRow_take 7 = .ok (.iload_n 1, 1) := by decide +kernel
theorem d_TokenRow_take_8 : decode b_TokenRow_take 8 = .ok (.iaload, 1) := by decide +kernel
theorem d_TokenRow_take_9 : decode b_TokenRow_take 9 = .ok (.istore_n 2, 1) := by decide +kernel
theorem d_TokenRow_take_10 : decode b_TokenRow_take 10 = .ok (.iload_n 2, 1) := by decide +kernel
theorem d_TokenRow_take_11 : decode b_TokenRow_take 11 = .ok (.invokestatic 50, 3) := by decide +kernel
theorem d_TokenRow_take_14 : decode b_TokenRow_take 14 = .ok (.ifCond .eq 9, 3) := by decide +kernel
theorem d_TokenRow_take_17 : decode b_TokenRow_take 17 = .ok (.aload_n 0, 1) := by decide +kernel
theorem d_TokenRow_take_18 : decode b_TokenRow_take 18 = .ok (.iload_n 1, 1) := by decide +kernel
theorem d_TokenRow_take_19 : decode b_TokenRow_take 19 = .ok (.invokevirtual 54, 3) := by decide +kernel
theorem d_TokenRow_take_22 : decode b_TokenRow_take 22 = .ok (.ireturn, 1) := by decide +kernel
theorem d_TokenRow_take_23 : decode b_TokenRow_take 23 = .ok (.iload_n 2, 1) := by decide +kernel
theorem d_TokenRow_take_24 : decode b_TokenRow_take 24 = .ok (.invokestatic 57, 3) := by decide +kernel
theorem d_TokenRow_take_27 : decode b_TokenRow_take 27 = .ok (.ifCond .eq 9, 3) := by decide +kernel
theorem d_TokenRow_take_30 : decode b_TokenRow_take 30 = .ok (.aload_n 0, 1) := by decide +kernel
theorem d_TokenRow_take_31 : decode b_TokenRow_take 31 = .ok (.iload_n 1, 1) := by decide +kernel
theorem d_TokenRow_take_32 : decode b_TokenRow_take 32 = .ok (.invokevirtual 60, 3) := by decide +kernel
theorem d_TokenRow_take_35 : decode b_TokenRow_take 35 = .ok (.ireturn, 1) := by decide +kernel
theorem d_TokenRow_take_36 : decode b_TokenRow_take 36 = .ok (.aload_n 0, 1) := by decide +kernel
theorem d_TokenRow_take_37 : decode b_TokenRow_take 37 = .ok (.iload_n 2, 1) := by decide +kernel
theorem d_TokenRow_take_38 : decode b_TokenRow_take 38 = .ok (.invokevirtual 63, 3) := by decide +kernel
theorem d_TokenRow_take_41 : decode b_TokenRow_take 41 = .ok (.iload_n 1, 1) := by decide +kernel
theorem d_TokenRow_take_42 : decode b_TokenRow_take 42 = .ok (.iconst 1, 1) := by decide +kernel
theorem d_TokenRow_take_43 : decode b_TokenRow_take 43 = .ok (.iadd, 1) := by decide +kernel
theorem d_TokenRow_take_44 : decode b_TokenRow_take 44 = .ok (.ireturn, 1) := by decide +kernel
theorem d_TokenRow_isLetter_0 : decode b_TokenRow_isLetter 0 = .ok (.iload_n 0, 1) := by decide +kernel
theorem d_TokenRow_isLetter_1 : decode b_TokenRow_isLetter 1 = .ok (.bipush 97, 2) := by decide +kernel
theorem d_TokenRow_isLetter_3 : decode b_TokenRow_isLetter 3 = .ok (.if_icmp .lt 13, 3) := by decide +kernel
theorem d_TokenRow_isLetter_6 : decode b_TokenRow_isLetter 6 = .ok (.iload_n 0, 1) := by decide +kernel
theorem d_TokenRow_isLetter_7 : decode b_TokenRow_isLetter 7 = .ok (.bipush 122, 2) := by decide +kernel
theorem d_TokenRow_isLetter_9 : decode b_TokenRow_isLetter 9 = .ok (.if_icmp .gt 7, 3) := by decide +kernel
theorem d_TokenRow_isLetter_12 : decode b_TokenRow_isLetter 12 = .ok (.iconst 1, 1) := by decide +kernel
theorem d_TokenRow_isLetter_13 : decode b_TokenRow_isLetter 13 = .ok (.goto 4, 3) := by decide +kernel
theorem d_TokenRow_isLetter_16 : decode b_TokenRow_isLetter 16 = .ok (.iconst 0, 1) := by decide +kernel
theorem d_TokenRow_isLetter_17 : decode b_TokenRow_isLetter 17 = .ok (.ireturn, 1) := by decide +kernel
theorem d_TokenRow_takeWord_0 : decode b_TokenRow_takeWord 0 = .ok (.iload_n 1, 1) := by decide +kernel
theorem d_TokenRow_takeWord_1 : decode b_TokenRow_takeWord 1 = .ok (.istore_n 2, 1) := by decide +kernel
theorem d_TokenRow_takeWord_2 : decode b_TokenRow_takeWord 2 = .ok (.iload_n 2, 1) := by decide +kernel
theorem d_TokenRow_takeWord_3 : decode b_TokenRow_takeWord 3 = .ok (.aload_n 0, 1) := by decide +kernel
theorem d_TokenRow_takeWord_4 : decode b_TokenRow_takeWord 4 = .ok (.getfield 21, 3) := by decide +kernel
theorem d_TokenRow_takeWord_7 : decode b_TokenRow_takeWord 7 = .ok (.getfield 33, 3) := by decide +kernel
theorem d_TokenRow_takeWord_10 : decode b_TokenRow_takeWord 10 = .ok (.if_icmp .ge 24, 3) := by decide +kernel
theorem d_TokenRow_takeWord_13 : decode b_TokenRow_takeWord 13 = .ok (.aload_n 0, 1) := by decide +kernel
theorem d_TokenRow_takeWord_14 : decode b_TokenRow_takeWord 14 = .ok (.getfield 21, 3) := by decide +kernel
theorem d_TokenRow_takeWord_17 : decode b_TokenRow_takeWord 17 = .ok (.getfield 47, 3) := by decide +kernel
theorem d_TokenRow_takeWord_20 : decode b_TokenRow_takeWord 20 = .ok (.iload_n 2, 1) := by decide +kernel
theorem d_TokenRow_takeWord_21 : decode b_TokenRow_takeWord 21 = .ok (.iaload, 1) := by decide +kernel
theorem d_TokenRow_takeWord_22 : decode b_TokenRow_takeWord 22 = .ok (.invokestatic 50, 3) := by decide +kernel
theorem d_TokenRow_takeWord_25 : decode b_TokenRow_takeWord 25 = .ok (.ifCond .eq 9, 3) := by decide +kernel
theorem d_TokenRow_takeWord_28 : decode b_TokenRow_takeWord 28 = .ok (.iinc 2 1, 3) := by decide +kernel
theorem d_TokenRow_takeWord_31 : decode b_TokenRow_takeWord 31 = .ok (.goto (-29), 3) := by decide +kernel
theorem d_TokenRow_takeWord_34 : decode b_TokenRow_takeWord 34 = .ok (.aload_n 0, 1) := by decide +kernel
theorem d_TokenRow_takeWord_35 : decode b_TokenRow_takeWord 35 = .ok (.getfield 9, 3) := by decide +kernel
theorem d_TokenRow_takeWord_38 : decode b_TokenRow_takeWord 38 = .ok (.aload_n 0, 1) := by decide +kernel
theorem d_TokenRow_takeWord_39 : decode b_TokenRow_takeWord 39 = .ok (.getfield 25, 3) := by decide +kernel
theorem d_TokenRow_takeWord_42 : decode b_TokenRow_takeWord 42 = .ok (.bipush 18, 2) := by decide +kernel
theorem d_TokenRow_takeWord_44 : decode b_TokenRow_takeWord 44 = .ok (.iastore, 1) := by decide +kernel
theorem d_TokenRow_takeWord_45 : decode b_TokenRow_takeWord 45 = .ok (.iload_n 2, 1) := by decide +kernel
theorem d_TokenRow_takeWord_46 : decode b_TokenRow_takeWord 46 = .ok (.iload_n 1, 1) := by decide +kernel
theorem d_TokenRow_takeWord_47 : decode b_TokenRow_takeWord 47 = .ok (.isub, 1) := by decide +kernel
theorem d_TokenRow_takeWord_48 : decode b_TokenRow_takeWord 48 = .ok (.iconst 1, 1) := by decide +kernel
theorem d_TokenRow_takeWord_49 : decode b_TokenRow_takeWord 49 = .ok (.if_icmp .ne 49, 3) := by decide +kernel
theorem d_TokenRow_takeWord_52 : decode b_TokenRow_takeWord 52 = .ok (.aload_n 0, 1) := by decide +kernel
theorem d_TokenRow_takeWord_53 : decode b_TokenRow_takeWord 53 = .ok (.getfield 21, 3) := by decide +kernel
theorem d_TokenRow_takeWord_56 : decode b_TokenRow_takeWord 56 = .ok (.getfield 47, 3) := by decide +kernel
theorem d_TokenRow_takeWord_59 : decode b_TokenRow_takeWord 59 = .ok (.iload_n 1, 1) := by decide +kernel
theorem d_TokenRow_takeWord_60 : decode b_TokenRow_takeWord 60 = .ok (.iaload, 1) := by decide +kernel
theorem d_TokenRow_takeWord_61 : decode b_TokenRow_takeWord 61 = .ok (.bipush 104, 2) := by decide +kernel
theorem d_TokenRow_takeWord_63 : decode b_TokenRow_takeWord 63 = .ok (.if_icmp .gt 35, 3) := by decide +kernel
theorem d_TokenRow_takeWord_66 : decode b_TokenRow_takeWord 66 = .ok (.aload_n 0, 1) := by decide +kernel
theorem d_TokenRow_takeWord_67 : decode b_TokenRow_takeWord 67 = .ok (.getfield 9, 3) := by decide +kernel
theorem d_TokenRow_takeWord_70 : decode b_TokenRow_takeWord 70 = .ok (.aload_n 0, 1) := by decide +kernel
theorem d_TokenRow_takeWord_71 : decode b_TokenRow_takeWord 71 = .ok (.getfield 25, 3) := by decide +kernel
theorem d_TokenRow_takeWord_74 : decode b_TokenRow_takeWord 74 = .ok (.bipush 14, 2) := by decide +kernel
theorem d_TokenRow_takeWord_76 : decode b_TokenRow_takeWord 76 = .ok (.iastore, 1) := by decide +kernel
theorem d_TokenRow_takeWord_77 : decode b_TokenRow_takeWord 77 = .ok (.aload_n 0, 1) := by decide +kernel
theorem d_TokenRow_takeWord_78 : decode b_TokenRow_takeWord 78 = .ok (.getfield 18, 3) := by decide +kernel
theorem d_TokenRow_takeWord_81 : decode b_TokenRow_takeWord 81 = .ok (.aload_n 0, 1) := by decide +kernel
theorem d_TokenRow_takeWord_82 : decode b_TokenRow_takeWord 82 = .ok (.getfield 25, 3) := by decide +kernel
theorem d_TokenRow_takeWord_85 : decode b_TokenRow_takeWord 85 = .ok (.aload_n 0, 1) := by decide +kernel
theorem d_TokenRow_takeWord_86 : decode b_TokenRow_takeWord 86 = .ok (.getfield 21, 3) := by decide +kernel
theorem d_TokenRow_takeWord_89 : decode b_TokenRow_takeWord 89 = .ok (.getfield 47, 3) := by decide +kernel
theorem d_TokenRow_takeWord_92 : decode b_TokenRow_takeWord 92 = .ok (.iload_n 1, 1) := by decide +kernel
theorem d_TokenRow_takeWord_93 : decode b_TokenRow_takeWord 93 = .ok (.iaload, 1) := by decide +kernel
theorem d_TokenRow_takeWord_94 : decode b_TokenRow_takeWord 94 = .ok (.bipush 97, 2) := by decide +kernel
theorem d_TokenRow_takeWord_96 : decode b_TokenRow_takeWord 96 = .ok (.isub, 1) := by decide +kernel
theorem d_TokenRow_takeWord_97 : decode b_TokenRow_takeWord 97 = .ok (.iastore, 1) := by decide +kernel
theorem d_TokenRow_takeWord_98 : decode b_TokenRow_takeWord 98 = .ok (.iconst 0, 1) := by decide +kernel
theorem d_TokenRow_takeWord_99 : decode b_TokenRow_takeWord 99 = .ok (.istore_n 3, 1) := by decide +kernel
theorem d_TokenRow_takeWord_100 : decode b_TokenRow_takeWord 100 = .ok (.iload_n 3, 1) := by decide +kernel
theorem d_TokenRow_takeWord_101 : decode b_TokenRow_takeWord 101 = .ok (.bipush 14, 2) := by decide +kernel
theorem d_TokenRow_takeWord_103 : decode b_TokenRow_takeWord 103 = .ok (.if_icmp .ge 45, 3) := by decide +kernel
theorem d_TokenRow_takeWord_106 : decode b_TokenRow_takeWord 106 = .ok (.aload_n 0, 1) := by decide +kernel
theorem d_TokenRow_takeWord_107 : decode b_TokenRow_takeWord 107 = .ok (.getfield 9, 3) := by decide +kernel
theorem d_TokenRow_takeWord_110 : decode b_TokenRow_takeWord 110 = .ok (.aload_n 0, 1) := by decide +kernel
theorem d_TokenRow_takeWord_111 : decode b_TokenRow_takeWord 111 = .ok (.getfield 25, 3) := by decide +kernel
theorem d_TokenRow_takeWord_114 : decode b_TokenRow_takeWord 114 = .ok (.iaload, 1) := by decide +kernel
theorem d_TokenRow_takeWord_115 : decode b_TokenRow_takeWord 115 = .ok (.bipush 18, 2) := by decide +kernel
theorem d_TokenRow_takeWord_117 : decode b_TokenRow_takeWord 117 = .ok (.if_icmp .ne 31, 3) := by decide +kernel
theorem d_TokenRow_takeWord_120 : decode b_TokenRow_takeWord 120 = .ok (.aload_n 0, 1) := by decide +kernel
theorem d_TokenRow_takeWord_121 : decode b_TokenRow_takeWord 121 = .ok (.iload_n 3, 1) := by decide +kernel
theorem d_TokenRow_takeWord_122 : decode b_TokenRow_takeWord 122 = .ok (.iload_n 1, 1) := by decide +kernel
theorem d_TokenRow_takeWord_123 : decode b_TokenRow_takeWord 123 = .ok (.iload_n 2, 1) := by decide +kernel
theorem d_TokenRow_takeWord_124 : decode b_TokenRow_takeWord 124 = .ok (.iload_n 1, 1) := by decide +kernel
theorem d_TokenRow_takeWord_125 : decode b_TokenRow_takeWord 125 = .ok (.isub, 1) := by decide +kernel
theorem d_TokenRow_takeWord_126 : decode b_TokenRow_takeWord 126 = .ok (.invokevirtual 67, 3) := by decide +kernel
theorem d_TokenRow_takeWord_129 : decode b_TokenRow_takeWord 129 = .ok (.ifCond .eq 13, 3) := by decide +kernel
theorem d_TokenRow_takeWord_132 : decode b_TokenRow_takeWord 132 = .ok (.aload_n 0, 1) := by decide +kernel
theorem d_TokenRow_takeWord_133 : decode b_TokenRow_takeWord 133 = .ok (.getfield 9, 3) := by decide +kernel
theorem d_TokenRow_takeWord_136 : decode b_TokenRow_takeWord 136 = .ok (.aload_n 0, 1) := by decide +kernel
theorem d_TokenRow_takeWord_137 : decode b_TokenRow_takeWord 137 = .ok (.getfield 25, 3) := by decide +kernel
theorem d_TokenRow_takeWord_140 : decode b_TokenRow_takeWord 140 = .ok (.iload_n 3, 1) := by decide +kernel
theorem d_TokenRow_takeWord_141 : decode b_TokenRow_takeWord 141 = .ok (.iastore, 1) := by decide +kernel
theorem d_TokenRow_takeWord_142 : decode b_TokenRow_takeWord 142 = .ok (.iinc 3 1, 3) := by decide +kernel
theorem d_TokenRow_takeWord_145 : decode b_TokenRow_takeWord 145 = .ok (.goto (-45), 3) := by decide +kernel
theorem d_TokenRow_takeWord_148 : decode b_TokenRow_takeWord 148 = .ok (.iload_n 2, 1) := by decide +kernel
theorem d_TokenRow_takeWord_149 : decode b_TokenRow_takeWord 149 = .ok (.ireturn, 1) := by decide +kernel
