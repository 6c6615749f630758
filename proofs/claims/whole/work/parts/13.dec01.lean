theorem d_TokenRow_isWord_0 : decode b_TokenRow_isWord 0 = .ok (.iload_n 3, 1) := by decide +kernel
theorem d_TokenRow_isWord_1 : decode b_TokenRow_isWord 1 = .ok (.bipush 8, 2) := by decide +kernel
theorem d_TokenRow_isWord_3 : decode b_TokenRow_isWord 3 = .ok (.if_icmp .lt 5, 3) := by decide +kernel
theorem d_TokenRow_isWord_6 : decode b_TokenRow_isWord 6 = .ok (.iconst 0, 1) := by decide +kernel
theorem d_TokenRow_isWord_7 : decode b_TokenRow_isWord 7 = .ok (.ireturn, 1) := by decide +kernel
theorem d_TokenRow_isWord_8 : decode b_TokenRow_isWord 8 = .ok (.iload_n 1, 1) := by decide +kernel
theorem d_TokenRow_isWord_9 : decode b_TokenRow_isWord 9 = .ok (.bipush 8, 2) := by decide +kernel
theorem d_TokenRow_isWord_11 : decode b_TokenRow_isWord 11 = .ok (.imul, 1) := by decide +kernel
theorem d_TokenRow_isWord_12 : decode b_TokenRow_isWord 12 = .ok (.istore 4, 2) := by decide +kernel
theorem d_TokenRow_isWord_14 : decode b_TokenRow_isWord 14 = .ok (.iconst 0, 1) := by decide +kernel
theorem d_TokenRow_isWord_15 : decode b_TokenRow_isWord 15 = .ok (.istore 5, 2) := by decide +kernel
theorem d_TokenRow_isWord_17 : decode b_TokenRow_isWord 17 = .ok (.iload 5, 2) := by decide +kernel
theorem d_TokenRow_isWord_19 : decode b_TokenRow_isWord 19 = .ok (.iload_n 3, 1) := by decide +kernel
theorem d_TokenRow_isWord_20 : decode b_TokenRow_isWord 20 = .ok (.if_icmp .ge 36, 3) := by decide +kernel
theorem d_TokenRow_isWord_23 : decode b_TokenRow_isWord 23 = .ok (.ldc 71, 2) := by decide +kernel
theorem d_TokenRow_isWord_25 : decode b_TokenRow_isWord 25 = .ok (.iload 4, 2) := by decide +kernel
theorem d_TokenRow_isWord_27 : decode b_TokenRow_isWord 27 = .ok (.iload 5, 2) := by decide +kernel
theorem d_TokenRow_isWord_29 : decode b_TokenRow_isWord 29 = .ok (.iadd, 1) := by decide +kernel
theorem d_TokenRow_isWord_30 : decode b_TokenRow_isWord 30 = .ok (.invokevirtual 73, 3) := by decide +kernel
theorem d_TokenRow_isWord_33 : decode b_TokenRow_isWord 33 = .ok (.aload_n 0, 1) := by decide +kernel
theorem d_TokenRow_isWord_34 : decode b_TokenRow_isWord 34 = .ok (.getfield 21, 3) := by decide +kernel
theorem d_TokenRow_isWord_37 : decode b_TokenRow_isWord 37 = .ok (.getfield 47, 3) := by decide +kernel
theorem d_TokenRow_isWord_40 : decode b_TokenRow_isWord 40 = .ok (.iload_n 2, 1) := by decide +kernel
theorem d_TokenRow_isWord_41 : decode b_TokenRow_isWord 41 = .ok (.iload 5, 2) := by decide +kernel
theorem d_TokenRow_isWord_43 : decode b_TokenRow_isWord 43 = .ok (.iadd, 1) := by decide +kernel
theorem d_TokenRow_isWord_44 : decode b_TokenRow_isWord 44 = .ok (.iaload, 1) := by decide +kernel
theorem d_TokenRow_isWord_45 : decode b_TokenRow_isWord 45 = .ok (.if_icmp .eq 5, 3) := by decide +kernel
theorem d_TokenRow_isWord_48 : decode b_TokenRow_isWord 48 = .ok (.iconst 0, 1) := by decide +kernel
theorem d_TokenRow_isWord_49 : decode b_TokenRow_isWord 49 = .ok (.ireturn, 1) := by decide +kernel
theorem d_TokenRow_isWord_50 : decode b_TokenRow_isWord 50 = .ok (.iinc 5 1, 3) := by decide +kernel
theorem d_TokenRow_isWord_53 : decode b_TokenRow_isWord 53 = .ok (.goto (-36), 3) := by decide +kernel
theorem d_TokenRow_isWord_56 : decode b_TokenRow_isWord 56 = .ok (.ldc 71, 2) := by decide +kernel
theorem d_TokenRow_isWord_58 : decode b_TokenRow_isWord 58 = .ok (.iload 4, 2) := by decide +kernel
theorem d_TokenRow_isWord_60 : decode b_TokenRow_isWord 60 = .ok (.iload_n 3, 1) := by decide +kernel
theorem d_TokenRow_isWord_61 : decode b_TokenRow_isWord 61 = .ok (.iadd, 1) := by decide +kernel
theorem d_TokenRow_isWord_62 : decode b_TokenRow_isWord 62 = .ok (.invokevirtual 73, 3) := by decide +kernel
theorem d_TokenRow_isWord_65 : decode b_TokenRow_isWord 65 = .ok (.bipush 32, 2) := by decide +kernel
theorem d_TokenRow_isWord_67 : decode b_TokenRow_isWord 67 = .ok (.if_icmp .ne 7, 3) := by decide +kernel
theorem d_TokenRow_isWord_70 : decode b_TokenRow_isWord 70 = .ok (.iconst 1, 1) := by decide +kernel
theorem d_TokenRow_isWord_71 : decode b_TokenRow_isWord 71 = .ok (.goto 4, 3) := by decide +kernel
theorem d_TokenRow_isWord_74 : decode b_TokenRow_isWord 74 = .ok (.iconst 0, 1) := by decide +kernel
theorem d_TokenRow_isWord_75 : decode b_TokenRow_isWord 75 = .ok (.ireturn, 1) := by decide +kernel
theorem d_TokenRow_isDigit_0 : decode b_TokenRow_isDigit 0 = .ok (.iload_n 0, 1) := by decide +kernel
theorem d_TokenRow_isDigit_1 : decode b_TokenRow_isDigit 1 = .ok (.bipush 48, 2) := by decide +kernel
theorem d_TokenRow_isDigit_3 : decode b_TokenRow_isDigit 3 = .ok (.if_icmp .lt 13, 3) := by decide +kernel
theorem d_TokenRow_isDigit_6 : decode b_TokenRow_isDigit 6 = .ok (.iload_n 0, 1) := by decide +kernel
theorem d_TokenRow_isDigit_7 : decode b_TokenRow_isDigit 7 = .ok (.bipush 57, 2) := by decide +kernel
theorem d_TokenRow_isDigit_9 : decode b_TokenRow_isDigit 9 = .ok (.if_icmp .gt 7, 3) := by decide +kernel
theorem d_TokenRow_isDigit_12 : decode b_TokenRow_isDigit 12 = .ok (.iconst 1, 1) := by decide +kernel
theorem d_TokenRow_isDigit_13 : decode b_TokenRow_isDigit 13 = .ok (.goto 4, 3) := by decide +kernel
theorem d_TokenRow_isDigit_16 : decode b_TokenRow_isDigit 16 = .ok (.iconst 0, 1) := by decide +kernel
theorem d_TokenRow_isDigit_17 : decode b_TokenRow_isDigit 17 = .ok (.ireturn, 1) := by decide +kernel
theorem d_TokenRow_takeNumber_0 : decode b_TokenRow_takeNumber 0 = .ok (.iload_n 1, 1) := by decide +kernel
theorem d_TokenRow_takeNumber_1 : decode b_TokenRow_takeNumber 1 = .ok (.istore_n 2, 1) := by decide +kernel
theorem d_TokenRow_takeNumber_2 : decode b_TokenRow_takeNumber 2 = .ok (.aload_n 0, 1) := by decide +kernel
theorem d_TokenRow_takeNumber_3 : decode b_TokenRow_takeNumber 3 = .ok (.getfield 9, 3) := by decide +kernel
theorem d_TokenRow_takeNumber_6 : decode b_TokenRow_takeNumber 6 = .ok (.aload_n 0, 1) := by decide +kernel
theorem d_TokenRow_takeNumber_7 : decode b_TokenRow_takeNumber 7 = .ok (.getfield 25, 3) := by decide +kernel
theorem d_TokenRow_takeNumber_10 : decode b_TokenRow_takeNumber 10 = .ok (.bipush 15, 2) := by decide +kernel
theorem d_TokenRow_takeNumber_12 : decode b_TokenRow_takeNumber 12 = .ok (.iastore, 1) := by decide +kernel
theorem d_TokenRow_takeNumber_13 : decode b_TokenRow_takeNumber 13 = .ok (.iload_n 2, 1) := by decide +kernel
theorem d_TokenRow_takeNumber_14 : decode b_TokenRow_takeNumber 14 = .ok (.aload_n 0, 1) := by decide +kernel
theorem d_TokenRow_takeNumber_15 : decode b_TokenRow_takeNumber 15 = .ok (.getfield 21, 3) := by decide +kernel
theorem d_TokenRow_takeNumber_18 : decode b_TokenRow_takeNumber 18 = .ok (.getfield 33, 3) := by decide +kernel
theorem d_TokenRow_takeNumber_21 : decode b_TokenRow_takeNumber 21 = .ok (.if_icmp .ge 66, 3) := by decide +kernel
theorem d_TokenRow_takeNumber_24 : decode b_TokenRow_takeNumber 24 = .ok (.iload_n 2, 1) := by decide +kernel
theorem d_TokenRow_takeNumber_25 : decode b_TokenRow_takeNumber 25 = .ok (.iload_n 1, 1) := by decide +kernel
theorem d_TokenRow_takeNumber_26 : decode b_TokenRow_takeNumber 26 = .ok (.isub, 1) := by decide +kernel
theorem d_TokenRow_takeNumber_27 : decode b_TokenRow_takeNumber 27 = .ok (.bipush 7, 2) := by decide +kernel
theorem d_TokenRow_takeNumber_29 : decode b_TokenRow_takeNumber 29 = .ok (.if_icmp .ge 58, 3) := by decide +kernel
theorem d_TokenRow_takeNumber_32 : decode b_TokenRow_takeNumber 32 = .ok (.aload_n 0, 1) := by decide +kernel
theorem d_TokenRow_takeNumber_33 : decode b_TokenRow_takeNumber 33 = .ok (.getfield 21, 3) := by decide +kernel
theorem d_TokenRow_takeNumber_36 : decode b_TokenRow_takeNumber 36 = .ok (.getfield 47, 3) := by decide +kernel
theorem d_TokenRow_takeNumber_39 : decode b_TokenRow_takeNumber 39 = .ok (.iload_n 2, 1) := by decide +kernel
theorem d_TokenRow_takeNumber_40 : decode b_TokenRow_takeNumber 40 = .ok (.iaload, 1) := by decide +kernel
theorem d_TokenRow_takeNumber_41 : decode b_TokenRow_takeNumber 41 = .ok (.invokestatic 57, 3) := by decide +kernel
theorem d_TokenRow_takeNumber_44 : decode b_TokenRow_takeNumber 44 = .ok (.ifCond .eq 43, 3) := by decide +kernel
theorem d_TokenRow_takeNumber_47 : decode b_TokenRow_takeNumber 47 = .ok (.aload_n 0, 1) := by decide +kernel
theorem d_TokenRow_takeNumber_48 : decode b_TokenRow_takeNumber 48 = .ok (.getfield 18, 3) := by decide +kernel
theorem d_TokenRow_takeNumber_51 : decode b_TokenRow_takeNumber 51 = .ok (.aload_n 0, 1) := by decide +kernel
theorem d_TokenRow_takeNumber_52 : decode b_TokenRow_takeNumber 52 = .ok (.getfield 25, 3) := by decide +kernel
theorem d_TokenRow_takeNumber_55 : decode b_TokenRow_takeNumber 55 = .ok (.aload_n 0, 1) := by decide +kernel
theorem d_TokenRow_takeNumber_56 : decode b_TokenRow_takeNumber 56 = .ok (.getfield 18, 3) := by decide +kernel
theorem d_TokenRow_takeNumber_59 : decode b_TokenRow_takeNumber 59 = .ok (.aload_n 0, 1) := by decide +kernel
theorem d_TokenRow_takeNumber_60 : decode b_TokenRow_takeNumber 60 = .ok (.getfield 25, 3) := by decide +kernel
theorem d_TokenRow_takeNumber_63 : decode b_TokenRow_takeNumber 63 = .ok (.iaload, 1) := by decide +kernel
theorem d_TokenRow_takeNumber_64 : decode b_TokenRow_takeNumber 64 = .ok (.bipush 10, 2) := by decide +kernel
theorem d_TokenRow_takeNumber_66 : decode b_TokenRow_takeNumber 66 = .ok (.imul, 1) := by decide +kernel
theorem d_TokenRow_takeNumber_67 : decode b_TokenRow_takeNumber 67 = .ok (.aload_n 0, 1) := by decide +kernel
theorem d_TokenRow_takeNumber_68 : decode b_TokenRow_takeNumber 68 = .ok (.getfield 21, 3) := by decide +kernel
theorem d_TokenRow_takeNumber_71 : decode b_TokenRow_takeNumber 71 = .ok (.getfield 47, 3) := by decide +kernel
theorem d_TokenRow_takeNumber_74 : decode b_TokenRow_takeNumber 74 = .ok (.iload_n 2, 1) := by decide +kernel
theorem d_TokenRow_takeNumber_75 : decode b_TokenRow_takeNumber 75 = .ok (.iaload, 1) := by decide +kernel
theorem d_TokenRow_takeNumber_76 : decode b_TokenRow_takeNumber 76 = .ok (.iadd, 1) := by decide +kernel
theorem d_TokenRow_takeNumber_77 : decode b_TokenRow_takeNumber 77 = .ok (.bipush 48, 2) := by decide +kernel
theorem d_TokenRow_takeNumber_79 : decode b_TokenRow_takeNumber 79 = .ok (.isub, 1) := by decide +kernel
theorem d_TokenRow_takeNumber_80 : decode b_TokenRow_takeNumber 80 = .ok (.iastore, 1) := by decide +kernel
theorem d_TokenRow_takeNumber_81 : decode b_TokenRow_takeNumber 81 = .ok (.iinc 2 1, 3) := by decide +kernel
theorem d_TokenRow_takeNumber_84 : decode b_TokenRow_takeNumber 84 = .ok (.goto (-71), 3) := by decide +kernel
theorem d_TokenRow_takeNumber_87 : decode b_TokenRow_takeNumber 87 = .ok (.iload_n 2, 1) := by decide +kernel
theorem d_TokenRow_takeNumber_88 : decode b_TokenRow_takeNumber 88 = .ok (.ireturn, 1) := by decide +kernel
theorem d_TokenRow_takeMark_0 : decode b_TokenRow_takeMark 0 = .ok (.aload_n 0, 1) := by decide +kernel
theorem d_TokenRow_takeMark_1 : decode b_TokenRow_takeMark 1 = .ok (.getfield 9, 3) := by decide +kernel
theorem d_TokenRow_takeMark_4 : decode b_TokenRow_takeMark 4 = .ok (.aload_n 0, 1) := by decide +kernel
theorem d_TokenRow_takeMark_5 : decode b_TokenRow_takeMark 5 = .ok (.getfield 25, 3) := by decide +kernel
theorem d_TokenRow_takeMark_8 : decode b_TokenRow_takeMark 8 = .ok (.bipush 16, 2) := by decide +kernel
theorem d_TokenRow_takeMark_10 : decode b_TokenRow_takeMark 10 = .ok (.iastore, 1) := by decide +kernel
theorem d_TokenRow_takeMark_11 : decode b_TokenRow_takeMark 11 = .ok (.iload_n 1, 1) := by decide +kernel
theorem d_TokenRow_takeMark_12 : decode b_TokenRow_takeMark 12 = .ok (.bipush 60, 2) := by decide +kernel
theorem d_TokenRow_takeMark_14 : decode b_TokenRow_takeMark 14 = .ok (.if_icmp .ne 16, 3) := by decide +kernel
theorem d_TokenRow_takeMark_17 : decode b_TokenRow_takeMark 17 = .ok (.aload_n 0, 1) := by decide +kernel
theorem d_TokenRow_takeMark_18 : decode b_TokenRow_takeMark 18 = .ok (.getfield 18, 3) := by decide +kernel
theorem d_TokenRow_takeMark_21 : decode b_TokenRow_takeMark 21 = .ok (.aload_n 0, 1) := by decide +kernel
theorem d_TokenRow_takeMark_22 : decode b_TokenRow_takeMark 22 = .ok (.getfield 25, 3) := by decide +kernel
theorem d_TokenRow_takeMark_25 : decode b_TokenRow_takeMark 25 = .ok (.iconst (-1), 1) := by decide +kernel
theorem d_TokenRow_takeMark_26 : decode b_TokenRow_takeMark 26 = .ok (.iastore, 1) := by decide +kernel
theorem d_TokenRow_takeMark_27 : decode b_TokenRow_takeMark 27 = .ok (.goto 50, 3) := by decide +kernel
theorem d_TokenRow_takeMark_30 : decode b_TokenRow_takeMark 30 = .ok (.iload_n 1, 1) := by decide +kernel
theorem d_TokenRow_takeMark_31 : decode b_TokenRow_takeMark 31 = .ok (.bipush 62, 2) := by decide +kernel
theorem d_TokenRow_takeMark_33 : decode b_TokenRow_takeMark 33 = .ok (.if_icmp .ne 16, 3) := by decide +kernel
theorem d_TokenRow_takeMark_36 : decode b_TokenRow_takeMark 36 = .ok (.aload_n 0, 1) := by decide +kernel
theorem d_TokenRow_takeMark_37 : decode b_TokenRow_takeMark 37 = .ok (.getfield 18, 3) := by decide +kernel
theorem d_TokenRow_takeMark_40 : decode b_TokenRow_takeMark 40 = .ok (.aload_n 0, 1) := by decide +kernel
theorem d_TokenRow_takeMark_41 : decode b_TokenRow_takeMark 41 = .ok (.getfield 25, 3) := by decide +kernel
theorem d_TokenRow_takeMark_44 : decode b_TokenRow_takeMark 44 = .ok (.iconst 1, 1) := by decide +kernel
theorem d_TokenRow_takeMark_45 : decode b_TokenRow_takeMark 45 = .ok (.iastore, 1) := by decide +kernel
theorem d_TokenRow_takeMark_46 : decode b_TokenRow_takeMark 46 = .ok (.goto 31, 3) := by decide +kernel
theorem d_TokenRow_takeMark_49 : decode b_TokenRow_takeMark 49 = .ok (.iload_n 1, 1) := by decide +kernel
theorem d_TokenRow_takeMark_50 : decode b_TokenRow_takeMark 50 = .ok (.bipush 61, 2) := by decide +kernel
theorem d_TokenRow_takeMark_52 : decode b_TokenRow_takeMark 52 = .ok (.if_icmp .eq 25, 3) := by decide +kernel
theorem d_TokenRow_takeMark_55 : decode b_TokenRow_takeMark 55 = .ok (.aload_n 0, 1) := by decide +kernel
theorem d_TokenRow_takeMark_56 : decode b_TokenRow_takeMark 56 = .ok (.getfield 9, 3) := by decide +kernel
theorem d_TokenRow_takeMark_59 : decode b_TokenRow_takeMark 59 = .ok (.aload_n 0, 1) := by decide +kernel
theorem d_TokenRow_takeMark_60 : decode b_TokenRow_takeMark 60 = .ok (.getfield 25, 3) := by decide +kernel
theorem d_TokenRow_takeMark_63 : decode b_TokenRow_takeMark 63 = .ok (.iload_n 1, 1) := by decide +kernel
theorem d_TokenRow_takeMark_64 : decode b_TokenRow_takeMark 64 = .ok (.bipush 59, 2) := by decide +kernel
theorem d_TokenRow_takeMark_66 : decode b_TokenRow_takeMark 66 = .ok (.if_icmp .ne 8, 3) := by decide +kernel
theorem d_TokenRow_takeMark_69 : decode b_TokenRow_takeMark 69 = .ok (.bipush 17, 2) := by decide +kernel
theorem d_TokenRow_takeMark_71 : decode b_TokenRow_takeMark 71 = .ok (.goto 5, 3) := by decide +kernel
theorem d_TokenRow_takeMark_74 : decode b_TokenRow_takeMark 74 = .ok (.bipush 18, 2) := by decide +kernel
theorem d_TokenRow_takeMark_76 : decode b_TokenRow_takeMark 76 = .ok (.iastore, 1) := by decide +kernel
theorem d_TokenRow_takeMark_77 : decode b_TokenRow_takeMark 77 = .ok (.return_, 1) := by decide +kernel
theorem d_RuleReader_readRule_0 : decode b_RuleReader_readRule 0 = .ok (.aload_n 0, 1) := by decide +kernel
theorem d_RuleReader_readRule_1 : decode b_RuleReader_readRule 1 = .ok (.getfield 12, 3) := by decide +kernel
theorem d_RuleReader_readRule_4 : decode b_RuleReader_readRule 4 = .ok (.invokevirtual 60, 3) := by decide +kernel
theorem d_RuleReader_readRule_7 : decode b_RuleReader_readRule 7 = .ok (.ifCond .eq 9, 3) := by decide +kernel
theorem d_RuleReader_readRule_10 : decode b_RuleReader_readRule 10 = .ok (.aload_n 0, 1) := by decide +kernel
theorem d_RuleReader_readRule_11 : decode b_RuleReader_readRule 11 = .ok (.iconst 1, 1) := by decide +kernel
theorem d_RuleReader_readRule_12 : decode b_RuleReader_readRule 12 = .ok (.invokevirtual 63, 3) := by decide +kernel
theorem d_RuleReader_readRule_15 : decode b_RuleReader_readRule 15 = .ok (.ireturn, 1) := by decide +kernel
theorem d_RuleReader_readRule_16 : decode b_RuleReader_readRule 16 = .ok (.aload_n 0, 1) := by decide +kernel
theorem d_RuleReader_readRule_17 : decode b_RuleReader_readRule 17 = .ok (.getfield 47, 3) := by decide +kernel
theorem d_RuleReader_readRule_20 : decode b_RuleReader_readRule 20 = .ok (.bipush 11, 2) := by decide +kernel
theorem d_RuleReader_readRule_22 : decode b_RuleReader_readRule 22 = .ok (.if_icmp .ne 41, 3) := by decide +kernel
theorem d_RuleReader_readRule_25 : decode b_RuleReader_readRule 25 = .ok (.aload_n 0, 1) := by decide +kernel
theorem d_RuleReader_readRule_26 : decode b_RuleReader_readRule 26 = .ok (.getfield 12, 3) := by decide +kernel
theorem d_RuleReader_readRule_29 : decode b_RuleReader_readRule 29 = .ok (.bipush 11, 2) := by decide +kernel
theorem d_RuleReader_readRule_31 : decode b_RuleReader_readRule 31 = .ok (.iconst 0, 1) := by decide +kernel
theorem d_RuleReader_readRule_32 : decode b_RuleReader_readRule 32 = .ok (.invokevirtual 67, 3) := by decide +kernel
theorem d_RuleReader_readRule_35 : decode b_RuleReader_readRule 35 = .ok (.aload_n 0, 1) := by decide +kernel
theorem d_RuleReader_readRule_36 : decode b_RuleReader_readRule 36 = .ok (.invokevirtual 71, 3) := by decide +kernel
theorem d_RuleReader_readRule_39 : decode b_RuleReader_readRule 39 = .ok (.aload_n 0, 1) := by decide +kernel
theorem d_RuleReader_readRule_40 : decode b_RuleReader_readRule 40 = .ok (.bipush 6, 2) := by decide +kernel
theorem d_RuleReader_readRule_42 : decode b_RuleReader_readRule 42 = .ok (.invokevirtual 74, 3) := by decide +kernel
theorem d_RuleReader_readRule_45 : decode b_RuleReader_readRule 45 = .ok (.ifCond .eq 16, 3) := by decide +kernel
theorem d_RuleReader_readRule_48 : decode b_RuleReader_readRule 48 = .ok (.aload_n 0, 1) := by decide +kernel
theorem d_RuleReader_readRule_49 : decode b_RuleReader_readRule 49 = .ok (.bipush 17, 2) := by decide +kernel
theorem d_RuleReader_readRule_51 : decode b_RuleReader_readRule 51 = .ok (.invokevirtual 77, 3) := by decide +kernel
theorem d_RuleReader_readRule_54 : decode b_RuleReader_readRule 54 = .ok (.ifCond .eq 7, 3) := by decide +kernel
theorem d_RuleReader_readRule_57 : decode b_RuleReader_readRule 57 = .ok (.iconst 1, 1) := by decide +kernel
theorem d_RuleReader_readRule_58 : decode b_RuleReader_readRule 58 = .ok (.goto 4, 3) := by decide +kernel
theorem d_RuleReader_readRule_61 : decode b_RuleReader_readRule 61 = .ok (.iconst 0, 1) := by decide +kernel
theorem d_RuleReader_readRule_62 : decode b_RuleReader_readRule 62 = .ok (.ireturn, 1) := by decide +kernel
theorem d_RuleReader_readRule_63 : decode b_RuleReader_readRule 63 = .ok (.aload_n 0, 1) := by decide +kernel
theorem d_RuleReader_readRule_64 : decode b_RuleReader_readRule 64 = .ok (.invokevirtual 80, 3) := by decide +kernel
theorem d_RuleReader_readRule_67 : decode b_RuleReader_readRule 67 = .ok (.ifCond .eq 23, 3) := by decide +kernel
theorem d_RuleReader_readRule_70 : decode b_RuleReader_readRule 70 = .ok (.aload_n 0, 1) := by decide +kernel
theorem d_RuleReader_readRule_71 : decode b_RuleReader_readRule 71 = .ok (.invokevirtual 83, 3) := by decide +kernel
theorem d_RuleReader_readRule_74 : decode b_RuleReader_readRule 74 = .ok (.ifCond .eq 16, 3) := by decide +kernel
theorem d_RuleReader_readRule_77 : decode b_RuleReader_readRule 77 = .ok (.aload_n 0, 1) := by decide +kernel
theorem d_RuleReader_readRule_78 : decode b_RuleReader_readRule 78 = .ok (.bipush 17, 2) := by decide +kernel
theorem d_RuleReader_readRule_80 : decode b_RuleReader_readRule 80 = .ok (.invokevirtual 77, 3) := by decide +kernel
theorem d_RuleReader_readRule_83 : decode b_RuleReader_readRule 83 = .ok (.ifCond .eq 7, 3) := by decide +kernel
theorem d_RuleReader_readRule_86 : decode b_RuleReader_readRule 86 = .ok (.iconst 1, 1) := by decide +kernel
theorem d_RuleReader_readRule_87 : decode b_RuleReader_readRule 87 = .ok (.goto 4, 3) := by decide +kernel
theorem d_RuleReader_readRule_90 : decode b_RuleReader_readRule 90 = .ok (.iconst 0, 1) := by decide +kernel
theorem d_RuleReader_readRule_91 : decode b_RuleReader_readRule 91 = .ok (.ireturn, 1) := by decide +kernel
theorem d_RuleBook_isFull_0 : decode b_RuleBook_isFull 0 = .ok (.aload_n 0, 1) := by decide +kernel
theorem d_RuleBook_isFull_1 : decode b_RuleBook_isFull 1 = .ok (.getfield 33, 3) := by decide +kernel
theorem d_RuleBook_isFull_4 : decode b_RuleBook_isFull 4 = .ok (.bipush 16, 2) := by decide +kernel
theorem d_RuleBook_isFull_6 : decode b_RuleBook_isFull 6 = .ok (.if_icmp .lt 7, 3) := by decide +kernel
theorem d_RuleBook_isFull_9 : decode b_RuleBook_isFull 9 = .ok (.iconst 1, 1) := by decide +kernel
theorem d_RuleBook_isFull_10 : decode b_RuleBook_isFull 10 = .ok (.goto 4, 3) := by decide +kernel
theorem d_RuleBook_isFull_13 : decode b_RuleBook_isFull 13 = .ok (.iconst 0, 1) := by decide +kernel
theorem d_RuleBook_isFull_14 : decode b_RuleBook_isFull 14 = .ok (.ireturn, 1) := by decide +kernel
theorem d_RuleReader_failWith_0 : decode b_RuleReader_failWith 0 = .ok (.aload_n 0, 1) := by decide +kernel
theorem d_RuleReader_failWith_1 : decode b_RuleReader_failWith 1 = .ok (.iload_n 1, 1) := by decide +kernel
theorem d_RuleReader_failWith_2 : decode b_RuleReader_failWith 2 = .ok (.putfield 31, 3) := by decide +kernel
theorem d_RuleReader_failWith_5 : decode b_RuleReader_failWith 5 = .ok (.aload_n 0, 1) := by decide +kernel
theorem d_RuleReader_failWith_6 : decode b_RuleReader_failWith 6 = .ok (.aload_n 0, 1) := by decide +kernel
theorem d_RuleReader_failWith_7 : decode b_RuleReader_failWith 7 = .ok (.getfield 23, 3) := by decide +kernel
theorem d_RuleReader_failWith_10 : decode b_RuleReader_failWith 10 = .ok (.getfield 57, 3) := by decide +kernel
theorem d_RuleReader_failWith_13 : decode b_RuleReader_failWith 13 = .ok (.aload_n 0, 1) := by decide +kernel
theorem d_RuleReader_failWith_14 : decode b_RuleReader_failWith 14 = .ok (.getfield 40, 3) := by decide +kernel
theorem d_RuleReader_failWith_17 : decode b_RuleReader_failWith 17 = .ok (.iaload, 1) := by decide +kernel
theorem d_RuleReader_failWith_18 : decode b_RuleReader_failWith 18 = .ok (.putfield 27, 3) := by decide +kernel
theorem d_RuleReader_failWith_21 : decode b_RuleReader_failWith 21 = .ok (.iconst 0, 1) := by decide +kernel
theorem d_RuleReader_failWith_22 : decode b_RuleReader_failWith 22 = .ok (.ireturn, 1) := by decide +kernel
theorem d_RuleBook_addRule_0 : decode b_RuleBook_addRule 0 = .ok (.aload_n 0, 1) := by decide +kernel
theorem d_RuleBook_addRule_1 : decode b_RuleBook_addRule 1 = .ok (.invokevirtual 46, 3) := by decide +kernel
theorem d_RuleBook_addRule_4 : decode b_RuleBook_addRule 4 = .ok (.ifCond .eq 4, 3) := by decide +kernel
theorem d_RuleBook_addRule_7 : decode b_RuleBook_addRule 7 = .ok (.return_, 1) := by decide +kernel
theorem d_RuleBook_addRule_8 : decode b_RuleBook_addRule 8 = .ok (.aload_n 0, 1) := by decide +kernel
theorem d_RuleBook_addRule_9 : decode b_RuleBook_addRule 9 = .ok (.getfield 9, 3) := by decide +kernel
theorem d_RuleBook_addRule_12 : decode b_RuleBook_addRule 12 = .ok (.aload_n 0, 1) := by decide +kernel
theorem d_RuleBook_addRule_13 : decode b_RuleBook_addRule 13 = .ok (.getfield 33, 3) := by decide +kernel
theorem d_RuleBook_addRule_16 : decode b_RuleBook_addRule 16 = .ok (.iload_n 1, 1) := by decide +kernel
theorem d_RuleBook_addRule_17 : decode b_RuleBook_addRule 17 = .ok (.iastore, 1) := by decide +kernel
theorem d_RuleBook_addRule_18 : decode b_RuleBook_addRule 18 = .ok (.aload_n 0, 1) := by decide +kernel
theorem d_RuleBook_addRule_19 : decode b_RuleBook_addRule 19 = .ok (.getfield 15, 3) := by decide +kernel
theorem d_RuleBook_addRule_22 : decode b_RuleBook_addRule 22 = .ok (.aload_n 0, 1) := by decide +kernel
theorem d_RuleBook_addRule_23 : decode b_RuleBook_addRule 23 = .ok (.getfield 33, 3) := by decide +kernel
theorem d_RuleBook_addRule_26 : decode b_RuleBook_addRule 26 = .ok (.iload_n 2, 1) := by decide +kernel
theorem d_RuleBook_addRule_27 : decode b_RuleBook_addRule 27 = .ok (.iastore, 1) := by decide +kernel
theorem d_RuleBook_addRule_28 : decode b_RuleBook_addRule 28 = .ok (.aload_n 0, 1) := by decide +kernel
theorem d_RuleBook_addRule_29 : decode b_RuleBook_addRule 29 = .ok (.getfield 18, 3) := by decide +kernel
theorem d_RuleBook_addRule_32 : decode b_RuleBook_addRule 32 = .ok (.aload_n 0, 1) := by decide +kernel
theorem d_RuleBook_addRule_33 : decode b_RuleBook_addRule 33 = .ok (.getfield 33, 3) := by decide +kernel
theorem d_RuleBook_addRule_36 : decode b_RuleBook_addRule 36 = .ok (.aload_n 0, 1) := by decide +kernel
theorem d_RuleBook_addRule_37 : decode b_RuleBook_addRule 37 = .ok (.getfield 37, 3) := by decide +kernel
theorem d_RuleBook_addRule_40 : decode b_RuleBook_addRule 40 = .ok (.iastore, 1) := by decide +kernel
theorem d_RuleBook_addRule_41 : decode b_RuleBook_addRule 41 = .ok (.aload_n 0, 1) := by decide +kernel
theorem d_RuleBook_addRule_42 : decode b_RuleBook_addRule 42 = .ok (.getfield 21, 3) := by decide +kernel
theorem d_RuleBook_addRule_45 : decode b_RuleBook_addRule 45 = .ok (.aload_n 0, 1) := by decide +kernel
theorem d_RuleBook_addRule_46 : decode b_RuleBook_addRule 46 = .ok (.getfield 33, 3) := by decide +kernel
theorem d_RuleBook_addRule_49 : decode b_RuleBook_addRule 49 = .ok (.aload_n 0, 1) := by decide +kernel
theorem d_RuleBook_addRule_50 : decode b_RuleBook_addRule 50 = .ok (.getfield 37, 3) := by decide +kernel
theorem d_RuleBook_addRule_53 : decode b_RuleBook_addRule 53 = .ok (.iastore, 1) := by decide +kernel
theorem d_RuleBook_addRule_54 : decode b_RuleBook_addRule 54 = .ok (.aload_n 0, 1) := by decide +kernel
theorem d_RuleBook_addRule_55 : decode b_RuleBook_addRule 55 = .ok (.dup, 1) := by decide +kernel
theorem d_RuleBook_addRule_56 : decode b_RuleBook_addRule 56 = .ok (.getfield 33, 3) := by decide +kernel
theorem d_RuleBook_addRule_59 : decode b_RuleBook_addRule 59 = .ok (.iconst 1, 1) := by decide +kernel
theorem d_RuleBook_addRule_60 : decode b_RuleBook_addRule 60 = .ok (.iadd, 1) := by decide +kernel
theorem d_RuleBook_addRule_61 : decode b_RuleBook_addRule 61 = .ok (.putfield 33, 3) := by decide +kernel
theorem d_RuleBook_addRule_64 : decode b_RuleBook_addRule 64 = .ok (.return_, 1) := by decide +kernel
theorem d_RuleReader_advance_0 : decode b_RuleReader_advance 0 = .ok (.aload_n 0, 1) := by decide +kernel
theorem d_RuleReader_advance_1 : decode b_RuleReader_advance 1 = .ok (.getfield 40, 3) := by decide +kernel
theorem d_RuleReader_advance_4 : decode b_RuleReader_advance 4 = .ok (.aload_n 0, 1) := by decide +kernel
theorem d_RuleReader_advance_5 : decode b_RuleReader_advance 5 = .ok (.getfield 23, 3) := by decide +kernel
theorem d_RuleReader_advance_8 : decode b_RuleReader_advance 8 = .ok (.getfield 54, 3) := by decide +kernel
theorem d_RuleReader_advance_11 : decode b_RuleReader_advance 11 = .ok (.iconst 1, 1) := by decide +kernel
theorem d_RuleReader_advance_12 : decode b_RuleReader_advance 12 = .ok (.isub, 1) := by decide +kernel
theorem d_RuleReader_advance_13 : decode b_RuleReader_advance 13 = .ok (.if_icmp .ge 13, 3) := by decide +kernel
theorem d_RuleReader_advance_16 : decode b_RuleReader_advance 16 = .ok (.aload_n 0, 1) := by decide +kernel
theorem d_RuleReader_advance_17 : decode b_RuleReader_advance 17 = .ok (.dup, 1) := by decide +kernel
theorem d_RuleReader_advance_18 : decode b_RuleReader_advance 18 = .ok (.getfield 40, 3) := by decide +kernel
theorem d_RuleReader_advance_21 : decode b_RuleReader_advance 21 = .ok (.iconst 1, 1) := by decide +kernel
theorem d_RuleReader_advance_22 : decode b_RuleReader_advance 22 = .ok (.iadd, 1) := by decide +kernel
theorem d_RuleReader_advance_23 : decode b_RuleReader_advance 23 = .ok (.putfield 40, 3) := by decide +kernel
theorem d_RuleReader_advance_26 : decode b_RuleReader_advance 26 = .ok (.aload_n 0, 1) := by decide +kernel
theorem d_RuleReader_advance_27 : decode b_RuleReader_advance 27 = .ok (.aload_n 0, 1) := by decide +kernel
theorem d_RuleReader_advance_28 : decode b_RuleReader_advance 28 = .ok (.getfield 23, 3) := by decide +kernel
theorem d_RuleReader_advance_31 : decode b_RuleReader_advance 31 = .ok (.getfield 43, 3) := by decide +kernel
theorem d_RuleReader_advance_34 : decode b_RuleReader_advance 34 = .ok (.aload_n 0, 1) := by decide +kernel
theorem d_RuleReader_advance_35 : decode b_RuleReader_advance 35 = .ok (.getfield 40, 3) := by decide +kernel
theorem d_RuleReader_advance_38 : decode b_RuleReader_advance 38 = .ok (.iaload, 1) := by decide +kernel
theorem d_RuleReader_advance_39 : decode b_RuleReader_advance 39 = .ok (.putfield 47, 3) := by decide +kernel
theorem d_RuleReader_advance_42 : decode b_RuleReader_advance 42 = .ok (.return_, 1) := by decide +kernel
theorem d_RuleReader_readTests_0 : decode b_RuleReader_readTests 0 = .ok (.iconst 0, 1) := by decide +kernel
theorem d_RuleReader_readTests_1 : decode b_RuleReader_readTests 1 = .ok (.istore_n 2, 1) := by decide +kernel
theorem d_RuleReader_readTests_2 : decode b_RuleReader_readTests 2 = .ok (.iload_n 2, 1) := by decide +kernel
theorem d_RuleReader_readTests_3 : decode b_RuleReader_readTests 3 = .ok (.bipush 64, 2) := by decide +kernel
theorem d_RuleReader_readTests_5 : decode b_RuleReader_readTests 5 = .ok (.if_icmp .ge 34, 3) := by decide +kernel
theorem d_RuleReader_readTests_8 : decode b_RuleReader_readTests 8 = .ok (.aload_n 0, 1) := by decide +kernel
theorem d_RuleReader_readTests_9 : decode b_RuleReader_readTests 9 = .ok (.iload_n 1, 1) := by decide +kernel
theorem d_RuleReader_readTests_10 : decode b_RuleReader_readTests 10 = .ok (.invokevirtual 89, 3) := by decide +kernel
theorem d_RuleReader_readTests_13 : decode b_RuleReader_readTests 13 = .ok (.ifCond .ne 5, 3) := by decide +kernel
theorem d_RuleReader_readTests_16 : decode b_RuleReader_readTests 16 = .ok (.iconst 0, 1) := by decide +kernel
theorem d_RuleReader_readTests_17 : decode b_RuleReader_readTests 17 = .ok (.ireturn, 1) := by decide +kernel
theorem d_RuleReader_readTests_18 : decode b_RuleReader_readTests 18 = .ok (.aload_n 0, 1) := by decide +kernel
theorem d_RuleReader_readTests_19 : decode b_RuleReader_readTests 19 = .ok (.getfield 47, 3) := by decide +kernel
theorem d_RuleReader_readTests_22 : decode b_RuleReader_readTests 22 = .ok (.bipush 13, 2) := by decide +kernel
theorem d_RuleReader_readTests_24 : decode b_RuleReader_readTests 24 = .ok (.if_icmp .eq 5, 3) := by decide +kernel
theorem d_RuleReader_readTests_27 : decode b_RuleReader_readTests 27 = .ok (.iconst 1, 1) := by decide +kernel
theorem d_RuleReader_readTests_28 : decode b_RuleReader_readTests 28 = .ok (.ireturn, 1) := by decide +kernel
theorem d_RuleReader_readTests_29 : decode b_RuleReader_readTests 29 = .ok (.aload_n 0, 1) := by decide +kernel
theorem d_RuleReader_readTests_30 : decode b_RuleReader_readTests 30 = .ok (.invokevirtual 71, 3) := by decide +kernel
theorem d_RuleReader_readTests_33 : decode b_RuleReader_readTests 33 = .ok (.iinc 2 1, 3) := by decide +kernel
theorem d_RuleReader_readTests_36 : decode b_RuleReader_readTests 36 = .ok (.goto (-34), 3) := by decide +kernel
theorem d_RuleReader_readTests_39 : decode b_RuleReader_readTests 39 = .ok (.aload_n 0, 1) := by decide +kernel
theorem d_RuleReader_readTests_40 : decode b_RuleReader_readTests 40 = .ok (.iconst 1, 1) := by decide +kernel
theorem d_RuleReader_readTests_41 : decode b_RuleReader_readTests 41 = .ok (.invokevirtual 63, 3) := by decide +kernel
theorem d_RuleReader_readTests_44 : decode b_RuleReader_readTests 44 = .ok (.ireturn, 1) := by decide +kernel
theorem d_RuleReader_readTest_0 : decode b_RuleReader_readTest 0 = .ok (.aload_n 0, 1) := by decide +kernel
theorem d_RuleReader_readTest_1 : decode b_RuleReader_readTest 1 = .ok (.getfield 47, 3) := by decide +kernel
theorem d_RuleReader_readTest_4 : decode b_RuleReader_readTest 4 = .ok (.istore_n 2, 1) := by decide +kernel
theorem d_RuleReader_readTest_5 : decode b_RuleReader_readTest 5 = .ok (.iload_n 2, 1) := by decide +kernel
theorem d_RuleReader_readTest_6 : decode b_RuleReader_readTest 6 = .ok (.iload_n 1, 1) := by decide +kernel
theorem d_RuleReader_readTest_7 : decode b_RuleReader_readTest 7 = .ok (.if_icmp .le 19, 3) := by decide +kernel
theorem d_RuleReader_readTest_10 : decode b_RuleReader_readTest 10 = .ok (.aload_n 0, 1) := by decide +kernel
theorem d_RuleReader_readTest_11 : decode b_RuleReader_readTest 11 = .ok (.iload_n 2, 1) := by decide +kernel
theorem d_RuleReader_readTest_12 : decode b_RuleReader_readTest 12 = .ok (.bipush 6, 2) := by decide +kernel
theorem d_RuleReader_readTest_14 : decode b_RuleReader_readTest 14 = .ok (.if_icmp .le 7, 3) := by decide +kernel
theorem d_RuleReader_readTest_17 : decode b_RuleReader_readTest 17 = .ok (.iconst 1, 1) := by decide +kernel
theorem d_RuleReader_readTest_18 : decode b_RuleReader_readTest 18 = .ok (.goto 4, 3) := by decide +kernel
theorem d_RuleReader_readTest_21 : decode b_RuleReader_readTest 21 = .ok (.iconst 2, 1) := by decide +kernel
theorem d_RuleReader_readTest_22 : decode b_RuleReader_readTest 22 = .ok (.invokevirtual 63, 3) := by decide +kernel
theorem d_RuleReader_readTest_25 : decode b_RuleReader_readTest 25 = .ok (.ireturn, 1) := by decide +kernel
theorem d_RuleReader_readTest_26 : decode b_RuleReader_readTest 26 = .ok (.aload_n 0, 1) := by decide +kernel
theorem d_RuleReader_readTest_27 : decode b_RuleReader_readTest 27 = .ok (.invokevirtual 71, 3) := by decide +kernel
theorem d_RuleReader_readTest_30 : decode b_RuleReader_readTest 30 = .ok (.aload_n 0, 1) := by decide +kernel
theorem d_RuleReader_readTest_31 : decode b_RuleReader_readTest 31 = .ok (.getfield 23, 3) := by decide +kernel
theorem d_RuleReader_readTest_34 : decode b_RuleReader_readTest 34 = .ok (.getfield 86, 3) := by decide +kernel
theorem d_RuleReader_readTest_37 : decode b_RuleReader_readTest 37 = .ok (.aload_n 0, 1) := by decide +kernel
theorem d_RuleReader_readTest_38 : decode b_RuleReader_readTest 38 = .ok (.getfield 40, 3) := by decide +kernel
theorem d_RuleReader_readTest_41 : decode b_RuleReader_readTest 41 = .ok (.iaload, 1) := by decide +kernel
theorem d_RuleReader_readTest_42 : decode b_RuleReader_readTest 42 = .ok (.istore_n 3, 1) := by decide +kernel
theorem d_RuleReader_readTest_43 : decode b_RuleReader_readTest 43 = .ok (.aload_n 0, 1) := by decide +kernel
theorem d_RuleReader_readTest_44 : decode b_RuleReader_readTest 44 = .ok (.bipush 16, 2) := by decide +kernel
theorem d_RuleReader_readTest_46 : decode b_RuleReader_readTest 46 = .ok (.invokevirtual 77, 3) := by decide +kernel
theorem d_RuleReader_readTest_49 : decode b_RuleReader_readTest 49 = .ok (.ifCond .ne 5, 3) := by decide +kernel
theorem d_RuleReader_readTest_52 : decode b_RuleReader_readTest 52 = .ok (.iconst 0, 1) := by decide +kernel
theorem d_RuleReader_readTest_53 : decode b_RuleReader_readTest 53 = .ok (.ireturn, 1) := by decide +kernel
theorem d_RuleReader_readTest_54 : decode b_RuleReader_readTest 54 = .ok (.aload_n 0, 1) := by decide +kernel
theorem d_RuleReader_readTest_55 : decode b_RuleReader_readTest 55 = .ok (.getfield 23, 3) := by decide +kernel
theorem d_RuleReader_readTest_58 : decode b_RuleReader_readTest 58 = .ok (.getfield 86, 3) := by decide +kernel
theorem d_RuleReader_readTest_61 : decode b_RuleReader_readTest 61 = .ok (.aload_n 0, 1) := by decide +kernel
theorem d_RuleReader_readTest_62 : decode b_RuleReader_readTest 62 = .ok (.getfield 40, 3) := by decide +kernel
theorem d_RuleReader_readTest_65 : decode b_RuleReader_readTest 65 = .ok (.iaload, 1) := by decide +kernel
theorem d_RuleReader_readTest_66 : decode b_RuleReader_readTest 66 = .ok (.istore 4, 2) := by decide +kernel
theorem d_RuleReader_readTest_68 : decode b_RuleReader_readTest 68 = .ok (.aload_n 0, 1) := by decide +kernel
theorem d_RuleReader_readTest_69 : decode b_RuleReader_readTest 69 = .ok (.bipush 15, 2) := by decide +kernel
theorem d_RuleReader_readTest_71 : decode b_RuleReader_readTest 71 = .ok (.invokevirtual 77, 3) := by decide +kernel
theorem d_RuleReader_readTest_74 : decode b_RuleReader_readTest 74 = .ok (.ifCond .ne 5, 3) := by decide +kernel
theorem d_RuleReader_readTest_77 : decode b_RuleReader_readTest 77 = .ok (.iconst 0, 1) := by decide +kernel
theorem d_RuleReader_readTest_78 : decode b_RuleReader_readTest 78 = .ok (.ireturn, 1) := by decide +kernel
theorem d_RuleReader_readTest_79 : decode b_RuleReader_readTest 79 = .ok (.aload_n 0, 1) := by decide +kernel
theorem d_RuleReader_readTest_80 : decode b_RuleReader_readTest 80 = .ok (.getfield 12, 3) := by decide +kernel
theorem d_RuleReader_readTest_83 : decode b_RuleReader_readTest 83 = .ok (.iload_n 2, 1) := by decide +kernel
theorem d_RuleReader_readTest_84 : decode b_RuleReader_readTest 84 = .ok (.iload_n 3, 1) := by decide +kernel
theorem d_RuleReader_readTest_85 : decode b_RuleReader_readTest 85 = .ok (.iload 4, 2) := by decide +kernel
theorem d_RuleReader_readTest_87 : decode b_RuleReader_readTest 87 = .ok (.invokevirtual 92, 3) := by decide +kernel
theorem d_RuleReader_readTest_90 : decode b_RuleReader_readTest 90 = .ok (.iconst 1, 1) := by decide +kernel
theorem d_RuleReader_readTest_91 : decode b_RuleReader_readTest 91 = .ok (.ireturn, 1) := by decide +kernel
theorem d_RuleReader_pass_0 : decode b_RuleReader_pass 0 = .ok (.aload_n 0, 1) := by decide +kernel
theorem d_RuleReader_pass_1 : decode b_RuleReader_pass 1 = .ok (.getfield 47, 3) := by decide +kernel
theorem d_RuleReader_pass_4 : decode b_RuleReader_pass 4 = .ok (.iload_n 1, 1) := by decide +kernel
theorem d_RuleReader_pass_5 : decode b_RuleReader_pass 5 = .ok (.if_icmp .eq 9, 3) := by decide +kernel
theorem d_RuleReader_pass_8 : decode b_RuleReader_pass 8 = .ok (.aload_n 0, 1) := by decide +kernel
theorem d_RuleReader_pass_9 : decode b_RuleReader_pass 9 = .ok (.iconst 1, 1) := by decide +kernel
theorem d_RuleReader_pass_10 : decode b_RuleReader_pass 10 = .ok (.invokevirtual 63, 3) := by decide +kernel
theorem d_RuleReader_pass_13 : decode b_RuleReader_pass 13 = .ok (.ireturn, 1) := by decide +kernel
theorem d_RuleReader_pass_14 : decode b_RuleReader_pass 14 = .ok (.aload_n 0, 1) := by decide +kernel
theorem d_RuleReader_pass_15 : decode b_RuleReader_pass 15 = .ok (.invokevirtual 71, 3) := by decide +kernel
theorem d_RuleReader_pass_18 : decode b_RuleReader_pass 18 = .ok (.iconst 1, 1) := by decide +kernel
theorem d_RuleReader_pass_19 : decode b_RuleReader_pass 19 = .ok (.ireturn, 1) := by decide +kernel
theorem d_RuleBook_addTest_0 : decode b_RuleBook_addTest 0 = .ok (.aload_n 0, 1) := by decide +kernel
theorem d_RuleBook_addTest_1 : decode b_RuleBook_addTest 1 = .ok (.getfield 37, 3) := by decide +kernel
theorem d_RuleBook_addTest_4 : decode b_RuleBook_addTest 4 = .ok (.bipush 64, 2) := by decide +kernel
theorem d_RuleBook_addTest_6 : decode b_RuleBook_addTest 6 = .ok (.if_icmp .ge 10, 3) := by decide +kernel
theorem d_RuleBook_addTest_9 : decode b_RuleBook_addTest 9 = .ok (.aload_n 0, 1) := by decide +kernel
theorem d_RuleBook_addTest_10 : decode b_RuleBook_addTest 10 = .ok (.getfield 33, 3) := by decide +kernel
theorem d_RuleBook_addTest_13 : decode b_RuleBook_addTest 13 = .ok (.ifCond .ne 4, 3) := by decide +kernel
theorem d_RuleBook_addTest_16 : decode b_RuleBook_addTest 16 = .ok (.return_, 1) := by decide +kernel
theorem d_RuleBook_addTest_17 : decode b_RuleBook_addTest 17 = .ok (.aload_n 0, 1) := by decide +kernel
theorem d_RuleBook_addTest_18 : decode b_RuleBook_addTest 18 = .ok (.getfield 24, 3) := by decide +kernel
theorem d_RuleBook_addTest_21 : decode b_RuleBook_addTest 21 = .ok (.aload_n 0, 1) := by decide +kernel
theorem d_RuleBook_addTest_22 : decode b_RuleBook_addTest 22 = .ok (.getfield 37, 3) := by decide +kernel
theorem d_RuleBook_addTest_25 : decode b_RuleBook_addTest 25 = .ok (.iload_n 1, 1) := by decide +kernel
theorem d_RuleBook_addTest_26 : decode b_RuleBook_addTest 26 = .ok (.iastore, 1) := by decide +kernel
theorem d_RuleBook_addTest_27 : decode b_RuleBook_addTest 27 = .ok (.aload_n 0, 1) := by decide +kernel
theorem d_RuleBook_addTest_28 : decode b_RuleBook_addTest 28 = .ok (.getfield 27, 3) := by decide +kernel
theorem d_RuleBook_addTest_31 : decode b_RuleBook_addTest 31 = .ok (.aload_n 0, 1) := by decide +kernel
theorem d_RuleBook_addTest_32 : decode b_RuleBook_addTest 32 = .ok (.getfield 37, 3) := by decide +kernel
theorem d_RuleBook_addTest_35 : decode b_RuleBook_addTest 35 = .ok (.iload_n 2, 1) := by decide +kernel
theorem d_RuleBook_addTest_36 : decode b_RuleBook_addTest 36 = .ok (.iastore, 1) := by decide +kernel
theorem d_RuleBook_addTest_37 : decode b_RuleBook_addTest 37 = .ok (.aload_n 0, 1) := by decide +kernel
theorem d_RuleBook_addTest_38 : decode b_RuleBook_addTest 38 = .ok (.getfield 30, 3) := by decide +kernel
theorem d_RuleBook_addTest_41 : decode b_RuleBook_addTest 41 = .ok (.aload_n 0, 1) := by decide +kernel
theorem d_RuleBook_addTest_42 : decode b_RuleBook_addTest 42 = .ok (.getfield 37, 3) := by decide +kernel
theorem d_RuleBook_addTest_45 : decode b_RuleBook_addTest 45 = .ok (.iload_n 3, 1) := by decide +kernel
theorem d_RuleBook_addTest_46 : decode b_RuleBook_addTest 46 = .ok (.iastore, 1) := by decide +kernel
theorem d_RuleBook_addTest_47 : decode b_RuleBook_addTest 47 = .ok (.aload_n 0, 1) := by decide +kernel
theorem d_RuleBook_addTest_48 : decode b_RuleBook_addTest 48 = .ok (.dup, 1) := by decide +kernel
theorem d_RuleBook_addTest_49 : decode b_RuleBook_addTest 49 = .ok (.getfield 37, 3) := by decide +kernel
theorem d_RuleBook_addTest_52 : decode b_RuleBook_addTest 52 = .ok (.iconst 1, 1) := by decide +kernel
theorem d_RuleBook_addTest_53 : decode b_RuleBook_addTest 53 = .ok (.iadd, 1) := by decide +kernel
theorem d_RuleBook_addTest_54 : decode b_RuleBook_addTest 54 = .ok (.putfield 37, 3) := by decide +kernel
theorem d_RuleBook_addTest_57 : decode b_RuleBook_addTest 57 = .ok (.aload_n 0, 1) := by decide +kernel
theorem d_RuleBook_addTest_58 : decode b_RuleBook_addTest 58 = .ok (.getfield 21, 3) := by decide +kernel
theorem d_RuleBook_addTest_61 : decode b_RuleBook_addTest 61 = .ok (.aload_n 0, 1) := by decide +kernel
theorem d_RuleBook_addTest_62 : decode b_RuleBook_addTest 62 = .ok (.getfield 33, 3) := by decide +kernel
theorem d_RuleBook_addTest_65 : decode b_RuleBook_addTest 65 = .ok (.iconst 1, 1) := by decide +kernel
theorem d_RuleBook_addTest_66 : decode b_RuleBook_addTest 66 = .ok (.isub, 1) := by decide +kernel
theorem d_RuleBook_addTest_67 : decode b_RuleBook_addTest 67 = .ok (.aload_n 0, 1) := by decide +kernel
theorem d_RuleBook_addTest_68 : decode b_RuleBook_addTest 68 = .ok (.getfield 37, 3) := by decide +kernel
theorem d_RuleBook_addTest_71 : decode b_RuleBook_addTest 71 = .ok (.iastore, 1) := by decide +kernel
theorem d_RuleBook_addTest_72 : decode b_RuleBook_addTest 72 = .ok (.return_, 1) := by decide +kernel
theorem d_RuleReader_readKey_0 : decode b_RuleReader_readKey 0 = .ok (.aload_n 0, 1) := by decide +kernel
theorem d_RuleReader_readKey_1 : decode b_RuleReader_readKey 1 = .ok (.getfield 47, 3) := by decide +kernel
theorem d_RuleReader_readKey_4 : decode b_RuleReader_readKey 4 = .ok (.istore_n 1, 1) := by decide +kernel
theorem d_RuleReader_readKey_5 : decode b_RuleReader_readKey 5 = .ok (.iload_n 1, 1) := by decide +kernel
theorem d_RuleReader_readKey_6 : decode b_RuleReader_readKey 6 = .ok (.bipush 7, 2) := by decide +kernel
theorem d_RuleReader_readKey_8 : decode b_RuleReader_readKey 8 = .ok (.if_icmp .lt 9, 3) := by decide +kernel
theorem d_RuleReader_readKey_11 : decode b_RuleReader_readKey 11 = .ok (.iload_n 1, 1) := by decide +kernel
theorem d_RuleReader_readKey_12 : decode b_RuleReader_readKey 12 = .ok (.bipush 10, 2) := by decide +kernel
theorem d_RuleReader_readKey_14 : decode b_RuleReader_readKey 14 = .ok (.if_icmp .le 9, 3) := by decide +kernel
theorem d_RuleReader_readKey_17 : decode b_RuleReader_readKey 17 = .ok (.aload_n 0, 1) := by decide +kernel
theorem d_RuleReader_readKey_18 : decode b_RuleReader_readKey 18 = .ok (.iconst 1, 1) := by decide +kernel
theorem d_RuleReader_readKey_19 : decode b_RuleReader_readKey 19 = .ok (.invokevirtual 63, 3) := by decide +kernel
theorem d_RuleReader_readKey_22 : decode b_RuleReader_readKey 22 = .ok (.ireturn, 1) := by decide +kernel
theorem d_RuleReader_readKey_23 : decode b_RuleReader_readKey 23 = .ok (.aload_n 0, 1) := by decide +kernel
theorem d_RuleReader_readKey_24 : decode b_RuleReader_readKey 24 = .ok (.invokevirtual 71, 3) := by decide +kernel
theorem d_RuleReader_readKey_27 : decode b_RuleReader_readKey 27 = .ok (.iload_n 1, 1) := by decide +kernel
theorem d_RuleReader_readKey_28 : decode b_RuleReader_readKey 28 = .ok (.bipush 8, 2) := by decide +kernel
theorem d_RuleReader_readKey_30 : decode b_RuleReader_readKey 30 = .ok (.if_icmp .ne 15, 3) := by decide +kernel
theorem d_RuleReader_readKey_33 : decode b_RuleReader_readKey 33 = .ok (.aload_n 0, 1) := by decide +kernel
theorem d_RuleReader_readKey_34 : decode b_RuleReader_readKey 34 = .ok (.getfield 12, 3) := by decide +kernel
theorem d_RuleReader_readKey_37 : decode b_RuleReader_readKey 37 = .ok (.bipush 8, 2) := by decide +kernel
theorem d_RuleReader_readKey_39 : decode b_RuleReader_readKey 39 = .ok (.iconst 0, 1) := by decide +kernel
theorem d_RuleReader_readKey_40 : decode b_RuleReader_readKey 40 = .ok (.invokevirtual 67, 3) := by decide +kernel
theorem d_RuleReader_readKey_43 : decode b_RuleReader_readKey 43 = .ok (.iconst 1, 1) := by decide +kernel
theorem d_RuleReader_readKey_44 : decode b_RuleReader_readKey 44 = .ok (.ireturn, 1) := by decide +kernel
theorem d_RuleReader_readKey_45 : decode b_RuleReader_readKey 45 = .ok (.iload_n 1, 1) := by decide +kernel
theorem d_RuleReader_readKey_46 : decode b_RuleReader_readKey 46 = .ok (.bipush 7, 2) := by decide +kernel
theorem d_RuleReader_readKey_48 : decode b_RuleReader_readKey 48 = .ok (.if_icmp .ne 15, 3) := by decide +kernel
theorem d_RuleReader_readKey_51 : decode b_RuleReader_readKey 51 = .ok (.aload_n 0, 1) := by decide +kernel
theorem d_RuleReader_readKey_52 : decode b_RuleReader_readKey 52 = .ok (.getfield 47, 3) := by decide +kernel
theorem d_RuleReader_readKey_55 : decode b_RuleReader_readKey 55 = .ok (.bipush 14, 2) := by decide +kernel
theorem d_RuleReader_readKey_57 : decode b_RuleReader_readKey 57 = .ok (.if_icmp .eq 21, 3) := by decide +kernel
theorem d_RuleReader_readKey_60 : decode b_RuleReader_readKey 60 = .ok (.goto 12, 3) := by decide +kernel
theorem d_RuleReader_readKey_63 : decode b_RuleReader_readKey 63 = .ok (.aload_n 0, 1) := by decide +kernel
theorem d_RuleReader_readKey_64 : decode b_RuleReader_readKey 64 = .ok (.getfield 47, 3) := by decide +kernel
theorem d_RuleReader_readKey_67 : decode b_RuleReader_readKey 67 = .ok (.bipush 6, 2) := by decide +kernel
theorem d_RuleReader_readKey_69 : decode b_RuleReader_readKey 69 = .ok (.if_icmp .le 9, 3) := by decide +kernel
theorem d_RuleReader_readKey_72 : decode b_RuleReader_readKey 72 = .ok (.aload_n 0, 1) := by decide +kernel
theorem d_RuleReader_readKey_73 : decode b_RuleReader_readKey 73 = .ok (.iconst 1, 1) := by decide +kernel
theorem d_RuleReader_readKey_74 : decode b_RuleReader_readKey 74 = .ok (.invokevirtual 63, 3) := by decide +kernel
theorem d_RuleReader_readKey_77 : decode b_RuleReader_readKey 77 = .ok (.ireturn, 1) := by decide +kernel
theorem d_RuleReader_readKey_78 : decode b_RuleReader_readKey 78 = .ok (.aload_n 0, 1) := by decide +kernel
theorem d_RuleReader_readKey_79 : decode b_RuleReader_readKey 79 = .ok (.getfield 12, 3) := by decide +kernel
theorem d_RuleReader_readKey_82 : decode b_RuleReader_readKey 82 = .ok (.iload_n 1, 1) := by decide +kernel
theorem d_RuleReader_readKey_83 : decode b_RuleReader_readKey 83 = .ok (.iload_n 1, 1) := by decide +kernel
theorem d_RuleReader_readKey_84 : decode b_RuleReader_readKey 84 = .ok (.bipush 7, 2) := by decide +kernel
theorem d_RuleReader_readKey_86 : decode b_RuleReader_readKey 86 = .ok (.if_icmp .ne 18, 3) := by decide +kernel
theorem d_RuleReader_readKey_89 : decode b_RuleReader_readKey 89 = .ok (.aload_n 0, 1) := by decide +kernel
theorem d_RuleReader_readKey_90 : decode b_RuleReader_readKey 90 = .ok (.getfield 23, 3) := by decide +kernel
theorem d_RuleReader_readKey_93 : decode b_RuleReader_readKey 93 = .ok (.getfield 86, 3) := by decide +kernel
theorem d_RuleReader_readKey_96 : decode b_RuleReader_readKey 96 = .ok (.aload_n 0, 1) := by decide +kernel
theorem d_RuleReader_readKey_97 : decode b_RuleReader_readKey 97 = .ok (.getfield 40, 3) := by decide +kernel
theorem d_RuleReader_readKey_100 : decode b_RuleReader_readKey 100 = .ok (.iaload, 1) := by decide +kernel
theorem d_RuleReader_readKey_101 : decode b_RuleReader_readKey 101 = .ok (.goto 7, 3) := by decide +kernel
theorem d_RuleReader_readKey_104 : decode b_RuleReader_readKey 104 = .ok (.aload_n 0, 1) := by decide +kernel
theorem d_RuleReader_readKey_105 : decode b_RuleReader_readKey 105 = .ok (.getfield 47, 3) := by decide +kernel
theorem d_RuleReader_readKey_108 : decode b_RuleReader_readKey 108 = .ok (.invokevirtual 67, 3) := by decide +kernel
theorem d_RuleReader_readKey_111 : decode b_RuleReader_readKey 111 = .ok (.aload_n 0, 1) := by decide +kernel
theorem d_RuleReader_readKey_112 : decode b_RuleReader_readKey 112 = .ok (.invokevirtual 71, 3) := by decide +kernel
theorem d_RuleReader_readKey_115 : decode b_RuleReader_readKey 115 = .ok (.iconst 1, 1) := by decide +kernel
theorem d_RuleReader_readKey_116 : decode b_RuleReader_readKey 116 = .ok (.ireturn, 1) := by decide +kernel
theorem d_RuleReader_readCondition_0 : decode b_RuleReader_readCondition 0 = .ok (.aload_n 0, 1) := by decide +kernel
theorem d_RuleReader_readCondition_1 : decode b_RuleReader_readCondition 1 = .ok (.getfield 47, 3) := by decide +kernel
theorem d_RuleReader_readCondition_4 : decode b_RuleReader_readCondition 4 = .ok (.bipush 12, 2) := by decide +kernel
theorem d_RuleReader_readCondition_6 : decode b_RuleReader_readCondition 6 = .ok (.if_icmp .eq 5, 3) := by decide +kernel
theorem d_RuleReader_readCondition_9 : decode b_RuleReader_readCondition 9 = .ok (.iconst 1, 1) := by decide +kernel
theorem d_RuleReader_readCondition_10 : decode b_RuleReader_readCondition 10 = .ok (.ireturn, 1) := by decide +kernel
theorem d_RuleReader_readCondition_11 : decode b_RuleReader_readCondition 11 = .ok (.aload_n 0, 1) := by decide +kernel
theorem d_RuleReader_readCondition_12 : decode b_RuleReader_readCondition 12 = .ok (.invokevirtual 71, 3) := by decide +kernel
theorem d_RuleReader_readCondition_15 : decode b_RuleReader_readCondition 15 = .ok (.aload_n 0, 1) := by decide +kernel
theorem d_RuleReader_readCondition_16 : decode b_RuleReader_readCondition 16 = .ok (.iconst 1, 1) := by decide +kernel
theorem d_RuleReader_readCondition_17 : decode b_RuleReader_readCondition 17 = .ok (.invokevirtual 74, 3) := by decide +kernel
theorem d_RuleReader_readCondition_20 : decode b_RuleReader_readCondition 20 = .ok (.ireturn, 1) := by decide +kernel
theorem d_Chan_isTime_0 : decode b_Chan_isTime 0 = .ok (.iload_n 0, 1) := by decide +kernel
theorem d_Chan_isTime_1 : decode b_Chan_isTime 1 = .ok (.ifCond .lt 13, 3) := by decide +kernel
theorem d_Chan_isTime_4 : decode b_Chan_isTime 4 = .ok (.iload_n 0, 1) := by decide +kernel
theorem d_Chan_isTime_5 : decode b_Chan_isTime 5 = .ok (.ldc 186, 2) := by decide +kernel
theorem d_Chan_isTime_7 : decode b_Chan_isTime 7 = .ok (.if_icmp .gt 7, 3) := by decide +kernel
theorem d_Chan_isTime_10 : decode b_Chan_isTime 10 = .ok (.iconst 1, 1) := by decide +kernel
theorem d_Chan_isTime_11 : decode b_Chan_isTime 11 = .ok (.goto 4, 3) := by decide +kernel
theorem d_Chan_isTime_14 : decode b_Chan_isTime 14 = .ok (.iconst 0, 1) := by decide +kernel
theorem d_Chan_isTime_15 : decode b_Chan_isTime 15 = .ok (.ireturn, 1) := by decide +kernel
theorem d_Reigns_add_0 : decode b_Reigns_add 0 = .ok (.aload_n 0, 1) := by decide +kernel
theorem d_Reigns_add_1 : decode b_Reigns_add 1 = .ok (.getfield 26, 3) := by decide +kernel
theorem d_Reigns_add_4 : decode b_Reigns_add 4 = .ok (.bipush 6, 2) := by decide +kernel
theorem d_Reigns_add_6 : decode b_Reigns_add 6 = .ok (.if_icmp .lt 4, 3) := by decide +kernel
theorem d_Reigns_add_9 : decode b_Reigns_add 9 = .ok (.return_, 1) := by decide +kernel
theorem d_Reigns_add_10 : decode b_Reigns_add 10 = .ok (.new 15, 3) := by decide +kernel
theorem d_Reigns_add_13 : decode b_Reigns_add 13 = .ok (.dup, 1) := by decide +kernel
theorem d_Reigns_add_14 : decode b_Reigns_add 14 = .ok (.invokespecial 21, 3) := by decide +kernel
theorem d_Reigns_add_17 : decode b_Reigns_add 17 = .ok (.astore_n 3, 1) := by decide +kernel
theorem d_Reigns_add_18 : decode b_Reigns_add 18 = .ok (.aload_n 3, 1) := by decide +kernel
theorem d_Reigns_add_19 : decode b_Reigns_add 19 = .ok (.aload_n 2, 1) := by decide +kernel
theorem d_Reigns_add_20 : decode b_Reigns_add 20 = .ok (.invokevirtual 30, 3) := by decide +kernel
theorem d_Reigns_add_23 : decode b_Reigns_add 23 = .ok (.aload_n 0, 1) := by decide +kernel
theorem d_Reigns_add_24 : decode b_Reigns_add 24 = .ok (.getfield 9, 3) := by decide +kernel
theorem d_Reigns_add_27 : decode b_Reigns_add 27 = .ok (.aload_n 0, 1) := by decide +kernel
theorem d_Reigns_add_28 : decode b_Reigns_add 28 = .ok (.getfield 26, 3) := by decide +kernel
theorem d_Reigns_add_31 : decode b_Reigns_add 31 = .ok (.iload_n 1, 1) := by decide +kernel
theorem d_Reigns_add_32 : decode b_Reigns_add 32 = .ok (.iastore, 1) := by decide +kernel
theorem d_Reigns_add_33 : decode b_Reigns_add 33 = .ok (.aload_n 0, 1) := by decide +kernel
theorem d_Reigns_add_34 : decode b_Reigns_add 34 = .ok (.getfield 17, 3) := by decide +kernel
theorem d_Reigns_add_37 : decode b_Reigns_add 37 = .ok (.aload_n 0, 1) := by decide +kernel
theorem d_Reigns_add_38 : decode b_Reigns_add 38 = .ok (.getfield 26, 3) := by decide +kernel
theorem d_Reigns_add_41 : decode b_Reigns_add 41 = .ok (.aload_n 3, 1) := by decide +kernel
theorem d_Reigns_add_42 : decode b_Reigns_add 42 = .ok (.aastore, 1) := by decide +kernel
theorem d_Reigns_add_43 : decode b_Reigns_add 43 = .ok (.aload_n 0, 1) := by decide +kernel
theorem d_Reigns_add_44 : decode b_Reigns_add 44 = .ok (.dup, 1) := by decide +kernel
theorem d_Reigns_add_45 : decode b_Reigns_add 45 = .ok (.getfield 26, 3) := by decide +kernel
theorem d_Reigns_add_48 : decode b_Reigns_add 48 = .ok (.iconst 1, 1) := by decide +kernel
theorem d_Reigns_add_49 : decode b_Reigns_add 49 = .ok (.iadd, 1) := by decide +kernel
theorem d_Reigns_add_50 : decode b_Reigns_add 50 = .ok (.putfield 26, 3) := by decide +kernel
theorem d_Reigns_add_53 : decode b_Reigns_add 53 = .ok (.return_, 1) := by decide +kernel
theorem d_RuleBook_copyFrom_0 : decode b_RuleBook_copyFrom 0 = .ok (.aload_n 1, 1) := by decide +kernel
theorem d_RuleBook_copyFrom_1 : decode b_RuleBook_copyFrom 1 = .ok (.getfield 9, 3) := by decide +kernel
theorem d_RuleBook_copyFrom_4 : decode b_RuleBook_copyFrom 4 = .ok (.iconst 0, 1) := by decide +kernel
theorem d_RuleBook_copyFrom_5 : decode b_RuleBook_copyFrom 5 = .ok (.aload_n 0, 1) := by decide +kernel
theorem d_RuleBook_copyFrom_6 : decode b_RuleBook_copyFrom 6 = .ok (.getfield 9, 3) := by decide +kernel
theorem d_RuleBook_copyFrom_9 : decode b_RuleBook_copyFrom 9 = .ok (.iconst 0, 1) := by decide +kernel
theorem d_RuleBook_copyFrom_10 : decode b_RuleBook_copyFrom 10 = .ok (.bipush 16, 2) := by decide +kernel
theorem d_RuleBook_copyFrom_12 : decode b_RuleBook_copyFrom 12 = .ok (.invokestatic 40, 3) := by decide +kernel
theorem d_RuleBook_copyFrom_15 : decode b_RuleBook_copyFrom 15 = .ok (.aload_n 1, 1) := by decide +kernel
theorem d_RuleBook_copyFrom_16 : decode b_RuleBook_copyFrom 16 = .ok (.getfield 15, 3) := by decide +kernel
theorem d_RuleBook_copyFrom_19 : decode b_RuleBook_copyFrom 19 = .ok (.iconst 0, 1) := by decide +kernel
theorem d_RuleBook_copyFrom_20 : decode b_RuleBook_copyFrom 20 = .ok (.aload_n 0, 1) := by decide +kernel
theorem d_RuleBook_copyFrom_21 : decode b_RuleBook_copyFrom 21 = .ok (.getfield 15, 3) := by decide +kernel
theorem d_RuleBook_copyFrom_24 : decode b_RuleBook_copyFrom 24 = .ok (.iconst 0, 1) := by decide +kernel
theorem d_RuleBook_copyFrom_25 : decode b_RuleBook_copyFrom 25 = .ok (.bipush 16, 2) := by decide +kernel
theorem d_RuleBook_copyFrom_27 : decode b_RuleBook_copyFrom 27 = .ok (.invokestatic 40, 3) := by decide +kernel
theorem d_RuleBook_copyFrom_30 : decode b_RuleBook_copyFrom 30 = .ok (.aload_n 1, 1) := by decide +kernel
theorem d_RuleBook_copyFrom_31 : decode b_RuleBook_copyFrom 31 = .ok (.getfield 18, 3) := by decide +kernel
theorem d_RuleBook_copyFrom_34 : decode b_RuleBook_copyFrom 34 = .ok (.iconst 0, 1) := by decide +kernel
theorem d_RuleBook_copyFrom_35 : decode b_RuleBook_copyFrom 35 = .ok (.aload_n 0, 1) := by decide +kernel
theorem d_RuleBook_copyFrom_36 : decode b_RuleBook_copyFrom 36 = .ok (.getfield 18, 3) := by decide +kernel
theorem d_RuleBook_copyFrom_39 : decode b_RuleBook_copyFrom 39 = .ok (.iconst 0, 1) := by decide +kernel
theorem d_RuleBook_copyFrom_40 : decode b_RuleBook_copyFrom 40 = .ok (.bipush 16, 2) := by decide +kernel
theorem d_RuleBook_copyFrom_42 : decode b_RuleBook_copyFrom 42 = .ok (.invokestatic 40, 3) := by decide +kernel
theorem d_RuleBook_copyFrom_45 : decode b_RuleBook_copyFrom 45 = .ok (.aload_n 1, 1) := by decide +kernel
theorem d_RuleBook_copyFrom_46 : decode b_RuleBook_copyFrom 46 = .ok (.getfield 21, 3) := by decide +kernel
theorem d_RuleBook_copyFrom_49 : decode b_RuleBook_copyFrom 49 = .ok (.iconst 0, 1) := by decide +kernel
theorem d_RuleBook_copyFrom_50 : decode b_RuleBook_copyFrom 50 = .ok (.aload_n 0, 1) := by decide +kernel
theorem d_RuleBook_copyFrom_51 : decode b_RuleBook_copyFrom 51 = .ok (.getfield 21, 3) := by decide +kernel
theorem d_RuleBook_copyFrom_54 : decode b_RuleBook_copyFrom 54 = .ok (.iconst 0, 1) := by decide +kernel
theorem d_RuleBook_copyFrom_55 : decode b_RuleBook_copyFrom 55 = .ok (.bipush 16, 2) := by decide +kernel
theorem d_RuleBook_copyFrom_57 : decode b_RuleBook_copyFrom 57 = .ok (.invokestatic 40, 3) := by decide +kernel
theorem d_RuleBook_copyFrom_60 : decode b_RuleBook_copyFrom 60 = .ok (.aload_n 1, 1) := by decide +kernel
theorem d_RuleBook_copyFrom_61 : decode b_RuleBook_copyFrom 61 = .ok (.getfield 24, 3) := by decide +kernel
theorem d_RuleBook_copyFrom_64 : decode b_RuleBook_copyFrom 64 = .ok (.iconst 0, 1) := by decide +kernel
theorem d_RuleBook_copyFrom_65 : decode b_RuleBook_copyFrom 65 = .ok (.aload_n 0, 1) := by decide +kernel
theorem d_RuleBook_copyFrom_66 : decode b_RuleBook_copyFrom 66 = .ok (.getfield 24, 3) := by decide +kernel
theorem d_RuleBook_copyFrom_69 : decode b_RuleBook_copyFrom 69 = .ok (.iconst 0, 1) := by decide +kernel
theorem d_RuleBook_copyFrom_70 : decode b_RuleBook_copyFrom 70 = .ok (.bipush 64, 2) := by decide +kernel
theorem d_RuleBook_copyFrom_72 : decode b_RuleBook_copyFrom 72 = .ok (.invokestatic 40, 3) := by decide +kernel
theorem d_RuleBook_copyFrom_75 : decode b_RuleBook_copyFrom 75 = .ok (.aload_n 1, 1) := by decide +kernel
theorem d_RuleBook_copyFrom_76 : decode b_RuleBook_copyFrom 76 = .ok (.getfield 27, 3) := by decide +kernel
theorem d_RuleBook_copyFrom_79 : decode b_RuleBook_copyFrom 79 = .ok (.iconst 0, 1) := by decide +kernel
theorem d_RuleBook_copyFrom_80 : decode b_RuleBook_copyFrom 80 = .ok (.aload_n 0, 1) := by decide +kernel
theorem d_RuleBook_copyFrom_81 : decode b_RuleBook_copyFrom 81 = .ok (.getfield 27, 3) := by decide +kernel
theorem d_RuleBook_copyFrom_84 : decode b_RuleBook_copyFrom 84 = .ok (.iconst 0, 1) := by decide +kernel
theorem d_RuleBook_copyFrom_85 : decode b_RuleBook_copyFrom 85 = .ok (.bipush 64, 2) := by decide +kernel
theorem d_RuleBook_copyFrom_87 : decode b_RuleBook_copyFrom 87 = .ok (.invokestatic 40, 3) := by decide +kernel
theorem d_RuleBook_copyFrom_90 : decode b_RuleBook_copyFrom 90 = .ok (.aload_n 1, 1) := by decide +kernel
theorem d_RuleBook_copyFrom_91 : decode b_RuleBook_copyFrom 91 = .ok (.getfield 30, 3) := by decide +kernel
theorem d_RuleBook_copyFrom_94 : decode b_RuleBook_copyFrom 94 = .ok (.iconst 0, 1) := by decide +kernel
theorem d_RuleBook_copyFrom_95 : decode b_RuleBook_copyFrom 95 = .ok (.aload_n 0, 1) := by decide +kernel
theorem d_RuleBook_copyFrom_96 : decode b_RuleBook_copyFrom 96 = .ok (.getfield 30, 3) := by decide +kernel
theorem d_RuleBook_copyFrom_99 : decode b_RuleBook_copyFrom 99 = .ok (.iconst 0, 1) := by decide +kernel
theorem d_RuleBook_copyFrom_100 : decode b_RuleBook_copyFrom 100 = .ok (.bipush 64, 2) := by decide +kernel
theorem d_RuleBook_copyFrom_102 : decode b_RuleBook_copyFrom 102 = .ok (.invokestatic 40, 3) := by decide +kernel
theorem d_RuleBook_copyFrom_105 : decode b_RuleBook_copyFrom 105 = .ok (.aload_n 0, 1) := by decide +kernel
theorem d_RuleBook_copyFrom_106 : decode b_RuleBook_copyFrom 106 = .ok (.aload_n 1, 1) := by decide +kernel
theorem d_RuleBook_copyFrom_107 : decode b_RuleBook_copyFrom 107 = .ok (.getfield 33, 3) := by decide +kernel
theorem d_RuleBook_copyFrom_110 : decode b_RuleBook_copyFrom 110 = .ok (.putfield 33, 3) := by decide +kernel
theorem d_RuleBook_copyFrom_113 : decode b_RuleBook_copyFrom 113 = .ok (.aload_n 0, 1) := by decide +kernel
theorem d_RuleBook_copyFrom_114 : decode b_RuleBook_copyFrom 114 = .ok (.aload_n 1, 1) := by decide +kernel
theorem d_RuleBook_copyFrom_115 : decode b_RuleBook_copyFrom 115 = .ok (.getfield 37, 3) := by decide +kernel
theorem d_RuleBook_copyFrom_118 : decode b_RuleBook_copyFrom 118 = .ok (.putfield 37, 3) := by decide +kernel
theorem d_RuleBook_copyFrom_121 : decode b_RuleBook_copyFrom 121 = .ok (.return_, 1) := by decide +kernel
theorem d_Chan_fault_0 : decode b_Chan_fault 0 = .ok (.iload_n 1, 1) := by decide +kernel
theorem d_Chan_fault_1 : decode b_Chan_fault 1 = .ok (.lookupswitch 43 #[(0, 27), (1, 35)], 27) := by decide +kernel
theorem d_Chan_fault_28 : decode b_Chan_fault 28 = .ok (.aload_n 0, 1) := by decide +kernel
theorem d_Chan_fault_29 : decode b_Chan_fault 29 = .ok (.getfield 21, 3) := by decide +kernel
theorem d_Chan_fault_32 : decode b_Chan_fault 32 = .ok (.getfield 149, 3) := by decide +kernel
theorem d_Chan_fault_35 : decode b_Chan_fault 35 = .ok (.ireturn, 1) := by decide +kernel
theorem d_Chan_fault_36 : decode b_Chan_fault 36 = .ok (.aload_n 0, 1) := by decide +kernel
theorem d_Chan_fault_37 : decode b_Chan_fault 37 = .ok (.getfield 21, 3) := by decide +kernel
theorem d_Chan_fault_40 : decode b_Chan_fault 40 = .ok (.getfield 152, 3) := by decide +kernel
theorem d_Chan_fault_43 : decode b_Chan_fault 43 = .ok (.ireturn, 1) := by decide +kernel
theorem d_Chan_fault_44 : decode b_Chan_fault 44 = .ok (.iconst (-1), 1) := by decide +kernel
theorem d_Chan_fault_45 : decode b_Chan_fault 45 = .ok (.ireturn, 1) := by decide +kernel
theorem d_Chan_paper_0 : decode b_Chan_paper 0 = .ok (.aload_n 0, 1) := by decide +kernel
theorem d_Chan_paper_1 : decode b_Chan_paper 1 = .ok (.getfield 28, 3) := by decide +kernel
theorem d_Chan_paper_4 : decode b_Chan_paper 4 = .ok (.iload_n 1, 1) := by decide +kernel
theorem d_Chan_paper_5 : decode b_Chan_paper 5 = .ok (.invokevirtual 116, 3) := by decide +kernel
theorem d_Chan_paper_8 : decode b_Chan_paper 8 = .ok (.ifCond .eq 62, 3) := by decide +kernel
theorem d_Chan_paper_11 : decode b_Chan_paper 11 = .ok (.iload_n 2, 1) := by decide +kernel
theorem d_Chan_paper_12 : decode b_Chan_paper 12 = .ok (.invokestatic 129, 3) := by decide +kernel
theorem d_Chan_paper_15 : decode b_Chan_paper 15 = .ok (.ifCond .eq 55, 3) := by decide +kernel
theorem d_Chan_paper_18 : decode b_Chan_paper 18 = .ok (.iload_n 3, 1) := by decide +kernel
theorem d_Chan_paper_19 : decode b_Chan_paper 19 = .ok (.iconst 0, 1) := by decide +kernel
theorem d_Chan_paper_20 : decode b_Chan_paper 20 = .ok (.sipush 255, 3) := by decide +kernel
theorem d_Chan_paper_23 : decode b_Chan_paper 23 = .ok (.invokestatic 101, 3) := by decide +kernel
theorem d_Chan_paper_26 : decode b_Chan_paper 26 = .ok (.ifCond .eq 44, 3) := by decide +kernel
theorem d_Chan_paper_29 : decode b_Chan_paper 29 = .ok (.iload 4, 2) := by decide +kernel
theorem d_Chan_paper_31 : decode b_Chan_paper 31 = .ok (.iconst 0, 1) := by decide +kernel
theorem d_Chan_paper_32 : decode b_Chan_paper 32 = .ok (.sipush 255, 3) := by decide +kernel
theorem d_Chan_paper_35 : decode b_Chan_paper 35 = .ok (.invokestatic 101, 3) := by decide +kernel
theorem d_Chan_paper_38 : decode b_Chan_paper 38 = .ok (.ifCond .eq 32, 3) := by decide +kernel
theorem d_Chan_paper_41 : decode b_Chan_paper 41 = .ok (.iload 5, 2) := by decide +kernel
theorem d_Chan_paper_43 : decode b_Chan_paper 43 = .ok (.iconst 1, 1) := by decide +kernel
theorem d_Chan_paper_44 : decode b_Chan_paper 44 = .ok (.sipush 1000, 3) := by decide +kernel
theorem d_Chan_paper_47 : decode b_Chan_paper 47 = .ok (.invokestatic 101, 3) := by decide +kernel
theorem d_Chan_paper_50 : decode b_Chan_paper 50 = .ok (.ifCond .eq 20, 3) := by decide +kernel
theorem d_Chan_paper_53 : decode b_Chan_paper 53 = .ok (.iload 6, 2) := by decide +kernel
theorem d_Chan_paper_55 : decode b_Chan_paper 55 = .ok (.iload 5, 2) := by decide +kernel
theorem d_Chan_paper_57 : decode b_Chan_paper 57 = .ok (.sipush 1000, 3) := by decide +kernel
theorem d_Chan_paper_60 : decode b_Chan_paper 60 = .ok (.invokestatic 101, 3) := by decide +kernel
theorem d_Chan_paper_63 : decode b_Chan_paper 63 = .ok (.ifCond .eq 7, 3) := by decide +kernel
theorem d_Chan_paper_66 : decode b_Chan_paper 66 = .ok (.iconst 1, 1) := by decide +kernel
theorem d_Chan_paper_67 : decode b_Chan_paper 67 = .ok (.goto 4, 3) := by decide +kernel
theorem d_Chan_paper_70 : decode b_Chan_paper 70 = .ok (.iconst 0, 1) := by decide +kernel
theorem d_Chan_paper_71 : decode b_Chan_paper 71 = .ok (.istore 7, 2) := by decide +kernel
theorem d_Chan_paper_73 : decode b_Chan_paper 73 = .ok (.iload 7, 2) := by decide +kernel
theorem d_Chan_paper_75 : decode b_Chan_paper 75 = .ok (.ifCond .eq 23, 3) := by decide +kernel
theorem d_Chan_paper_78 : decode b_Chan_paper 78 = .ok (.aload_n 0, 1) := by decide +kernel
theorem d_Chan_paper_79 : decode b_Chan_paper 79 = .ok (.getfield 35, 3) := by decide +kernel
theorem d_Chan_paper_82 : decode b_Chan_paper 82 = .ok (.invokevirtual 155, 3) := by decide +kernel
theorem d_Chan_paper_85 : decode b_Chan_paper 85 = .ok (.ifCond .ne 13, 3) := by decide +kernel
theorem d_Chan_paper_88 : decode b_Chan_paper 88 = .ok (.aload_n 0, 1) := by decide +kernel
theorem d_Chan_paper_89 : decode b_Chan_paper 89 = .ok (.getfield 42, 3) := by decide +kernel
theorem d_Chan_paper_92 : decode b_Chan_paper 92 = .ok (.invokevirtual 158, 3) := by decide +kernel
theorem d_Chan_paper_95 : decode b_Chan_paper 95 = .ok (.ifCond .eq 5, 3) := by decide +kernel
theorem d_Chan_paper_98 : decode b_Chan_paper 98 = .ok (.iconst (-1), 1) := by decide +kernel
theorem d_Chan_paper_99 : decode b_Chan_paper 99 = .ok (.ireturn, 1) := by decide +kernel
theorem d_Chan_paper_100 : decode b_Chan_paper 100 = .ok (.aload_n 0, 1) := by decide +kernel
theorem d_Chan_paper_101 : decode b_Chan_paper 101 = .ok (.getfield 42, 3) := by decide +kernel
theorem d_Chan_paper_104 : decode b_Chan_paper 104 = .ok (.iconst 0, 1) := by decide +kernel
theorem d_Chan_paper_105 : decode b_Chan_paper 105 = .ok (.iload_n 2, 1) := by decide +kernel
theorem d_Chan_paper_106 : decode b_Chan_paper 106 = .ok (.aload_n 0, 1) := by decide +kernel
theorem d_Chan_paper_107 : decode b_Chan_paper 107 = .ok (.getfield 35, 3) := by decide +kernel
theorem d_Chan_paper_110 : decode b_Chan_paper 110 = .ok (.getfield 159, 3) := by decide +kernel
theorem d_Chan_paper_113 : decode b_Chan_paper 113 = .ok (.iconst (-1), 1) := by decide +kernel
theorem d_Chan_paper_114 : decode b_Chan_paper 114 = .ok (.invokevirtual 160, 3) := by decide +kernel
theorem d_Chan_paper_117 : decode b_Chan_paper 117 = .ok (.istore 8, 2) := by decide +kernel
theorem d_Chan_paper_119 : decode b_Chan_paper 119 = .ok (.aload_n 0, 1) := by decide +kernel
theorem d_Chan_paper_120 : decode b_Chan_paper 120 = .ok (.getfield 35, 3) := by decide +kernel
theorem d_Chan_paper_123 : decode b_Chan_paper 123 = .ok (.iload_n 1, 1) := by decide +kernel
theorem d_Chan_paper_124 : decode b_Chan_paper 124 = .ok (.iload_n 2, 1) := by decide +kernel
theorem d_Chan_paper_125 : decode b_Chan_paper 125 = .ok (.iload_n 3, 1) := by decide +kernel
theorem d_Chan_paper_126 : decode b_Chan_paper 126 = .ok (.iload 4, 2) := by decide +kernel
theorem d_Chan_paper_128 : decode b_Chan_paper 128 = .ok (.iload 5, 2) := by decide +kernel
theorem d_Chan_paper_130 : decode b_Chan_paper 130 = .ok (.iload 6, 2) := by decide +kernel
theorem d_Chan_paper_132 : decode b_Chan_paper 132 = .ok (.iload 8, 2) := by decide +kernel
theorem d_Chan_paper_134 : decode b_Chan_paper 134 = .ok (.invokevirtual 163, 3) := by decide +kernel
theorem d_Chan_paper_137 : decode b_Chan_paper 137 = .ok (.iload 8, 2) := by decide +kernel
theorem d_Chan_paper_139 : decode b_Chan_paper 139 = .ok (.ireturn, 1) := by decide +kernel
theorem d_PaperBox_isFull_0 : decode b_PaperBox_isFull 0 = .ok (.aload_n 0, 1) := by decide +kernel
theorem d_PaperBox_isFull_1 : decode b_PaperBox_isFull 1 = .ok (.getfield 36, 3) := by decide +kernel
theorem d_PaperBox_isFull_4 : decode b_PaperBox_isFull 4 = .ok (.bipush 48, 2) := by decide +kernel
theorem d_PaperBox_isFull_6 : decode b_PaperBox_isFull 6 = .ok (.if_icmp .lt 7, 3) := by decide +kernel
theorem d_PaperBox_isFull_9 : decode b_PaperBox_isFull 9 = .ok (.iconst 1, 1) := by decide +kernel
theorem d_PaperBox_isFull_10 : decode b_PaperBox_isFull 10 = .ok (.goto 4, 3) := by decide +kernel
theorem d_PaperBox_isFull_13 : decode b_PaperBox_isFull 13 = .ok (.iconst 0, 1) := by decide +kernel
theorem d_PaperBox_isFull_14 : decode b_PaperBox_isFull 14 = .ok (.ireturn, 1) := by decide +kernel
theorem d_Gazette_isFull_0 : decode b_Gazette_isFull 0 = .ok (.aload_n 0, 1) := by decide +kernel
theorem d_Gazette_isFull_1 : decode b_Gazette_isFull 1 = .ok (.getfield 27, 3) := by decide +kernel
theorem d_Gazette_isFull_4 : decode b_Gazette_isFull 4 = .ok (.sipush 160, 3) := by decide +kernel
theorem d_Gazette_isFull_7 : decode b_Gazette_isFull 7 = .ok (.if_icmp .lt 7, 3) := by decide +kernel
theorem d_Gazette_isFull_10 : decode b_Gazette_isFull 10 = .ok (.iconst 1, 1) := by decide +kernel
theorem d_Gazette_isFull_11 : decode b_Gazette_isFull 11 = .ok (.goto 4, 3) := by decide +kernel
theorem d_Gazette_isFull_14 : decode b_Gazette_isFull 14 = .ok (.iconst 0, 1) := by decide +kernel
theorem d_Gazette_isFull_15 : decode b_Gazette_isFull 15 = .ok (.ireturn, 1) := by decide +kernel
theorem d_Gazette_add_0 : decode b_Gazette_add 0 = .ok (.aload_n 0, 1) := by decide +kernel
theorem d_Gazette_add_1 : decode b_Gazette_add 1 = .ok (.invokevirtual 31, 3) := by decide +kernel
theorem d_Gazette_add_4 : decode b_Gazette_add 4 = .ok (.ifCond .eq 5, 3) := by decide +kernel
theorem d_Gazette_add_7 : decode b_Gazette_add 7 = .ok (.iconst (-1), 1) := by decide +kernel
theorem d_Gazette_add_8 : decode b_Gazette_add 8 = .ok (.ireturn, 1) := by decide +kernel
theorem d_Gazette_add_9 : decode b_Gazette_add 9 = .ok (.aload_n 0, 1) := by decide +kernel
theorem d_Gazette_add_10 : decode b_Gazette_add 10 = .ok (.dup, 1) := by decide +kernel
theorem d_Gazette_add_11 : decode b_Gazette_add 11 = .ok (.getfield 27, 3) := by decide +kernel
theorem d_Gazette_add_14 : decode b_Gazette_add 14 = .ok (.iconst 1, 1) := by decide +kernel
theorem d_Gazette_add_15 : decode b_Gazette_add 15 = .ok (.iadd, 1) := by decide +kernel
theorem d_Gazette_add_16 : decode b_Gazette_add 16 = .ok (.putfield 27, 3) := by decide +kernel
theorem d_Gazette_add_19 : decode b_Gazette_add 19 = .ok (.aload_n 0, 1) := by decide +kernel
theorem d_Gazette_add_20 : decode b_Gazette_add 20 = .ok (.getfield 9, 3) := by decide +kernel
theorem d_Gazette_add_23 : decode b_Gazette_add 23 = .ok (.aload_n 0, 1) := by decide +kernel
theorem d_Gazette_add_24 : decode b_Gazette_add 24 = .ok (.getfield 27, 3) := by decide +kernel
theorem d_Gazette_add_27 : decode b_Gazette_add 27 = .ok (.iload_n 1, 1) := by decide +kernel
theorem d_Gazette_add_28 : decode b_Gazette_add 28 = .ok (.iastore, 1) := by decide +kernel
theorem d_Gazette_add_29 : decode b_Gazette_add 29 = .ok (.aload_n 0, 1) := by decide +kernel
theorem d_Gazette_add_30 : decode b_Gazette_add 30 = .ok (.getfield 15, 3) := by decide +kernel
theorem d_Gazette_add_33 : decode b_Gazette_add 33 = .ok (.aload_n 0, 1) := by decide +kernel
theorem d_Gazette_add_34 : decode b_Gazette_add 34 = .ok (.getfield 27, 3) := by decide +kernel
theorem d_Gazette_add_37 : decode b_Gazette_add 37 = .ok (.iload_n 2, 1) := by decide +kernel
theorem d_Gazette_add_38 : decode b_Gazette_add 38 = .ok (.iastore, 1) := by decide +kernel
theorem d_Gazette_add_39 : decode b_Gazette_add 39 = .ok (.aload_n 0, 1) := by decide +kernel
theorem d_Gazette_add_40 : decode b_Gazette_add 40 = .ok (.getfield 18, 3) := by decide +kernel
theorem d_Gazette_add_43 : decode b_Gazette_add 43 = .ok (.aload_n 0, 1) := by decide +kernel
theorem d_Gazette_add_44 : decode b_Gazette_add 44 = .ok (.getfield 27, 3) := by decide +kernel
theorem d_Gazette_add_47 : decode b_Gazette_add 47 = .ok (.iload_n 3, 1) := by decide +kernel
theorem d_Gazette_add_48 : decode b_Gazette_add 48 = .ok (.iastore, 1) := by decide +kernel
theorem d_Gazette_add_49 : decode b_Gazette_add 49 = .ok (.aload_n 0, 1) := by decide +kernel
theorem d_Gazette_add_50 : decode b_Gazette_add 50 = .ok (.getfield 21, 3) := by decide +kernel
theorem d_Gazette_add_53 : decode b_Gazette_add 53 = .ok (.aload_n 0, 1) := by decide +kernel
theorem d_Gazette_add_54 : decode b_Gazette_add 54 = .ok (.getfield 27, 3) := by decide +kernel
theorem d_Gazette_add_57 : decode b_Gazette_add 57 = .ok (.iload 4, 2) := by decide +kernel
theorem d_Gazette_add_59 : decode b_Gazette_add 59 = .ok (.iastore, 1) := by decide +kernel
theorem d_Gazette_add_60 : decode b_Gazette_add 60 = .ok (.iload_n 1, 1) := by decide +kernel
theorem d_Gazette_add_61 : decode b_Gazette_add 61 = .ok (.iconst 4, 1) := by decide +kernel
theorem d_Gazette_add_62 : decode b_Gazette_add 62 = .ok (.if_icmp .eq 11, 3) := by decide +kernel
theorem d_Gazette_add_65 : decode b_Gazette_add 65 = .ok (.aload_n 0, 1) := by decide +kernel
theorem d_Gazette_add_66 : decode b_Gazette_add 66 = .ok (.aload_n 0, 1) := by decide +kernel
theorem d_Gazette_add_67 : decode b_Gazette_add 67 = .ok (.getfield 27, 3) := by decide +kernel
theorem d_Gazette_add_70 : decode b_Gazette_add 70 = .ok (.invokevirtual 35, 3) := by decide +kernel
theorem d_Gazette_add_73 : decode b_Gazette_add 73 = .ok (.aload_n 0, 1) := by decide +kernel
theorem d_Gazette_add_74 : decode b_Gazette_add 74 = .ok (.getfield 27, 3) := by decide +kernel
theorem d_Gazette_add_77 : decode b_Gazette_add 77 = .ok (.ireturn, 1) := by decide +kernel
theorem d_Gazette_putInOrder_0 : decode b_Gazette_putInOrder 0 = .ok (.aload_n 0, 1) := by decide +kernel
theorem d_Gazette_putInOrder_1 : decode b_Gazette_putInOrder 1 = .ok (.getfield 39, 3) := by decide +kernel
theorem d_Gazette_putInOrder_4 : decode b_Gazette_putInOrder 4 = .ok (.aload_n 0, 1) := by decide +kernel
theorem d_Gazette_putInOrder_5 : decode b_Gazette_putInOrder 5 = .ok (.getfield 24, 3) := by decide +kernel
theorem d_Gazette_putInOrder_8 : decode b_Gazette_putInOrder 8 = .ok (.arraylength, 1) := by decide +kernel
theorem d_Gazette_putInOrder_9 : decode b_Gazette_putInOrder 9 = .ok (.if_icmp .lt 4, 3) := by decide +kernel
theorem d_Gazette_putInOrder_12 : decode b_Gazette_putInOrder 12 = .ok (.return_, 1) := by decide +kernel
theorem d_Gazette_putInOrder_13 : decode b_Gazette_putInOrder 13 = .ok (.aload_n 0, 1) := by decide +kernel
theorem d_Gazette_putInOrder_14 : decode b_Gazette_putInOrder 14 = .ok (.getfield 39, 3) := by decide +kernel
theorem d_Gazette_putInOrder_17 : decode b_Gazette_putInOrder 17 = .ok (.istore_n 2, 1) := by decide +kernel
theorem d_Gazette_putInOrder_18 : decode b_Gazette_putInOrder 18 = .ok (.iload_n 2, 1) := by decide +kernel
theorem d_Gazette_putInOrder_19 : decode b_Gazette_putInOrder 19 = .ok (.ifCond .le 45, 3) := by decide +kernel
theorem d_Gazette_putInOrder_22 : decode b_Gazette_putInOrder 22 = .ok (.aload_n 0, 1) := by decide +kernel
theorem d_Gazette_putInOrder_23 : decode b_Gazette_putInOrder 23 = .ok (.getfield 15, 3) := by decide +kernel
theorem d_Gazette_putInOrder_26 : decode b_Gazette_putInOrder 26 = .ok (.aload_n 0, 1) := by decide +kernel
theorem d_Gazette_putInOrder_27 : decode b_Gazette_putInOrder 27 = .ok (.getfield 24, 3) := by decide +kernel
theorem d_Gazette_putInOrder_30 : decode b_Gazette_putInOrder 30 = .ok (.iload_n 2, 1) := by decide +kernel
theorem d_Gazette_putInOrder_31 : decode b_Gazette_putInOrder 31 = .ok (.iconst 1, 1) := by decide +kernel
theorem d_Gazette_putInOrder_32 : decode b_Gazette_putInOrder 32 = .ok (.isub, 1) := by decide +kernel
theorem d_Gazette_putInOrder_33 : decode b_Gazette_putInOrder 33 = .ok (.iaload, 1) := by decide +kernel
theorem d_Gazette_putInOrder_34 : decode b_Gazette_putInOrder 34 = .ok (.iaload, 1) := by decide +kernel
theorem d_Gazette_putInOrder_35 : decode b_Gazette_putInOrder 35 = .ok (.aload_n 0, 1) := by decide +kernel
theorem d_Gazette_putInOrder_36 : decode b_Gazette_putInOrder 36 = .ok (.getfield 15, 3) := by decide +kernel
theorem d_Gazette_putInOrder_39 : decode b_Gazette_putInOrder 39 = .ok (.iload_n 1, 1) := by decide +kernel
theorem d_Gazette_putInOrder_40 : decode b_Gazette_putInOrder 40 = .ok (.iaload, 1) := by decide +kernel
theorem d_Gazette_putInOrder_41 : decode b_Gazette_putInOrder 41 = .ok (.if_icmp .le 23, 3) := by decide +kernel
theorem d_Gazette_putInOrder_44 : decode b_Gazette_putInOrder 44 = .ok (.aload_n 0, 1) := by decide +kernel
theorem d_Gazette_putInOrder_45 : decode b_Gazette_putInOrder 45 = .ok (.getfield 24, 3) := by decide +kernel
theorem d_Gazette_putInOrder_48 : decode b_Gazette_putInOrder 48 = .ok (.iload_n 2, 1) := by decide +kernel
theorem d_Gazette_putInOrder_49 : decode b_Gazette_putInOrder 49 = .ok (.aload_n 0, 1) := by decide +kernel
theorem d_Gazette_putInOrder_50 : decode b_Gazette_putInOrder 50 = .ok (.getfield 24, 3) := by decide +kernel
theorem d_Gazette_putInOrder_53 : decode b_Gazette_putInOrder 53 = .ok (.iload_n 2, 1) := by decide +kernel
theorem d_Gazette_putInOrder_54 : decode b_Gazette_putInOrder 54 = .ok (.iconst 1, 1) := by decide +kernel
theorem d_Gazette_putInOrder_55 : decode b_Gazette_putInOrder 55 = .ok (.isub, 1) := by decide +kernel
theorem d_Gazette_putInOrder_56 : decode b_Gazette_putInOrder 56 = .ok (.iaload, 1) := by decide +kernel
theorem d_Gazette_putInOrder_57 : decode b_Gazette_putInOrder 57 = .ok (.iastore, 1) := by decide +kernel
theorem d_Gazette_putInOrder_58 : decode b_Gazette_putInOrder 58 = .ok (.iinc 2 (-1), 3) := by decide +kernel
theorem d_Gazette_putInOrder_61 : decode b_Gazette_putInOrder 61 = .ok (.goto (-43), 3) := by decide +kernel
theorem d_Gazette_putInOrder_64 : decode b_Gazette_putInOrder 64 = .ok (.aload_n 0, 1) := by decide +kernel
theorem d_Gazette_putInOrder_65 : decode b_Gazette_putInOrder 65 = .ok (.getfield 24, 3) := by decide +kernel
theorem d_Gazette_putInOrder_68 : decode b_Gazette_putInOrder 68 = .ok (.iload_n 2, 1) := by decide +kernel
theorem d_Gazette_putInOrder_69 : decode b_Gazette_putInOrder 69 = .ok (.iload_n 1, 1) := by decide +kernel
theorem d_Gazette_putInOrder_70 : decode b_Gazette_putInOrder 70 = .ok (.iastore, 1) := by decide +kernel
theorem d_Gazette_putInOrder_71 : decode b_Gazette_putInOrder 71 = .ok (.aload_n 0, 1) := by decide +kernel
theorem d_Gazette_putInOrder_72 : decode b_Gazette_putInOrder 72 = .ok (.dup, 1) := by decide +kernel
theorem d_Gazette_putInOrder_73 : decode b_Gazette_putInOrder 73 = .ok (.getfield 39, 3) := by decide +kernel
theorem d_Gazette_putInOrder_76 : decode b_Gazette_putInOrder 76 = .ok (.iconst 1, 1) := by decide +kernel
theorem d_Gazette_putInOrder_77 : decode b_Gazette_putInOrder 77 = .ok (.iadd, 1) := by decide +kernel
theorem d_Gazette_putInOrder_78 : decode b_Gazette_putInOrder 78 = .ok (.putfield 39, 3) := by decide +kernel
theorem d_Gazette_putInOrder_81 : decode b_Gazette_putInOrder 81 = .ok (.return_, 1) := by decide +kernel
theorem d_PaperBox_add_0 : decode b_PaperBox_add 0 = .ok (.aload_n 0, 1) := by decide +kernel
theorem d_PaperBox_add_1 : decode b_PaperBox_add 1 = .ok (.invokevirtual 44, 3) := by decide +kernel
theorem d_PaperBox_add_4 : decode b_PaperBox_add 4 = .ok (.ifCond .eq 4, 3) := by decide +kernel
theorem d_PaperBox_add_7 : decode b_PaperBox_add 7 = .ok (.return_, 1) := by decide +kernel
theorem d_PaperBox_add_8 : decode b_PaperBox_add 8 = .ok (.aload_n 0, 1) := by decide +kernel
theorem d_PaperBox_add_9 : decode b_PaperBox_add 9 = .ok (.getfield 9, 3) := by decide +kernel
theorem d_PaperBox_add_12 : decode b_PaperBox_add 12 = .ok (.aload_n 0, 1) := by decide +kernel
theorem d_PaperBox_add_13 : decode b_PaperBox_add 13 = .ok (.getfield 36, 3) := by decide +kernel
theorem d_PaperBox_add_16 : decode b_PaperBox_add 16 = .ok (.iload_n 1, 1) := by decide +kernel
theorem d_PaperBox_add_17 : decode b_PaperBox_add 17 = .ok (.iastore, 1) := by decide +kernel
theorem d_PaperBox_add_18 : decode b_PaperBox_add 18 = .ok (.aload_n 0, 1) := by decide +kernel
theorem d_PaperBox_add_19 : decode b_PaperBox_add 19 = .ok (.getfield 15, 3) := by decide +kernel
theorem d_PaperBox_add_22 : decode b_PaperBox_add 22 = .ok (.aload_n 0, 1) := by decide +kernel
theorem d_PaperBox_add_23 : decode b_PaperBox_add 23 = .ok (.getfield 36, 3) := by decide +kernel
theorem d_PaperBox_add_26 : decode b_PaperBox_add 26 = .ok (.iload_n 2, 1) := by decide +kernel
theorem d_PaperBox_add_27 : decode b_PaperBox_add 27 = .ok (.iastore, 1) := by decide +kernel
theorem d_PaperBox_add_28 : decode b_PaperBox_add 28 = .ok (.aload_n 0, 1) := by decide +kernel
theorem d_PaperBox_add_29 : decode b_PaperBox_add 29 = .ok (.getfield 18, 3) := by decide +kernel
theorem d_PaperBox_add_32 : decode b_PaperBox_add 32 = .ok (.aload_n 0, 1) := by decide +kernel
theorem d_PaperBox_add_33 : decode b_PaperBox_add 33 = .ok (.getfield 36, 3) := by decide +kernel
theorem d_PaperBox_add_36 : decode b_PaperBox_add 36 = .ok (.iload_n 3, 1) := by decide +kernel
theorem d_PaperBox_add_37 : decode b_PaperBox_add 37 = .ok (.iastore, 1) := by decide +kernel
theorem d_PaperBox_add_38 : decode b_PaperBox_add 38 = .ok (.aload_n 0, 1) := by decide +kernel
theorem d_PaperBox_add_39 : decode b_PaperBox_add 39 = .ok (.getfield 21, 3) := by decide +kernel
theorem d_PaperBox_add_42 : decode b_PaperBox_add 42 = .ok (.aload_n 0, 1) := by decide +kernel
theorem d_PaperBox_add_43 : decode b_PaperBox_add 43 = .ok (.getfield 36, 3) := by decide +kernel
theorem d_PaperBox_add_46 : decode b_PaperBox_add 46 = .ok (.iload 4, 2) := by decide +kernel
theorem d_PaperBox_add_48 : decode b_PaperBox_add 48 = .ok (.iastore, 1) := by decide +kernel
theorem d_PaperBox_add_49 : decode b_PaperBox_add 49 = .ok (.aload_n 0, 1) := by decide +kernel
theorem d_PaperBox_add_50 : decode b_PaperBox_add 50 = .ok (.getfield 24, 3) := by decide +kernel
theorem d_PaperBox_add_53 : decode b_PaperBox_add 53 = .ok (.aload_n 0, 1) := by decide +kernel
theorem d_PaperBox_add_54 : decode b_PaperBox_add 54 = .ok (.getfield 36, 3) := by decide +kernel
theorem d_PaperBox_add_57 : decode b_PaperBox_add 57 = .ok (.iload 5, 2) := by decide +kernel
theorem d_PaperBox_add_59 : decode b_PaperBox_add 59 = .ok (.iastore, 1) := by decide +kernel
theorem d_PaperBox_add_60 : decode b_PaperBox_add 60 = .ok (.aload_n 0, 1) := by decide +kernel
theorem d_PaperBox_add_61 : decode b_PaperBox_add 61 = .ok (.getfield 27, 3) := by decide +kernel
theorem d_PaperBox_add_64 : decode b_PaperBox_add 64 = .ok (.aload_n 0, 1) := by decide +kernel
theorem d_PaperBox_add_65 : decode b_PaperBox_add 65 = .ok (.getfield 36, 3) := by decide +kernel
theorem d_PaperBox_add_68 : decode b_PaperBox_add 68 = .ok (.iload 6, 2) := by decide +kernel
theorem d_PaperBox_add_70 : decode b_PaperBox_add 70 = .ok (.iastore, 1) := by decide +kernel
theorem d_PaperBox_add_71 : decode b_PaperBox_add 71 = .ok (.aload_n 0, 1) := by decide +kernel
theorem d_PaperBox_add_72 : decode b_PaperBox_add 72 = .ok (.getfield 30, 3) := by decide +kernel
theorem d_PaperBox_add_75 : decode b_PaperBox_add 75 = .ok (.aload_n 0, 1) := by decide +kernel
theorem d_PaperBox_add_76 : decode b_PaperBox_add 76 = .ok (.getfield 36, 3) := by decide +kernel
theorem d_PaperBox_add_79 : decode b_PaperBox_add 79 = .ok (.iload 7, 2) := by decide +kernel
theorem d_PaperBox_add_81 : decode b_PaperBox_add 81 = .ok (.iastore, 1) := by decide +kernel
theorem d_PaperBox_add_82 : decode b_PaperBox_add 82 = .ok (.aload_n 0, 1) := by decide +kernel
theorem d_PaperBox_add_83 : decode b_PaperBox_add 83 = .ok (.getfield 33, 3) := by decide +kernel
theorem d_PaperBox_add_86 : decode b_PaperBox_add 86 = .ok (.aload_n 0, 1) := by decide +kernel
theorem d_PaperBox_add_87 : decode b_PaperBox_add 87 = .ok (.getfield 36, 3) := by decide +kernel
theorem d_PaperBox_add_90 : decode b_PaperBox_add 90 = .ok (.iconst (-1), 1) := by decide +kernel
theorem d_PaperBox_add_91 : decode b_PaperBox_add 91 = .ok (.iastore, 1) := by decide +kernel
theorem d_PaperBox_add_92 : decode b_PaperBox_add 92 = .ok (.aload_n 0, 1) := by decide +kernel
theorem d_PaperBox_add_93 : decode b_PaperBox_add 93 = .ok (.dup, 1) := by decide +kernel
theorem d_PaperBox_add_94 : decode b_PaperBox_add 94 = .ok (.getfield 36, 3) := by decide +kernel
theorem d_PaperBox_add_97 : decode b_PaperBox_add 97 = .ok (.iconst 1, 1) := by decide +kernel
theorem d_PaperBox_add_98 : decode b_PaperBox_add 98 = .ok (.iadd, 1) := by decide +kernel
theorem d_PaperBox_add_99 : decode b_PaperBox_add 99 = .ok (.putfield 36, 3) := by decide +kernel
theorem d_PaperBox_add_102 : decode b_PaperBox_add 102 = .ok (.return_, 1) := by decide +kernel
theorem d_Chan_death_0 : decode b_Chan_death 0 = .ok (.aload_n 0, 1) := by decide +kernel
theorem d_Chan_death_1 : decode b_Chan_death 1 = .ok (.getfield 28, 3) := by decide +kernel
theorem d_Chan_death_4 : decode b_Chan_death 4 = .ok (.iload_n 1, 1) := by decide +kernel
theorem d_Chan_death_5 : decode b_Chan_death 5 = .ok (.invokevirtual 116, 3) := by decide +kernel
theorem d_Chan_death_8 : decode b_Chan_death 8 = .ok (.ifCond .eq 10, 3) := by decide +kernel
theorem d_Chan_death_11 : decode b_Chan_death 11 = .ok (.iload_n 2, 1) := by decide +kernel
theorem d_Chan_death_12 : decode b_Chan_death 12 = .ok (.invokestatic 129, 3) := by decide +kernel
theorem d_Chan_death_15 : decode b_Chan_death 15 = .ok (.ifCond .ne 5, 3) := by decide +kernel
theorem d_Chan_death_18 : decode b_Chan_death 18 = .ok (.iconst (-1), 1) := by decide +kernel
theorem d_Chan_death_19 : decode b_Chan_death 19 = .ok (.ireturn, 1) := by decide +kernel
theorem d_Chan_death_20 : decode b_Chan_death 20 = .ok (.aload_n 0, 1) := by decide +kernel
theorem d_Chan_death_21 : decode b_Chan_death 21 = .ok (.getfield 42, 3) := by decide +kernel
theorem d_Chan_death_24 : decode b_Chan_death 24 = .ok (.iconst 1, 1) := by decide +kernel
theorem d_Chan_death_25 : decode b_Chan_death 25 = .ok (.iload_n 2, 1) := by decide +kernel
theorem d_Chan_death_26 : decode b_Chan_death 26 = .ok (.iload_n 1, 1) := by decide +kernel
theorem d_Chan_death_27 : decode b_Chan_death 27 = .ok (.iconst (-1), 1) := by decide +kernel
theorem d_Chan_death_28 : decode b_Chan_death 28 = .ok (.invokevirtual 160, 3) := by decide +kernel
theorem d_Chan_death_31 : decode b_Chan_death 31 = .ok (.ireturn, 1) := by decide +kernel
theorem d_Chan_resign_0 : decode b_Chan_resign 0 = .ok (.aload_n 0, 1) := by decide +kernel
theorem d_Chan_resign_1 : decode b_Chan_resign 1 = .ok (.getfield 28, 3) := by decide +kernel
theorem d_Chan_resign_4 : decode b_Chan_resign 4 = .ok (.iload_n 1, 1) := by decide +kernel
theorem d_Chan_resign_5 : decode b_Chan_resign 5 = .ok (.invokevirtual 113, 3) := by decide +kernel
theorem d_Chan_resign_8 : decode b_Chan_resign 8 = .ok (.ifCond .eq 21, 3) := by decide +kernel
theorem d_Chan_resign_11 : decode b_Chan_resign 11 = .ok (.aload_n 0, 1) := by decide +kernel
theorem d_Chan_resign_12 : decode b_Chan_resign 12 = .ok (.getfield 28, 3) := by decide +kernel
theorem d_Chan_resign_15 : decode b_Chan_resign 15 = .ok (.iload_n 2, 1) := by decide +kernel
theorem d_Chan_resign_16 : decode b_Chan_resign 16 = .ok (.invokevirtual 116, 3) := by decide +kernel
theorem d_Chan_resign_19 : decode b_Chan_resign 19 = .ok (.ifCond .eq 10, 3) := by decide +kernel
theorem d_Chan_resign_22 : decode b_Chan_resign 22 = .ok (.iload_n 3, 1) := by decide +kernel
theorem d_Chan_resign_23 : decode b_Chan_resign 23 = .ok (.invokestatic 129, 3) := by decide +kernel
theorem d_Chan_resign_26 : decode b_Chan_resign 26 = .ok (.ifCond .ne 5, 3) := by decide +kernel
theorem d_Chan_resign_29 : decode b_Chan_resign 29 = .ok (.iconst (-1), 1) := by decide +kernel
theorem d_Chan_resign_30 : decode b_Chan_resign 30 = .ok (.ireturn, 1) := by decide +kernel
theorem d_Chan_resign_31 : decode b_Chan_resign 31 = .ok (.aload_n 0, 1) := by decide +kernel
theorem d_Chan_resign_32 : decode b_Chan_resign 32 = .ok (.getfield 42, 3) := by decide +kernel
theorem d_Chan_resign_35 : decode b_Chan_resign 35 = .ok (.iconst 2, 1) := by decide +kernel
theorem d_Chan_resign_36 : decode b_Chan_resign 36 = .ok (.iload_n 3, 1) := by decide +kernel
theorem d_Chan_resign_37 : decode b_Chan_resign 37 = .ok (.iload_n 1, 1) := by decide +kernel
theorem d_Chan_resign_38 : decode b_Chan_resign 38 = .ok (.iload_n 2, 1) := by decide +kernel
theorem d_Chan_resign_39 : decode b_Chan_resign 39 = .ok (.invokevirtual 160, 3) := by decide +kernel
theorem d_Chan_resign_42 : decode b_Chan_resign 42 = .ok (.ireturn, 1) := by decide +kernel
theorem d_Chan_swap_0 : decode b_Chan_swap 0 = .ok (.aload_n 0, 1) := by decide +kernel
theorem d_Chan_swap_1 : decode b_Chan_swap 1 = .ok (.getfield 28, 3) := by decide +kernel
theorem d_Chan_swap_4 : decode b_Chan_swap 4 = .ok (.iload_n 1, 1) := by decide +kernel
theorem d_Chan_swap_5 : decode b_Chan_swap 5 = .ok (.invokevirtual 113, 3) := by decide +kernel
theorem d_Chan_swap_8 : decode b_Chan_swap 8 = .ok (.ifCond .eq 26, 3) := by decide +kernel
theorem d_Chan_swap_11 : decode b_Chan_swap 11 = .ok (.aload_n 0, 1) := by decide +kernel
theorem d_Chan_swap_12 : decode b_Chan_swap 12 = .ok (.getfield 28, 3) := by decide +kernel
theorem d_Chan_swap_15 : decode b_Chan_swap 15 = .ok (.iload_n 2, 1) := by decide +kernel
theorem d_Chan_swap_16 : decode b_Chan_swap 16 = .ok (.invokevirtual 113, 3) := by decide +kernel
theorem d_Chan_swap_19 : decode b_Chan_swap 19 = .ok (.ifCond .eq 15, 3) := by decide +kernel
theorem d_Chan_swap_22 : decode b_Chan_swap 22 = .ok (.iload_n 1, 1) := by decide +kernel
theorem d_Chan_swap_23 : decode b_Chan_swap 23 = .ok (.iload_n 2, 1) := by decide +kernel
theorem d_Chan_swap_24 : decode b_Chan_swap 24 = .ok (.if_icmp .eq 10, 3) := by decide +kernel
theorem d_Chan_swap_27 : decode b_Chan_swap 27 = .ok (.iload_n 3, 1) := by decide +kernel
theorem d_Chan_swap_28 : decode b_Chan_swap 28 = .ok (.invokestatic 129, 3) := by decide +kernel
theorem d_Chan_swap_31 : decode b_Chan_swap 31 = .ok (.ifCond .ne 5, 3) := by decide +kernel
theorem d_Chan_swap_34 : decode b_Chan_swap 34 = .ok (.iconst (-1), 1) := by decide +kernel
theorem d_Chan_swap_35 : decode b_Chan_swap 35 = .ok (.ireturn, 1) := by decide +kernel
theorem d_Chan_swap_36 : decode b_Chan_swap 36 = .ok (.aload_n 0, 1) := by decide +kernel
theorem d_Chan_swap_37 : decode b_Chan_swap 37 = .ok (.getfield 42, 3) := by decide +kernel
theorem d_Chan_swap_40 : decode b_Chan_swap 40 = .ok (.iconst 3, 1) := by decide +kernel
theorem d_Chan_swap_41 : decode b_Chan_swap 41 = .ok (.iload_n 3, 1) := by decide +kernel
theorem d_Chan_swap_42 : decode b_Chan_swap 42 = .ok (.iload_n 1, 1) := by decide +kernel
theorem d_Chan_swap_43 : decode b_Chan_swap 43 = .ok (.iload_n 2, 1) := by decide +kernel
theorem d_Chan_swap_44 : decode b_Chan_swap 44 = .ok (.invokevirtual 160, 3) := by decide +kernel
theorem d_Chan_swap_47 : decode b_Chan_swap 47 = .ok (.ireturn, 1) := by decide +kernel
theorem d_Chan_disprove_0 : decode b_Chan_disprove 0 = .ok (.aload_n 0, 1) := by decide +kernel
theorem d_Chan_disprove_1 : decode b_Chan_disprove 1 = .ok (.getfield 35, 3) := by decide +kernel
theorem d_Chan_disprove_4 : decode b_Chan_disprove 4 = .ok (.iload_n 1, 1) := by decide +kernel
theorem d_Chan_disprove_5 : decode b_Chan_disprove 5 = .ok (.invokevirtual 166, 3) := by decide +kernel
theorem d_Chan_disprove_8 : decode b_Chan_disprove 8 = .ok (.ifCond .eq 26, 3) := by decide +kernel
theorem d_Chan_disprove_11 : decode b_Chan_disprove 11 = .ok (.aload_n 0, 1) := by decide +kernel
theorem d_Chan_disprove_12 : decode b_Chan_disprove 12 = .ok (.getfield 35, 3) := by decide +kernel
theorem d_Chan_disprove_15 : decode b_Chan_disprove 15 = .ok (.getfield 169, 3) := by decide +kernel
theorem d_Chan_disprove_18 : decode b_Chan_disprove 18 = .ok (.iload_n 1, 1) := by decide +kernel
theorem d_Chan_disprove_19 : decode b_Chan_disprove 19 = .ok (.iaload, 1) := by decide +kernel
theorem d_Chan_disprove_20 : decode b_Chan_disprove 20 = .ok (.iconst (-1), 1) := by decide +kernel
theorem d_Chan_disprove_21 : decode b_Chan_disprove 21 = .ok (.if_icmp .ne 13, 3) := by decide +kernel
theorem d_Chan_disprove_24 : decode b_Chan_disprove 24 = .ok (.aload_n 0, 1) := by decide +kernel
theorem d_Chan_disprove_25 : decode b_Chan_disprove 25 = .ok (.getfield 42, 3) := by decide +kernel
theorem d_Chan_disprove_28 : decode b_Chan_disprove 28 = .ok (.invokevirtual 158, 3) := by decide +kernel
theorem d_Chan_disprove_31 : decode b_Chan_disprove 31 = .ok (.ifCond .eq 5, 3) := by decide +kernel
theorem d_Chan_disprove_34 : decode b_Chan_disprove 34 = .ok (.iconst (-1), 1) := by decide +kernel
theorem d_Chan_disprove_35 : decode b_Chan_disprove 35 = .ok (.ireturn, 1) := by decide +kernel
theorem d_Chan_disprove_36 : decode b_Chan_disprove 36 = .ok (.aload_n 0, 1) := by decide +kernel
theorem d_Chan_disprove_37 : decode b_Chan_disprove 37 = .ok (.getfield 42, 3) := by decide +kernel
theorem d_Chan_disprove_40 : decode b_Chan_disprove 40 = .ok (.iconst 4, 1) := by decide +kernel
theorem d_Chan_disprove_41 : decode b_Chan_disprove 41 = .ok (.iconst (-1), 1) := by decide +kernel
theorem d_Chan_disprove_42 : decode b_Chan_disprove 42 = .ok (.iload_n 1, 1) := by decide +kernel
theorem d_Chan_disprove_43 : decode b_Chan_disprove 43 = .ok (.iconst (-1), 1) := by decide +kernel
theorem d_Chan_disprove_44 : decode b_Chan_disprove 44 = .ok (.invokevirtual 160, 3) := by decide +kernel
theorem d_Chan_disprove_47 : decode b_Chan_disprove 47 = .ok (.istore_n 2, 1) := by decide +kernel
theorem d_Chan_disprove_48 : decode b_Chan_disprove 48 = .ok (.aload_n 0, 1) := by decide +kernel
theorem d_Chan_disprove_49 : decode b_Chan_disprove 49 = .ok (.getfield 35, 3) := by decide +kernel
theorem d_Chan_disprove_52 : decode b_Chan_disprove 52 = .ok (.getfield 169, 3) := by decide +kernel
theorem d_Chan_disprove_55 : decode b_Chan_disprove 55 = .ok (.iload_n 1, 1) := by decide +kernel
theorem d_Chan_disprove_56 : decode b_Chan_disprove 56 = .ok (.iload_n 2, 1) := by decide +kernel
theorem d_Chan_disprove_57 : decode b_Chan_disprove 57 = .ok (.iastore, 1) := by decide +kernel
theorem d_Chan_disprove_58 : decode b_Chan_disprove 58 = .ok (.iload_n 2, 1) := by decide +kernel
theorem d_Chan_disprove_59 : decode b_Chan_disprove 59 = .ok (.ireturn, 1) := by decide +kernel
