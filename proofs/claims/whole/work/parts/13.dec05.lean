theorem d_Md_tests_0 : decode b_Md_tests 0 = .ok (.iconst 0, 1) := by decide +kernel
theorem d_Md_tests_1 : decode b_Md_tests 1 = .ok (.istore_n 2, 1) := by decide +kernel
theorem d_Md_tests_2 : decode b_Md_tests 2 = .ok (.iconst 1, 1) := by decide +kernel
theorem d_Md_tests_3 : decode b_Md_tests 3 = .ok (.istore_n 3, 1) := by decide +kernel
theorem d_Md_tests_4 : decode b_Md_tests 4 = .ok (.iload_n 3, 1) := by decide +kernel
theorem d_Md_tests_5 : decode b_Md_tests 5 = .ok (.ifCond .eq 142, 3) := by decide +kernel
theorem d_Md_tests_8 : decode b_Md_tests 8 = .ok (.aload_n 0, 1) := by decide +kernel
theorem d_Md_tests_9 : decode b_Md_tests 9 = .ok (.getfield 83, 3) := by decide +kernel
theorem d_Md_tests_12 : decode b_Md_tests 12 = .ok (.ifCond .ne 135, 3) := by decide +kernel
theorem d_Md_tests_15 : decode b_Md_tests 15 = .ok (.aload_n 0, 1) := by decide +kernel
theorem d_Md_tests_16 : decode b_Md_tests 16 = .ok (.invokevirtual 158, 3) := by decide +kernel
theorem d_Md_tests_19 : decode b_Md_tests 19 = .ok (.pop, 1) := by decide +kernel
theorem d_Md_tests_20 : decode b_Md_tests 20 = .ok (.aload_n 0, 1) := by decide +kernel
theorem d_Md_tests_21 : decode b_Md_tests 21 = .ok (.getfield 77, 3) := by decide +kernel
theorem d_Md_tests_24 : decode b_Md_tests 24 = .ok (.istore 4, 2) := by decide +kernel
theorem d_Md_tests_26 : decode b_Md_tests 26 = .ok (.aload_n 0, 1) := by decide +kernel
theorem d_Md_tests_27 : decode b_Md_tests 27 = .ok (.invokevirtual 198, 3) := by decide +kernel
theorem d_Md_tests_30 : decode b_Md_tests 30 = .ok (.istore 5, 2) := by decide +kernel
theorem d_Md_tests_32 : decode b_Md_tests 32 = .ok (.iload_n 1, 1) := by decide +kernel
theorem d_Md_tests_33 : decode b_Md_tests 33 = .ok (.ifCond .ne 16, 3) := by decide +kernel
theorem d_Md_tests_36 : decode b_Md_tests 36 = .ok (.iload 5, 2) := by decide +kernel
theorem d_Md_tests_38 : decode b_Md_tests 38 = .ok (.iconst 1, 1) := by decide +kernel
theorem d_Md_tests_39 : decode b_Md_tests 39 = .ok (.if_icmp .le 10, 3) := by decide +kernel
theorem d_Md_tests_42 : decode b_Md_tests 42 = .ok (.aload_n 0, 1) := by decide +kernel
theorem d_Md_tests_43 : decode b_Md_tests 43 = .ok (.iconst 2, 1) := by decide +kernel
theorem d_Md_tests_44 : decode b_Md_tests 44 = .ok (.iload 4, 2) := by decide +kernel
theorem d_Md_tests_46 : decode b_Md_tests 46 = .ok (.invokevirtual 191, 3) := by decide +kernel
theorem d_Md_tests_49 : decode b_Md_tests 49 = .ok (.aload_n 0, 1) := by decide +kernel
theorem d_Md_tests_50 : decode b_Md_tests 50 = .ok (.invokevirtual 158, 3) := by decide +kernel
theorem d_Md_tests_53 : decode b_Md_tests 53 = .ok (.istore 6, 2) := by decide +kernel
theorem d_Md_tests_55 : decode b_Md_tests 55 = .ok (.iload 6, 2) := by decide +kernel
theorem d_Md_tests_57 : decode b_Md_tests 57 = .ok (.bipush 60, 2) := by decide +kernel
theorem d_Md_tests_59 : decode b_Md_tests 59 = .ok (.if_icmp .eq 26, 3) := by decide +kernel
theorem d_Md_tests_62 : decode b_Md_tests 62 = .ok (.iload 6, 2) := by decide +kernel
theorem d_Md_tests_64 : decode b_Md_tests 64 = .ok (.bipush 62, 2) := by decide +kernel
theorem d_Md_tests_66 : decode b_Md_tests 66 = .ok (.if_icmp .eq 19, 3) := by decide +kernel
theorem d_Md_tests_69 : decode b_Md_tests 69 = .ok (.iload 6, 2) := by decide +kernel
theorem d_Md_tests_71 : decode b_Md_tests 71 = .ok (.bipush 61, 2) := by decide +kernel
theorem d_Md_tests_73 : decode b_Md_tests 73 = .ok (.if_icmp .eq 12, 3) := by decide +kernel
theorem d_Md_tests_76 : decode b_Md_tests 76 = .ok (.aload_n 0, 1) := by decide +kernel
theorem d_Md_tests_77 : decode b_Md_tests 77 = .ok (.iconst 1, 1) := by decide +kernel
theorem d_Md_tests_78 : decode b_Md_tests 78 = .ok (.aload_n 0, 1) := by decide +kernel
theorem d_Md_tests_79 : decode b_Md_tests 79 = .ok (.getfield 77, 3) := by decide +kernel
theorem d_Md_tests_82 : decode b_Md_tests 82 = .ok (.invokevirtual 191, 3) := by decide +kernel
theorem d_Md_tests_85 : decode b_Md_tests 85 = .ok (.aload_n 0, 1) := by decide +kernel
theorem d_Md_tests_86 : decode b_Md_tests 86 = .ok (.dup, 1) := by decide +kernel
theorem d_Md_tests_87 : decode b_Md_tests 87 = .ok (.getfield 77, 3) := by decide +kernel
theorem d_Md_tests_90 : decode b_Md_tests 90 = .ok (.iconst 1, 1) := by decide +kernel
theorem d_Md_tests_91 : decode b_Md_tests 91 = .ok (.iadd, 1) := by decide +kernel
theorem d_Md_tests_92 : decode b_Md_tests 92 = .ok (.putfield 77, 3) := by decide +kernel
theorem d_Md_tests_95 : decode b_Md_tests 95 = .ok (.aload_n 0, 1) := by decide +kernel
theorem d_Md_tests_96 : decode b_Md_tests 96 = .ok (.getfield 83, 3) := by decide +kernel
theorem d_Md_tests_99 : decode b_Md_tests 99 = .ok (.ifCond .ne 10, 3) := by decide +kernel
theorem d_Md_tests_102 : decode b_Md_tests 102 = .ok (.aload_n 0, 1) := by decide +kernel
theorem d_Md_tests_103 : decode b_Md_tests 103 = .ok (.invokevirtual 201, 3) := by decide +kernel
theorem d_Md_tests_106 : decode b_Md_tests 106 = .ok (.goto 4, 3) := by decide +kernel
theorem d_Md_tests_109 : decode b_Md_tests 109 = .ok (.iconst 0, 1) := by decide +kernel
theorem d_Md_tests_110 : decode b_Md_tests 110 = .ok (.istore 7, 2) := by decide +kernel
theorem d_Md_tests_112 : decode b_Md_tests 112 = .ok (.aload_n 0, 1) := by decide +kernel
theorem d_Md_tests_113 : decode b_Md_tests 113 = .ok (.getfield 83, 3) := by decide +kernel
theorem d_Md_tests_116 : decode b_Md_tests 116 = .ok (.ifCond .le 6, 3) := by decide +kernel
theorem d_Md_tests_119 : decode b_Md_tests 119 = .ok (.goto (-115), 3) := by decide +kernel
theorem d_Md_tests_122 : decode b_Md_tests 122 = .ok (.aload_n 0, 1) := by decide +kernel
theorem d_Md_tests_123 : decode b_Md_tests 123 = .ok (.iload 5, 2) := by decide +kernel
theorem d_Md_tests_125 : decode b_Md_tests 125 = .ok (.iload 6, 2) := by decide +kernel
theorem d_Md_tests_127 : decode b_Md_tests 127 = .ok (.iload 7, 2) := by decide +kernel
theorem d_Md_tests_129 : decode b_Md_tests 129 = .ok (.invokevirtual 204, 3) := by decide +kernel
theorem d_Md_tests_132 : decode b_Md_tests 132 = .ok (.iinc 2 1, 3) := by decide +kernel
theorem d_Md_tests_135 : decode b_Md_tests 135 = .ok (.aload_n 0, 1) := by decide +kernel
theorem d_Md_tests_136 : decode b_Md_tests 136 = .ok (.ldc2_w 208, 3) := by decide +kernel
theorem d_Md_tests_139 : decode b_Md_tests 139 = .ok (.iconst 3, 1) := by decide +kernel
theorem d_Md_tests_140 : decode b_Md_tests 140 = .ok (.invokevirtual 176, 3) := by decide +kernel
theorem d_Md_tests_143 : decode b_Md_tests 143 = .ok (.istore_n 3, 1) := by decide +kernel
theorem d_Md_tests_144 : decode b_Md_tests 144 = .ok (.goto (-140), 3) := by decide +kernel
theorem d_Md_tests_147 : decode b_Md_tests 147 = .ok (.iload_n 2, 1) := by decide +kernel
theorem d_Md_tests_148 : decode b_Md_tests 148 = .ok (.ireturn, 1) := by decide +kernel
theorem d_Md_digits_0 : decode b_Md_digits 0 = .ok (.aload_n 0, 1) := by decide +kernel
theorem d_Md_digits_1 : decode b_Md_digits 1 = .ok (.invokevirtual 158, 3) := by decide +kernel
theorem d_Md_digits_4 : decode b_Md_digits 4 = .ok (.invokestatic 195, 3) := by decide +kernel
theorem d_Md_digits_7 : decode b_Md_digits 7 = .ok (.ifCond .ne 14, 3) := by decide +kernel
theorem d_Md_digits_10 : decode b_Md_digits 10 = .ok (.aload_n 0, 1) := by decide +kernel
theorem d_Md_digits_11 : decode b_Md_digits 11 = .ok (.iconst 1, 1) := by decide +kernel
theorem d_Md_digits_12 : decode b_Md_digits 12 = .ok (.aload_n 0, 1) := by decide +kernel
theorem d_Md_digits_13 : decode b_Md_digits 13 = .ok (.getfield 77, 3) := by decide +kernel
theorem d_Md_digits_16 : decode b_Md_digits 16 = .ok (.invokevirtual 191, 3) := by decide +kernel
theorem d_Md_digits_19 : decode b_Md_digits 19 = .ok (.iconst 0, 1) := by decide +kernel
theorem d_Md_digits_20 : decode b_Md_digits 20 = .ok (.ireturn, 1) := by decide +kernel
theorem d_Md_digits_21 : decode b_Md_digits 21 = .ok (.iconst 0, 1) := by decide +kernel
theorem d_Md_digits_22 : decode b_Md_digits 22 = .ok (.istore_n 1, 1) := by decide +kernel
theorem d_Md_digits_23 : decode b_Md_digits 23 = .ok (.iconst 0, 1) := by decide +kernel
theorem d_Md_digits_24 : decode b_Md_digits 24 = .ok (.istore_n 2, 1) := by decide +kernel
theorem d_Md_digits_25 : decode b_Md_digits 25 = .ok (.aload_n 0, 1) := by decide +kernel
theorem d_Md_digits_26 : decode b_Md_digits 26 = .ok (.getfield 77, 3) := by decide +kernel
theorem d_Md_digits_29 : decode b_Md_digits 29 = .ok (.aload_n 0, 1) := by decide +kernel
theorem d_Md_digits_30 : decode b_Md_digits 30 = .ok (.getfield 80, 3) := by decide +kernel
theorem d_Md_digits_33 : decode b_Md_digits 33 = .ok (.if_icmp .ge 74, 3) := by decide +kernel
theorem d_Md_digits_36 : decode b_Md_digits 36 = .ok (.aload_n 0, 1) := by decide +kernel
theorem d_Md_digits_37 : decode b_Md_digits 37 = .ok (.getfield 7, 3) := by decide +kernel
theorem d_Md_digits_40 : decode b_Md_digits 40 = .ok (.aload_n 0, 1) := by decide +kernel
theorem d_Md_digits_41 : decode b_Md_digits 41 = .ok (.getfield 77, 3) := by decide +kernel
theorem d_Md_digits_44 : decode b_Md_digits 44 = .ok (.iaload, 1) := by decide +kernel
theorem d_Md_digits_45 : decode b_Md_digits 45 = .ok (.invokestatic 195, 3) := by decide +kernel
theorem d_Md_digits_48 : decode b_Md_digits 48 = .ok (.ifCond .eq 59, 3) := by decide +kernel
theorem d_Md_digits_51 : decode b_Md_digits 51 = .ok (.aload_n 0, 1) := by decide +kernel
theorem d_Md_digits_52 : decode b_Md_digits 52 = .ok (.getfield 83, 3) := by decide +kernel
theorem d_Md_digits_55 : decode b_Md_digits 55 = .ok (.ifCond .ne 52, 3) := by decide +kernel
theorem d_Md_digits_58 : decode b_Md_digits 58 = .ok (.iload_n 2, 1) := by decide +kernel
theorem d_Md_digits_59 : decode b_Md_digits 59 = .ok (.bipush 7, 2) := by decide +kernel
theorem d_Md_digits_61 : decode b_Md_digits 61 = .ok (.if_icmp .ne 12, 3) := by decide +kernel
theorem d_Md_digits_64 : decode b_Md_digits 64 = .ok (.aload_n 0, 1) := by decide +kernel
theorem d_Md_digits_65 : decode b_Md_digits 65 = .ok (.iconst 1, 1) := by decide +kernel
theorem d_Md_digits_66 : decode b_Md_digits 66 = .ok (.aload_n 0, 1) := by decide +kernel
theorem d_Md_digits_67 : decode b_Md_digits 67 = .ok (.getfield 77, 3) := by decide +kernel
theorem d_Md_digits_70 : decode b_Md_digits 70 = .ok (.invokevirtual 191, 3) := by decide +kernel
theorem d_Md_digits_73 : decode b_Md_digits 73 = .ok (.bipush 10, 2) := by decide +kernel
theorem d_Md_digits_75 : decode b_Md_digits 75 = .ok (.iload_n 1, 1) := by decide +kernel
theorem d_Md_digits_76 : decode b_Md_digits 76 = .ok (.imul, 1) := by decide +kernel
theorem d_Md_digits_77 : decode b_Md_digits 77 = .ok (.aload_n 0, 1) := by decide +kernel
theorem d_Md_digits_78 : decode b_Md_digits 78 = .ok (.getfield 7, 3) := by decide +kernel
theorem d_Md_digits_81 : decode b_Md_digits 81 = .ok (.aload_n 0, 1) := by decide +kernel
theorem d_Md_digits_82 : decode b_Md_digits 82 = .ok (.getfield 77, 3) := by decide +kernel
theorem d_Md_digits_85 : decode b_Md_digits 85 = .ok (.iaload, 1) := by decide +kernel
theorem d_Md_digits_86 : decode b_Md_digits 86 = .ok (.iadd, 1) := by decide +kernel
theorem d_Md_digits_87 : decode b_Md_digits 87 = .ok (.bipush 48, 2) := by decide +kernel
theorem d_Md_digits_89 : decode b_Md_digits 89 = .ok (.isub, 1) := by decide +kernel
theorem d_Md_digits_90 : decode b_Md_digits 90 = .ok (.istore_n 1, 1) := by decide +kernel
theorem d_Md_digits_91 : decode b_Md_digits 91 = .ok (.aload_n 0, 1) := by decide +kernel
theorem d_Md_digits_92 : decode b_Md_digits 92 = .ok (.dup, 1) := by decide +kernel
theorem d_Md_digits_93 : decode b_Md_digits 93 = .ok (.getfield 77, 3) := by decide +kernel
theorem d_Md_digits_96 : decode b_Md_digits 96 = .ok (.iconst 1, 1) := by decide +kernel
theorem d_Md_digits_97 : decode b_Md_digits 97 = .ok (.iadd, 1) := by decide +kernel
theorem d_Md_digits_98 : decode b_Md_digits 98 = .ok (.putfield 77, 3) := by decide +kernel
theorem d_Md_digits_101 : decode b_Md_digits 101 = .ok (.iinc 2 1, 3) := by decide +kernel
theorem d_Md_digits_104 : decode b_Md_digits 104 = .ok (.goto (-79), 3) := by decide +kernel
theorem d_Md_digits_107 : decode b_Md_digits 107 = .ok (.iload_n 1, 1) := by decide +kernel
theorem d_Md_digits_108 : decode b_Md_digits 108 = .ok (.ireturn, 1) := by decide +kernel
theorem d_Md_isDigit_0 : decode b_Md_isDigit 0 = .ok (.iload_n 0, 1) := by decide +kernel
theorem d_Md_isDigit_1 : decode b_Md_isDigit 1 = .ok (.bipush 48, 2) := by decide +kernel
theorem d_Md_isDigit_3 : decode b_Md_isDigit 3 = .ok (.if_icmp .lt 13, 3) := by decide +kernel
theorem d_Md_isDigit_6 : decode b_Md_isDigit 6 = .ok (.iload_n 0, 1) := by decide +kernel
theorem d_Md_isDigit_7 : decode b_Md_isDigit 7 = .ok (.bipush 57, 2) := by decide +kernel
theorem d_Md_isDigit_9 : decode b_Md_isDigit 9 = .ok (.if_icmp .gt 7, 3) := by decide +kernel
theorem d_Md_isDigit_12 : decode b_Md_isDigit 12 = .ok (.iconst 1, 1) := by decide +kernel
theorem d_Md_isDigit_13 : decode b_Md_isDigit 13 = .ok (.goto 4, 3) := by decide +kernel
theorem d_Md_isDigit_16 : decode b_Md_isDigit 16 = .ok (.iconst 0, 1) := by decide +kernel
theorem d_Md_isDigit_17 : decode b_Md_isDigit 17 = .ok (.ireturn, 1) := by decide +kernel
theorem d_Md_fault_0 : decode b_Md_fault 0 = .ok (.iload_n 1, 1) := by decide +kernel
theorem d_Md_fault_1 : decode b_Md_fault 1 = .ok (.ifCond .ne 10, 3) := by decide +kernel
theorem d_Md_fault_4 : decode b_Md_fault 4 = .ok (.aload_n 0, 1) := by decide +kernel
theorem d_Md_fault_5 : decode b_Md_fault 5 = .ok (.getfield 83, 3) := by decide +kernel
theorem d_Md_fault_8 : decode b_Md_fault 8 = .ok (.goto 16, 3) := by decide +kernel
theorem d_Md_fault_11 : decode b_Md_fault 11 = .ok (.iload_n 1, 1) := by decide +kernel
theorem d_Md_fault_12 : decode b_Md_fault 12 = .ok (.iconst 1, 1) := by decide +kernel
theorem d_Md_fault_13 : decode b_Md_fault 13 = .ok (.if_icmp .ne 10, 3) := by decide +kernel
theorem d_Md_fault_16 : decode b_Md_fault 16 = .ok (.aload_n 0, 1) := by decide +kernel
theorem d_Md_fault_17 : decode b_Md_fault 17 = .ok (.getfield 86, 3) := by decide +kernel
theorem d_Md_fault_20 : decode b_Md_fault 20 = .ok (.goto 4, 3) := by decide +kernel
theorem d_Md_fault_23 : decode b_Md_fault 23 = .ok (.iconst (-1), 1) := by decide +kernel
theorem d_Md_fault_24 : decode b_Md_fault 24 = .ok (.ireturn, 1) := by decide +kernel
theorem d_Md_paper_0 : decode b_Md_paper 0 = .ok (.aload_n 0, 1) := by decide +kernel
theorem d_Md_paper_1 : decode b_Md_paper 1 = .ok (.iload_n 1, 1) := by decide +kernel
theorem d_Md_paper_2 : decode b_Md_paper 2 = .ok (.invokevirtual 155, 3) := by decide +kernel
theorem d_Md_paper_5 : decode b_Md_paper 5 = .ok (.ifCond .eq 68, 3) := by decide +kernel
theorem d_Md_paper_8 : decode b_Md_paper 8 = .ok (.aload_n 0, 1) := by decide +kernel
theorem d_Md_paper_9 : decode b_Md_paper 9 = .ok (.iload_n 2, 1) := by decide +kernel
theorem d_Md_paper_10 : decode b_Md_paper 10 = .ok (.invokevirtual 230, 3) := by decide +kernel
theorem d_Md_paper_13 : decode b_Md_paper 13 = .ok (.ifCond .eq 60, 3) := by decide +kernel
theorem d_Md_paper_16 : decode b_Md_paper 16 = .ok (.iload_n 3, 1) := by decide +kernel
theorem d_Md_paper_17 : decode b_Md_paper 17 = .ok (.iconst 0, 1) := by decide +kernel
theorem d_Md_paper_18 : decode b_Md_paper 18 = .ok (.sipush 255, 3) := by decide +kernel
theorem d_Md_paper_21 : decode b_Md_paper 21 = .ok (.invokestatic 147, 3) := by decide +kernel
theorem d_Md_paper_24 : decode b_Md_paper 24 = .ok (.ifCond .eq 49, 3) := by decide +kernel
theorem d_Md_paper_27 : decode b_Md_paper 27 = .ok (.iload 4, 2) := by decide +kernel
theorem d_Md_paper_29 : decode b_Md_paper 29 = .ok (.iconst 0, 1) := by decide +kernel
theorem d_Md_paper_30 : decode b_Md_paper 30 = .ok (.sipush 255, 3) := by decide +kernel
theorem d_Md_paper_33 : decode b_Md_paper 33 = .ok (.invokestatic 147, 3) := by decide +kernel
theorem d_Md_paper_36 : decode b_Md_paper 36 = .ok (.ifCond .eq 37, 3) := by decide +kernel
theorem d_Md_paper_39 : decode b_Md_paper 39 = .ok (.iload 5, 2) := by decide +kernel
theorem d_Md_paper_41 : decode b_Md_paper 41 = .ok (.iconst 1, 1) := by decide +kernel
theorem d_Md_paper_42 : decode b_Md_paper 42 = .ok (.sipush 1000, 3) := by decide +kernel
theorem d_Md_paper_45 : decode b_Md_paper 45 = .ok (.invokestatic 147, 3) := by decide +kernel
theorem d_Md_paper_48 : decode b_Md_paper 48 = .ok (.ifCond .eq 25, 3) := by decide +kernel
theorem d_Md_paper_51 : decode b_Md_paper 51 = .ok (.iload 6, 2) := by decide +kernel
theorem d_Md_paper_53 : decode b_Md_paper 53 = .ok (.iload 5, 2) := by decide +kernel
theorem d_Md_paper_55 : decode b_Md_paper 55 = .ok (.sipush 1000, 3) := by decide +kernel
theorem d_Md_paper_58 : decode b_Md_paper 58 = .ok (.invokestatic 147, 3) := by decide +kernel
theorem d_Md_paper_61 : decode b_Md_paper 61 = .ok (.ifCond .eq 12, 3) := by decide +kernel
theorem d_Md_paper_64 : decode b_Md_paper 64 = .ok (.aload_n 0, 1) := by decide +kernel
theorem d_Md_paper_65 : decode b_Md_paper 65 = .ok (.getfield 44, 3) := by decide +kernel
theorem d_Md_paper_68 : decode b_Md_paper 68 = .ok (.bipush 48, 2) := by decide +kernel
theorem d_Md_paper_70 : decode b_Md_paper 70 = .ok (.if_icmp .ne 5, 3) := by decide +kernel
theorem d_Md_paper_73 : decode b_Md_paper 73 = .ok (.iconst (-1), 1) := by decide +kernel
theorem d_Md_paper_74 : decode b_Md_paper 74 = .ok (.ireturn, 1) := by decide +kernel
theorem d_Md_paper_75 : decode b_Md_paper 75 = .ok (.bipush 7, 2) := by decide +kernel
theorem d_Md_paper_77 : decode b_Md_paper 77 = .ok (.aload_n 0, 1) := by decide +kernel
theorem d_Md_paper_78 : decode b_Md_paper 78 = .ok (.getfield 44, 3) := by decide +kernel
theorem d_Md_paper_81 : decode b_Md_paper 81 = .ok (.imul, 1) := by decide +kernel
theorem d_Md_paper_82 : decode b_Md_paper 82 = .ok (.istore 7, 2) := by decide +kernel
theorem d_Md_paper_84 : decode b_Md_paper 84 = .ok (.aload_n 0, 1) := by decide +kernel
theorem d_Md_paper_85 : decode b_Md_paper 85 = .ok (.getfield 47, 3) := by decide +kernel
theorem d_Md_paper_88 : decode b_Md_paper 88 = .ok (.iload 7, 2) := by decide +kernel
theorem d_Md_paper_90 : decode b_Md_paper 90 = .ok (.iload_n 1, 1) := by decide +kernel
theorem d_Md_paper_91 : decode b_Md_paper 91 = .ok (.iastore, 1) := by decide +kernel
theorem d_Md_paper_92 : decode b_Md_paper 92 = .ok (.aload_n 0, 1) := by decide +kernel
theorem d_Md_paper_93 : decode b_Md_paper 93 = .ok (.getfield 47, 3) := by decide +kernel
theorem d_Md_paper_96 : decode b_Md_paper 96 = .ok (.iload 7, 2) := by decide +kernel
theorem d_Md_paper_98 : decode b_Md_paper 98 = .ok (.iconst 1, 1) := by decide +kernel
theorem d_Md_paper_99 : decode b_Md_paper 99 = .ok (.iadd, 1) := by decide +kernel
theorem d_Md_paper_100 : decode b_Md_paper 100 = .ok (.iload_n 2, 1) := by decide +kernel
theorem d_Md_paper_101 : decode b_Md_paper 101 = .ok (.iastore, 1) := by decide +kernel
theorem d_Md_paper_102 : decode b_Md_paper 102 = .ok (.aload_n 0, 1) := by decide +kernel
theorem d_Md_paper_103 : decode b_Md_paper 103 = .ok (.getfield 47, 3) := by decide +kernel
theorem d_Md_paper_106 : decode b_Md_paper 106 = .ok (.iload 7, 2) := by decide +kernel
theorem d_Md_paper_108 : decode b_Md_paper 108 = .ok (.iconst 2, 1) := by decide +kernel
theorem d_Md_paper_109 : decode b_Md_paper 109 = .ok (.iadd, 1) := by decide +kernel
theorem d_Md_paper_110 : decode b_Md_paper 110 = .ok (.iload_n 3, 1) := by decide +kernel
theorem d_Md_paper_111 : decode b_Md_paper 111 = .ok (.iastore, 1) := by decide +kernel
theorem d_Md_paper_112 : decode b_Md_paper 112 = .ok (.aload_n 0, 1) := by decide +kernel
theorem d_Md_paper_113 : decode b_Md_paper 113 = .ok (.getfield 47, 3) := by decide +kernel
theorem d_Md_paper_116 : decode b_Md_paper 116 = .ok (.iload 7, 2) := by decide +kernel
theorem d_Md_paper_118 : decode b_Md_paper 118 = .ok (.iconst 3, 1) := by decide +kernel
theorem d_Md_paper_119 : decode b_Md_paper 119 = .ok (.iadd, 1) := by decide +kernel
theorem d_Md_paper_120 : decode b_Md_paper 120 = .ok (.iload 4, 2) := by decide +kernel
theorem d_Md_paper_122 : decode b_Md_paper 122 = .ok (.iastore, 1) := by decide +kernel
theorem d_Md_paper_123 : decode b_Md_paper 123 = .ok (.aload_n 0, 1) := by decide +kernel
theorem d_Md_paper_124 : decode b_Md_paper 124 = .ok (.getfield 47, 3) := by decide +kernel
theorem d_Md_paper_127 : decode b_Md_paper 127 = .ok (.iload 7, 2) := by decide +kernel
theorem d_Md_paper_129 : decode b_Md_paper 129 = .ok (.iconst 4, 1) := by decide +kernel
theorem d_Md_paper_130 : decode b_Md_paper 130 = .ok (.iadd, 1) := by decide +kernel
theorem d_Md_paper_131 : decode b_Md_paper 131 = .ok (.iload 5, 2) := by decide +kernel
theorem d_Md_paper_133 : decode b_Md_paper 133 = .ok (.iastore, 1) := by decide +kernel
theorem d_Md_paper_134 : decode b_Md_paper 134 = .ok (.aload_n 0, 1) := by decide +kernel
theorem d_Md_paper_135 : decode b_Md_paper 135 = .ok (.getfield 47, 3) := by decide +kernel
theorem d_Md_paper_138 : decode b_Md_paper 138 = .ok (.iload 7, 2) := by decide +kernel
theorem d_Md_paper_140 : decode b_Md_paper 140 = .ok (.iconst 5, 1) := by decide +kernel
theorem d_Md_paper_141 : decode b_Md_paper 141 = .ok (.iadd, 1) := by decide +kernel
theorem d_Md_paper_142 : decode b_Md_paper 142 = .ok (.iload 6, 2) := by decide +kernel
theorem d_Md_paper_144 : decode b_Md_paper 144 = .ok (.iastore, 1) := by decide +kernel
theorem d_Md_paper_145 : decode b_Md_paper 145 = .ok (.aload_n 0, 1) := by decide +kernel
theorem d_Md_paper_146 : decode b_Md_paper 146 = .ok (.getfield 50, 3) := by decide +kernel
theorem d_Md_paper_149 : decode b_Md_paper 149 = .ok (.aload_n 0, 1) := by decide +kernel
theorem d_Md_paper_150 : decode b_Md_paper 150 = .ok (.getfield 44, 3) := by decide +kernel
theorem d_Md_paper_153 : decode b_Md_paper 153 = .ok (.iconst 0, 1) := by decide +kernel
theorem d_Md_paper_154 : decode b_Md_paper 154 = .ok (.iastore, 1) := by decide +kernel
theorem d_Md_paper_155 : decode b_Md_paper 155 = .ok (.aload_n 0, 1) := by decide +kernel
theorem d_Md_paper_156 : decode b_Md_paper 156 = .ok (.getfield 47, 3) := by decide +kernel
theorem d_Md_paper_159 : decode b_Md_paper 159 = .ok (.iload 7, 2) := by decide +kernel
theorem d_Md_paper_161 : decode b_Md_paper 161 = .ok (.bipush 6, 2) := by decide +kernel
theorem d_Md_paper_163 : decode b_Md_paper 163 = .ok (.iadd, 1) := by decide +kernel
theorem d_Md_paper_164 : decode b_Md_paper 164 = .ok (.aload_n 0, 1) := by decide +kernel
theorem d_Md_paper_165 : decode b_Md_paper 165 = .ok (.iconst 0, 1) := by decide +kernel
theorem d_Md_paper_166 : decode b_Md_paper 166 = .ok (.iload_n 2, 1) := by decide +kernel
theorem d_Md_paper_167 : decode b_Md_paper 167 = .ok (.aload_n 0, 1) := by decide +kernel
theorem d_Md_paper_168 : decode b_Md_paper 168 = .ok (.getfield 44, 3) := by decide +kernel
theorem d_Md_paper_171 : decode b_Md_paper 171 = .ok (.iconst 0, 1) := by decide +kernel
theorem d_Md_paper_172 : decode b_Md_paper 172 = .ok (.invokevirtual 233, 3) := by decide +kernel
theorem d_Md_paper_175 : decode b_Md_paper 175 = .ok (.iastore, 1) := by decide +kernel
theorem d_Md_paper_176 : decode b_Md_paper 176 = .ok (.aload_n 0, 1) := by decide +kernel
theorem d_Md_paper_177 : decode b_Md_paper 177 = .ok (.dup, 1) := by decide +kernel
theorem d_Md_paper_178 : decode b_Md_paper 178 = .ok (.getfield 44, 3) := by decide +kernel
theorem d_Md_paper_181 : decode b_Md_paper 181 = .ok (.iconst 1, 1) := by decide +kernel
theorem d_Md_paper_182 : decode b_Md_paper 182 = .ok (.iadd, 1) := by decide +kernel
theorem d_Md_paper_183 : decode b_Md_paper 183 = .ok (.putfield 44, 3) := by decide +kernel
theorem d_Md_paper_186 : decode b_Md_paper 186 = .ok (.aload_n 0, 1) := by decide +kernel
theorem d_Md_paper_187 : decode b_Md_paper 187 = .ok (.getfield 29, 3) := by decide +kernel
theorem d_Md_paper_190 : decode b_Md_paper 190 = .ok (.ireturn, 1) := by decide +kernel
theorem d_Md_can_0 : decode b_Md_can 0 = .ok (.iload_n 1, 1) := by decide +kernel
theorem d_Md_can_1 : decode b_Md_can 1 = .ok (.iconst 0, 1) := by decide +kernel
theorem d_Md_can_2 : decode b_Md_can 2 = .ok (.ldc 229, 2) := by decide +kernel
theorem d_Md_can_4 : decode b_Md_can 4 = .ok (.invokestatic 147, 3) := by decide +kernel
theorem d_Md_can_7 : decode b_Md_can 7 = .ok (.ifCond .eq 17, 3) := by decide +kernel
theorem d_Md_can_10 : decode b_Md_can 10 = .ok (.aload_n 0, 1) := by decide +kernel
theorem d_Md_can_11 : decode b_Md_can 11 = .ok (.getfield 29, 3) := by decide +kernel
theorem d_Md_can_14 : decode b_Md_can 14 = .ok (.sipush 160, 3) := by decide +kernel
theorem d_Md_can_17 : decode b_Md_can 17 = .ok (.if_icmp .ge 7, 3) := by decide +kernel
theorem d_Md_can_20 : decode b_Md_can 20 = .ok (.iconst 1, 1) := by decide +kernel
theorem d_Md_can_21 : decode b_Md_can 21 = .ok (.goto 4, 3) := by decide +kernel
theorem d_Md_can_24 : decode b_Md_can 24 = .ok (.iconst 0, 1) := by decide +kernel
theorem d_Md_can_25 : decode b_Md_can 25 = .ok (.ireturn, 1) := by decide +kernel
theorem d_Md_tell_0 : decode b_Md_tell 0 = .ok (.aload_n 0, 1) := by decide +kernel
theorem d_Md_tell_1 : decode b_Md_tell 1 = .ok (.dup, 1) := by decide +kernel
theorem d_Md_tell_2 : decode b_Md_tell 2 = .ok (.getfield 29, 3) := by decide +kernel
theorem d_Md_tell_5 : decode b_Md_tell 5 = .ok (.iconst 1, 1) := by decide +kernel
theorem d_Md_tell_6 : decode b_Md_tell 6 = .ok (.iadd, 1) := by decide +kernel
theorem d_Md_tell_7 : decode b_Md_tell 7 = .ok (.putfield 29, 3) := by decide +kernel
theorem d_Md_tell_10 : decode b_Md_tell 10 = .ok (.aload_n 0, 1) := by decide +kernel
theorem d_Md_tell_11 : decode b_Md_tell 11 = .ok (.getfield 32, 3) := by decide +kernel
theorem d_Md_tell_14 : decode b_Md_tell 14 = .ok (.aload_n 0, 1) := by decide +kernel
theorem d_Md_tell_15 : decode b_Md_tell 15 = .ok (.getfield 29, 3) := by decide +kernel
theorem d_Md_tell_18 : decode b_Md_tell 18 = .ok (.iload_n 1, 1) := by decide +kernel
theorem d_Md_tell_19 : decode b_Md_tell 19 = .ok (.iastore, 1) := by decide +kernel
theorem d_Md_tell_20 : decode b_Md_tell 20 = .ok (.aload_n 0, 1) := by decide +kernel
theorem d_Md_tell_21 : decode b_Md_tell 21 = .ok (.getfield 35, 3) := by decide +kernel
theorem d_Md_tell_24 : decode b_Md_tell 24 = .ok (.aload_n 0, 1) := by decide +kernel
theorem d_Md_tell_25 : decode b_Md_tell 25 = .ok (.getfield 29, 3) := by decide +kernel
theorem d_Md_tell_28 : decode b_Md_tell 28 = .ok (.iload_n 2, 1) := by decide +kernel
theorem d_Md_tell_29 : decode b_Md_tell 29 = .ok (.iastore, 1) := by decide +kernel
theorem d_Md_tell_30 : decode b_Md_tell 30 = .ok (.aload_n 0, 1) := by decide +kernel
theorem d_Md_tell_31 : decode b_Md_tell 31 = .ok (.getfield 38, 3) := by decide +kernel
theorem d_Md_tell_34 : decode b_Md_tell 34 = .ok (.aload_n 0, 1) := by decide +kernel
theorem d_Md_tell_35 : decode b_Md_tell 35 = .ok (.getfield 29, 3) := by decide +kernel
theorem d_Md_tell_38 : decode b_Md_tell 38 = .ok (.iload_n 3, 1) := by decide +kernel
theorem d_Md_tell_39 : decode b_Md_tell 39 = .ok (.iastore, 1) := by decide +kernel
theorem d_Md_tell_40 : decode b_Md_tell 40 = .ok (.aload_n 0, 1) := by decide +kernel
theorem d_Md_tell_41 : decode b_Md_tell 41 = .ok (.getfield 41, 3) := by decide +kernel
theorem d_Md_tell_44 : decode b_Md_tell 44 = .ok (.aload_n 0, 1) := by decide +kernel
theorem d_Md_tell_45 : decode b_Md_tell 45 = .ok (.getfield 29, 3) := by decide +kernel
theorem d_Md_tell_48 : decode b_Md_tell 48 = .ok (.iload 4, 2) := by decide +kernel
theorem d_Md_tell_50 : decode b_Md_tell 50 = .ok (.iastore, 1) := by decide +kernel
theorem d_Md_tell_51 : decode b_Md_tell 51 = .ok (.aload_n 0, 1) := by decide +kernel
theorem d_Md_tell_52 : decode b_Md_tell 52 = .ok (.getfield 29, 3) := by decide +kernel
theorem d_Md_tell_55 : decode b_Md_tell 55 = .ok (.ireturn, 1) := by decide +kernel
theorem d_Md_death_0 : decode b_Md_death 0 = .ok (.aload_n 0, 1) := by decide +kernel
theorem d_Md_death_1 : decode b_Md_death 1 = .ok (.iload_n 1, 1) := by decide +kernel
theorem d_Md_death_2 : decode b_Md_death 2 = .ok (.invokevirtual 155, 3) := by decide +kernel
theorem d_Md_death_5 : decode b_Md_death 5 = .ok (.ifCond .eq 11, 3) := by decide +kernel
theorem d_Md_death_8 : decode b_Md_death 8 = .ok (.aload_n 0, 1) := by decide +kernel
theorem d_Md_death_9 : decode b_Md_death 9 = .ok (.iload_n 2, 1) := by decide +kernel
theorem d_Md_death_10 : decode b_Md_death 10 = .ok (.invokevirtual 230, 3) := by decide +kernel
theorem d_Md_death_13 : decode b_Md_death 13 = .ok (.ifCond .ne 7, 3) := by decide +kernel
theorem d_Md_death_16 : decode b_Md_death 16 = .ok (.iconst (-1), 1) := by decide +kernel
theorem d_Md_death_17 : decode b_Md_death 17 = .ok (.goto 11, 3) := by decide +kernel
theorem d_Md_death_20 : decode b_Md_death 20 = .ok (.aload_n 0, 1) := by decide +kernel
theorem d_Md_death_21 : decode b_Md_death 21 = .ok (.iconst 1, 1) := by decide +kernel
theorem d_Md_death_22 : decode b_Md_death 22 = .ok (.iload_n 2, 1) := by decide +kernel
theorem d_Md_death_23 : decode b_Md_death 23 = .ok (.iload_n 1, 1) := by decide +kernel
theorem d_Md_death_24 : decode b_Md_death 24 = .ok (.iconst 0, 1) := by decide +kernel
theorem d_Md_death_25 : decode b_Md_death 25 = .ok (.invokevirtual 233, 3) := by decide +kernel
theorem d_Md_death_28 : decode b_Md_death 28 = .ok (.ireturn, 1) := by decide +kernel
theorem d_Md_resign_0 : decode b_Md_resign 0 = .ok (.aload_n 0, 1) := by decide +kernel
theorem d_Md_resign_1 : decode b_Md_resign 1 = .ok (.iload_n 1, 1) := by decide +kernel
theorem d_Md_resign_2 : decode b_Md_resign 2 = .ok (.invokevirtual 151, 3) := by decide +kernel
theorem d_Md_resign_5 : decode b_Md_resign 5 = .ok (.ifCond .eq 19, 3) := by decide +kernel
theorem d_Md_resign_8 : decode b_Md_resign 8 = .ok (.aload_n 0, 1) := by decide +kernel
theorem d_Md_resign_9 : decode b_Md_resign 9 = .ok (.iload_n 2, 1) := by decide +kernel
theorem d_Md_resign_10 : decode b_Md_resign 10 = .ok (.invokevirtual 155, 3) := by decide +kernel
theorem d_Md_resign_13 : decode b_Md_resign 13 = .ok (.ifCond .eq 11, 3) := by decide +kernel
theorem d_Md_resign_16 : decode b_Md_resign 16 = .ok (.aload_n 0, 1) := by decide +kernel
theorem d_Md_resign_17 : decode b_Md_resign 17 = .ok (.iload_n 3, 1) := by decide +kernel
theorem d_Md_resign_18 : decode b_Md_resign 18 = .ok (.invokevirtual 230, 3) := by decide +kernel
theorem d_Md_resign_21 : decode b_Md_resign 21 = .ok (.ifCond .ne 7, 3) := by decide +kernel
theorem d_Md_resign_24 : decode b_Md_resign 24 = .ok (.iconst (-1), 1) := by decide +kernel
theorem d_Md_resign_25 : decode b_Md_resign 25 = .ok (.goto 11, 3) := by decide +kernel
theorem d_Md_resign_28 : decode b_Md_resign 28 = .ok (.aload_n 0, 1) := by decide +kernel
theorem d_Md_resign_29 : decode b_Md_resign 29 = .ok (.iconst 2, 1) := by decide +kernel
theorem d_Md_resign_30 : decode b_Md_resign 30 = .ok (.iload_n 3, 1) := by decide +kernel
theorem d_Md_resign_31 : decode b_Md_resign 31 = .ok (.iload_n 1, 1) := by decide +kernel
theorem d_Md_resign_32 : decode b_Md_resign 32 = .ok (.iload_n 2, 1) := by decide +kernel
theorem d_Md_resign_33 : decode b_Md_resign 33 = .ok (.invokevirtual 233, 3) := by decide +kernel
theorem d_Md_resign_36 : decode b_Md_resign 36 = .ok (.ireturn, 1) := by decide +kernel
theorem d_Md_swap_0 : decode b_Md_swap 0 = .ok (.aload_n 0, 1) := by decide +kernel
theorem d_Md_swap_1 : decode b_Md_swap 1 = .ok (.iload_n 1, 1) := by decide +kernel
theorem d_Md_swap_2 : decode b_Md_swap 2 = .ok (.invokevirtual 151, 3) := by decide +kernel
theorem d_Md_swap_5 : decode b_Md_swap 5 = .ok (.ifCond .eq 24, 3) := by decide +kernel
theorem d_Md_swap_8 : decode b_Md_swap 8 = .ok (.aload_n 0, 1) := by decide +kernel
theorem d_Md_swap_9 : decode b_Md_swap 9 = .ok (.iload_n 2, 1) := by decide +kernel
theorem d_Md_swap_10 : decode b_Md_swap 10 = .ok (.invokevirtual 151, 3) := by decide +kernel
theorem d_Md_swap_13 : decode b_Md_swap 13 = .ok (.ifCond .eq 16, 3) := by decide +kernel
theorem d_Md_swap_16 : decode b_Md_swap 16 = .ok (.iload_n 1, 1) := by decide +kernel
theorem d_Md_swap_17 : decode b_Md_swap 17 = .ok (.iload_n 2, 1) := by decide +kernel
theorem d_Md_swap_18 : decode b_Md_swap 18 = .ok (.if_icmp .eq 11, 3) := by decide +kernel
theorem d_Md_swap_21 : decode b_Md_swap 21 = .ok (.aload_n 0, 1) := by decide +kernel
theorem d_Md_swap_22 : decode b_Md_swap 22 = .ok (.iload_n 3, 1) := by decide +kernel
theorem d_Md_swap_23 : decode b_Md_swap 23 = .ok (.invokevirtual 230, 3) := by decide +kernel
theorem d_Md_swap_26 : decode b_Md_swap 26 = .ok (.ifCond .ne 7, 3) := by decide +kernel
theorem d_Md_swap_29 : decode b_Md_swap 29 = .ok (.iconst (-1), 1) := by decide +kernel
theorem d_Md_swap_30 : decode b_Md_swap 30 = .ok (.goto 11, 3) := by decide +kernel
theorem d_Md_swap_33 : decode b_Md_swap 33 = .ok (.aload_n 0, 1) := by decide +kernel
theorem d_Md_swap_34 : decode b_Md_swap 34 = .ok (.iconst 3, 1) := by decide +kernel
theorem d_Md_swap_35 : decode b_Md_swap 35 = .ok (.iload_n 3, 1) := by decide +kernel
theorem d_Md_swap_36 : decode b_Md_swap 36 = .ok (.iload_n 1, 1) := by decide +kernel
theorem d_Md_swap_37 : decode b_Md_swap 37 = .ok (.iload_n 2, 1) := by decide +kernel
theorem d_Md_swap_38 : decode b_Md_swap 38 = .ok (.invokevirtual 233, 3) := by decide +kernel
theorem d_Md_swap_41 : decode b_Md_swap 41 = .ok (.ireturn, 1) := by decide +kernel
theorem d_Md_disprove_0 : decode b_Md_disprove 0 = .ok (.iload_n 1, 1) := by decide +kernel
theorem d_Md_disprove_1 : decode b_Md_disprove 1 = .ok (.ifCond .lt 30, 3) := by decide +kernel
theorem d_Md_disprove_4 : decode b_Md_disprove 4 = .ok (.iload_n 1, 1) := by decide +kernel
theorem d_Md_disprove_5 : decode b_Md_disprove 5 = .ok (.aload_n 0, 1) := by decide +kernel
theorem d_Md_disprove_6 : decode b_Md_disprove 6 = .ok (.getfield 44, 3) := by decide +kernel
theorem d_Md_disprove_9 : decode b_Md_disprove 9 = .ok (.if_icmp .ge 22, 3) := by decide +kernel
theorem d_Md_disprove_12 : decode b_Md_disprove 12 = .ok (.aload_n 0, 1) := by decide +kernel
theorem d_Md_disprove_13 : decode b_Md_disprove 13 = .ok (.getfield 50, 3) := by decide +kernel
theorem d_Md_disprove_16 : decode b_Md_disprove 16 = .ok (.iload_n 1, 1) := by decide +kernel
theorem d_Md_disprove_17 : decode b_Md_disprove 17 = .ok (.iaload, 1) := by decide +kernel
theorem d_Md_disprove_18 : decode b_Md_disprove 18 = .ok (.ifCond .gt 13, 3) := by decide +kernel
theorem d_Md_disprove_21 : decode b_Md_disprove 21 = .ok (.aload_n 0, 1) := by decide +kernel
theorem d_Md_disprove_22 : decode b_Md_disprove 22 = .ok (.getfield 29, 3) := by decide +kernel
theorem d_Md_disprove_25 : decode b_Md_disprove 25 = .ok (.sipush 160, 3) := by decide +kernel
theorem d_Md_disprove_28 : decode b_Md_disprove 28 = .ok (.if_icmp .ne 5, 3) := by decide +kernel
theorem d_Md_disprove_31 : decode b_Md_disprove 31 = .ok (.iconst (-1), 1) := by decide +kernel
theorem d_Md_disprove_32 : decode b_Md_disprove 32 = .ok (.ireturn, 1) := by decide +kernel
theorem d_Md_disprove_33 : decode b_Md_disprove 33 = .ok (.aload_n 0, 1) := by decide +kernel
theorem d_Md_disprove_34 : decode b_Md_disprove 34 = .ok (.getfield 50, 3) := by decide +kernel
theorem d_Md_disprove_37 : decode b_Md_disprove 37 = .ok (.iload_n 1, 1) := by decide +kernel
theorem d_Md_disprove_38 : decode b_Md_disprove 38 = .ok (.aload_n 0, 1) := by decide +kernel
theorem d_Md_disprove_39 : decode b_Md_disprove 39 = .ok (.iconst 4, 1) := by decide +kernel
theorem d_Md_disprove_40 : decode b_Md_disprove 40 = .ok (.iconst 0, 1) := by decide +kernel
theorem d_Md_disprove_41 : decode b_Md_disprove 41 = .ok (.iload_n 1, 1) := by decide +kernel
theorem d_Md_disprove_42 : decode b_Md_disprove 42 = .ok (.iconst 0, 1) := by decide +kernel
theorem d_Md_disprove_43 : decode b_Md_disprove 43 = .ok (.invokevirtual 233, 3) := by decide +kernel
theorem d_Md_disprove_46 : decode b_Md_disprove 46 = .ok (.iastore, 1) := by decide +kernel
theorem d_Md_disprove_47 : decode b_Md_disprove 47 = .ok (.aload_n 0, 1) := by decide +kernel
theorem d_Md_disprove_48 : decode b_Md_disprove 48 = .ok (.getfield 50, 3) := by decide +kernel
theorem d_Md_disprove_51 : decode b_Md_disprove 51 = .ok (.iload_n 1, 1) := by decide +kernel
theorem d_Md_disprove_52 : decode b_Md_disprove 52 = .ok (.iaload, 1) := by decide +kernel
theorem d_Md_disprove_53 : decode b_Md_disprove 53 = .ok (.ireturn, 1) := by decide +kernel
theorem d_Md_as_0 : decode b_Md_as 0 = .ok (.iload_n 1, 1) := by decide +kernel
theorem d_Md_as_1 : decode b_Md_as 1 = .ok (.iconst (-1), 1) := by decide +kernel
theorem d_Md_as_2 : decode b_Md_as 2 = .ok (.aload_n 0, 1) := by decide +kernel
theorem d_Md_as_3 : decode b_Md_as 3 = .ok (.getfield 29, 3) := by decide +kernel
theorem d_Md_as_6 : decode b_Md_as 6 = .ok (.invokestatic 147, 3) := by decide +kernel
theorem d_Md_as_9 : decode b_Md_as 9 = .ok (.ifCond .ne 5, 3) := by decide +kernel
theorem d_Md_as_12 : decode b_Md_as 12 = .ok (.iconst 0, 1) := by decide +kernel
theorem d_Md_as_13 : decode b_Md_as 13 = .ok (.ireturn, 1) := by decide +kernel
theorem d_Md_as_14 : decode b_Md_as 14 = .ok (.aload_n 0, 1) := by decide +kernel
theorem d_Md_as_15 : decode b_Md_as 15 = .ok (.iload_n 1, 1) := by decide +kernel
theorem d_Md_as_16 : decode b_Md_as 16 = .ok (.putfield 53, 3) := by decide +kernel
theorem d_Md_as_19 : decode b_Md_as 19 = .ok (.iconst 1, 1) := by decide +kernel
theorem d_Md_as_20 : decode b_Md_as 20 = .ok (.ireturn, 1) := by decide +kernel
theorem d_Md_holder_0 : decode b_Md_holder 0 = .ok (.aload_n 0, 1) := by decide +kernel
theorem d_Md_holder_1 : decode b_Md_holder 1 = .ok (.iload_n 1, 1) := by decide +kernel
theorem d_Md_holder_2 : decode b_Md_holder 2 = .ok (.invokevirtual 151, 3) := by decide +kernel
theorem d_Md_holder_5 : decode b_Md_holder 5 = .ok (.ifCond .eq 10, 3) := by decide +kernel
theorem d_Md_holder_8 : decode b_Md_holder 8 = .ok (.iload_n 2, 1) := by decide +kernel
theorem d_Md_holder_9 : decode b_Md_holder 9 = .ok (.invokestatic 293, 3) := by decide +kernel
theorem d_Md_holder_12 : decode b_Md_holder 12 = .ok (.ifCond .ne 5, 3) := by decide +kernel
theorem d_Md_holder_15 : decode b_Md_holder 15 = .ok (.iconst (-1), 1) := by decide +kernel
theorem d_Md_holder_16 : decode b_Md_holder 16 = .ok (.ireturn, 1) := by decide +kernel
theorem d_Md_holder_17 : decode b_Md_holder 17 = .ok (.aload_n 0, 1) := by decide +kernel
theorem d_Md_holder_18 : decode b_Md_holder 18 = .ok (.aload_n 0, 1) := by decide +kernel
theorem d_Md_holder_19 : decode b_Md_holder 19 = .ok (.invokevirtual 296, 3) := by decide +kernel
theorem d_Md_holder_22 : decode b_Md_holder 22 = .ok (.iload_n 2, 1) := by decide +kernel
theorem d_Md_holder_23 : decode b_Md_holder 23 = .ok (.invokevirtual 299, 3) := by decide +kernel
theorem d_Md_holder_26 : decode b_Md_holder 26 = .ok (.aload_n 0, 1) := by decide +kernel
theorem d_Md_holder_27 : decode b_Md_holder 27 = .ok (.getfield 89, 3) := by decide +kernel
theorem d_Md_holder_30 : decode b_Md_holder 30 = .ok (.iload_n 1, 1) := by decide +kernel
theorem d_Md_holder_31 : decode b_Md_holder 31 = .ok (.iaload, 1) := by decide +kernel
theorem d_Md_holder_32 : decode b_Md_holder 32 = .ok (.ireturn, 1) := by decide +kernel
theorem d_Md_isTime_0 : decode b_Md_isTime 0 = .ok (.iload_n 0, 1) := by decide +kernel
theorem d_Md_isTime_1 : decode b_Md_isTime 1 = .ok (.iconst 0, 1) := by decide +kernel
theorem d_Md_isTime_2 : decode b_Md_isTime 2 = .ok (.ldc 229, 2) := by decide +kernel
theorem d_Md_isTime_4 : decode b_Md_isTime 4 = .ok (.invokestatic 147, 3) := by decide +kernel
theorem d_Md_isTime_7 : decode b_Md_isTime 7 = .ok (.ireturn, 1) := by decide +kernel
theorem d_Md_known_0 : decode b_Md_known 0 = .ok (.aload_n 0, 1) := by decide +kernel
theorem d_Md_known_1 : decode b_Md_known 1 = .ok (.getfield 53, 3) := by decide +kernel
theorem d_Md_known_4 : decode b_Md_known 4 = .ok (.iconst (-1), 1) := by decide +kernel
theorem d_Md_known_5 : decode b_Md_known 5 = .ok (.if_icmp .ne 10, 3) := by decide +kernel
theorem d_Md_known_8 : decode b_Md_known 8 = .ok (.aload_n 0, 1) := by decide +kernel
theorem d_Md_known_9 : decode b_Md_known 9 = .ok (.getfield 29, 3) := by decide +kernel
theorem d_Md_known_12 : decode b_Md_known 12 = .ok (.goto 7, 3) := by decide +kernel
theorem d_Md_known_15 : decode b_Md_known 15 = .ok (.aload_n 0, 1) := by decide +kernel
theorem d_Md_known_16 : decode b_Md_known 16 = .ok (.getfield 53, 3) := by decide +kernel
theorem d_Md_known_19 : decode b_Md_known 19 = .ok (.ireturn, 1) := by decide +kernel
theorem d_Md_goes_0 : decode b_Md_goes 0 = .ok (.iconst 0, 1) := by decide +kernel
theorem d_Md_goes_1 : decode b_Md_goes 1 = .ok (.istore_n 3, 1) := by decide +kernel
theorem d_Md_goes_2 : decode b_Md_goes 2 = .ok (.iload_n 3, 1) := by decide +kernel
theorem d_Md_goes_3 : decode b_Md_goes 3 = .ok (.aload_n 0, 1) := by decide +kernel
theorem d_Md_goes_4 : decode b_Md_goes 4 = .ok (.getfield 23, 3) := by decide +kernel
theorem d_Md_goes_7 : decode b_Md_goes 7 = .ok (.if_icmp .ge 32, 3) := by decide +kernel
theorem d_Md_goes_10 : decode b_Md_goes 10 = .ok (.aload_n 0, 1) := by decide +kernel
theorem d_Md_goes_11 : decode b_Md_goes 11 = .ok (.getfield 89, 3) := by decide +kernel
theorem d_Md_goes_14 : decode b_Md_goes 14 = .ok (.iload_n 3, 1) := by decide +kernel
theorem d_Md_goes_15 : decode b_Md_goes 15 = .ok (.aload_n 0, 1) := by decide +kernel
theorem d_Md_goes_16 : decode b_Md_goes 16 = .ok (.getfield 26, 3) := by decide +kernel
theorem d_Md_goes_19 : decode b_Md_goes 19 = .ok (.iconst 3, 1) := by decide +kernel
theorem d_Md_goes_20 : decode b_Md_goes 20 = .ok (.iload_n 3, 1) := by decide +kernel
theorem d_Md_goes_21 : decode b_Md_goes 21 = .ok (.imul, 1) := by decide +kernel
theorem d_Md_goes_22 : decode b_Md_goes 22 = .ok (.iconst 2, 1) := by decide +kernel
theorem d_Md_goes_23 : decode b_Md_goes 23 = .ok (.iadd, 1) := by decide +kernel
theorem d_Md_goes_24 : decode b_Md_goes 24 = .ok (.iaload, 1) := by decide +kernel
theorem d_Md_goes_25 : decode b_Md_goes 25 = .ok (.iastore, 1) := by decide +kernel
theorem d_Md_goes_26 : decode b_Md_goes 26 = .ok (.aload_n 0, 1) := by decide +kernel
theorem d_Md_goes_27 : decode b_Md_goes 27 = .ok (.getfield 92, 3) := by decide +kernel
theorem d_Md_goes_30 : decode b_Md_goes 30 = .ok (.iload_n 3, 1) := by decide +kernel
theorem d_Md_goes_31 : decode b_Md_goes 31 = .ok (.iconst 0, 1) := by decide +kernel
theorem d_Md_goes_32 : decode b_Md_goes 32 = .ok (.iastore, 1) := by decide +kernel
theorem d_Md_goes_33 : decode b_Md_goes 33 = .ok (.iinc 3 1, 3) := by decide +kernel
theorem d_Md_goes_36 : decode b_Md_goes 36 = .ok (.goto (-34), 3) := by decide +kernel
theorem d_Md_goes_39 : decode b_Md_goes 39 = .ok (.iconst 0, 1) := by decide +kernel
theorem d_Md_goes_40 : decode b_Md_goes 40 = .ok (.istore_n 3, 1) := by decide +kernel
theorem d_Md_goes_41 : decode b_Md_goes 41 = .ok (.iload_n 3, 1) := by decide +kernel
theorem d_Md_goes_42 : decode b_Md_goes 42 = .ok (.aload_n 0, 1) := by decide +kernel
theorem d_Md_goes_43 : decode b_Md_goes 43 = .ok (.getfield 17, 3) := by decide +kernel
theorem d_Md_goes_46 : decode b_Md_goes 46 = .ok (.if_icmp .ge 23, 3) := by decide +kernel
theorem d_Md_goes_49 : decode b_Md_goes 49 = .ok (.aload_n 0, 1) := by decide +kernel
theorem d_Md_goes_50 : decode b_Md_goes 50 = .ok (.getfield 95, 3) := by decide +kernel
theorem d_Md_goes_53 : decode b_Md_goes 53 = .ok (.iload_n 3, 1) := by decide +kernel
theorem d_Md_goes_54 : decode b_Md_goes 54 = .ok (.iconst 0, 1) := by decide +kernel
theorem d_Md_goes_55 : decode b_Md_goes 55 = .ok (.bastore, 1) := by decide +kernel
theorem d_Md_goes_56 : decode b_Md_goes 56 = .ok (.aload_n 0, 1) := by decide +kernel
theorem d_Md_goes_57 : decode b_Md_goes 57 = .ok (.getfield 108, 3) := by decide +kernel
theorem d_Md_goes_60 : decode b_Md_goes 60 = .ok (.iload_n 3, 1) := by decide +kernel
theorem d_Md_goes_61 : decode b_Md_goes 61 = .ok (.lconst 0, 1) := by decide +kernel
theorem d_Md_goes_62 : decode b_Md_goes 62 = .ok (.lastore, 1) := by decide +kernel
theorem d_Md_goes_63 : decode b_Md_goes 63 = .ok (.iinc 3 1, 3) := by decide +kernel
theorem d_Md_goes_66 : decode b_Md_goes 66 = .ok (.goto (-25), 3) := by decide +kernel
theorem d_Md_goes_69 : decode b_Md_goes 69 = .ok (.iconst 0, 1) := by decide +kernel
theorem d_Md_goes_70 : decode b_Md_goes 70 = .ok (.istore_n 3, 1) := by decide +kernel
theorem d_Md_goes_71 : decode b_Md_goes 71 = .ok (.iload_n 3, 1) := by decide +kernel
theorem d_Md_goes_72 : decode b_Md_goes 72 = .ok (.aload_n 0, 1) := by decide +kernel
theorem d_Md_goes_73 : decode b_Md_goes 73 = .ok (.getfield 44, 3) := by decide +kernel
theorem d_Md_goes_76 : decode b_Md_goes 76 = .ok (.if_icmp .ge 30, 3) := by decide +kernel
theorem d_Md_goes_79 : decode b_Md_goes 79 = .ok (.aload_n 0, 1) := by decide +kernel
theorem d_Md_goes_80 : decode b_Md_goes 80 = .ok (.getfield 99, 3) := by decide +kernel
theorem d_Md_goes_83 : decode b_Md_goes 83 = .ok (.iload_n 3, 1) := by decide +kernel
theorem d_Md_goes_84 : decode b_Md_goes 84 = .ok (.iconst 0, 1) := by decide +kernel
theorem d_Md_goes_85 : decode b_Md_goes 85 = .ok (.bastore, 1) := by decide +kernel
theorem d_Md_goes_86 : decode b_Md_goes 86 = .ok (.aload_n 0, 1) := by decide +kernel
theorem d_Md_goes_87 : decode b_Md_goes 87 = .ok (.getfield 102, 3) := by decide +kernel
theorem d_Md_goes_90 : decode b_Md_goes 90 = .ok (.iload_n 3, 1) := by decide +kernel
theorem d_Md_goes_91 : decode b_Md_goes 91 = .ok (.iconst (-1), 1) := by decide +kernel
theorem d_Md_goes_92 : decode b_Md_goes 92 = .ok (.iastore, 1) := by decide +kernel
theorem d_Md_goes_93 : decode b_Md_goes 93 = .ok (.aload_n 0, 1) := by decide +kernel
theorem d_Md_goes_94 : decode b_Md_goes 94 = .ok (.getfield 105, 3) := by decide +kernel
theorem d_Md_goes_97 : decode b_Md_goes 97 = .ok (.iload_n 3, 1) := by decide +kernel
theorem d_Md_goes_98 : decode b_Md_goes 98 = .ok (.iconst (-1), 1) := by decide +kernel
theorem d_Md_goes_99 : decode b_Md_goes 99 = .ok (.iastore, 1) := by decide +kernel
theorem d_Md_goes_100 : decode b_Md_goes 100 = .ok (.iinc 3 1, 3) := by decide +kernel
theorem d_Md_goes_103 : decode b_Md_goes 103 = .ok (.goto (-32), 3) := by decide +kernel
theorem d_Md_goes_106 : decode b_Md_goes 106 = .ok (.iconst 1, 1) := by decide +kernel
theorem d_Md_goes_107 : decode b_Md_goes 107 = .ok (.istore_n 3, 1) := by decide +kernel
theorem d_Md_goes_108 : decode b_Md_goes 108 = .ok (.iload_n 3, 1) := by decide +kernel
theorem d_Md_goes_109 : decode b_Md_goes 109 = .ok (.iload_n 1, 1) := by decide +kernel
theorem d_Md_goes_110 : decode b_Md_goes 110 = .ok (.if_icmp .gt 78, 3) := by decide +kernel
theorem d_Md_goes_113 : decode b_Md_goes 113 = .ok (.aload_n 0, 1) := by decide +kernel
theorem d_Md_goes_114 : decode b_Md_goes 114 = .ok (.getfield 112, 3) := by decide +kernel
theorem d_Md_goes_117 : decode b_Md_goes 117 = .ok (.iload_n 3, 1) := by decide +kernel
theorem d_Md_goes_118 : decode b_Md_goes 118 = .ok (.aload_n 0, 1) := by decide +kernel
theorem d_Md_goes_119 : decode b_Md_goes 119 = .ok (.getfield 32, 3) := by decide +kernel
theorem d_Md_goes_122 : decode b_Md_goes 122 = .ok (.iload_n 3, 1) := by decide +kernel
theorem d_Md_goes_123 : decode b_Md_goes 123 = .ok (.iaload, 1) := by decide +kernel
theorem d_Md_goes_124 : decode b_Md_goes 124 = .ok (.iconst 4, 1) := by decide +kernel
theorem d_Md_goes_125 : decode b_Md_goes 125 = .ok (.if_icmp .eq 51, 3) := by decide +kernel
theorem d_Md_goes_128 : decode b_Md_goes 128 = .ok (.aload_n 0, 1) := by decide +kernel
theorem d_Md_goes_129 : decode b_Md_goes 129 = .ok (.getfield 35, 3) := by decide +kernel
theorem d_Md_goes_132 : decode b_Md_goes 132 = .ok (.iload_n 3, 1) := by decide +kernel
theorem d_Md_goes_133 : decode b_Md_goes 133 = .ok (.iaload, 1) := by decide +kernel
theorem d_Md_goes_134 : decode b_Md_goes 134 = .ok (.iload_n 2, 1) := by decide +kernel
theorem d_Md_goes_135 : decode b_Md_goes 135 = .ok (.if_icmp .gt 41, 3) := by decide +kernel
theorem d_Md_goes_138 : decode b_Md_goes 138 = .ok (.aload_n 0, 1) := by decide +kernel
theorem d_Md_goes_139 : decode b_Md_goes 139 = .ok (.getfield 32, 3) := by decide +kernel
theorem d_Md_goes_142 : decode b_Md_goes 142 = .ok (.iload_n 3, 1) := by decide +kernel
theorem d_Md_goes_143 : decode b_Md_goes 143 = .ok (.iaload, 1) := by decide +kernel
theorem d_Md_goes_144 : decode b_Md_goes 144 = .ok (.ifCond .ne 36, 3) := by decide +kernel
theorem d_Md_goes_147 : decode b_Md_goes 147 = .ok (.aload_n 0, 1) := by decide +kernel
theorem d_Md_goes_148 : decode b_Md_goes 148 = .ok (.getfield 50, 3) := by decide +kernel
theorem d_Md_goes_151 : decode b_Md_goes 151 = .ok (.aload_n 0, 1) := by decide +kernel
theorem d_Md_goes_152 : decode b_Md_goes 152 = .ok (.getfield 38, 3) := by decide +kernel
theorem d_Md_goes_155 : decode b_Md_goes 155 = .ok (.iload_n 3, 1) := by decide +kernel
theorem d_Md_goes_156 : decode b_Md_goes 156 = .ok (.iaload, 1) := by decide +kernel
theorem d_Md_goes_157 : decode b_Md_goes 157 = .ok (.iaload, 1) := by decide +kernel
theorem d_Md_goes_158 : decode b_Md_goes 158 = .ok (.ifCond .le 22, 3) := by decide +kernel
theorem d_Md_goes_161 : decode b_Md_goes 161 = .ok (.aload_n 0, 1) := by decide +kernel
theorem d_Md_goes_162 : decode b_Md_goes 162 = .ok (.getfield 50, 3) := by decide +kernel
theorem d_Md_goes_165 : decode b_Md_goes 165 = .ok (.aload_n 0, 1) := by decide +kernel
theorem d_Md_goes_166 : decode b_Md_goes 166 = .ok (.getfield 38, 3) := by decide +kernel
theorem d_Md_goes_169 : decode b_Md_goes 169 = .ok (.iload_n 3, 1) := by decide +kernel
theorem d_Md_goes_170 : decode b_Md_goes 170 = .ok (.iaload, 1) := by decide +kernel
theorem d_Md_goes_171 : decode b_Md_goes 171 = .ok (.iaload, 1) := by decide +kernel
theorem d_Md_goes_172 : decode b_Md_goes 172 = .ok (.iload_n 1, 1) := by decide +kernel
theorem d_Md_goes_173 : decode b_Md_goes 173 = .ok (.if_icmp .gt 7, 3) := by decide +kernel
theorem d_Md_goes_176 : decode b_Md_goes 176 = .ok (.iconst 1, 1) := by decide +kernel
theorem d_Md_goes_177 : decode b_Md_goes 177 = .ok (.goto 4, 3) := by decide +kernel
theorem d_Md_goes_180 : decode b_Md_goes 180 = .ok (.iconst 0, 1) := by decide +kernel
theorem d_Md_goes_181 : decode b_Md_goes 181 = .ok (.bastore, 1) := by decide +kernel
theorem d_Md_goes_182 : decode b_Md_goes 182 = .ok (.iinc 3 1, 3) := by decide +kernel
theorem d_Md_goes_185 : decode b_Md_goes 185 = .ok (.goto (-77), 3) := by decide +kernel
theorem d_Md_goes_188 : decode b_Md_goes 188 = .ok (.iconst 0, 1) := by decide +kernel
theorem d_Md_goes_189 : decode b_Md_goes 189 = .ok (.istore_n 3, 1) := by decide +kernel
theorem d_Md_goes_190 : decode b_Md_goes 190 = .ok (.iload_n 3, 1) := by decide +kernel
theorem d_Md_goes_191 : decode b_Md_goes 191 = .ok (.ifCond .lt 177, 3) := by decide +kernel
theorem d_Md_goes_194 : decode b_Md_goes 194 = .ok (.iconst (-1), 1) := by decide +kernel
theorem d_Md_goes_195 : decode b_Md_goes 195 = .ok (.istore_n 3, 1) := by decide +kernel
theorem d_Md_goes_196 : decode b_Md_goes 196 = .ok (.iconst 1, 1) := by decide +kernel
theorem d_Md_goes_197 : decode b_Md_goes 197 = .ok (.istore 4, 2) := by decide +kernel
theorem d_Md_goes_199 : decode b_Md_goes 199 = .ok (.iload 4, 2) := by decide +kernel
theorem d_Md_goes_201 : decode b_Md_goes 201 = .ok (.iload_n 1, 1) := by decide +kernel
theorem d_Md_goes_202 : decode b_Md_goes 202 = .ok (.if_icmp .gt 47, 3) := by decide +kernel
theorem d_Md_goes_205 : decode b_Md_goes 205 = .ok (.aload_n 0, 1) := by decide +kernel
theorem d_Md_goes_206 : decode b_Md_goes 206 = .ok (.getfield 112, 3) := by decide +kernel
theorem d_Md_goes_209 : decode b_Md_goes 209 = .ok (.iload 4, 2) := by decide +kernel
theorem d_Md_goes_211 : decode b_Md_goes 211 = .ok (.baload, 1) := by decide +kernel
theorem d_Md_goes_212 : decode b_Md_goes 212 = .ok (.ifCond .ne 29, 3) := by decide +kernel
theorem d_Md_goes_215 : decode b_Md_goes 215 = .ok (.iload_n 3, 1) := by decide +kernel
theorem d_Md_goes_216 : decode b_Md_goes 216 = .ok (.iconst (-1), 1) := by decide +kernel
theorem d_Md_goes_217 : decode b_Md_goes 217 = .ok (.if_icmp .eq 19, 3) := by decide +kernel
theorem d_Md_goes_220 : decode b_Md_goes 220 = .ok (.aload_n 0, 1) := by decide +kernel
theorem d_Md_goes_221 : decode b_Md_goes 221 = .ok (.getfield 35, 3) := by decide +kernel
theorem d_Md_goes_224 : decode b_Md_goes 224 = .ok (.iload 4, 2) := by decide +kernel
theorem d_Md_goes_226 : decode b_Md_goes 226 = .ok (.iaload, 1) := by decide +kernel
theorem d_Md_goes_227 : decode b_Md_goes 227 = .ok (.aload_n 0, 1) := by decide +kernel
theorem d_Md_goes_228 : decode b_Md_goes 228 = .ok (.getfield 35, 3) := by decide +kernel
theorem d_Md_goes_231 : decode b_Md_goes 231 = .ok (.iload_n 3, 1) := by decide +kernel
theorem d_Md_goes_232 : decode b_Md_goes 232 = .ok (.iaload, 1) := by decide +kernel
theorem d_Md_goes_233 : decode b_Md_goes 233 = .ok (.if_icmp .ge 8, 3) := by decide +kernel
theorem d_Md_goes_236 : decode b_Md_goes 236 = .ok (.iload 4, 2) := by decide +kernel
theorem d_Md_goes_238 : decode b_Md_goes 238 = .ok (.goto 4, 3) := by decide +kernel
theorem d_Md_goes_241 : decode b_Md_goes 241 = .ok (.iload_n 3, 1) := by decide +kernel
theorem d_Md_goes_242 : decode b_Md_goes 242 = .ok (.istore_n 3, 1) := by decide +kernel
theorem d_Md_goes_243 : decode b_Md_goes 243 = .ok (.iinc 4 1, 3) := by decide +kernel
theorem d_Md_goes_246 : decode b_Md_goes 246 = .ok (.goto (-47), 3) := by decide +kernel
theorem d_Md_goes_249 : decode b_Md_goes 249 = .ok (.iload_n 3, 1) := by decide +kernel
theorem d_Md_goes_250 : decode b_Md_goes 250 = .ok (.ifCond .ge 6, 3) := by decide +kernel
theorem d_Md_goes_253 : decode b_Md_goes 253 = .ok (.goto (-63), 3) := by decide +kernel
theorem d_Md_goes_256 : decode b_Md_goes 256 = .ok (.aload_n 0, 1) := by decide +kernel
theorem d_Md_goes_257 : decode b_Md_goes 257 = .ok (.getfield 112, 3) := by decide +kernel
theorem d_Md_goes_260 : decode b_Md_goes 260 = .ok (.iload_n 3, 1) := by decide +kernel
theorem d_Md_goes_261 : decode b_Md_goes 261 = .ok (.iconst 1, 1) := by decide +kernel
theorem d_Md_goes_262 : decode b_Md_goes 262 = .ok (.bastore, 1) := by decide +kernel
theorem d_Md_goes_263 : decode b_Md_goes 263 = .ok (.aload_n 0, 1) := by decide +kernel
theorem d_Md_goes_264 : decode b_Md_goes 264 = .ok (.getfield 35, 3) := by decide +kernel
theorem d_Md_goes_267 : decode b_Md_goes 267 = .ok (.iload_n 3, 1) := by decide +kernel
theorem d_Md_goes_268 : decode b_Md_goes 268 = .ok (.iaload, 1) := by decide +kernel
theorem d_Md_goes_269 : decode b_Md_goes 269 = .ok (.istore 4, 2) := by decide +kernel
theorem d_Md_goes_271 : decode b_Md_goes 271 = .ok (.aload_n 0, 1) := by decide +kernel
theorem d_Md_goes_272 : decode b_Md_goes 272 = .ok (.getfield 38, 3) := by decide +kernel
theorem d_Md_goes_275 : decode b_Md_goes 275 = .ok (.iload_n 3, 1) := by decide +kernel
theorem d_Md_goes_276 : decode b_Md_goes 276 = .ok (.iaload, 1) := by decide +kernel
theorem d_Md_goes_277 : decode b_Md_goes 277 = .ok (.istore 5, 2) := by decide +kernel
theorem d_Md_goes_279 : decode b_Md_goes 279 = .ok (.aload_n 0, 1) := by decide +kernel
theorem d_Md_goes_280 : decode b_Md_goes 280 = .ok (.getfield 41, 3) := by decide +kernel
theorem d_Md_goes_283 : decode b_Md_goes 283 = .ok (.iload_n 3, 1) := by decide +kernel
theorem d_Md_goes_284 : decode b_Md_goes 284 = .ok (.iaload, 1) := by decide +kernel
theorem d_Md_goes_285 : decode b_Md_goes 285 = .ok (.istore 6, 2) := by decide +kernel
theorem d_Md_goes_287 : decode b_Md_goes 287 = .ok (.aload_n 0, 1) := by decide +kernel
theorem d_Md_goes_288 : decode b_Md_goes 288 = .ok (.getfield 32, 3) := by decide +kernel
theorem d_Md_goes_291 : decode b_Md_goes 291 = .ok (.iload_n 3, 1) := by decide +kernel
theorem d_Md_goes_292 : decode b_Md_goes 292 = .ok (.iaload, 1) := by decide +kernel
theorem d_Md_goes_293 : decode b_Md_goes 293 = .ok (.tableswitch 62 0 2 #[27, 38, 49], 27) := by decide +kernel
theorem d_Md_goes_320 : decode b_Md_goes 320 = .ok (.aload_n 0, 1) := by decide +kernel
theorem d_Md_goes_321 : decode b_Md_goes 321 = .ok (.iload 5, 2) := by decide +kernel
theorem d_Md_goes_323 : decode b_Md_goes 323 = .ok (.iload 4, 2) := by decide +kernel
theorem d_Md_goes_325 : decode b_Md_goes 325 = .ok (.invokevirtual 281, 3) := by decide +kernel
theorem d_Md_goes_328 : decode b_Md_goes 328 = .ok (.goto 37, 3) := by decide +kernel
theorem d_Md_goes_331 : decode b_Md_goes 331 = .ok (.aload_n 0, 1) := by decide +kernel
theorem d_Md_goes_332 : decode b_Md_goes 332 = .ok (.iload 5, 2) := by decide +kernel
theorem d_Md_goes_334 : decode b_Md_goes 334 = .ok (.iload 4, 2) := by decide +kernel
theorem d_Md_goes_336 : decode b_Md_goes 336 = .ok (.invokevirtual 284, 3) := by decide +kernel
theorem d_Md_goes_339 : decode b_Md_goes 339 = .ok (.goto 26, 3) := by decide +kernel
theorem d_Md_goes_342 : decode b_Md_goes 342 = .ok (.aload_n 0, 1) := by decide +kernel
theorem d_Md_goes_343 : decode b_Md_goes 343 = .ok (.iload 5, 2) := by decide +kernel
theorem d_Md_goes_345 : decode b_Md_goes 345 = .ok (.iload 6, 2) := by decide +kernel
theorem d_Md_goes_347 : decode b_Md_goes 347 = .ok (.iload 4, 2) := by decide +kernel
theorem d_Md_goes_349 : decode b_Md_goes 349 = .ok (.invokevirtual 287, 3) := by decide +kernel
theorem d_Md_goes_352 : decode b_Md_goes 352 = .ok (.goto 13, 3) := by decide +kernel
theorem d_Md_goes_355 : decode b_Md_goes 355 = .ok (.aload_n 0, 1) := by decide +kernel
theorem d_Md_goes_356 : decode b_Md_goes 356 = .ok (.iload 5, 2) := by decide +kernel
theorem d_Md_goes_358 : decode b_Md_goes 358 = .ok (.iload 6, 2) := by decide +kernel
theorem d_Md_goes_360 : decode b_Md_goes 360 = .ok (.iload 4, 2) := by decide +kernel
theorem d_Md_goes_362 : decode b_Md_goes 362 = .ok (.invokevirtual 290, 3) := by decide +kernel
theorem d_Md_goes_365 : decode b_Md_goes 365 = .ok (.goto (-175), 3) := by decide +kernel
theorem d_Md_goes_368 : decode b_Md_goes 368 = .ok (.return_, 1) := by decide +kernel
theorem d_Md_comes_0 : decode b_Md_comes 0 = .ok (.aload_n 0, 1) := by decide +kernel
theorem d_Md_comes_1 : decode b_Md_comes 1 = .ok (.getfield 95, 3) := by decide +kernel
theorem d_Md_comes_4 : decode b_Md_comes 4 = .ok (.aload_n 0, 1) := by decide +kernel
theorem d_Md_comes_5 : decode b_Md_comes 5 = .ok (.getfield 47, 3) := by decide +kernel
theorem d_Md_comes_8 : decode b_Md_comes 8 = .ok (.bipush 7, 2) := by decide +kernel
theorem d_Md_comes_10 : decode b_Md_comes 10 = .ok (.iload_n 1, 1) := by decide +kernel
theorem d_Md_comes_11 : decode b_Md_comes 11 = .ok (.imul, 1) := by decide +kernel
theorem d_Md_comes_12 : decode b_Md_comes 12 = .ok (.iaload, 1) := by decide +kernel
theorem d_Md_comes_13 : decode b_Md_comes 13 = .ok (.baload, 1) := by decide +kernel
theorem d_Md_comes_14 : decode b_Md_comes 14 = .ok (.ifCond .eq 4, 3) := by decide +kernel
theorem d_Md_comes_17 : decode b_Md_comes 17 = .ok (.return_, 1) := by decide +kernel
theorem d_Md_comes_18 : decode b_Md_comes 18 = .ok (.aload_n 0, 1) := by decide +kernel
theorem d_Md_comes_19 : decode b_Md_comes 19 = .ok (.getfield 99, 3) := by decide +kernel
theorem d_Md_comes_22 : decode b_Md_comes 22 = .ok (.iload_n 1, 1) := by decide +kernel
theorem d_Md_comes_23 : decode b_Md_comes 23 = .ok (.iconst 1, 1) := by decide +kernel
theorem d_Md_comes_24 : decode b_Md_comes 24 = .ok (.bastore, 1) := by decide +kernel
theorem d_Md_comes_25 : decode b_Md_comes 25 = .ok (.iconst (-1), 1) := by decide +kernel
theorem d_Md_comes_26 : decode b_Md_comes 26 = .ok (.istore_n 3, 1) := by decide +kernel
theorem d_Md_comes_27 : decode b_Md_comes 27 = .ok (.iconst 0, 1) := by decide +kernel
theorem d_Md_comes_28 : decode b_Md_comes 28 = .ok (.istore 4, 2) := by decide +kernel
theorem d_Md_comes_30 : decode b_Md_comes 30 = .ok (.iload 4, 2) := by decide +kernel
theorem d_Md_comes_32 : decode b_Md_comes 32 = .ok (.aload_n 0, 1) := by decide +kernel
theorem d_Md_comes_33 : decode b_Md_comes 33 = .ok (.getfield 23, 3) := by decide +kernel
theorem d_Md_comes_36 : decode b_Md_comes 36 = .ok (.if_icmp .ge 66, 3) := by decide +kernel
theorem d_Md_comes_39 : decode b_Md_comes 39 = .ok (.aload_n 0, 1) := by decide +kernel
theorem d_Md_comes_40 : decode b_Md_comes 40 = .ok (.getfield 89, 3) := by decide +kernel
theorem d_Md_comes_43 : decode b_Md_comes 43 = .ok (.iload 4, 2) := by decide +kernel
theorem d_Md_comes_45 : decode b_Md_comes 45 = .ok (.iaload, 1) := by decide +kernel
theorem d_Md_comes_46 : decode b_Md_comes 46 = .ok (.iconst (-1), 1) := by decide +kernel
theorem d_Md_comes_47 : decode b_Md_comes 47 = .ok (.if_icmp .ne 49, 3) := by decide +kernel
theorem d_Md_comes_50 : decode b_Md_comes 50 = .ok (.aload_n 0, 1) := by decide +kernel
theorem d_Md_comes_51 : decode b_Md_comes 51 = .ok (.iload_n 1, 1) := by decide +kernel
theorem d_Md_comes_52 : decode b_Md_comes 52 = .ok (.iload 4, 2) := by decide +kernel
theorem d_Md_comes_54 : decode b_Md_comes 54 = .ok (.iload_n 2, 1) := by decide +kernel
theorem d_Md_comes_55 : decode b_Md_comes 55 = .ok (.invokevirtual 266, 3) := by decide +kernel
theorem d_Md_comes_58 : decode b_Md_comes 58 = .ok (.ifCond .ne 6, 3) := by decide +kernel
theorem d_Md_comes_61 : decode b_Md_comes 61 = .ok (.goto 35, 3) := by decide +kernel
theorem d_Md_comes_64 : decode b_Md_comes 64 = .ok (.iload_n 3, 1) := by decide +kernel
theorem d_Md_comes_65 : decode b_Md_comes 65 = .ok (.iconst (-1), 1) := by decide +kernel
theorem d_Md_comes_66 : decode b_Md_comes 66 = .ok (.if_icmp .eq 27, 3) := by decide +kernel
theorem d_Md_comes_69 : decode b_Md_comes 69 = .ok (.aload_n 0, 1) := by decide +kernel
theorem d_Md_comes_70 : decode b_Md_comes 70 = .ok (.getfield 26, 3) := by decide +kernel
theorem d_Md_comes_73 : decode b_Md_comes 73 = .ok (.iconst 3, 1) := by decide +kernel
theorem d_Md_comes_74 : decode b_Md_comes 74 = .ok (.iload 4, 2) := by decide +kernel
theorem d_Md_comes_76 : decode b_Md_comes 76 = .ok (.imul, 1) := by decide +kernel
theorem d_Md_comes_77 : decode b_Md_comes 77 = .ok (.iconst 1, 1) := by decide +kernel
theorem d_Md_comes_78 : decode b_Md_comes 78 = .ok (.iadd, 1) := by decide +kernel
theorem d_Md_comes_79 : decode b_Md_comes 79 = .ok (.iaload, 1) := by decide +kernel
theorem d_Md_comes_80 : decode b_Md_comes 80 = .ok (.aload_n 0, 1) := by decide +kernel
theorem d_Md_comes_81 : decode b_Md_comes 81 = .ok (.getfield 26, 3) := by decide +kernel
theorem d_Md_comes_84 : decode b_Md_comes 84 = .ok (.iconst 3, 1) := by decide +kernel
theorem d_Md_comes_85 : decode b_Md_comes 85 = .ok (.iload_n 3, 1) := by decide +kernel
theorem d_Md_comes_86 : decode b_Md_comes 86 = .ok (.imul, 1) := by decide +kernel
theorem d_Md_comes_87 : decode b_Md_comes 87 = .ok (.iconst 1, 1) := by decide +kernel
theorem d_Md_comes_88 : decode b_Md_comes 88 = .ok (.iadd, 1) := by decide +kernel
theorem d_Md_comes_89 : decode b_Md_comes 89 = .ok (.iaload, 1) := by decide +kernel
theorem d_Md_comes_90 : decode b_Md_comes 90 = .ok (.if_icmp .le 6, 3) := by decide +kernel
theorem d_Md_comes_93 : decode b_Md_comes 93 = .ok (.iload 4, 2) := by decide +kernel
theorem d_Md_comes_95 : decode b_Md_comes 95 = .ok (.istore_n 3, 1) := by decide +kernel
theorem d_Md_comes_96 : decode b_Md_comes 96 = .ok (.iinc 4 1, 3) := by decide +kernel
theorem d_Md_comes_99 : decode b_Md_comes 99 = .ok (.goto (-69), 3) := by decide +kernel
theorem d_Md_comes_102 : decode b_Md_comes 102 = .ok (.iload_n 3, 1) := by decide +kernel
theorem d_Md_comes_103 : decode b_Md_comes 103 = .ok (.iconst (-1), 1) := by decide +kernel
theorem d_Md_comes_104 : decode b_Md_comes 104 = .ok (.if_icmp .eq 10, 3) := by decide +kernel
theorem d_Md_comes_107 : decode b_Md_comes 107 = .ok (.aload_n 0, 1) := by decide +kernel
theorem d_Md_comes_108 : decode b_Md_comes 108 = .ok (.iload_n 1, 1) := by decide +kernel
theorem d_Md_comes_109 : decode b_Md_comes 109 = .ok (.iload_n 3, 1) := by decide +kernel
theorem d_Md_comes_110 : decode b_Md_comes 110 = .ok (.iload_n 2, 1) := by decide +kernel
theorem d_Md_comes_111 : decode b_Md_comes 111 = .ok (.invokevirtual 272, 3) := by decide +kernel
theorem d_Md_comes_114 : decode b_Md_comes 114 = .ok (.return_, 1) := by decide +kernel
theorem d_Md_mayHave_0 : decode b_Md_mayHave 0 = .ok (.aload_n 0, 1) := by decide +kernel
theorem d_Md_mayHave_1 : decode b_Md_mayHave 1 = .ok (.getfield 99, 3) := by decide +kernel
theorem d_Md_mayHave_4 : decode b_Md_mayHave 4 = .ok (.iload_n 1, 1) := by decide +kernel
theorem d_Md_mayHave_5 : decode b_Md_mayHave 5 = .ok (.baload, 1) := by decide +kernel
theorem d_Md_mayHave_6 : decode b_Md_mayHave 6 = .ok (.ifCond .eq 35, 3) := by decide +kernel
theorem d_Md_mayHave_9 : decode b_Md_mayHave 9 = .ok (.aload_n 0, 1) := by decide +kernel
theorem d_Md_mayHave_10 : decode b_Md_mayHave 10 = .ok (.iload_n 1, 1) := by decide +kernel
theorem d_Md_mayHave_11 : decode b_Md_mayHave 11 = .ok (.iload_n 2, 1) := by decide +kernel
theorem d_Md_mayHave_12 : decode b_Md_mayHave 12 = .ok (.invokevirtual 255, 3) := by decide +kernel
theorem d_Md_mayHave_15 : decode b_Md_mayHave 15 = .ok (.ifCond .eq 26, 3) := by decide +kernel
theorem d_Md_mayHave_18 : decode b_Md_mayHave 18 = .ok (.aload_n 0, 1) := by decide +kernel
theorem d_Md_mayHave_19 : decode b_Md_mayHave 19 = .ok (.iload_n 2, 1) := by decide +kernel
theorem d_Md_mayHave_20 : decode b_Md_mayHave 20 = .ok (.aload_n 0, 1) := by decide +kernel
theorem d_Md_mayHave_21 : decode b_Md_mayHave 21 = .ok (.getfield 47, 3) := by decide +kernel
theorem d_Md_mayHave_24 : decode b_Md_mayHave 24 = .ok (.bipush 7, 2) := by decide +kernel
theorem d_Md_mayHave_26 : decode b_Md_mayHave 26 = .ok (.iload_n 1, 1) := by decide +kernel
theorem d_Md_mayHave_27 : decode b_Md_mayHave 27 = .ok (.imul, 1) := by decide +kernel
theorem d_Md_mayHave_28 : decode b_Md_mayHave 28 = .ok (.iaload, 1) := by decide +kernel
theorem d_Md_mayHave_29 : decode b_Md_mayHave 29 = .ok (.iload_n 1, 1) := by decide +kernel
theorem d_Md_mayHave_30 : decode b_Md_mayHave 30 = .ok (.iload_n 3, 1) := by decide +kernel
theorem d_Md_mayHave_31 : decode b_Md_mayHave 31 = .ok (.invokevirtual 259, 3) := by decide +kernel
theorem d_Md_mayHave_34 : decode b_Md_mayHave 34 = .ok (.ifCond .ne 7, 3) := by decide +kernel
theorem d_Md_mayHave_37 : decode b_Md_mayHave 37 = .ok (.iconst 1, 1) := by decide +kernel
theorem d_Md_mayHave_38 : decode b_Md_mayHave 38 = .ok (.goto 4, 3) := by decide +kernel
theorem d_Md_mayHave_41 : decode b_Md_mayHave 41 = .ok (.iconst 0, 1) := by decide +kernel
theorem d_Md_mayHave_42 : decode b_Md_mayHave 42 = .ok (.ireturn, 1) := by decide +kernel
theorem d_Md_reaches_0 : decode b_Md_reaches 0 = .ok (.aload_n 0, 1) := by decide +kernel
theorem d_Md_reaches_1 : decode b_Md_reaches 1 = .ok (.getfield 47, 3) := by decide +kernel
theorem d_Md_reaches_4 : decode b_Md_reaches 4 = .ok (.bipush 7, 2) := by decide +kernel
theorem d_Md_reaches_6 : decode b_Md_reaches 6 = .ok (.iload_n 1, 1) := by decide +kernel
theorem d_Md_reaches_7 : decode b_Md_reaches 7 = .ok (.imul, 1) := by decide +kernel
theorem d_Md_reaches_8 : decode b_Md_reaches 8 = .ok (.iconst 3, 1) := by decide +kernel
theorem d_Md_reaches_9 : decode b_Md_reaches 9 = .ok (.iadd, 1) := by decide +kernel
theorem d_Md_reaches_10 : decode b_Md_reaches 10 = .ok (.iaload, 1) := by decide +kernel
theorem d_Md_reaches_11 : decode b_Md_reaches 11 = .ok (.aload_n 0, 1) := by decide +kernel
theorem d_Md_reaches_12 : decode b_Md_reaches 12 = .ok (.getfield 26, 3) := by decide +kernel
theorem d_Md_reaches_15 : decode b_Md_reaches 15 = .ok (.iconst 3, 1) := by decide +kernel
theorem d_Md_reaches_16 : decode b_Md_reaches 16 = .ok (.iload_n 2, 1) := by decide +kernel
theorem d_Md_reaches_17 : decode b_Md_reaches 17 = .ok (.imul, 1) := by decide +kernel
theorem d_Md_reaches_18 : decode b_Md_reaches 18 = .ok (.iaload, 1) := by decide +kernel
theorem d_Md_reaches_19 : decode b_Md_reaches 19 = .ok (.ishr, 1) := by decide +kernel
theorem d_Md_reaches_20 : decode b_Md_reaches 20 = .ok (.iconst 1, 1) := by decide +kernel
theorem d_Md_reaches_21 : decode b_Md_reaches 21 = .ok (.iand, 1) := by decide +kernel
theorem d_Md_reaches_22 : decode b_Md_reaches 22 = .ok (.iconst 1, 1) := by decide +kernel
theorem d_Md_reaches_23 : decode b_Md_reaches 23 = .ok (.if_icmp .ne 55, 3) := by decide +kernel
theorem d_Md_reaches_26 : decode b_Md_reaches 26 = .ok (.aload_n 0, 1) := by decide +kernel
theorem d_Md_reaches_27 : decode b_Md_reaches 27 = .ok (.getfield 26, 3) := by decide +kernel
theorem d_Md_reaches_30 : decode b_Md_reaches 30 = .ok (.iconst 3, 1) := by decide +kernel
theorem d_Md_reaches_31 : decode b_Md_reaches 31 = .ok (.iload_n 2, 1) := by decide +kernel
theorem d_Md_reaches_32 : decode b_Md_reaches 32 = .ok (.imul, 1) := by decide +kernel
theorem d_Md_reaches_33 : decode b_Md_reaches 33 = .ok (.iconst 1, 1) := by decide +kernel
theorem d_Md_reaches_34 : decode b_Md_reaches 34 = .ok (.iadd, 1) := by decide +kernel
theorem d_Md_reaches_35 : decode b_Md_reaches 35 = .ok (.iaload, 1) := by decide +kernel
theorem d_Md_reaches_36 : decode b_Md_reaches 36 = .ok (.aload_n 0, 1) := by decide +kernel
theorem d_Md_reaches_37 : decode b_Md_reaches 37 = .ok (.getfield 47, 3) := by decide +kernel
theorem d_Md_reaches_40 : decode b_Md_reaches 40 = .ok (.bipush 7, 2) := by decide +kernel
theorem d_Md_reaches_42 : decode b_Md_reaches 42 = .ok (.iload_n 1, 1) := by decide +kernel
theorem d_Md_reaches_43 : decode b_Md_reaches 43 = .ok (.imul, 1) := by decide +kernel
theorem d_Md_reaches_44 : decode b_Md_reaches 44 = .ok (.iconst 4, 1) := by decide +kernel
theorem d_Md_reaches_45 : decode b_Md_reaches 45 = .ok (.iadd, 1) := by decide +kernel
theorem d_Md_reaches_46 : decode b_Md_reaches 46 = .ok (.iaload, 1) := by decide +kernel
theorem d_Md_reaches_47 : decode b_Md_reaches 47 = .ok (.if_icmp .lt 31, 3) := by decide +kernel
theorem d_Md_reaches_50 : decode b_Md_reaches 50 = .ok (.aload_n 0, 1) := by decide +kernel
theorem d_Md_reaches_51 : decode b_Md_reaches 51 = .ok (.getfield 26, 3) := by decide +kernel
theorem d_Md_reaches_54 : decode b_Md_reaches 54 = .ok (.iconst 3, 1) := by decide +kernel
theorem d_Md_reaches_55 : decode b_Md_reaches 55 = .ok (.iload_n 2, 1) := by decide +kernel
theorem d_Md_reaches_56 : decode b_Md_reaches 56 = .ok (.imul, 1) := by decide +kernel
theorem d_Md_reaches_57 : decode b_Md_reaches 57 = .ok (.iconst 1, 1) := by decide +kernel
theorem d_Md_reaches_58 : decode b_Md_reaches 58 = .ok (.iadd, 1) := by decide +kernel
theorem d_Md_reaches_59 : decode b_Md_reaches 59 = .ok (.iaload, 1) := by decide +kernel
theorem d_Md_reaches_60 : decode b_Md_reaches 60 = .ok (.aload_n 0, 1) := by decide +kernel
theorem d_Md_reaches_61 : decode b_Md_reaches 61 = .ok (.getfield 47, 3) := by decide +kernel
theorem d_Md_reaches_64 : decode b_Md_reaches 64 = .ok (.bipush 7, 2) := by decide +kernel
theorem d_Md_reaches_66 : decode b_Md_reaches 66 = .ok (.iload_n 1, 1) := by decide +kernel
theorem d_Md_reaches_67 : decode b_Md_reaches 67 = .ok (.imul, 1) := by decide +kernel
theorem d_Md_reaches_68 : decode b_Md_reaches 68 = .ok (.iconst 5, 1) := by decide +kernel
theorem d_Md_reaches_69 : decode b_Md_reaches 69 = .ok (.iadd, 1) := by decide +kernel
theorem d_Md_reaches_70 : decode b_Md_reaches 70 = .ok (.iaload, 1) := by decide +kernel
theorem d_Md_reaches_71 : decode b_Md_reaches 71 = .ok (.if_icmp .gt 7, 3) := by decide +kernel
theorem d_Md_reaches_74 : decode b_Md_reaches 74 = .ok (.iconst 1, 1) := by decide +kernel
theorem d_Md_reaches_75 : decode b_Md_reaches 75 = .ok (.goto 4, 3) := by decide +kernel
theorem d_Md_reaches_78 : decode b_Md_reaches 78 = .ok (.iconst 0, 1) := by decide +kernel
theorem d_Md_reaches_79 : decode b_Md_reaches 79 = .ok (.ireturn, 1) := by decide +kernel
theorem d_Md_isBarred_0 : decode b_Md_isBarred 0 = .ok (.aload_n 0, 1) := by decide +kernel
theorem d_Md_isBarred_1 : decode b_Md_isBarred 1 = .ok (.iload 4, 2) := by decide +kernel
theorem d_Md_isBarred_3 : decode b_Md_isBarred 3 = .ok (.invokevirtual 245, 3) := by decide +kernel
theorem d_Md_isBarred_6 : decode b_Md_isBarred 6 = .ok (.istore 5, 2) := by decide +kernel
theorem d_Md_isBarred_8 : decode b_Md_isBarred 8 = .ok (.iload 5, 2) := by decide +kernel
theorem d_Md_isBarred_10 : decode b_Md_isBarred 10 = .ok (.ifCond .ge 5, 3) := by decide +kernel
theorem d_Md_isBarred_13 : decode b_Md_isBarred 13 = .ok (.iconst 0, 1) := by decide +kernel
theorem d_Md_isBarred_14 : decode b_Md_isBarred 14 = .ok (.ireturn, 1) := by decide +kernel
theorem d_Md_isBarred_15 : decode b_Md_isBarred 15 = .ok (.sipush 600, 3) := by decide +kernel
theorem d_Md_isBarred_18 : decode b_Md_isBarred 18 = .ok (.iload 5, 2) := by decide +kernel
theorem d_Md_isBarred_20 : decode b_Md_isBarred 20 = .ok (.imul, 1) := by decide +kernel
theorem d_Md_isBarred_21 : decode b_Md_isBarred 21 = .ok (.istore 6, 2) := by decide +kernel
theorem d_Md_isBarred_23 : decode b_Md_isBarred 23 = .ok (.iload 6, 2) := by decide +kernel
theorem d_Md_isBarred_25 : decode b_Md_isBarred 25 = .ok (.sipush 600, 3) := by decide +kernel
theorem d_Md_isBarred_28 : decode b_Md_isBarred 28 = .ok (.iload 5, 2) := by decide +kernel
theorem d_Md_isBarred_30 : decode b_Md_isBarred 30 = .ok (.imul, 1) := by decide +kernel
theorem d_Md_isBarred_31 : decode b_Md_isBarred 31 = .ok (.aload_n 0, 1) := by decide +kernel
theorem d_Md_isBarred_32 : decode b_Md_isBarred 32 = .ok (.getfield 65, 3) := by decide +kernel
theorem d_Md_isBarred_35 : decode b_Md_isBarred 35 = .ok (.iload 5, 2) := by decide +kernel
theorem d_Md_isBarred_37 : decode b_Md_isBarred 37 = .ok (.iaload, 1) := by decide +kernel
theorem d_Md_isBarred_38 : decode b_Md_isBarred 38 = .ok (.iadd, 1) := by decide +kernel
theorem d_Md_isBarred_39 : decode b_Md_isBarred 39 = .ok (.if_icmp .ge 51, 3) := by decide +kernel
theorem d_Md_isBarred_42 : decode b_Md_isBarred 42 = .ok (.aload_n 0, 1) := by decide +kernel
theorem d_Md_isBarred_43 : decode b_Md_isBarred 43 = .ok (.getfield 68, 3) := by decide +kernel
theorem d_Md_isBarred_46 : decode b_Md_isBarred 46 = .ok (.iload 6, 2) := by decide +kernel
theorem d_Md_isBarred_48 : decode b_Md_isBarred 48 = .ok (.iaload, 1) := by decide +kernel
theorem d_Md_isBarred_49 : decode b_Md_isBarred 49 = .ok (.iconst 4, 1) := by decide +kernel
theorem d_Md_isBarred_50 : decode b_Md_isBarred 50 = .ok (.if_icmp .ne 19, 3) := by decide +kernel
theorem d_Md_isBarred_53 : decode b_Md_isBarred 53 = .ok (.aload_n 0, 1) := by decide +kernel
theorem d_Md_isBarred_54 : decode b_Md_isBarred 54 = .ok (.iload 6, 2) := by decide +kernel
theorem d_Md_isBarred_56 : decode b_Md_isBarred 56 = .ok (.iload_n 1, 1) := by decide +kernel
theorem d_Md_isBarred_57 : decode b_Md_isBarred 57 = .ok (.iload_n 2, 1) := by decide +kernel
theorem d_Md_isBarred_58 : decode b_Md_isBarred 58 = .ok (.iload_n 3, 1) := by decide +kernel
theorem d_Md_isBarred_59 : decode b_Md_isBarred 59 = .ok (.iload 4, 2) := by decide +kernel
theorem d_Md_isBarred_61 : decode b_Md_isBarred 61 = .ok (.invokevirtual 248, 3) := by decide +kernel
theorem d_Md_isBarred_64 : decode b_Md_isBarred 64 = .ok (.ifCond .eq 5, 3) := by decide +kernel
theorem d_Md_isBarred_67 : decode b_Md_isBarred 67 = .ok (.iconst 1, 1) := by decide +kernel
theorem d_Md_isBarred_68 : decode b_Md_isBarred 68 = .ok (.ireturn, 1) := by decide +kernel
theorem d_Md_isBarred_69 : decode b_Md_isBarred 69 = .ok (.iload 6, 2) := by decide +kernel
theorem d_Md_isBarred_71 : decode b_Md_isBarred 71 = .ok (.iconst 3, 1) := by decide +kernel
theorem d_Md_isBarred_72 : decode b_Md_isBarred 72 = .ok (.iconst 3, 1) := by decide +kernel
theorem d_Md_isBarred_73 : decode b_Md_isBarred 73 = .ok (.aload_n 0, 1) := by decide +kernel
theorem d_Md_isBarred_74 : decode b_Md_isBarred 74 = .ok (.getfield 68, 3) := by decide +kernel
theorem d_Md_isBarred_77 : decode b_Md_isBarred 77 = .ok (.iload 6, 2) := by decide +kernel
theorem d_Md_isBarred_79 : decode b_Md_isBarred 79 = .ok (.iconst 2, 1) := by decide +kernel
theorem d_Md_isBarred_80 : decode b_Md_isBarred 80 = .ok (.iadd, 1) := by decide +kernel
theorem d_Md_isBarred_81 : decode b_Md_isBarred 81 = .ok (.iaload, 1) := by decide +kernel
theorem d_Md_isBarred_82 : decode b_Md_isBarred 82 = .ok (.imul, 1) := by decide +kernel
theorem d_Md_isBarred_83 : decode b_Md_isBarred 83 = .ok (.iadd, 1) := by decide +kernel
theorem d_Md_isBarred_84 : decode b_Md_isBarred 84 = .ok (.iadd, 1) := by decide +kernel
theorem d_Md_isBarred_85 : decode b_Md_isBarred 85 = .ok (.istore 6, 2) := by decide +kernel
theorem d_Md_isBarred_87 : decode b_Md_isBarred 87 = .ok (.goto (-64), 3) := by decide +kernel
theorem d_Md_isBarred_90 : decode b_Md_isBarred 90 = .ok (.iconst 0, 1) := by decide +kernel
theorem d_Md_isBarred_91 : decode b_Md_isBarred 91 = .ok (.ireturn, 1) := by decide +kernel
theorem d_Md_force_0 : decode b_Md_force 0 = .ok (.iconst (-1), 1) := by decide +kernel
theorem d_Md_force_1 : decode b_Md_force 1 = .ok (.istore_n 2, 1) := by decide +kernel
theorem d_Md_force_2 : decode b_Md_force 2 = .ok (.iconst 0, 1) := by decide +kernel
theorem d_Md_force_3 : decode b_Md_force 3 = .ok (.istore_n 3, 1) := by decide +kernel
theorem d_Md_force_4 : decode b_Md_force 4 = .ok (.iload_n 3, 1) := by decide +kernel
theorem d_Md_force_5 : decode b_Md_force 5 = .ok (.aload_n 0, 1) := by decide +kernel
theorem d_Md_force_6 : decode b_Md_force 6 = .ok (.getfield 56, 3) := by decide +kernel
theorem d_Md_force_9 : decode b_Md_force 9 = .ok (.if_icmp .ge 45, 3) := by decide +kernel
theorem d_Md_force_12 : decode b_Md_force 12 = .ok (.aload_n 0, 1) := by decide +kernel
theorem d_Md_force_13 : decode b_Md_force 13 = .ok (.getfield 59, 3) := by decide +kernel
theorem d_Md_force_16 : decode b_Md_force 16 = .ok (.iload_n 3, 1) := by decide +kernel
theorem d_Md_force_17 : decode b_Md_force 17 = .ok (.iaload, 1) := by decide +kernel
theorem d_Md_force_18 : decode b_Md_force 18 = .ok (.iload_n 1, 1) := by decide +kernel
theorem d_Md_force_19 : decode b_Md_force 19 = .ok (.if_icmp .gt 27, 3) := by decide +kernel
theorem d_Md_force_22 : decode b_Md_force 22 = .ok (.iload_n 2, 1) := by decide +kernel
theorem d_Md_force_23 : decode b_Md_force 23 = .ok (.iconst (-1), 1) := by decide +kernel
theorem d_Md_force_24 : decode b_Md_force 24 = .ok (.if_icmp .eq 18, 3) := by decide +kernel
theorem d_Md_force_27 : decode b_Md_force 27 = .ok (.aload_n 0, 1) := by decide +kernel
theorem d_Md_force_28 : decode b_Md_force 28 = .ok (.getfield 59, 3) := by decide +kernel
theorem d_Md_force_31 : decode b_Md_force 31 = .ok (.iload_n 3, 1) := by decide +kernel
theorem d_Md_force_32 : decode b_Md_force 32 = .ok (.iaload, 1) := by decide +kernel
theorem d_Md_force_33 : decode b_Md_force 33 = .ok (.aload_n 0, 1) := by decide +kernel
theorem d_Md_force_34 : decode b_Md_force 34 = .ok (.getfield 59, 3) := by decide +kernel
theorem d_Md_force_37 : decode b_Md_force 37 = .ok (.iload_n 2, 1) := by decide +kernel
theorem d_Md_force_38 : decode b_Md_force 38 = .ok (.iaload, 1) := by decide +kernel
theorem d_Md_force_39 : decode b_Md_force 39 = .ok (.if_icmp .lt 7, 3) := by decide +kernel
theorem d_Md_force_42 : decode b_Md_force 42 = .ok (.iload_n 3, 1) := by decide +kernel
theorem d_Md_force_43 : decode b_Md_force 43 = .ok (.goto 4, 3) := by decide +kernel
theorem d_Md_force_46 : decode b_Md_force 46 = .ok (.iload_n 2, 1) := by decide +kernel
theorem d_Md_force_47 : decode b_Md_force 47 = .ok (.istore_n 2, 1) := by decide +kernel
theorem d_Md_force_48 : decode b_Md_force 48 = .ok (.iinc 3 1, 3) := by decide +kernel
theorem d_Md_force_51 : decode b_Md_force 51 = .ok (.goto (-47), 3) := by decide +kernel
theorem d_Md_force_54 : decode b_Md_force 54 = .ok (.iload_n 2, 1) := by decide +kernel
theorem d_Md_force_55 : decode b_Md_force 55 = .ok (.ireturn, 1) := by decide +kernel
theorem d_Md_holds_0 : decode b_Md_holds 0 = .ok (.iconst 1, 1) := by decide +kernel
theorem d_Md_holds_1 : decode b_Md_holds 1 = .ok (.istore 6, 2) := by decide +kernel
theorem d_Md_holds_3 : decode b_Md_holds 3 = .ok (.iconst 1, 1) := by decide +kernel
theorem d_Md_holds_4 : decode b_Md_holds 4 = .ok (.istore 7, 2) := by decide +kernel
theorem d_Md_holds_6 : decode b_Md_holds 6 = .ok (.iload 7, 2) := by decide +kernel
theorem d_Md_holds_8 : decode b_Md_holds 8 = .ok (.aload_n 0, 1) := by decide +kernel
theorem d_Md_holds_9 : decode b_Md_holds 9 = .ok (.getfield 68, 3) := by decide +kernel
theorem d_Md_holds_12 : decode b_Md_holds 12 = .ok (.iload_n 1, 1) := by decide +kernel
theorem d_Md_holds_13 : decode b_Md_holds 13 = .ok (.iconst 2, 1) := by decide +kernel
theorem d_Md_holds_14 : decode b_Md_holds 14 = .ok (.iadd, 1) := by decide +kernel
theorem d_Md_holds_15 : decode b_Md_holds 15 = .ok (.iaload, 1) := by decide +kernel
theorem d_Md_holds_16 : decode b_Md_holds 16 = .ok (.if_icmp .gt 125, 3) := by decide +kernel
theorem d_Md_holds_19 : decode b_Md_holds 19 = .ok (.iload 6, 2) := by decide +kernel
theorem d_Md_holds_21 : decode b_Md_holds 21 = .ok (.ifCond .eq 120, 3) := by decide +kernel
theorem d_Md_holds_24 : decode b_Md_holds 24 = .ok (.aload_n 0, 1) := by decide +kernel
theorem d_Md_holds_25 : decode b_Md_holds 25 = .ok (.aload_n 0, 1) := by decide +kernel
theorem d_Md_holds_26 : decode b_Md_holds 26 = .ok (.getfield 68, 3) := by decide +kernel
theorem d_Md_holds_29 : decode b_Md_holds 29 = .ok (.iload_n 1, 1) := by decide +kernel
theorem d_Md_holds_30 : decode b_Md_holds 30 = .ok (.iconst 3, 1) := by decide +kernel
theorem d_Md_holds_31 : decode b_Md_holds 31 = .ok (.iload 7, 2) := by decide +kernel
theorem d_Md_holds_33 : decode b_Md_holds 33 = .ok (.imul, 1) := by decide +kernel
theorem d_Md_holds_34 : decode b_Md_holds 34 = .ok (.iadd, 1) := by decide +kernel
theorem d_Md_holds_35 : decode b_Md_holds 35 = .ok (.iaload, 1) := by decide +kernel
theorem d_Md_holds_36 : decode b_Md_holds 36 = .ok (.iload_n 2, 1) := by decide +kernel
theorem d_Md_holds_37 : decode b_Md_holds 37 = .ok (.iload_n 3, 1) := by decide +kernel
theorem d_Md_holds_38 : decode b_Md_holds 38 = .ok (.iload 4, 2) := by decide +kernel
theorem d_Md_holds_40 : decode b_Md_holds 40 = .ok (.iload 5, 2) := by decide +kernel
theorem d_Md_holds_42 : decode b_Md_holds 42 = .ok (.invokevirtual 241, 3) := by decide +kernel
theorem d_Md_holds_45 : decode b_Md_holds 45 = .ok (.istore 8, 2) := by decide +kernel
theorem d_Md_holds_47 : decode b_Md_holds 47 = .ok (.aload_n 0, 1) := by decide +kernel
theorem d_Md_holds_48 : decode b_Md_holds 48 = .ok (.getfield 68, 3) := by decide +kernel
theorem d_Md_holds_51 : decode b_Md_holds 51 = .ok (.iload_n 1, 1) := by decide +kernel
theorem d_Md_holds_52 : decode b_Md_holds 52 = .ok (.iconst 3, 1) := by decide +kernel
theorem d_Md_holds_53 : decode b_Md_holds 53 = .ok (.iload 7, 2) := by decide +kernel
theorem d_Md_holds_55 : decode b_Md_holds 55 = .ok (.imul, 1) := by decide +kernel
theorem d_Md_holds_56 : decode b_Md_holds 56 = .ok (.iadd, 1) := by decide +kernel
theorem d_Md_holds_57 : decode b_Md_holds 57 = .ok (.iconst 1, 1) := by decide +kernel
theorem d_Md_holds_58 : decode b_Md_holds 58 = .ok (.iadd, 1) := by decide +kernel
theorem d_Md_holds_59 : decode b_Md_holds 59 = .ok (.iaload, 1) := by decide +kernel
theorem d_Md_holds_60 : decode b_Md_holds 60 = .ok (.istore 9, 2) := by decide +kernel
theorem d_Md_holds_62 : decode b_Md_holds 62 = .ok (.aload_n 0, 1) := by decide +kernel
theorem d_Md_holds_63 : decode b_Md_holds 63 = .ok (.getfield 68, 3) := by decide +kernel
theorem d_Md_holds_66 : decode b_Md_holds 66 = .ok (.iload_n 1, 1) := by decide +kernel
theorem d_Md_holds_67 : decode b_Md_holds 67 = .ok (.iconst 3, 1) := by decide +kernel
theorem d_Md_holds_68 : decode b_Md_holds 68 = .ok (.iload 7, 2) := by decide +kernel
theorem d_Md_holds_70 : decode b_Md_holds 70 = .ok (.imul, 1) := by decide +kernel
theorem d_Md_holds_71 : decode b_Md_holds 71 = .ok (.iadd, 1) := by decide +kernel
theorem d_Md_holds_72 : decode b_Md_holds 72 = .ok (.iconst 2, 1) := by decide +kernel
theorem d_Md_holds_73 : decode b_Md_holds 73 = .ok (.iadd, 1) := by decide +kernel
theorem d_Md_holds_74 : decode b_Md_holds 74 = .ok (.iaload, 1) := by decide +kernel
theorem d_Md_holds_75 : decode b_Md_holds 75 = .ok (.istore 10, 2) := by decide +kernel
theorem d_Md_holds_77 : decode b_Md_holds 77 = .ok (.iload 9, 2) := by decide +kernel
theorem d_Md_holds_79 : decode b_Md_holds 79 = .ok (.bipush 60, 2) := by decide +kernel
theorem d_Md_holds_81 : decode b_Md_holds 81 = .ok (.if_icmp .ne 18, 3) := by decide +kernel
theorem d_Md_holds_84 : decode b_Md_holds 84 = .ok (.iload 8, 2) := by decide +kernel
theorem d_Md_holds_86 : decode b_Md_holds 86 = .ok (.iload 10, 2) := by decide +kernel
theorem d_Md_holds_88 : decode b_Md_holds 88 = .ok (.if_icmp .ge 7, 3) := by decide +kernel
theorem d_Md_holds_91 : decode b_Md_holds 91 = .ok (.iconst 1, 1) := by decide +kernel
theorem d_Md_holds_92 : decode b_Md_holds 92 = .ok (.goto 41, 3) := by decide +kernel
theorem d_Md_holds_95 : decode b_Md_holds 95 = .ok (.iconst 0, 1) := by decide +kernel
theorem d_Md_holds_96 : decode b_Md_holds 96 = .ok (.goto 37, 3) := by decide +kernel
theorem d_Md_holds_99 : decode b_Md_holds 99 = .ok (.iload 9, 2) := by decide +kernel
theorem d_Md_holds_101 : decode b_Md_holds 101 = .ok (.bipush 62, 2) := by decide +kernel
theorem d_Md_holds_103 : decode b_Md_holds 103 = .ok (.if_icmp .ne 18, 3) := by decide +kernel
theorem d_Md_holds_106 : decode b_Md_holds 106 = .ok (.iload 8, 2) := by decide +kernel
theorem d_Md_holds_108 : decode b_Md_holds 108 = .ok (.iload 10, 2) := by decide +kernel
theorem d_Md_holds_110 : decode b_Md_holds 110 = .ok (.if_icmp .le 7, 3) := by decide +kernel
theorem d_Md_holds_113 : decode b_Md_holds 113 = .ok (.iconst 1, 1) := by decide +kernel
theorem d_Md_holds_114 : decode b_Md_holds 114 = .ok (.goto 19, 3) := by decide +kernel
theorem d_Md_holds_117 : decode b_Md_holds 117 = .ok (.iconst 0, 1) := by decide +kernel
theorem d_Md_holds_118 : decode b_Md_holds 118 = .ok (.goto 15, 3) := by decide +kernel
theorem d_Md_holds_121 : decode b_Md_holds 121 = .ok (.iload 8, 2) := by decide +kernel
theorem d_Md_holds_123 : decode b_Md_holds 123 = .ok (.iload 10, 2) := by decide +kernel
theorem d_Md_holds_125 : decode b_Md_holds 125 = .ok (.if_icmp .ne 7, 3) := by decide +kernel
theorem d_Md_holds_128 : decode b_Md_holds 128 = .ok (.iconst 1, 1) := by decide +kernel
theorem d_Md_holds_129 : decode b_Md_holds 129 = .ok (.goto 4, 3) := by decide +kernel
theorem d_Md_holds_132 : decode b_Md_holds 132 = .ok (.iconst 0, 1) := by decide +kernel
theorem d_Md_holds_133 : decode b_Md_holds 133 = .ok (.istore 6, 2) := by decide +kernel
theorem d_Md_holds_135 : decode b_Md_holds 135 = .ok (.iinc 7 1, 3) := by decide +kernel
theorem d_Md_holds_138 : decode b_Md_holds 138 = .ok (.goto (-132), 3) := by decide +kernel
theorem d_Md_holds_141 : decode b_Md_holds 141 = .ok (.iload 6, 2) := by decide +kernel
theorem d_Md_holds_143 : decode b_Md_holds 143 = .ok (.ireturn, 1) := by decide +kernel
