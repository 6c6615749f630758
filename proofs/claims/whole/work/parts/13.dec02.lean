theorem d_PaperBox_has_0 : decode b_PaperBox_has 0 = .ok (.iload_n 1, 1) := by decide +kernel
theorem d_PaperBox_has_1 : decode b_PaperBox_has 1 = .ok (.ifCond .lt 15, 3) := by decide +kernel
theorem d_PaperBox_has_4 : decode b_PaperBox_has 4 = .ok (.iload_n 1, 1) := by decide +kernel
theorem d_PaperBox_has_5 : decode b_PaperBox_has 5 = .ok (.aload_n 0, 1) := by decide +kernel
theorem d_PaperBox_has_6 : decode b_PaperBox_has 6 = .ok (.getfield 36, 3) := by decide +kernel
theorem d_PaperBox_has_9 : decode b_PaperBox_has 9 = .ok (.if_icmp .ge 7, 3) := by decide +kernel
theorem d_PaperBox_has_12 : decode b_PaperBox_has 12 = .ok (.iconst 1, 1) := by decide +kernel
theorem d_PaperBox_has_13 : decode b_PaperBox_has 13 = .ok (.goto 4, 3) := by decide +kernel
theorem d_PaperBox_has_16 : decode b_PaperBox_has 16 = .ok (.iconst 0, 1) := by decide +kernel
theorem d_PaperBox_has_17 : decode b_PaperBox_has 17 = .ok (.ireturn, 1) := by decide +kernel
theorem d_Chan_as_0 : decode b_Chan_as 0 = .ok (.iload_n 1, 1) := by decide +kernel
theorem d_Chan_as_1 : decode b_Chan_as 1 = .ok (.iconst (-1), 1) := by decide +kernel
theorem d_Chan_as_2 : decode b_Chan_as 2 = .ok (.if_icmp .eq 20, 3) := by decide +kernel
theorem d_Chan_as_5 : decode b_Chan_as 5 = .ok (.iload_n 1, 1) := by decide +kernel
theorem d_Chan_as_6 : decode b_Chan_as 6 = .ok (.iconst 0, 1) := by decide +kernel
theorem d_Chan_as_7 : decode b_Chan_as 7 = .ok (.aload_n 0, 1) := by decide +kernel
theorem d_Chan_as_8 : decode b_Chan_as 8 = .ok (.getfield 42, 3) := by decide +kernel
theorem d_Chan_as_11 : decode b_Chan_as 11 = .ok (.getfield 119, 3) := by decide +kernel
theorem d_Chan_as_14 : decode b_Chan_as 14 = .ok (.invokestatic 101, 3) := by decide +kernel
theorem d_Chan_as_17 : decode b_Chan_as 17 = .ok (.ifCond .ne 5, 3) := by decide +kernel
theorem d_Chan_as_20 : decode b_Chan_as 20 = .ok (.iconst 0, 1) := by decide +kernel
theorem d_Chan_as_21 : decode b_Chan_as 21 = .ok (.ireturn, 1) := by decide +kernel
theorem d_Chan_as_22 : decode b_Chan_as 22 = .ok (.aload_n 0, 1) := by decide +kernel
theorem d_Chan_as_23 : decode b_Chan_as 23 = .ok (.iload_n 1, 1) := by decide +kernel
theorem d_Chan_as_24 : decode b_Chan_as 24 = .ok (.putfield 82, 3) := by decide +kernel
theorem d_Chan_as_27 : decode b_Chan_as 27 = .ok (.iconst 1, 1) := by decide +kernel
theorem d_Chan_as_28 : decode b_Chan_as 28 = .ok (.ireturn, 1) := by decide +kernel
theorem d_Chan_holder_0 : decode b_Chan_holder 0 = .ok (.aload_n 0, 1) := by decide +kernel
theorem d_Chan_holder_1 : decode b_Chan_holder 1 = .ok (.getfield 28, 3) := by decide +kernel
theorem d_Chan_holder_4 : decode b_Chan_holder 4 = .ok (.iload_n 1, 1) := by decide +kernel
theorem d_Chan_holder_5 : decode b_Chan_holder 5 = .ok (.invokevirtual 113, 3) := by decide +kernel
theorem d_Chan_holder_8 : decode b_Chan_holder 8 = .ok (.ifCond .eq 10, 3) := by decide +kernel
theorem d_Chan_holder_11 : decode b_Chan_holder 11 = .ok (.iload_n 2, 1) := by decide +kernel
theorem d_Chan_holder_12 : decode b_Chan_holder 12 = .ok (.invokestatic 129, 3) := by decide +kernel
theorem d_Chan_holder_15 : decode b_Chan_holder 15 = .ok (.ifCond .ne 5, 3) := by decide +kernel
theorem d_Chan_holder_18 : decode b_Chan_holder 18 = .ok (.iconst (-1), 1) := by decide +kernel
theorem d_Chan_holder_19 : decode b_Chan_holder 19 = .ok (.ireturn, 1) := by decide +kernel
theorem d_Chan_holder_20 : decode b_Chan_holder 20 = .ok (.aload_n 0, 1) := by decide +kernel
theorem d_Chan_holder_21 : decode b_Chan_holder 21 = .ok (.getfield 58, 3) := by decide +kernel
theorem d_Chan_holder_24 : decode b_Chan_holder 24 = .ok (.aload_n 0, 1) := by decide +kernel
theorem d_Chan_holder_25 : decode b_Chan_holder 25 = .ok (.invokevirtual 172, 3) := by decide +kernel
theorem d_Chan_holder_28 : decode b_Chan_holder 28 = .ok (.iload_n 2, 1) := by decide +kernel
theorem d_Chan_holder_29 : decode b_Chan_holder 29 = .ok (.invokevirtual 176, 3) := by decide +kernel
theorem d_Chan_holder_32 : decode b_Chan_holder 32 = .ok (.aload_n 0, 1) := by decide +kernel
theorem d_Chan_holder_33 : decode b_Chan_holder 33 = .ok (.getfield 58, 3) := by decide +kernel
theorem d_Chan_holder_36 : decode b_Chan_holder 36 = .ok (.getfield 179, 3) := by decide +kernel
theorem d_Chan_holder_39 : decode b_Chan_holder 39 = .ok (.iload_n 1, 1) := by decide +kernel
theorem d_Chan_holder_40 : decode b_Chan_holder 40 = .ok (.iaload, 1) := by decide +kernel
theorem d_Chan_holder_41 : decode b_Chan_holder 41 = .ok (.ireturn, 1) := by decide +kernel
theorem d_Chan_knownNow_0 : decode b_Chan_knownNow 0 = .ok (.aload_n 0, 1) := by decide +kernel
theorem d_Chan_knownNow_1 : decode b_Chan_knownNow 1 = .ok (.getfield 82, 3) := by decide +kernel
theorem d_Chan_knownNow_4 : decode b_Chan_knownNow 4 = .ok (.iconst (-1), 1) := by decide +kernel
theorem d_Chan_knownNow_5 : decode b_Chan_knownNow 5 = .ok (.if_icmp .ne 13, 3) := by decide +kernel
theorem d_Chan_knownNow_8 : decode b_Chan_knownNow 8 = .ok (.aload_n 0, 1) := by decide +kernel
theorem d_Chan_knownNow_9 : decode b_Chan_knownNow 9 = .ok (.getfield 42, 3) := by decide +kernel
theorem d_Chan_knownNow_12 : decode b_Chan_knownNow 12 = .ok (.getfield 119, 3) := by decide +kernel
theorem d_Chan_knownNow_15 : decode b_Chan_knownNow 15 = .ok (.goto 7, 3) := by decide +kernel
theorem d_Chan_knownNow_18 : decode b_Chan_knownNow 18 = .ok (.aload_n 0, 1) := by decide +kernel
theorem d_Chan_knownNow_19 : decode b_Chan_knownNow 19 = .ok (.getfield 82, 3) := by decide +kernel
theorem d_Chan_knownNow_22 : decode b_Chan_knownNow 22 = .ok (.ireturn, 1) := by decide +kernel
theorem d_Course_tell_0 : decode b_Course_tell 0 = .ok (.aload_n 0, 1) := by decide +kernel
theorem d_Course_tell_1 : decode b_Course_tell 1 = .ok (.getfield 69, 3) := by decide +kernel
theorem d_Course_tell_4 : decode b_Course_tell 4 = .ok (.aload_n 0, 1) := by decide +kernel
theorem d_Course_tell_5 : decode b_Course_tell 5 = .ok (.getfield 44, 3) := by decide +kernel
theorem d_Course_tell_8 : decode b_Course_tell 8 = .ok (.getfield 73, 3) := by decide +kernel
theorem d_Course_tell_11 : decode b_Course_tell 11 = .ok (.if_icmp .ne 20, 3) := by decide +kernel
theorem d_Course_tell_14 : decode b_Course_tell 14 = .ok (.aload_n 0, 1) := by decide +kernel
theorem d_Course_tell_15 : decode b_Course_tell 15 = .ok (.getfield 78, 3) := by decide +kernel
theorem d_Course_tell_18 : decode b_Course_tell 18 = .ok (.iload_n 1, 1) := by decide +kernel
theorem d_Course_tell_19 : decode b_Course_tell 19 = .ok (.if_icmp .ne 12, 3) := by decide +kernel
theorem d_Course_tell_22 : decode b_Course_tell 22 = .ok (.aload_n 0, 1) := by decide +kernel
theorem d_Course_tell_23 : decode b_Course_tell 23 = .ok (.getfield 81, 3) := by decide +kernel
theorem d_Course_tell_26 : decode b_Course_tell 26 = .ok (.iload_n 2, 1) := by decide +kernel
theorem d_Course_tell_27 : decode b_Course_tell 27 = .ok (.if_icmp .ne 4, 3) := by decide +kernel
theorem d_Course_tell_30 : decode b_Course_tell 30 = .ok (.return_, 1) := by decide +kernel
theorem d_Course_tell_31 : decode b_Course_tell 31 = .ok (.aload_n 0, 1) := by decide +kernel
theorem d_Course_tell_32 : decode b_Course_tell 32 = .ok (.invokevirtual 84, 3) := by decide +kernel
theorem d_Course_tell_35 : decode b_Course_tell 35 = .ok (.iconst 0, 1) := by decide +kernel
theorem d_Course_tell_36 : decode b_Course_tell 36 = .ok (.istore_n 3, 1) := by decide +kernel
theorem d_Course_tell_37 : decode b_Course_tell 37 = .ok (.iload_n 3, 1) := by decide +kernel
theorem d_Course_tell_38 : decode b_Course_tell 38 = .ok (.aload_n 0, 1) := by decide +kernel
theorem d_Course_tell_39 : decode b_Course_tell 39 = .ok (.getfield 52, 3) := by decide +kernel
theorem d_Course_tell_42 : decode b_Course_tell 42 = .ok (.getfield 87, 3) := by decide +kernel
theorem d_Course_tell_45 : decode b_Course_tell 45 = .ok (.if_icmp .ge 64, 3) := by decide +kernel
theorem d_Course_tell_48 : decode b_Course_tell 48 = .ok (.aload_n 0, 1) := by decide +kernel
theorem d_Course_tell_49 : decode b_Course_tell 49 = .ok (.getfield 52, 3) := by decide +kernel
theorem d_Course_tell_52 : decode b_Course_tell 52 = .ok (.getfield 92, 3) := by decide +kernel
theorem d_Course_tell_55 : decode b_Course_tell 55 = .ok (.iload_n 3, 1) := by decide +kernel
theorem d_Course_tell_56 : decode b_Course_tell 56 = .ok (.iaload, 1) := by decide +kernel
theorem d_Course_tell_57 : decode b_Course_tell 57 = .ok (.istore 4, 2) := by decide +kernel
theorem d_Course_tell_59 : decode b_Course_tell 59 = .ok (.aload_n 0, 1) := by decide +kernel
theorem d_Course_tell_60 : decode b_Course_tell 60 = .ok (.getfield 52, 3) := by decide +kernel
theorem d_Course_tell_63 : decode b_Course_tell 63 = .ok (.getfield 95, 3) := by decide +kernel
theorem d_Course_tell_66 : decode b_Course_tell 66 = .ok (.iload 4, 2) := by decide +kernel
theorem d_Course_tell_68 : decode b_Course_tell 68 = .ok (.iaload, 1) := by decide +kernel
theorem d_Course_tell_69 : decode b_Course_tell 69 = .ok (.iload_n 2, 1) := by decide +kernel
theorem d_Course_tell_70 : decode b_Course_tell 70 = .ok (.if_icmp .le 6, 3) := by decide +kernel
theorem d_Course_tell_73 : decode b_Course_tell 73 = .ok (.goto 36, 3) := by decide +kernel
theorem d_Course_tell_76 : decode b_Course_tell 76 = .ok (.iload 4, 2) := by decide +kernel
theorem d_Course_tell_78 : decode b_Course_tell 78 = .ok (.iload_n 1, 1) := by decide +kernel
theorem d_Course_tell_79 : decode b_Course_tell 79 = .ok (.if_icmp .gt 24, 3) := by decide +kernel
theorem d_Course_tell_82 : decode b_Course_tell 82 = .ok (.aload_n 0, 1) := by decide +kernel
theorem d_Course_tell_83 : decode b_Course_tell 83 = .ok (.aload_n 0, 1) := by decide +kernel
theorem d_Course_tell_84 : decode b_Course_tell 84 = .ok (.getfield 52, 3) := by decide +kernel
theorem d_Course_tell_87 : decode b_Course_tell 87 = .ok (.getfield 95, 3) := by decide +kernel
theorem d_Course_tell_90 : decode b_Course_tell 90 = .ok (.iload 4, 2) := by decide +kernel
theorem d_Course_tell_92 : decode b_Course_tell 92 = .ok (.iaload, 1) := by decide +kernel
theorem d_Course_tell_93 : decode b_Course_tell 93 = .ok (.invokevirtual 98, 3) := by decide +kernel
theorem d_Course_tell_96 : decode b_Course_tell 96 = .ok (.aload_n 0, 1) := by decide +kernel
theorem d_Course_tell_97 : decode b_Course_tell 97 = .ok (.iload 4, 2) := by decide +kernel
theorem d_Course_tell_99 : decode b_Course_tell 99 = .ok (.iload_n 1, 1) := by decide +kernel
theorem d_Course_tell_100 : decode b_Course_tell 100 = .ok (.invokevirtual 102, 3) := by decide +kernel
theorem d_Course_tell_103 : decode b_Course_tell 103 = .ok (.iinc 3 1, 3) := by decide +kernel
theorem d_Course_tell_106 : decode b_Course_tell 106 = .ok (.goto (-69), 3) := by decide +kernel
theorem d_Course_tell_109 : decode b_Course_tell 109 = .ok (.aload_n 0, 1) := by decide +kernel
theorem d_Course_tell_110 : decode b_Course_tell 110 = .ok (.iload_n 2, 1) := by decide +kernel
theorem d_Course_tell_111 : decode b_Course_tell 111 = .ok (.invokevirtual 98, 3) := by decide +kernel
theorem d_Course_tell_114 : decode b_Course_tell 114 = .ok (.aload_n 0, 1) := by decide +kernel
theorem d_Course_tell_115 : decode b_Course_tell 115 = .ok (.aload_n 0, 1) := by decide +kernel
theorem d_Course_tell_116 : decode b_Course_tell 116 = .ok (.getfield 44, 3) := by decide +kernel
theorem d_Course_tell_119 : decode b_Course_tell 119 = .ok (.getfield 73, 3) := by decide +kernel
theorem d_Course_tell_122 : decode b_Course_tell 122 = .ok (.putfield 69, 3) := by decide +kernel
theorem d_Course_tell_125 : decode b_Course_tell 125 = .ok (.aload_n 0, 1) := by decide +kernel
theorem d_Course_tell_126 : decode b_Course_tell 126 = .ok (.iload_n 1, 1) := by decide +kernel
theorem d_Course_tell_127 : decode b_Course_tell 127 = .ok (.putfield 78, 3) := by decide +kernel
theorem d_Course_tell_130 : decode b_Course_tell 130 = .ok (.aload_n 0, 1) := by decide +kernel
theorem d_Course_tell_131 : decode b_Course_tell 131 = .ok (.iload_n 2, 1) := by decide +kernel
theorem d_Course_tell_132 : decode b_Course_tell 132 = .ok (.putfield 81, 3) := by decide +kernel
theorem d_Course_tell_135 : decode b_Course_tell 135 = .ok (.return_, 1) := by decide +kernel
theorem d_Course_begin_0 : decode b_Course_begin 0 = .ok (.aload_n 0, 1) := by decide +kernel
theorem d_Course_begin_1 : decode b_Course_begin 1 = .ok (.getfield 18, 3) := by decide +kernel
theorem d_Course_begin_4 : decode b_Course_begin 4 = .ok (.iconst 0, 1) := by decide +kernel
theorem d_Course_begin_5 : decode b_Course_begin 5 = .ok (.invokestatic 106, 3) := by decide +kernel
theorem d_Course_begin_8 : decode b_Course_begin 8 = .ok (.aload_n 0, 1) := by decide +kernel
theorem d_Course_begin_9 : decode b_Course_begin 9 = .ok (.getfield 21, 3) := by decide +kernel
theorem d_Course_begin_12 : decode b_Course_begin 12 = .ok (.lconst 0, 1) := by decide +kernel
theorem d_Course_begin_13 : decode b_Course_begin 13 = .ok (.invokestatic 112, 3) := by decide +kernel
theorem d_Course_begin_16 : decode b_Course_begin 16 = .ok (.aload_n 0, 1) := by decide +kernel
theorem d_Course_begin_17 : decode b_Course_begin 17 = .ok (.getfield 32, 3) := by decide +kernel
theorem d_Course_begin_20 : decode b_Course_begin 20 = .ok (.iconst (-1), 1) := by decide +kernel
theorem d_Course_begin_21 : decode b_Course_begin 21 = .ok (.invokestatic 106, 3) := by decide +kernel
theorem d_Course_begin_24 : decode b_Course_begin 24 = .ok (.aload_n 0, 1) := by decide +kernel
theorem d_Course_begin_25 : decode b_Course_begin 25 = .ok (.getfield 35, 3) := by decide +kernel
theorem d_Course_begin_28 : decode b_Course_begin 28 = .ok (.iconst (-1), 1) := by decide +kernel
theorem d_Course_begin_29 : decode b_Course_begin 29 = .ok (.invokestatic 106, 3) := by decide +kernel
theorem d_Course_begin_32 : decode b_Course_begin 32 = .ok (.iconst 0, 1) := by decide +kernel
theorem d_Course_begin_33 : decode b_Course_begin 33 = .ok (.istore_n 1, 1) := by decide +kernel
theorem d_Course_begin_34 : decode b_Course_begin 34 = .ok (.iload_n 1, 1) := by decide +kernel
theorem d_Course_begin_35 : decode b_Course_begin 35 = .ok (.bipush 24, 2) := by decide +kernel
theorem d_Course_begin_37 : decode b_Course_begin 37 = .ok (.if_icmp .ge 16, 3) := by decide +kernel
theorem d_Course_begin_40 : decode b_Course_begin 40 = .ok (.aload_n 0, 1) := by decide +kernel
theorem d_Course_begin_41 : decode b_Course_begin 41 = .ok (.getfield 25, 3) := by decide +kernel
theorem d_Course_begin_44 : decode b_Course_begin 44 = .ok (.iload_n 1, 1) := by decide +kernel
theorem d_Course_begin_45 : decode b_Course_begin 45 = .ok (.iconst 0, 1) := by decide +kernel
theorem d_Course_begin_46 : decode b_Course_begin 46 = .ok (.bastore, 1) := by decide +kernel
theorem d_Course_begin_47 : decode b_Course_begin 47 = .ok (.iinc 1 1, 3) := by decide +kernel
theorem d_Course_begin_50 : decode b_Course_begin 50 = .ok (.goto (-16), 3) := by decide +kernel
theorem d_Course_begin_53 : decode b_Course_begin 53 = .ok (.iconst 0, 1) := by decide +kernel
theorem d_Course_begin_54 : decode b_Course_begin 54 = .ok (.istore_n 1, 1) := by decide +kernel
theorem d_Course_begin_55 : decode b_Course_begin 55 = .ok (.iload_n 1, 1) := by decide +kernel
theorem d_Course_begin_56 : decode b_Course_begin 56 = .ok (.bipush 48, 2) := by decide +kernel
theorem d_Course_begin_58 : decode b_Course_begin 58 = .ok (.if_icmp .ge 16, 3) := by decide +kernel
theorem d_Course_begin_61 : decode b_Course_begin 61 = .ok (.aload_n 0, 1) := by decide +kernel
theorem d_Course_begin_62 : decode b_Course_begin 62 = .ok (.getfield 29, 3) := by decide +kernel
theorem d_Course_begin_65 : decode b_Course_begin 65 = .ok (.iload_n 1, 1) := by decide +kernel
theorem d_Course_begin_66 : decode b_Course_begin 66 = .ok (.iconst 0, 1) := by decide +kernel
theorem d_Course_begin_67 : decode b_Course_begin 67 = .ok (.bastore, 1) := by decide +kernel
theorem d_Course_begin_68 : decode b_Course_begin 68 = .ok (.iinc 1 1, 3) := by decide +kernel
theorem d_Course_begin_71 : decode b_Course_begin 71 = .ok (.goto (-16), 3) := by decide +kernel
theorem d_Course_begin_74 : decode b_Course_begin 74 = .ok (.iconst 0, 1) := by decide +kernel
theorem d_Course_begin_75 : decode b_Course_begin 75 = .ok (.istore_n 1, 1) := by decide +kernel
theorem d_Course_begin_76 : decode b_Course_begin 76 = .ok (.iload_n 1, 1) := by decide +kernel
theorem d_Course_begin_77 : decode b_Course_begin 77 = .ok (.bipush 16, 2) := by decide +kernel
theorem d_Course_begin_79 : decode b_Course_begin 79 = .ok (.if_icmp .ge 48, 3) := by decide +kernel
theorem d_Course_begin_82 : decode b_Course_begin 82 = .ok (.aload_n 0, 1) := by decide +kernel
theorem d_Course_begin_83 : decode b_Course_begin 83 = .ok (.getfield 9, 3) := by decide +kernel
theorem d_Course_begin_86 : decode b_Course_begin 86 = .ok (.iload_n 1, 1) := by decide +kernel
theorem d_Course_begin_87 : decode b_Course_begin 87 = .ok (.iconst (-1), 1) := by decide +kernel
theorem d_Course_begin_88 : decode b_Course_begin 88 = .ok (.iastore, 1) := by decide +kernel
theorem d_Course_begin_89 : decode b_Course_begin 89 = .ok (.aload_n 0, 1) := by decide +kernel
theorem d_Course_begin_90 : decode b_Course_begin 90 = .ok (.getfield 15, 3) := by decide +kernel
theorem d_Course_begin_93 : decode b_Course_begin 93 = .ok (.iload_n 1, 1) := by decide +kernel
theorem d_Course_begin_94 : decode b_Course_begin 94 = .ok (.iconst 0, 1) := by decide +kernel
theorem d_Course_begin_95 : decode b_Course_begin 95 = .ok (.iastore, 1) := by decide +kernel
theorem d_Course_begin_96 : decode b_Course_begin 96 = .ok (.iload_n 1, 1) := by decide +kernel
theorem d_Course_begin_97 : decode b_Course_begin 97 = .ok (.aload_n 0, 1) := by decide +kernel
theorem d_Course_begin_98 : decode b_Course_begin 98 = .ok (.getfield 44, 3) := by decide +kernel
theorem d_Course_begin_101 : decode b_Course_begin 101 = .ok (.getfield 115, 3) := by decide +kernel
theorem d_Course_begin_104 : decode b_Course_begin 104 = .ok (.if_icmp .ge 17, 3) := by decide +kernel
theorem d_Course_begin_107 : decode b_Course_begin 107 = .ok (.aload_n 0, 1) := by decide +kernel
theorem d_Course_begin_108 : decode b_Course_begin 108 = .ok (.iload_n 1, 1) := by decide +kernel
theorem d_Course_begin_109 : decode b_Course_begin 109 = .ok (.aload_n 0, 1) := by decide +kernel
theorem d_Course_begin_110 : decode b_Course_begin 110 = .ok (.getfield 44, 3) := by decide +kernel
theorem d_Course_begin_113 : decode b_Course_begin 113 = .ok (.getfield 118, 3) := by decide +kernel
theorem d_Course_begin_116 : decode b_Course_begin 116 = .ok (.iload_n 1, 1) := by decide +kernel
theorem d_Course_begin_117 : decode b_Course_begin 117 = .ok (.iaload, 1) := by decide +kernel
theorem d_Course_begin_118 : decode b_Course_begin 118 = .ok (.invokevirtual 121, 3) := by decide +kernel
theorem d_Course_begin_121 : decode b_Course_begin 121 = .ok (.iinc 1 1, 3) := by decide +kernel
theorem d_Course_begin_124 : decode b_Course_begin 124 = .ok (.goto (-48), 3) := by decide +kernel
theorem d_Course_begin_127 : decode b_Course_begin 127 = .ok (.return_, 1) := by decide +kernel
theorem d_Arrays_fill_l_0 : decode b_Arrays_fill_l 0 = .ok (.iconst 0, 1) := by decide +kernel
theorem d_Arrays_fill_l_1 : decode b_Arrays_fill_l 1 = .ok (.istore_n 3, 1) := by decide +kernel
theorem d_Arrays_fill_l_2 : decode b_Arrays_fill_l 2 = .ok (.aload_n 0, 1) := by decide +kernel
theorem d_Arrays_fill_l_3 : decode b_Arrays_fill_l 3 = .ok (.arraylength, 1) := by decide +kernel
theorem d_Arrays_fill_l_4 : decode b_Arrays_fill_l 4 = .ok (.istore 4, 2) := by decide +kernel
theorem d_Arrays_fill_l_6 : decode b_Arrays_fill_l 6 = .ok (.iload_n 3, 1) := by decide +kernel
theorem d_Arrays_fill_l_7 : decode b_Arrays_fill_l 7 = .ok (.iload 4, 2) := by decide +kernel
theorem d_Arrays_fill_l_9 : decode b_Arrays_fill_l 9 = .ok (.if_icmp .ge 13, 3) := by decide +kernel
theorem d_Arrays_fill_l_12 : decode b_Arrays_fill_l 12 = .ok (.aload_n 0, 1) := by decide +kernel
theorem d_Arrays_fill_l_13 : decode b_Arrays_fill_l 13 = .ok (.iload_n 3, 1) := by decide +kernel
theorem d_Arrays_fill_l_14 : decode b_Arrays_fill_l 14 = .ok (.lload_n 1, 1) := by decide +kernel
theorem d_Arrays_fill_l_15 : decode b_Arrays_fill_l 15 = .ok (.lastore, 1) := by decide +kernel
theorem d_Arrays_fill_l_16 : decode b_Arrays_fill_l 16 = .ok (.iinc 3 1, 3) := by decide +kernel
theorem d_Arrays_fill_l_19 : decode b_Arrays_fill_l 19 = .ok (.goto (-13), 3) := by decide +kernel
theorem d_Arrays_fill_l_22 : decode b_Arrays_fill_l 22 = .ok (.return_, 1) := by decide +kernel
theorem d_Course_place_0 : decode b_Course_place 0 = .ok (.aload_n 0, 1) := by decide +kernel
theorem d_Course_place_1 : decode b_Course_place 1 = .ok (.getfield 9, 3) := by decide +kernel
theorem d_Course_place_4 : decode b_Course_place 4 = .ok (.iload_n 1, 1) := by decide +kernel
theorem d_Course_place_5 : decode b_Course_place 5 = .ok (.iaload, 1) := by decide +kernel
theorem d_Course_place_6 : decode b_Course_place 6 = .ok (.iconst (-1), 1) := by decide +kernel
theorem d_Course_place_7 : decode b_Course_place 7 = .ok (.if_icmp .eq 18, 3) := by decide +kernel
theorem d_Course_place_10 : decode b_Course_place 10 = .ok (.aload_n 0, 1) := by decide +kernel
theorem d_Course_place_11 : decode b_Course_place 11 = .ok (.getfield 18, 3) := by decide +kernel
theorem d_Course_place_14 : decode b_Course_place 14 = .ok (.aload_n 0, 1) := by decide +kernel
theorem d_Course_place_15 : decode b_Course_place 15 = .ok (.getfield 9, 3) := by decide +kernel
theorem d_Course_place_18 : decode b_Course_place 18 = .ok (.iload_n 1, 1) := by decide +kernel
theorem d_Course_place_19 : decode b_Course_place 19 = .ok (.iaload, 1) := by decide +kernel
theorem d_Course_place_20 : decode b_Course_place 20 = .ok (.dup2, 1) := by decide +kernel
theorem d_Course_place_21 : decode b_Course_place 21 = .ok (.iaload, 1) := by decide +kernel
theorem d_Course_place_22 : decode b_Course_place 22 = .ok (.iconst 1, 1) := by decide +kernel
theorem d_Course_place_23 : decode b_Course_place 23 = .ok (.isub, 1) := by decide +kernel
theorem d_Course_place_24 : decode b_Course_place 24 = .ok (.iastore, 1) := by decide +kernel
theorem d_Course_place_25 : decode b_Course_place 25 = .ok (.aload_n 0, 1) := by decide +kernel
theorem d_Course_place_26 : decode b_Course_place 26 = .ok (.getfield 9, 3) := by decide +kernel
theorem d_Course_place_29 : decode b_Course_place 29 = .ok (.iload_n 1, 1) := by decide +kernel
theorem d_Course_place_30 : decode b_Course_place 30 = .ok (.iload_n 2, 1) := by decide +kernel
theorem d_Course_place_31 : decode b_Course_place 31 = .ok (.iastore, 1) := by decide +kernel
theorem d_Course_place_32 : decode b_Course_place 32 = .ok (.iload_n 2, 1) := by decide +kernel
theorem d_Course_place_33 : decode b_Course_place 33 = .ok (.iconst (-1), 1) := by decide +kernel
theorem d_Course_place_34 : decode b_Course_place 34 = .ok (.if_icmp .eq 13, 3) := by decide +kernel
theorem d_Course_place_37 : decode b_Course_place 37 = .ok (.aload_n 0, 1) := by decide +kernel
theorem d_Course_place_38 : decode b_Course_place 38 = .ok (.getfield 18, 3) := by decide +kernel
theorem d_Course_place_41 : decode b_Course_place 41 = .ok (.iload_n 2, 1) := by decide +kernel
theorem d_Course_place_42 : decode b_Course_place 42 = .ok (.dup2, 1) := by decide +kernel
theorem d_Course_place_43 : decode b_Course_place 43 = .ok (.iaload, 1) := by decide +kernel
theorem d_Course_place_44 : decode b_Course_place 44 = .ok (.iconst 1, 1) := by decide +kernel
theorem d_Course_place_45 : decode b_Course_place 45 = .ok (.iadd, 1) := by decide +kernel
theorem d_Course_place_46 : decode b_Course_place 46 = .ok (.iastore, 1) := by decide +kernel
theorem d_Course_place_47 : decode b_Course_place 47 = .ok (.return_, 1) := by decide +kernel
theorem d_Course_goTo_0 : decode b_Course_goTo 0 = .ok (.aload_n 0, 1) := by decide +kernel
theorem d_Course_goTo_1 : decode b_Course_goTo 1 = .ok (.iload_n 1, 1) := by decide +kernel
theorem d_Course_goTo_2 : decode b_Course_goTo 2 = .ok (.putfield 124, 3) := by decide +kernel
theorem d_Course_goTo_5 : decode b_Course_goTo 5 = .ok (.aload_n 0, 1) := by decide +kernel
theorem d_Course_goTo_6 : decode b_Course_goTo 6 = .ok (.aload_n 0, 1) := by decide +kernel
theorem d_Course_goTo_7 : decode b_Course_goTo 7 = .ok (.getfield 56, 3) := by decide +kernel
theorem d_Course_goTo_10 : decode b_Course_goTo 10 = .ok (.iload_n 1, 1) := by decide +kernel
theorem d_Course_goTo_11 : decode b_Course_goTo 11 = .ok (.invokevirtual 127, 3) := by decide +kernel
theorem d_Course_goTo_14 : decode b_Course_goTo 14 = .ok (.putfield 66, 3) := by decide +kernel
theorem d_Course_goTo_17 : decode b_Course_goTo 17 = .ok (.return_, 1) := by decide +kernel
theorem d_Reigns_inForceAt_0 : decode b_Reigns_inForceAt 0 = .ok (.iconst (-1), 1) := by decide +kernel
theorem d_Reigns_inForceAt_1 : decode b_Reigns_inForceAt 1 = .ok (.istore_n 2, 1) := by decide +kernel
theorem d_Reigns_inForceAt_2 : decode b_Reigns_inForceAt 2 = .ok (.iconst 0, 1) := by decide +kernel
theorem d_Reigns_inForceAt_3 : decode b_Reigns_inForceAt 3 = .ok (.istore_n 3, 1) := by decide +kernel
theorem d_Reigns_inForceAt_4 : decode b_Reigns_inForceAt 4 = .ok (.iload_n 3, 1) := by decide +kernel
theorem d_Reigns_inForceAt_5 : decode b_Reigns_inForceAt 5 = .ok (.aload_n 0, 1) := by decide +kernel
theorem d_Reigns_inForceAt_6 : decode b_Reigns_inForceAt 6 = .ok (.getfield 26, 3) := by decide +kernel
theorem d_Reigns_inForceAt_9 : decode b_Reigns_inForceAt 9 = .ok (.if_icmp .ge 41, 3) := by decide +kernel
theorem d_Reigns_inForceAt_12 : decode b_Reigns_inForceAt 12 = .ok (.aload_n 0, 1) := by decide +kernel
theorem d_Reigns_inForceAt_13 : decode b_Reigns_inForceAt 13 = .ok (.getfield 9, 3) := by decide +kernel
theorem d_Reigns_inForceAt_16 : decode b_Reigns_inForceAt 16 = .ok (.iload_n 3, 1) := by decide +kernel
theorem d_Reigns_inForceAt_17 : decode b_Reigns_inForceAt 17 = .ok (.iaload, 1) := by decide +kernel
theorem d_Reigns_inForceAt_18 : decode b_Reigns_inForceAt 18 = .ok (.iload_n 1, 1) := by decide +kernel
theorem d_Reigns_inForceAt_19 : decode b_Reigns_inForceAt 19 = .ok (.if_icmp .gt 25, 3) := by decide +kernel
theorem d_Reigns_inForceAt_22 : decode b_Reigns_inForceAt 22 = .ok (.iload_n 2, 1) := by decide +kernel
theorem d_Reigns_inForceAt_23 : decode b_Reigns_inForceAt 23 = .ok (.iconst (-1), 1) := by decide +kernel
theorem d_Reigns_inForceAt_24 : decode b_Reigns_inForceAt 24 = .ok (.if_icmp .eq 18, 3) := by decide +kernel
theorem d_Reigns_inForceAt_27 : decode b_Reigns_inForceAt 27 = .ok (.aload_n 0, 1) := by decide +kernel
theorem d_Reigns_inForceAt_28 : decode b_Reigns_inForceAt 28 = .ok (.getfield 9, 3) := by decide +kernel
theorem d_Reigns_inForceAt_31 : decode b_Reigns_inForceAt 31 = .ok (.iload_n 3, 1) := by decide +kernel
theorem d_Reigns_inForceAt_32 : decode b_Reigns_inForceAt 32 = .ok (.iaload, 1) := by decide +kernel
theorem d_Reigns_inForceAt_33 : decode b_Reigns_inForceAt 33 = .ok (.aload_n 0, 1) := by decide +kernel
theorem d_Reigns_inForceAt_34 : decode b_Reigns_inForceAt 34 = .ok (.getfield 9, 3) := by decide +kernel
theorem d_Reigns_inForceAt_37 : decode b_Reigns_inForceAt 37 = .ok (.iload_n 2, 1) := by decide +kernel
theorem d_Reigns_inForceAt_38 : decode b_Reigns_inForceAt 38 = .ok (.iaload, 1) := by decide +kernel
theorem d_Reigns_inForceAt_39 : decode b_Reigns_inForceAt 39 = .ok (.if_icmp .lt 5, 3) := by decide +kernel
theorem d_Reigns_inForceAt_42 : decode b_Reigns_inForceAt 42 = .ok (.iload_n 3, 1) := by decide +kernel
theorem d_Reigns_inForceAt_43 : decode b_Reigns_inForceAt 43 = .ok (.istore_n 2, 1) := by decide +kernel
theorem d_Reigns_inForceAt_44 : decode b_Reigns_inForceAt 44 = .ok (.iinc 3 1, 3) := by decide +kernel
theorem d_Reigns_inForceAt_47 : decode b_Reigns_inForceAt 47 = .ok (.goto (-43), 3) := by decide +kernel
theorem d_Reigns_inForceAt_50 : decode b_Reigns_inForceAt 50 = .ok (.iload_n 2, 1) := by decide +kernel
theorem d_Reigns_inForceAt_51 : decode b_Reigns_inForceAt 51 = .ok (.iconst (-1), 1) := by decide +kernel
theorem d_Reigns_inForceAt_52 : decode b_Reigns_inForceAt 52 = .ok (.if_icmp .eq 12, 3) := by decide +kernel
theorem d_Reigns_inForceAt_55 : decode b_Reigns_inForceAt 55 = .ok (.aload_n 0, 1) := by decide +kernel
theorem d_Reigns_inForceAt_56 : decode b_Reigns_inForceAt 56 = .ok (.getfield 17, 3) := by decide +kernel
theorem d_Reigns_inForceAt_59 : decode b_Reigns_inForceAt 59 = .ok (.iload_n 2, 1) := by decide +kernel
theorem d_Reigns_inForceAt_60 : decode b_Reigns_inForceAt 60 = .ok (.aaload, 1) := by decide +kernel
theorem d_Reigns_inForceAt_61 : decode b_Reigns_inForceAt 61 = .ok (.ifnonnull 10, 3) := by decide +kernel
theorem d_Reigns_inForceAt_64 : decode b_Reigns_inForceAt 64 = .ok (.aload_n 0, 1) := by decide +kernel
theorem d_Reigns_inForceAt_65 : decode b_Reigns_inForceAt 65 = .ok (.getfield 22, 3) := by decide +kernel
theorem d_Reigns_inForceAt_68 : decode b_Reigns_inForceAt 68 = .ok (.goto 9, 3) := by decide +kernel
theorem d_Reigns_inForceAt_71 : decode b_Reigns_inForceAt 71 = .ok (.aload_n 0, 1) := by decide +kernel
theorem d_Reigns_inForceAt_72 : decode b_Reigns_inForceAt 72 = .ok (.getfield 17, 3) := by decide +kernel
theorem d_Reigns_inForceAt_75 : decode b_Reigns_inForceAt 75 = .ok (.iload_n 2, 1) := by decide +kernel
theorem d_Reigns_inForceAt_76 : decode b_Reigns_inForceAt 76 = .ok (.aaload, 1) := by decide +kernel
theorem d_Reigns_inForceAt_77 : decode b_Reigns_inForceAt 77 = .ok (.areturn, 1) := by decide +kernel
theorem d_Course_happen_0 : decode b_Course_happen 0 = .ok (.aload_n 0, 1) := by decide +kernel
theorem d_Course_happen_1 : decode b_Course_happen 1 = .ok (.getfield 52, 3) := by decide +kernel
theorem d_Course_happen_4 : decode b_Course_happen 4 = .ok (.getfield 131, 3) := by decide +kernel
theorem d_Course_happen_7 : decode b_Course_happen 7 = .ok (.iload_n 1, 1) := by decide +kernel
theorem d_Course_happen_8 : decode b_Course_happen 8 = .ok (.iaload, 1) := by decide +kernel
theorem d_Course_happen_9 : decode b_Course_happen 9 = .ok (.istore_n 3, 1) := by decide +kernel
theorem d_Course_happen_10 : decode b_Course_happen 10 = .ok (.aload_n 0, 1) := by decide +kernel
theorem d_Course_happen_11 : decode b_Course_happen 11 = .ok (.getfield 52, 3) := by decide +kernel
theorem d_Course_happen_14 : decode b_Course_happen 14 = .ok (.getfield 134, 3) := by decide +kernel
theorem d_Course_happen_17 : decode b_Course_happen 17 = .ok (.iload_n 1, 1) := by decide +kernel
theorem d_Course_happen_18 : decode b_Course_happen 18 = .ok (.iaload, 1) := by decide +kernel
theorem d_Course_happen_19 : decode b_Course_happen 19 = .ok (.istore 4, 2) := by decide +kernel
theorem d_Course_happen_21 : decode b_Course_happen 21 = .ok (.aload_n 0, 1) := by decide +kernel
theorem d_Course_happen_22 : decode b_Course_happen 22 = .ok (.getfield 52, 3) := by decide +kernel
theorem d_Course_happen_25 : decode b_Course_happen 25 = .ok (.getfield 137, 3) := by decide +kernel
theorem d_Course_happen_28 : decode b_Course_happen 28 = .ok (.iload_n 1, 1) := by decide +kernel
theorem d_Course_happen_29 : decode b_Course_happen 29 = .ok (.iaload, 1) := by decide +kernel
theorem d_Course_happen_30 : decode b_Course_happen 30 = .ok (.tableswitch 78 0 3 #[30, 50, 58, 68], 30) := by decide +kernel
theorem d_Course_happen_60 : decode b_Course_happen 60 = .ok (.aload_n 0, 1) := by decide +kernel
theorem d_Course_happen_61 : decode b_Course_happen 61 = .ok (.getfield 48, 3) := by decide +kernel
theorem d_Course_happen_64 : decode b_Course_happen 64 = .ok (.iload_n 3, 1) := by decide +kernel
theorem d_Course_happen_65 : decode b_Course_happen 65 = .ok (.iload_n 2, 1) := by decide +kernel
theorem d_Course_happen_66 : decode b_Course_happen 66 = .ok (.invokevirtual 140, 3) := by decide +kernel
theorem d_Course_happen_69 : decode b_Course_happen 69 = .ok (.ifCond .ne 39, 3) := by decide +kernel
theorem d_Course_happen_72 : decode b_Course_happen 72 = .ok (.aload_n 0, 1) := by decide +kernel
theorem d_Course_happen_73 : decode b_Course_happen 73 = .ok (.iload_n 3, 1) := by decide +kernel
theorem d_Course_happen_74 : decode b_Course_happen 74 = .ok (.invokevirtual 146, 3) := by decide +kernel
theorem d_Course_happen_77 : decode b_Course_happen 77 = .ok (.goto 31, 3) := by decide +kernel
theorem d_Course_happen_80 : decode b_Course_happen 80 = .ok (.aload_n 0, 1) := by decide +kernel
theorem d_Course_happen_81 : decode b_Course_happen 81 = .ok (.iload_n 3, 1) := by decide +kernel
theorem d_Course_happen_82 : decode b_Course_happen 82 = .ok (.invokevirtual 149, 3) := by decide +kernel
theorem d_Course_happen_85 : decode b_Course_happen 85 = .ok (.goto 23, 3) := by decide +kernel
theorem d_Course_happen_88 : decode b_Course_happen 88 = .ok (.aload_n 0, 1) := by decide +kernel
theorem d_Course_happen_89 : decode b_Course_happen 89 = .ok (.iload_n 3, 1) := by decide +kernel
theorem d_Course_happen_90 : decode b_Course_happen 90 = .ok (.iload 4, 2) := by decide +kernel
theorem d_Course_happen_92 : decode b_Course_happen 92 = .ok (.invokevirtual 152, 3) := by decide +kernel
theorem d_Course_happen_95 : decode b_Course_happen 95 = .ok (.goto 13, 3) := by decide +kernel
theorem d_Course_happen_98 : decode b_Course_happen 98 = .ok (.aload_n 0, 1) := by decide +kernel
theorem d_Course_happen_99 : decode b_Course_happen 99 = .ok (.iload_n 3, 1) := by decide +kernel
theorem d_Course_happen_100 : decode b_Course_happen 100 = .ok (.iload 4, 2) := by decide +kernel
theorem d_Course_happen_102 : decode b_Course_happen 102 = .ok (.invokevirtual 155, 3) := by decide +kernel
theorem d_Course_happen_105 : decode b_Course_happen 105 = .ok (.goto 3, 3) := by decide +kernel
theorem d_Course_happen_108 : decode b_Course_happen 108 = .ok (.return_, 1) := by decide +kernel
theorem d_PaperBox_isVoid_0 : decode b_PaperBox_isVoid 0 = .ok (.aload_n 0, 1) := by decide +kernel
theorem d_PaperBox_isVoid_1 : decode b_PaperBox_isVoid 1 = .ok (.getfield 33, 3) := by decide +kernel
theorem d_PaperBox_isVoid_4 : decode b_PaperBox_isVoid 4 = .ok (.iload_n 1, 1) := by decide +kernel
theorem d_PaperBox_isVoid_5 : decode b_PaperBox_isVoid 5 = .ok (.iaload, 1) := by decide +kernel
theorem d_PaperBox_isVoid_6 : decode b_PaperBox_isVoid 6 = .ok (.iconst (-1), 1) := by decide +kernel
theorem d_PaperBox_isVoid_7 : decode b_PaperBox_isVoid 7 = .ok (.if_icmp .eq 17, 3) := by decide +kernel
theorem d_PaperBox_isVoid_10 : decode b_PaperBox_isVoid 10 = .ok (.aload_n 0, 1) := by decide +kernel
theorem d_PaperBox_isVoid_11 : decode b_PaperBox_isVoid 11 = .ok (.getfield 33, 3) := by decide +kernel
theorem d_PaperBox_isVoid_14 : decode b_PaperBox_isVoid 14 = .ok (.iload_n 1, 1) := by decide +kernel
theorem d_PaperBox_isVoid_15 : decode b_PaperBox_isVoid 15 = .ok (.iaload, 1) := by decide +kernel
theorem d_PaperBox_isVoid_16 : decode b_PaperBox_isVoid 16 = .ok (.iload_n 2, 1) := by decide +kernel
theorem d_PaperBox_isVoid_17 : decode b_PaperBox_isVoid 17 = .ok (.if_icmp .gt 7, 3) := by decide +kernel
theorem d_PaperBox_isVoid_20 : decode b_PaperBox_isVoid 20 = .ok (.iconst 1, 1) := by decide +kernel
theorem d_PaperBox_isVoid_21 : decode b_PaperBox_isVoid 21 = .ok (.goto 4, 3) := by decide +kernel
theorem d_PaperBox_isVoid_24 : decode b_PaperBox_isVoid 24 = .ok (.iconst 0, 1) := by decide +kernel
theorem d_PaperBox_isVoid_25 : decode b_PaperBox_isVoid 25 = .ok (.ireturn, 1) := by decide +kernel
theorem d_Course_comeAlive_0 : decode b_Course_comeAlive 0 = .ok (.aload_n 0, 1) := by decide +kernel
theorem d_Course_comeAlive_1 : decode b_Course_comeAlive 1 = .ok (.getfield 25, 3) := by decide +kernel
theorem d_Course_comeAlive_4 : decode b_Course_comeAlive 4 = .ok (.aload_n 0, 1) := by decide +kernel
theorem d_Course_comeAlive_5 : decode b_Course_comeAlive 5 = .ok (.getfield 48, 3) := by decide +kernel
theorem d_Course_comeAlive_8 : decode b_Course_comeAlive 8 = .ok (.getfield 158, 3) := by decide +kernel
theorem d_Course_comeAlive_11 : decode b_Course_comeAlive 11 = .ok (.iload_n 1, 1) := by decide +kernel
theorem d_Course_comeAlive_12 : decode b_Course_comeAlive 12 = .ok (.iaload, 1) := by decide +kernel
theorem d_Course_comeAlive_13 : decode b_Course_comeAlive 13 = .ok (.baload, 1) := by decide +kernel
theorem d_Course_comeAlive_14 : decode b_Course_comeAlive 14 = .ok (.ifCond .eq 4, 3) := by decide +kernel
theorem d_Course_comeAlive_17 : decode b_Course_comeAlive 17 = .ok (.return_, 1) := by decide +kernel
theorem d_Course_comeAlive_18 : decode b_Course_comeAlive 18 = .ok (.aload_n 0, 1) := by decide +kernel
theorem d_Course_comeAlive_19 : decode b_Course_comeAlive 19 = .ok (.getfield 29, 3) := by decide +kernel
theorem d_Course_comeAlive_22 : decode b_Course_comeAlive 22 = .ok (.iload_n 1, 1) := by decide +kernel
theorem d_Course_comeAlive_23 : decode b_Course_comeAlive 23 = .ok (.iconst 1, 1) := by decide +kernel
theorem d_Course_comeAlive_24 : decode b_Course_comeAlive 24 = .ok (.bastore, 1) := by decide +kernel
theorem d_Course_comeAlive_25 : decode b_Course_comeAlive 25 = .ok (.iconst (-1), 1) := by decide +kernel
theorem d_Course_comeAlive_26 : decode b_Course_comeAlive 26 = .ok (.istore_n 2, 1) := by decide +kernel
theorem d_Course_comeAlive_27 : decode b_Course_comeAlive 27 = .ok (.iconst 0, 1) := by decide +kernel
theorem d_Course_comeAlive_28 : decode b_Course_comeAlive 28 = .ok (.istore_n 3, 1) := by decide +kernel
theorem d_Course_comeAlive_29 : decode b_Course_comeAlive 29 = .ok (.iload_n 3, 1) := by decide +kernel
theorem d_Course_comeAlive_30 : decode b_Course_comeAlive 30 = .ok (.aload_n 0, 1) := by decide +kernel
theorem d_Course_comeAlive_31 : decode b_Course_comeAlive 31 = .ok (.getfield 44, 3) := by decide +kernel
theorem d_Course_comeAlive_34 : decode b_Course_comeAlive 34 = .ok (.getfield 115, 3) := by decide +kernel
theorem d_Course_comeAlive_37 : decode b_Course_comeAlive 37 = .ok (.if_icmp .ge 56, 3) := by decide +kernel
theorem d_Course_comeAlive_40 : decode b_Course_comeAlive 40 = .ok (.aload_n 0, 1) := by decide +kernel
theorem d_Course_comeAlive_41 : decode b_Course_comeAlive 41 = .ok (.getfield 9, 3) := by decide +kernel
theorem d_Course_comeAlive_44 : decode b_Course_comeAlive 44 = .ok (.iload_n 3, 1) := by decide +kernel
theorem d_Course_comeAlive_45 : decode b_Course_comeAlive 45 = .ok (.iaload, 1) := by decide +kernel
theorem d_Course_comeAlive_46 : decode b_Course_comeAlive 46 = .ok (.iconst (-1), 1) := by decide +kernel
theorem d_Course_comeAlive_47 : decode b_Course_comeAlive 47 = .ok (.if_icmp .ne 40, 3) := by decide +kernel
theorem d_Course_comeAlive_50 : decode b_Course_comeAlive 50 = .ok (.iload_n 2, 1) := by decide +kernel
theorem d_Course_comeAlive_51 : decode b_Course_comeAlive 51 = .ok (.iconst (-1), 1) := by decide +kernel
theorem d_Course_comeAlive_52 : decode b_Course_comeAlive 52 = .ok (.if_icmp .eq 24, 3) := by decide +kernel
theorem d_Course_comeAlive_55 : decode b_Course_comeAlive 55 = .ok (.aload_n 0, 1) := by decide +kernel
theorem d_Course_comeAlive_56 : decode b_Course_comeAlive 56 = .ok (.getfield 44, 3) := by decide +kernel
theorem d_Course_comeAlive_59 : decode b_Course_comeAlive 59 = .ok (.getfield 161, 3) := by decide +kernel
theorem d_Course_comeAlive_62 : decode b_Course_comeAlive 62 = .ok (.iload_n 3, 1) := by decide +kernel
theorem d_Course_comeAlive_63 : decode b_Course_comeAlive 63 = .ok (.iaload, 1) := by decide +kernel
theorem d_Course_comeAlive_64 : decode b_Course_comeAlive 64 = .ok (.aload_n 0, 1) := by decide +kernel
theorem d_Course_comeAlive_65 : decode b_Course_comeAlive 65 = .ok (.getfield 44, 3) := by decide +kernel
theorem d_Course_comeAlive_68 : decode b_Course_comeAlive 68 = .ok (.getfield 161, 3) := by decide +kernel
theorem d_Course_comeAlive_71 : decode b_Course_comeAlive 71 = .ok (.iload_n 2, 1) := by decide +kernel
theorem d_Course_comeAlive_72 : decode b_Course_comeAlive 72 = .ok (.iaload, 1) := by decide +kernel
theorem d_Course_comeAlive_73 : decode b_Course_comeAlive 73 = .ok (.if_icmp .le 14, 3) := by decide +kernel
theorem d_Course_comeAlive_76 : decode b_Course_comeAlive 76 = .ok (.aload_n 0, 1) := by decide +kernel
theorem d_Course_comeAlive_77 : decode b_Course_comeAlive 77 = .ok (.iload_n 1, 1) := by decide +kernel
theorem d_Course_comeAlive_78 : decode b_Course_comeAlive 78 = .ok (.iload_n 3, 1) := by decide +kernel
theorem d_Course_comeAlive_79 : decode b_Course_comeAlive 79 = .ok (.invokevirtual 164, 3) := by decide +kernel
theorem d_Course_comeAlive_82 : decode b_Course_comeAlive 82 = .ok (.ifCond .eq 5, 3) := by decide +kernel
theorem d_Course_comeAlive_85 : decode b_Course_comeAlive 85 = .ok (.iload_n 3, 1) := by decide +kernel
theorem d_Course_comeAlive_86 : decode b_Course_comeAlive 86 = .ok (.istore_n 2, 1) := by decide +kernel
theorem d_Course_comeAlive_87 : decode b_Course_comeAlive 87 = .ok (.iinc 3 1, 3) := by decide +kernel
theorem d_Course_comeAlive_90 : decode b_Course_comeAlive 90 = .ok (.goto (-61), 3) := by decide +kernel
theorem d_Course_comeAlive_93 : decode b_Course_comeAlive 93 = .ok (.iload_n 2, 1) := by decide +kernel
theorem d_Course_comeAlive_94 : decode b_Course_comeAlive 94 = .ok (.iconst (-1), 1) := by decide +kernel
theorem d_Course_comeAlive_95 : decode b_Course_comeAlive 95 = .ok (.if_icmp .eq 9, 3) := by decide +kernel
theorem d_Course_comeAlive_98 : decode b_Course_comeAlive 98 = .ok (.aload_n 0, 1) := by decide +kernel
theorem d_Course_comeAlive_99 : decode b_Course_comeAlive 99 = .ok (.iload_n 1, 1) := by decide +kernel
theorem d_Course_comeAlive_100 : decode b_Course_comeAlive 100 = .ok (.iload_n 2, 1) := by decide +kernel
theorem d_Course_comeAlive_101 : decode b_Course_comeAlive 101 = .ok (.invokevirtual 167, 3) := by decide +kernel
theorem d_Course_comeAlive_104 : decode b_Course_comeAlive 104 = .ok (.return_, 1) := by decide +kernel
theorem d_Course_mayClaim_0 : decode b_Course_mayClaim 0 = .ok (.aload_n 0, 1) := by decide +kernel
theorem d_Course_mayClaim_1 : decode b_Course_mayClaim 1 = .ok (.getfield 29, 3) := by decide +kernel
theorem d_Course_mayClaim_4 : decode b_Course_mayClaim 4 = .ok (.iload_n 1, 1) := by decide +kernel
theorem d_Course_mayClaim_5 : decode b_Course_mayClaim 5 = .ok (.baload, 1) := by decide +kernel
theorem d_Course_mayClaim_6 : decode b_Course_mayClaim 6 = .ok (.ifCond .eq 32, 3) := by decide +kernel
theorem d_Course_mayClaim_9 : decode b_Course_mayClaim 9 = .ok (.aload_n 0, 1) := by decide +kernel
theorem d_Course_mayClaim_10 : decode b_Course_mayClaim 10 = .ok (.getfield 48, 3) := by decide +kernel
theorem d_Course_mayClaim_13 : decode b_Course_mayClaim 13 = .ok (.iload_n 1, 1) := by decide +kernel
theorem d_Course_mayClaim_14 : decode b_Course_mayClaim 14 = .ok (.aload_n 0, 1) := by decide +kernel
theorem d_Course_mayClaim_15 : decode b_Course_mayClaim 15 = .ok (.getfield 44, 3) := by decide +kernel
theorem d_Course_mayClaim_18 : decode b_Course_mayClaim 18 = .ok (.getfield 192, 3) := by decide +kernel
theorem d_Course_mayClaim_21 : decode b_Course_mayClaim 21 = .ok (.iload_n 2, 1) := by decide +kernel
theorem d_Course_mayClaim_22 : decode b_Course_mayClaim 22 = .ok (.iaload, 1) := by decide +kernel
theorem d_Course_mayClaim_23 : decode b_Course_mayClaim 23 = .ok (.aload_n 0, 1) := by decide +kernel
theorem d_Course_mayClaim_24 : decode b_Course_mayClaim 24 = .ok (.getfield 44, 3) := by decide +kernel
theorem d_Course_mayClaim_27 : decode b_Course_mayClaim 27 = .ok (.getfield 161, 3) := by decide +kernel
theorem d_Course_mayClaim_30 : decode b_Course_mayClaim 30 = .ok (.iload_n 2, 1) := by decide +kernel
theorem d_Course_mayClaim_31 : decode b_Course_mayClaim 31 = .ok (.iaload, 1) := by decide +kernel
theorem d_Course_mayClaim_32 : decode b_Course_mayClaim 32 = .ok (.invokevirtual 195, 3) := by decide +kernel
theorem d_Course_mayClaim_35 : decode b_Course_mayClaim 35 = .ok (.ifCond .ne 5, 3) := by decide +kernel
theorem d_Course_mayClaim_38 : decode b_Course_mayClaim 38 = .ok (.iconst 0, 1) := by decide +kernel
theorem d_Course_mayClaim_39 : decode b_Course_mayClaim 39 = .ok (.ireturn, 1) := by decide +kernel
theorem d_Course_mayClaim_40 : decode b_Course_mayClaim 40 = .ok (.aload_n 0, 1) := by decide +kernel
theorem d_Course_mayClaim_41 : decode b_Course_mayClaim 41 = .ok (.aload_n 0, 1) := by decide +kernel
theorem d_Course_mayClaim_42 : decode b_Course_mayClaim 42 = .ok (.getfield 38, 3) := by decide +kernel
theorem d_Course_mayClaim_45 : decode b_Course_mayClaim 45 = .ok (.iload_n 2, 1) := by decide +kernel
theorem d_Course_mayClaim_46 : decode b_Course_mayClaim 46 = .ok (.aload_n 0, 1) := by decide +kernel
theorem d_Course_mayClaim_47 : decode b_Course_mayClaim 47 = .ok (.getfield 48, 3) := by decide +kernel
theorem d_Course_mayClaim_50 : decode b_Course_mayClaim 50 = .ok (.getfield 158, 3) := by decide +kernel
theorem d_Course_mayClaim_53 : decode b_Course_mayClaim 53 = .ok (.iload_n 1, 1) := by decide +kernel
theorem d_Course_mayClaim_54 : decode b_Course_mayClaim 54 = .ok (.iaload, 1) := by decide +kernel
theorem d_Course_mayClaim_55 : decode b_Course_mayClaim 55 = .ok (.iload_n 1, 1) := by decide +kernel
theorem d_Course_mayClaim_56 : decode b_Course_mayClaim 56 = .ok (.invokevirtual 178, 3) := by decide +kernel
theorem d_Course_mayClaim_59 : decode b_Course_mayClaim 59 = .ok (.aload_n 0, 1) := by decide +kernel
theorem d_Course_mayClaim_60 : decode b_Course_mayClaim 60 = .ok (.getfield 66, 3) := by decide +kernel
theorem d_Course_mayClaim_63 : decode b_Course_mayClaim 63 = .ok (.aload_n 0, 1) := by decide +kernel
theorem d_Course_mayClaim_64 : decode b_Course_mayClaim 64 = .ok (.getfield 38, 3) := by decide +kernel
theorem d_Course_mayClaim_67 : decode b_Course_mayClaim 67 = .ok (.invokevirtual 182, 3) := by decide +kernel
theorem d_Course_mayClaim_70 : decode b_Course_mayClaim 70 = .ok (.ifCond .ne 7, 3) := by decide +kernel
theorem d_Course_mayClaim_73 : decode b_Course_mayClaim 73 = .ok (.iconst 1, 1) := by decide +kernel
theorem d_Course_mayClaim_74 : decode b_Course_mayClaim 74 = .ok (.goto 4, 3) := by decide +kernel
theorem d_Course_mayClaim_77 : decode b_Course_mayClaim 77 = .ok (.iconst 0, 1) := by decide +kernel
theorem d_Course_mayClaim_78 : decode b_Course_mayClaim 78 = .ok (.ireturn, 1) := by decide +kernel
theorem d_PaperBox_reaches_0 : decode b_PaperBox_reaches 0 = .ok (.aload_n 0, 1) := by decide +kernel
theorem d_PaperBox_reaches_1 : decode b_PaperBox_reaches 1 = .ok (.getfield 21, 3) := by decide +kernel
theorem d_PaperBox_reaches_4 : decode b_PaperBox_reaches 4 = .ok (.iload_n 1, 1) := by decide +kernel
theorem d_PaperBox_reaches_5 : decode b_PaperBox_reaches 5 = .ok (.iaload, 1) := by decide +kernel
theorem d_PaperBox_reaches_6 : decode b_PaperBox_reaches 6 = .ok (.iload_n 2, 1) := by decide +kernel
theorem d_PaperBox_reaches_7 : decode b_PaperBox_reaches 7 = .ok (.ishr, 1) := by decide +kernel
theorem d_PaperBox_reaches_8 : decode b_PaperBox_reaches 8 = .ok (.iconst 1, 1) := by decide +kernel
theorem d_PaperBox_reaches_9 : decode b_PaperBox_reaches 9 = .ok (.iand, 1) := by decide +kernel
theorem d_PaperBox_reaches_10 : decode b_PaperBox_reaches 10 = .ok (.iconst 1, 1) := by decide +kernel
theorem d_PaperBox_reaches_11 : decode b_PaperBox_reaches 11 = .ok (.if_icmp .ne 27, 3) := by decide +kernel
theorem d_PaperBox_reaches_14 : decode b_PaperBox_reaches 14 = .ok (.iload_n 3, 1) := by decide +kernel
theorem d_PaperBox_reaches_15 : decode b_PaperBox_reaches 15 = .ok (.aload_n 0, 1) := by decide +kernel
theorem d_PaperBox_reaches_16 : decode b_PaperBox_reaches 16 = .ok (.getfield 24, 3) := by decide +kernel
theorem d_PaperBox_reaches_19 : decode b_PaperBox_reaches 19 = .ok (.iload_n 1, 1) := by decide +kernel
theorem d_PaperBox_reaches_20 : decode b_PaperBox_reaches 20 = .ok (.iaload, 1) := by decide +kernel
theorem d_PaperBox_reaches_21 : decode b_PaperBox_reaches 21 = .ok (.if_icmp .lt 17, 3) := by decide +kernel
theorem d_PaperBox_reaches_24 : decode b_PaperBox_reaches 24 = .ok (.iload_n 3, 1) := by decide +kernel
theorem d_PaperBox_reaches_25 : decode b_PaperBox_reaches 25 = .ok (.aload_n 0, 1) := by decide +kernel
theorem d_PaperBox_reaches_26 : decode b_PaperBox_reaches 26 = .ok (.getfield 27, 3) := by decide +kernel
theorem d_PaperBox_reaches_29 : decode b_PaperBox_reaches 29 = .ok (.iload_n 1, 1) := by decide +kernel
theorem d_PaperBox_reaches_30 : decode b_PaperBox_reaches 30 = .ok (.iaload, 1) := by decide +kernel
theorem d_PaperBox_reaches_31 : decode b_PaperBox_reaches 31 = .ok (.if_icmp .gt 7, 3) := by decide +kernel
theorem d_PaperBox_reaches_34 : decode b_PaperBox_reaches 34 = .ok (.iconst 1, 1) := by decide +kernel
theorem d_PaperBox_reaches_35 : decode b_PaperBox_reaches 35 = .ok (.goto 4, 3) := by decide +kernel
theorem d_PaperBox_reaches_38 : decode b_PaperBox_reaches 38 = .ok (.iconst 0, 1) := by decide +kernel
theorem d_PaperBox_reaches_39 : decode b_PaperBox_reaches 39 = .ok (.ireturn, 1) := by decide +kernel
theorem d_Course_loadFacts_0 : decode b_Course_loadFacts 0 = .ok (.aload_n 1, 1) := by decide +kernel
theorem d_Course_loadFacts_1 : decode b_Course_loadFacts 1 = .ok (.iconst 0, 1) := by decide +kernel
theorem d_Course_loadFacts_2 : decode b_Course_loadFacts 2 = .ok (.aload_n 0, 1) := by decide +kernel
theorem d_Course_loadFacts_3 : decode b_Course_loadFacts 3 = .ok (.getfield 44, 3) := by decide +kernel
theorem d_Course_loadFacts_6 : decode b_Course_loadFacts 6 = .ok (.getfield 161, 3) := by decide +kernel
theorem d_Course_loadFacts_9 : decode b_Course_loadFacts 9 = .ok (.iload_n 2, 1) := by decide +kernel
theorem d_Course_loadFacts_10 : decode b_Course_loadFacts 10 = .ok (.iaload, 1) := by decide +kernel
theorem d_Course_loadFacts_11 : decode b_Course_loadFacts 11 = .ok (.iastore, 1) := by decide +kernel
theorem d_Course_loadFacts_12 : decode b_Course_loadFacts 12 = .ok (.aload_n 1, 1) := by decide +kernel
theorem d_Course_loadFacts_13 : decode b_Course_loadFacts 13 = .ok (.iconst 1, 1) := by decide +kernel
theorem d_Course_loadFacts_14 : decode b_Course_loadFacts 14 = .ok (.aload_n 0, 1) := by decide +kernel
theorem d_Course_loadFacts_15 : decode b_Course_loadFacts 15 = .ok (.getfield 44, 3) := by decide +kernel
theorem d_Course_loadFacts_18 : decode b_Course_loadFacts 18 = .ok (.getfield 192, 3) := by decide +kernel
theorem d_Course_loadFacts_21 : decode b_Course_loadFacts 21 = .ok (.iload_n 2, 1) := by decide +kernel
theorem d_Course_loadFacts_22 : decode b_Course_loadFacts 22 = .ok (.iaload, 1) := by decide +kernel
theorem d_Course_loadFacts_23 : decode b_Course_loadFacts 23 = .ok (.iastore, 1) := by decide +kernel
theorem d_Course_loadFacts_24 : decode b_Course_loadFacts 24 = .ok (.aload_n 1, 1) := by decide +kernel
theorem d_Course_loadFacts_25 : decode b_Course_loadFacts 25 = .ok (.iconst 2, 1) := by decide +kernel
theorem d_Course_loadFacts_26 : decode b_Course_loadFacts 26 = .ok (.aload_n 0, 1) := by decide +kernel
theorem d_Course_loadFacts_27 : decode b_Course_loadFacts 27 = .ok (.getfield 44, 3) := by decide +kernel
theorem d_Course_loadFacts_30 : decode b_Course_loadFacts 30 = .ok (.getfield 202, 3) := by decide +kernel
theorem d_Course_loadFacts_33 : decode b_Course_loadFacts 33 = .ok (.iload_n 3, 1) := by decide +kernel
theorem d_Course_loadFacts_34 : decode b_Course_loadFacts 34 = .ok (.iaload, 1) := by decide +kernel
theorem d_Course_loadFacts_35 : decode b_Course_loadFacts 35 = .ok (.iastore, 1) := by decide +kernel
theorem d_Course_loadFacts_36 : decode b_Course_loadFacts 36 = .ok (.aload_n 1, 1) := by decide +kernel
theorem d_Course_loadFacts_37 : decode b_Course_loadFacts 37 = .ok (.iconst 3, 1) := by decide +kernel
theorem d_Course_loadFacts_38 : decode b_Course_loadFacts 38 = .ok (.aload_n 0, 1) := by decide +kernel
theorem d_Course_loadFacts_39 : decode b_Course_loadFacts 39 = .ok (.getfield 44, 3) := by decide +kernel
theorem d_Course_loadFacts_42 : decode b_Course_loadFacts 42 = .ok (.getfield 205, 3) := by decide +kernel
theorem d_Course_loadFacts_45 : decode b_Course_loadFacts 45 = .ok (.iload_n 3, 1) := by decide +kernel
theorem d_Course_loadFacts_46 : decode b_Course_loadFacts 46 = .ok (.iaload, 1) := by decide +kernel
theorem d_Course_loadFacts_47 : decode b_Course_loadFacts 47 = .ok (.iastore, 1) := by decide +kernel
theorem d_Course_loadFacts_48 : decode b_Course_loadFacts 48 = .ok (.aload_n 1, 1) := by decide +kernel
theorem d_Course_loadFacts_49 : decode b_Course_loadFacts 49 = .ok (.iconst 4, 1) := by decide +kernel
theorem d_Course_loadFacts_50 : decode b_Course_loadFacts 50 = .ok (.aload_n 0, 1) := by decide +kernel
theorem d_Course_loadFacts_51 : decode b_Course_loadFacts 51 = .ok (.getfield 18, 3) := by decide +kernel
theorem d_Course_loadFacts_54 : decode b_Course_loadFacts 54 = .ok (.iload_n 3, 1) := by decide +kernel
theorem d_Course_loadFacts_55 : decode b_Course_loadFacts 55 = .ok (.iaload, 1) := by decide +kernel
theorem d_Course_loadFacts_56 : decode b_Course_loadFacts 56 = .ok (.iastore, 1) := by decide +kernel
theorem d_Course_loadFacts_57 : decode b_Course_loadFacts 57 = .ok (.aload_n 1, 1) := by decide +kernel
theorem d_Course_loadFacts_58 : decode b_Course_loadFacts 58 = .ok (.iconst 5, 1) := by decide +kernel
theorem d_Course_loadFacts_59 : decode b_Course_loadFacts 59 = .ok (.iload 4, 2) := by decide +kernel
theorem d_Course_loadFacts_61 : decode b_Course_loadFacts 61 = .ok (.iconst (-1), 1) := by decide +kernel
theorem d_Course_loadFacts_62 : decode b_Course_loadFacts 62 = .ok (.if_icmp .ne 7, 3) := by decide +kernel
theorem d_Course_loadFacts_65 : decode b_Course_loadFacts 65 = .ok (.iconst 0, 1) := by decide +kernel
theorem d_Course_loadFacts_66 : decode b_Course_loadFacts 66 = .ok (.goto 13, 3) := by decide +kernel
theorem d_Course_loadFacts_69 : decode b_Course_loadFacts 69 = .ok (.aload_n 0, 1) := by decide +kernel
theorem d_Course_loadFacts_70 : decode b_Course_loadFacts 70 = .ok (.getfield 48, 3) := by decide +kernel
theorem d_Course_loadFacts_73 : decode b_Course_loadFacts 73 = .ok (.getfield 208, 3) := by decide +kernel
theorem d_Course_loadFacts_76 : decode b_Course_loadFacts 76 = .ok (.iload 4, 2) := by decide +kernel
theorem d_Course_loadFacts_78 : decode b_Course_loadFacts 78 = .ok (.iaload, 1) := by decide +kernel
theorem d_Course_loadFacts_79 : decode b_Course_loadFacts 79 = .ok (.iastore, 1) := by decide +kernel
theorem d_Course_loadFacts_80 : decode b_Course_loadFacts 80 = .ok (.aload_n 1, 1) := by decide +kernel
theorem d_Course_loadFacts_81 : decode b_Course_loadFacts 81 = .ok (.bipush 6, 2) := by decide +kernel
theorem d_Course_loadFacts_83 : decode b_Course_loadFacts 83 = .ok (.iload 4, 2) := by decide +kernel
theorem d_Course_loadFacts_85 : decode b_Course_loadFacts 85 = .ok (.iconst (-1), 1) := by decide +kernel
theorem d_Course_loadFacts_86 : decode b_Course_loadFacts 86 = .ok (.if_icmp .eq 20, 3) := by decide +kernel
theorem d_Course_loadFacts_89 : decode b_Course_loadFacts 89 = .ok (.aload_n 0, 1) := by decide +kernel
theorem d_Course_loadFacts_90 : decode b_Course_loadFacts 90 = .ok (.getfield 124, 3) := by decide +kernel
theorem d_Course_loadFacts_93 : decode b_Course_loadFacts 93 = .ok (.aload_n 0, 1) := by decide +kernel
theorem d_Course_loadFacts_94 : decode b_Course_loadFacts 94 = .ok (.getfield 48, 3) := by decide +kernel
theorem d_Course_loadFacts_97 : decode b_Course_loadFacts 97 = .ok (.getfield 208, 3) := by decide +kernel
theorem d_Course_loadFacts_100 : decode b_Course_loadFacts 100 = .ok (.iload 4, 2) := by decide +kernel
theorem d_Course_loadFacts_102 : decode b_Course_loadFacts 102 = .ok (.iaload, 1) := by decide +kernel
theorem d_Course_loadFacts_103 : decode b_Course_loadFacts 103 = .ok (.if_icmp .ge 7, 3) := by decide +kernel
theorem d_Course_loadFacts_106 : decode b_Course_loadFacts 106 = .ok (.iconst 0, 1) := by decide +kernel
theorem d_Course_loadFacts_107 : decode b_Course_loadFacts 107 = .ok (.goto 22, 3) := by decide +kernel
theorem d_Course_loadFacts_110 : decode b_Course_loadFacts 110 = .ok (.aload_n 0, 1) := by decide +kernel
theorem d_Course_loadFacts_111 : decode b_Course_loadFacts 111 = .ok (.getfield 124, 3) := by decide +kernel
theorem d_Course_loadFacts_114 : decode b_Course_loadFacts 114 = .ok (.aload_n 0, 1) := by decide +kernel
theorem d_Course_loadFacts_115 : decode b_Course_loadFacts 115 = .ok (.getfield 48, 3) := by decide +kernel
theorem d_Course_loadFacts_118 : decode b_Course_loadFacts 118 = .ok (.getfield 208, 3) := by decide +kernel
theorem d_Course_loadFacts_121 : decode b_Course_loadFacts 121 = .ok (.iload 4, 2) := by decide +kernel
theorem d_Course_loadFacts_123 : decode b_Course_loadFacts 123 = .ok (.iaload, 1) := by decide +kernel
theorem d_Course_loadFacts_124 : decode b_Course_loadFacts 124 = .ok (.isub, 1) := by decide +kernel
theorem d_Course_loadFacts_125 : decode b_Course_loadFacts 125 = .ok (.sipush 1440, 3) := by decide +kernel
theorem d_Course_loadFacts_128 : decode b_Course_loadFacts 128 = .ok (.idiv, 1) := by decide +kernel
theorem d_Course_loadFacts_129 : decode b_Course_loadFacts 129 = .ok (.iastore, 1) := by decide +kernel
theorem d_Course_loadFacts_130 : decode b_Course_loadFacts 130 = .ok (.aload_n 1, 1) := by decide +kernel
theorem d_Course_loadFacts_131 : decode b_Course_loadFacts 131 = .ok (.bipush 7, 2) := by decide +kernel
theorem d_Course_loadFacts_133 : decode b_Course_loadFacts 133 = .ok (.aload_n 0, 1) := by decide +kernel
theorem d_Course_loadFacts_134 : decode b_Course_loadFacts 134 = .ok (.getfield 44, 3) := by decide +kernel
theorem d_Course_loadFacts_137 : decode b_Course_loadFacts 137 = .ok (.getfield 211, 3) := by decide +kernel
theorem d_Course_loadFacts_140 : decode b_Course_loadFacts 140 = .ok (.iload_n 3, 1) := by decide +kernel
theorem d_Course_loadFacts_141 : decode b_Course_loadFacts 141 = .ok (.iaload, 1) := by decide +kernel
theorem d_Course_loadFacts_142 : decode b_Course_loadFacts 142 = .ok (.aload_n 0, 1) := by decide +kernel
theorem d_Course_loadFacts_143 : decode b_Course_loadFacts 143 = .ok (.getfield 44, 3) := by decide +kernel
theorem d_Course_loadFacts_146 : decode b_Course_loadFacts 146 = .ok (.getfield 192, 3) := by decide +kernel
theorem d_Course_loadFacts_149 : decode b_Course_loadFacts 149 = .ok (.iload_n 2, 1) := by decide +kernel
theorem d_Course_loadFacts_150 : decode b_Course_loadFacts 150 = .ok (.iaload, 1) := by decide +kernel
theorem d_Course_loadFacts_151 : decode b_Course_loadFacts 151 = .ok (.if_icmp .ne 7, 3) := by decide +kernel
theorem d_Course_loadFacts_154 : decode b_Course_loadFacts 154 = .ok (.iconst 1, 1) := by decide +kernel
theorem d_Course_loadFacts_155 : decode b_Course_loadFacts 155 = .ok (.goto 4, 3) := by decide +kernel
theorem d_Course_loadFacts_158 : decode b_Course_loadFacts 158 = .ok (.iconst 0, 1) := by decide +kernel
theorem d_Course_loadFacts_159 : decode b_Course_loadFacts 159 = .ok (.iastore, 1) := by decide +kernel
theorem d_Course_loadFacts_160 : decode b_Course_loadFacts 160 = .ok (.aload_n 1, 1) := by decide +kernel
theorem d_Course_loadFacts_161 : decode b_Course_loadFacts 161 = .ok (.bipush 8, 2) := by decide +kernel
theorem d_Course_loadFacts_163 : decode b_Course_loadFacts 163 = .ok (.iload 4, 2) := by decide +kernel
theorem d_Course_loadFacts_165 : decode b_Course_loadFacts 165 = .ok (.iconst (-1), 1) := by decide +kernel
theorem d_Course_loadFacts_166 : decode b_Course_loadFacts 166 = .ok (.if_icmp .ne 7, 3) := by decide +kernel
theorem d_Course_loadFacts_169 : decode b_Course_loadFacts 169 = .ok (.iconst 0, 1) := by decide +kernel
theorem d_Course_loadFacts_170 : decode b_Course_loadFacts 170 = .ok (.goto 13, 3) := by decide +kernel
theorem d_Course_loadFacts_173 : decode b_Course_loadFacts 173 = .ok (.aload_n 0, 1) := by decide +kernel
theorem d_Course_loadFacts_174 : decode b_Course_loadFacts 174 = .ok (.getfield 48, 3) := by decide +kernel
theorem d_Course_loadFacts_177 : decode b_Course_loadFacts 177 = .ok (.getfield 214, 3) := by decide +kernel
theorem d_Course_loadFacts_180 : decode b_Course_loadFacts 180 = .ok (.iload 4, 2) := by decide +kernel
theorem d_Course_loadFacts_182 : decode b_Course_loadFacts 182 = .ok (.iaload, 1) := by decide +kernel
theorem d_Course_loadFacts_183 : decode b_Course_loadFacts 183 = .ok (.iastore, 1) := by decide +kernel
theorem d_Course_loadFacts_184 : decode b_Course_loadFacts 184 = .ok (.return_, 1) := by decide +kernel
theorem d_RuleBook_bars_0 : decode b_RuleBook_bars 0 = .ok (.iconst 0, 1) := by decide +kernel
theorem d_RuleBook_bars_1 : decode b_RuleBook_bars 1 = .ok (.istore_n 2, 1) := by decide +kernel
theorem d_RuleBook_bars_2 : decode b_RuleBook_bars 2 = .ok (.iload_n 2, 1) := by decide +kernel
theorem d_RuleBook_bars_3 : decode b_RuleBook_bars 3 = .ok (.aload_n 0, 1) := by decide +kernel
theorem d_RuleBook_bars_4 : decode b_RuleBook_bars 4 = .ok (.getfield 33, 3) := by decide +kernel
theorem d_RuleBook_bars_7 : decode b_RuleBook_bars 7 = .ok (.if_icmp .ge 31, 3) := by decide +kernel
theorem d_RuleBook_bars_10 : decode b_RuleBook_bars 10 = .ok (.aload_n 0, 1) := by decide +kernel
theorem d_RuleBook_bars_11 : decode b_RuleBook_bars 11 = .ok (.getfield 9, 3) := by decide +kernel
theorem d_RuleBook_bars_14 : decode b_RuleBook_bars 14 = .ok (.iload_n 2, 1) := by decide +kernel
theorem d_RuleBook_bars_15 : decode b_RuleBook_bars 15 = .ok (.iaload, 1) := by decide +kernel
theorem d_RuleBook_bars_16 : decode b_RuleBook_bars 16 = .ok (.bipush 11, 2) := by decide +kernel
theorem d_RuleBook_bars_18 : decode b_RuleBook_bars 18 = .ok (.if_icmp .ne 14, 3) := by decide +kernel
theorem d_RuleBook_bars_21 : decode b_RuleBook_bars 21 = .ok (.aload_n 0, 1) := by decide +kernel
theorem d_RuleBook_bars_22 : decode b_RuleBook_bars 22 = .ok (.iload_n 2, 1) := by decide +kernel
theorem d_RuleBook_bars_23 : decode b_RuleBook_bars 23 = .ok (.aload_n 1, 1) := by decide +kernel
theorem d_RuleBook_bars_24 : decode b_RuleBook_bars 24 = .ok (.invokevirtual 50, 3) := by decide +kernel
theorem d_RuleBook_bars_27 : decode b_RuleBook_bars 27 = .ok (.ifCond .eq 5, 3) := by decide +kernel
theorem d_RuleBook_bars_30 : decode b_RuleBook_bars 30 = .ok (.iconst 1, 1) := by decide +kernel
theorem d_RuleBook_bars_31 : decode b_RuleBook_bars 31 = .ok (.ireturn, 1) := by decide +kernel
theorem d_RuleBook_bars_32 : decode b_RuleBook_bars 32 = .ok (.iinc 2 1, 3) := by decide +kernel
theorem d_RuleBook_bars_35 : decode b_RuleBook_bars 35 = .ok (.goto (-33), 3) := by decide +kernel
theorem d_RuleBook_bars_38 : decode b_RuleBook_bars 38 = .ok (.iconst 0, 1) := by decide +kernel
theorem d_RuleBook_bars_39 : decode b_RuleBook_bars 39 = .ok (.ireturn, 1) := by decide +kernel
theorem d_RuleBook_testsHold_0 : decode b_RuleBook_testsHold 0 = .ok (.aload_n 0, 1) := by decide +kernel
theorem d_RuleBook_testsHold_1 : decode b_RuleBook_testsHold 1 = .ok (.getfield 18, 3) := by decide +kernel
theorem d_RuleBook_testsHold_4 : decode b_RuleBook_testsHold 4 = .ok (.iload_n 1, 1) := by decide +kernel
theorem d_RuleBook_testsHold_5 : decode b_RuleBook_testsHold 5 = .ok (.iaload, 1) := by decide +kernel
theorem d_RuleBook_testsHold_6 : decode b_RuleBook_testsHold 6 = .ok (.istore_n 3, 1) := by decide +kernel
theorem d_RuleBook_testsHold_7 : decode b_RuleBook_testsHold 7 = .ok (.iload_n 3, 1) := by decide +kernel
theorem d_RuleBook_testsHold_8 : decode b_RuleBook_testsHold 8 = .ok (.aload_n 0, 1) := by decide +kernel
theorem d_RuleBook_testsHold_9 : decode b_RuleBook_testsHold 9 = .ok (.getfield 21, 3) := by decide +kernel
theorem d_RuleBook_testsHold_12 : decode b_RuleBook_testsHold 12 = .ok (.iload_n 1, 1) := by decide +kernel
theorem d_RuleBook_testsHold_13 : decode b_RuleBook_testsHold 13 = .ok (.iaload, 1) := by decide +kernel
theorem d_RuleBook_testsHold_14 : decode b_RuleBook_testsHold 14 = .ok (.if_icmp .ge 65, 3) := by decide +kernel
theorem d_RuleBook_testsHold_17 : decode b_RuleBook_testsHold 17 = .ok (.aload_n 2, 1) := by decide +kernel
theorem d_RuleBook_testsHold_18 : decode b_RuleBook_testsHold 18 = .ok (.aload_n 0, 1) := by decide +kernel
theorem d_RuleBook_testsHold_19 : decode b_RuleBook_testsHold 19 = .ok (.getfield 24, 3) := by decide +kernel
theorem d_RuleBook_testsHold_22 : decode b_RuleBook_testsHold 22 = .ok (.iload_n 3, 1) := by decide +kernel
theorem d_RuleBook_testsHold_23 : decode b_RuleBook_testsHold 23 = .ok (.iaload, 1) := by decide +kernel
theorem d_RuleBook_testsHold_24 : decode b_RuleBook_testsHold 24 = .ok (.iaload, 1) := by decide +kernel
theorem d_RuleBook_testsHold_25 : decode b_RuleBook_testsHold 25 = .ok (.istore 4, 2) := by decide +kernel
theorem d_RuleBook_testsHold_27 : decode b_RuleBook_testsHold 27 = .ok (.iload 4, 2) := by decide +kernel
theorem d_RuleBook_testsHold_29 : decode b_RuleBook_testsHold 29 = .ok (.aload_n 0, 1) := by decide +kernel
theorem d_RuleBook_testsHold_30 : decode b_RuleBook_testsHold 30 = .ok (.getfield 30, 3) := by decide +kernel
theorem d_RuleBook_testsHold_33 : decode b_RuleBook_testsHold 33 = .ok (.iload_n 3, 1) := by decide +kernel
theorem d_RuleBook_testsHold_34 : decode b_RuleBook_testsHold 34 = .ok (.iaload, 1) := by decide +kernel
theorem d_RuleBook_testsHold_35 : decode b_RuleBook_testsHold 35 = .ok (.if_icmp .ge 7, 3) := by decide +kernel
theorem d_RuleBook_testsHold_38 : decode b_RuleBook_testsHold 38 = .ok (.iconst (-1), 1) := by decide +kernel
theorem d_RuleBook_testsHold_39 : decode b_RuleBook_testsHold 39 = .ok (.goto 19, 3) := by decide +kernel
theorem d_RuleBook_testsHold_42 : decode b_RuleBook_testsHold 42 = .ok (.iload 4, 2) := by decide +kernel
theorem d_RuleBook_testsHold_44 : decode b_RuleBook_testsHold 44 = .ok (.aload_n 0, 1) := by decide +kernel
theorem d_RuleBook_testsHold_45 : decode b_RuleBook_testsHold 45 = .ok (.getfield 30, 3) := by decide +kernel
theorem d_RuleBook_testsHold_48 : decode b_RuleBook_testsHold 48 = .ok (.iload_n 3, 1) := by decide +kernel
theorem d_RuleBook_testsHold_49 : decode b_RuleBook_testsHold 49 = .ok (.iaload, 1) := by decide +kernel
theorem d_RuleBook_testsHold_50 : decode b_RuleBook_testsHold 50 = .ok (.if_icmp .le 7, 3) := by decide +kernel
theorem d_RuleBook_testsHold_53 : decode b_RuleBook_testsHold 53 = .ok (.iconst 1, 1) := by decide +kernel
theorem d_RuleBook_testsHold_54 : decode b_RuleBook_testsHold 54 = .ok (.goto 4, 3) := by decide +kernel
theorem d_RuleBook_testsHold_57 : decode b_RuleBook_testsHold 57 = .ok (.iconst 0, 1) := by decide +kernel
theorem d_RuleBook_testsHold_58 : decode b_RuleBook_testsHold 58 = .ok (.istore 5, 2) := by decide +kernel
theorem d_RuleBook_testsHold_60 : decode b_RuleBook_testsHold 60 = .ok (.iload 5, 2) := by decide +kernel
theorem d_RuleBook_testsHold_62 : decode b_RuleBook_testsHold 62 = .ok (.aload_n 0, 1) := by decide +kernel
theorem d_RuleBook_testsHold_63 : decode b_RuleBook_testsHold 63 = .ok (.getfield 27, 3) := by decide +kernel
theorem d_RuleBook_testsHold_66 : decode b_RuleBook_testsHold 66 = .ok (.iload_n 3, 1) := by decide +kernel
theorem d_RuleBook_testsHold_67 : decode b_RuleBook_testsHold 67 = .ok (.iaload, 1) := by decide +kernel
theorem d_RuleBook_testsHold_68 : decode b_RuleBook_testsHold 68 = .ok (.if_icmp .eq 5, 3) := by decide +kernel
theorem d_RuleBook_testsHold_71 : decode b_RuleBook_testsHold 71 = .ok (.iconst 0, 1) := by decide +kernel
theorem d_RuleBook_testsHold_72 : decode b_RuleBook_testsHold 72 = .ok (.ireturn, 1) := by decide +kernel
theorem d_RuleBook_testsHold_73 : decode b_RuleBook_testsHold 73 = .ok (.iinc 3 1, 3) := by decide +kernel
theorem d_RuleBook_testsHold_76 : decode b_RuleBook_testsHold 76 = .ok (.goto (-69), 3) := by decide +kernel
theorem d_RuleBook_testsHold_79 : decode b_RuleBook_testsHold 79 = .ok (.iconst 1, 1) := by decide +kernel
theorem d_RuleBook_testsHold_80 : decode b_RuleBook_testsHold 80 = .ok (.ireturn, 1) := by decide +kernel
theorem d_Course_use_0 : decode b_Course_use 0 = .ok (.aload_n 0, 1) := by decide +kernel
theorem d_Course_use_1 : decode b_Course_use 1 = .ok (.getfield 29, 3) := by decide +kernel
theorem d_Course_use_4 : decode b_Course_use 4 = .ok (.iload_n 1, 1) := by decide +kernel
theorem d_Course_use_5 : decode b_Course_use 5 = .ok (.iconst 0, 1) := by decide +kernel
theorem d_Course_use_6 : decode b_Course_use 6 = .ok (.bastore, 1) := by decide +kernel
theorem d_Course_use_7 : decode b_Course_use 7 = .ok (.aload_n 0, 1) := by decide +kernel
theorem d_Course_use_8 : decode b_Course_use 8 = .ok (.getfield 32, 3) := by decide +kernel
theorem d_Course_use_11 : decode b_Course_use 11 = .ok (.iload_n 1, 1) := by decide +kernel
theorem d_Course_use_12 : decode b_Course_use 12 = .ok (.iload_n 2, 1) := by decide +kernel
theorem d_Course_use_13 : decode b_Course_use 13 = .ok (.iastore, 1) := by decide +kernel
theorem d_Course_use_14 : decode b_Course_use 14 = .ok (.aload_n 0, 1) := by decide +kernel
theorem d_Course_use_15 : decode b_Course_use 15 = .ok (.getfield 35, 3) := by decide +kernel
theorem d_Course_use_18 : decode b_Course_use 18 = .ok (.iload_n 1, 1) := by decide +kernel
theorem d_Course_use_19 : decode b_Course_use 19 = .ok (.aload_n 0, 1) := by decide +kernel
theorem d_Course_use_20 : decode b_Course_use 20 = .ok (.getfield 124, 3) := by decide +kernel
theorem d_Course_use_23 : decode b_Course_use 23 = .ok (.iastore, 1) := by decide +kernel
theorem d_Course_use_24 : decode b_Course_use 24 = .ok (.aload_n 0, 1) := by decide +kernel
theorem d_Course_use_25 : decode b_Course_use 25 = .ok (.iload_n 2, 1) := by decide +kernel
theorem d_Course_use_26 : decode b_Course_use 26 = .ok (.aload_n 0, 1) := by decide +kernel
theorem d_Course_use_27 : decode b_Course_use 27 = .ok (.getfield 48, 3) := by decide +kernel
theorem d_Course_use_30 : decode b_Course_use 30 = .ok (.getfield 158, 3) := by decide +kernel
theorem d_Course_use_33 : decode b_Course_use 33 = .ok (.iload_n 1, 1) := by decide +kernel
theorem d_Course_use_34 : decode b_Course_use 34 = .ok (.iaload, 1) := by decide +kernel
theorem d_Course_use_35 : decode b_Course_use 35 = .ok (.invokevirtual 173, 3) := by decide +kernel
theorem d_Course_use_38 : decode b_Course_use 38 = .ok (.return_, 1) := by decide +kernel
theorem d_Course_give_0 : decode b_Course_give 0 = .ok (.aload_n 0, 1) := by decide +kernel
theorem d_Course_give_1 : decode b_Course_give 1 = .ok (.getfield 9, 3) := by decide +kernel
theorem d_Course_give_4 : decode b_Course_give 4 = .ok (.iload_n 1, 1) := by decide +kernel
theorem d_Course_give_5 : decode b_Course_give 5 = .ok (.iaload, 1) := by decide +kernel
theorem d_Course_give_6 : decode b_Course_give 6 = .ok (.iconst (-1), 1) := by decide +kernel
theorem d_Course_give_7 : decode b_Course_give 7 = .ok (.if_icmp .eq 40, 3) := by decide +kernel
theorem d_Course_give_10 : decode b_Course_give 10 = .ok (.aload_n 0, 1) := by decide +kernel
theorem d_Course_give_11 : decode b_Course_give 11 = .ok (.getfield 21, 3) := by decide +kernel
theorem d_Course_give_14 : decode b_Course_give 14 = .ok (.aload_n 0, 1) := by decide +kernel
theorem d_Course_give_15 : decode b_Course_give 15 = .ok (.getfield 9, 3) := by decide +kernel
theorem d_Course_give_18 : decode b_Course_give 18 = .ok (.iload_n 1, 1) := by decide +kernel
theorem d_Course_give_19 : decode b_Course_give 19 = .ok (.iaload, 1) := by decide +kernel
theorem d_Course_give_20 : decode b_Course_give 20 = .ok (.dup2, 1) := by decide +kernel
theorem d_Course_give_21 : decode b_Course_give 21 = .ok (.laload, 1) := by decide +kernel
theorem d_Course_give_22 : decode b_Course_give 22 = .ok (.aload_n 0, 1) := by decide +kernel
theorem d_Course_give_23 : decode b_Course_give 23 = .ok (.getfield 44, 3) := by decide +kernel
theorem d_Course_give_26 : decode b_Course_give 26 = .ok (.getfield 161, 3) := by decide +kernel
theorem d_Course_give_29 : decode b_Course_give 29 = .ok (.iload_n 1, 1) := by decide +kernel
theorem d_Course_give_30 : decode b_Course_give 30 = .ok (.iaload, 1) := by decide +kernel
theorem d_Course_give_31 : decode b_Course_give 31 = .ok (.i2l, 1) := by decide +kernel
theorem d_Course_give_32 : decode b_Course_give 32 = .ok (.aload_n 0, 1) := by decide +kernel
theorem d_Course_give_33 : decode b_Course_give 33 = .ok (.getfield 124, 3) := by decide +kernel
theorem d_Course_give_36 : decode b_Course_give 36 = .ok (.aload_n 0, 1) := by decide +kernel
theorem d_Course_give_37 : decode b_Course_give 37 = .ok (.getfield 15, 3) := by decide +kernel
theorem d_Course_give_40 : decode b_Course_give 40 = .ok (.iload_n 1, 1) := by decide +kernel
theorem d_Course_give_41 : decode b_Course_give 41 = .ok (.iaload, 1) := by decide +kernel
theorem d_Course_give_42 : decode b_Course_give 42 = .ok (.isub, 1) := by decide +kernel
theorem d_Course_give_43 : decode b_Course_give 43 = .ok (.i2l, 1) := by decide +kernel
theorem d_Course_give_44 : decode b_Course_give 44 = .ok (.lmul, 1) := by decide +kernel
theorem d_Course_give_45 : decode b_Course_give 45 = .ok (.ladd, 1) := by decide +kernel
theorem d_Course_give_46 : decode b_Course_give 46 = .ok (.lastore, 1) := by decide +kernel
theorem d_Course_give_47 : decode b_Course_give 47 = .ok (.aload_n 0, 1) := by decide +kernel
theorem d_Course_give_48 : decode b_Course_give 48 = .ok (.getfield 15, 3) := by decide +kernel
theorem d_Course_give_51 : decode b_Course_give 51 = .ok (.iload_n 1, 1) := by decide +kernel
theorem d_Course_give_52 : decode b_Course_give 52 = .ok (.aload_n 0, 1) := by decide +kernel
theorem d_Course_give_53 : decode b_Course_give 53 = .ok (.getfield 124, 3) := by decide +kernel
theorem d_Course_give_56 : decode b_Course_give 56 = .ok (.iastore, 1) := by decide +kernel
theorem d_Course_give_57 : decode b_Course_give 57 = .ok (.aload_n 0, 1) := by decide +kernel
theorem d_Course_give_58 : decode b_Course_give 58 = .ok (.iload_n 1, 1) := by decide +kernel
theorem d_Course_give_59 : decode b_Course_give 59 = .ok (.iload_n 2, 1) := by decide +kernel
theorem d_Course_give_60 : decode b_Course_give 60 = .ok (.invokevirtual 121, 3) := by decide +kernel
theorem d_Course_give_63 : decode b_Course_give 63 = .ok (.return_, 1) := by decide +kernel
theorem d_Course_die_0 : decode b_Course_die 0 = .ok (.aload_n 0, 1) := by decide +kernel
theorem d_Course_die_1 : decode b_Course_die 1 = .ok (.getfield 25, 3) := by decide +kernel
theorem d_Course_die_4 : decode b_Course_die 4 = .ok (.iload_n 1, 1) := by decide +kernel
theorem d_Course_die_5 : decode b_Course_die 5 = .ok (.baload, 1) := by decide +kernel
theorem d_Course_die_6 : decode b_Course_die 6 = .ok (.ifCond .eq 4, 3) := by decide +kernel
theorem d_Course_die_9 : decode b_Course_die 9 = .ok (.return_, 1) := by decide +kernel
theorem d_Course_die_10 : decode b_Course_die 10 = .ok (.aload_n 0, 1) := by decide +kernel
theorem d_Course_die_11 : decode b_Course_die 11 = .ok (.getfield 25, 3) := by decide +kernel
theorem d_Course_die_14 : decode b_Course_die 14 = .ok (.iload_n 1, 1) := by decide +kernel
theorem d_Course_die_15 : decode b_Course_die 15 = .ok (.iconst 1, 1) := by decide +kernel
theorem d_Course_die_16 : decode b_Course_die 16 = .ok (.bastore, 1) := by decide +kernel
theorem d_Course_die_17 : decode b_Course_die 17 = .ok (.iconst 0, 1) := by decide +kernel
theorem d_Course_die_18 : decode b_Course_die 18 = .ok (.istore_n 2, 1) := by decide +kernel
theorem d_Course_die_19 : decode b_Course_die 19 = .ok (.iload_n 2, 1) := by decide +kernel
theorem d_Course_die_20 : decode b_Course_die 20 = .ok (.aload_n 0, 1) := by decide +kernel
theorem d_Course_die_21 : decode b_Course_die 21 = .ok (.getfield 48, 3) := by decide +kernel
theorem d_Course_die_24 : decode b_Course_die 24 = .ok (.getfield 170, 3) := by decide +kernel
theorem d_Course_die_27 : decode b_Course_die 27 = .ok (.if_icmp .ge 29, 3) := by decide +kernel
theorem d_Course_die_30 : decode b_Course_die 30 = .ok (.aload_n 0, 1) := by decide +kernel
theorem d_Course_die_31 : decode b_Course_die 31 = .ok (.getfield 48, 3) := by decide +kernel
theorem d_Course_die_34 : decode b_Course_die 34 = .ok (.getfield 158, 3) := by decide +kernel
theorem d_Course_die_37 : decode b_Course_die 37 = .ok (.iload_n 2, 1) := by decide +kernel
theorem d_Course_die_38 : decode b_Course_die 38 = .ok (.iaload, 1) := by decide +kernel
theorem d_Course_die_39 : decode b_Course_die 39 = .ok (.iload_n 1, 1) := by decide +kernel
theorem d_Course_die_40 : decode b_Course_die 40 = .ok (.if_icmp .ne 10, 3) := by decide +kernel
theorem d_Course_die_43 : decode b_Course_die 43 = .ok (.aload_n 0, 1) := by decide +kernel
theorem d_Course_die_44 : decode b_Course_die 44 = .ok (.getfield 29, 3) := by decide +kernel
theorem d_Course_die_47 : decode b_Course_die 47 = .ok (.iload_n 2, 1) := by decide +kernel
theorem d_Course_die_48 : decode b_Course_die 48 = .ok (.iconst 0, 1) := by decide +kernel
theorem d_Course_die_49 : decode b_Course_die 49 = .ok (.bastore, 1) := by decide +kernel
theorem d_Course_die_50 : decode b_Course_die 50 = .ok (.iinc 2 1, 3) := by decide +kernel
theorem d_Course_die_53 : decode b_Course_die 53 = .ok (.goto (-34), 3) := by decide +kernel
theorem d_Course_die_56 : decode b_Course_die 56 = .ok (.iconst 0, 1) := by decide +kernel
theorem d_Course_die_57 : decode b_Course_die 57 = .ok (.istore_n 2, 1) := by decide +kernel
theorem d_Course_die_58 : decode b_Course_die 58 = .ok (.iload_n 2, 1) := by decide +kernel
theorem d_Course_die_59 : decode b_Course_die 59 = .ok (.aload_n 0, 1) := by decide +kernel
theorem d_Course_die_60 : decode b_Course_die 60 = .ok (.getfield 44, 3) := by decide +kernel
theorem d_Course_die_63 : decode b_Course_die 63 = .ok (.getfield 115, 3) := by decide +kernel
theorem d_Course_die_66 : decode b_Course_die 66 = .ok (.if_icmp .ge 30, 3) := by decide +kernel
theorem d_Course_die_69 : decode b_Course_die 69 = .ok (.aload_n 0, 1) := by decide +kernel
theorem d_Course_die_70 : decode b_Course_die 70 = .ok (.getfield 9, 3) := by decide +kernel
theorem d_Course_die_73 : decode b_Course_die 73 = .ok (.iload_n 2, 1) := by decide +kernel
theorem d_Course_die_74 : decode b_Course_die 74 = .ok (.iaload, 1) := by decide +kernel
theorem d_Course_die_75 : decode b_Course_die 75 = .ok (.iload_n 1, 1) := by decide +kernel
theorem d_Course_die_76 : decode b_Course_die 76 = .ok (.if_icmp .ne 14, 3) := by decide +kernel
theorem d_Course_die_79 : decode b_Course_die 79 = .ok (.aload_n 0, 1) := by decide +kernel
theorem d_Course_die_80 : decode b_Course_die 80 = .ok (.iload_n 2, 1) := by decide +kernel
theorem d_Course_die_81 : decode b_Course_die 81 = .ok (.iconst (-1), 1) := by decide +kernel
theorem d_Course_die_82 : decode b_Course_die 82 = .ok (.invokevirtual 173, 3) := by decide +kernel
theorem d_Course_die_85 : decode b_Course_die 85 = .ok (.aload_n 0, 1) := by decide +kernel
theorem d_Course_die_86 : decode b_Course_die 86 = .ok (.iload_n 2, 1) := by decide +kernel
theorem d_Course_die_87 : decode b_Course_die 87 = .ok (.invokevirtual 176, 3) := by decide +kernel
theorem d_Course_die_90 : decode b_Course_die 90 = .ok (.iinc 2 1, 3) := by decide +kernel
theorem d_Course_die_93 : decode b_Course_die 93 = .ok (.goto (-35), 3) := by decide +kernel
theorem d_Course_die_96 : decode b_Course_die 96 = .ok (.return_, 1) := by decide +kernel
theorem d_Course_fill_0 : decode b_Course_fill 0 = .ok (.iconst (-1), 1) := by decide +kernel
theorem d_Course_fill_1 : decode b_Course_fill 1 = .ok (.istore_n 2, 1) := by decide +kernel
theorem d_Course_fill_2 : decode b_Course_fill 2 = .ok (.iconst 0, 1) := by decide +kernel
theorem d_Course_fill_3 : decode b_Course_fill 3 = .ok (.istore_n 3, 1) := by decide +kernel
theorem d_Course_fill_4 : decode b_Course_fill 4 = .ok (.iload_n 3, 1) := by decide +kernel
theorem d_Course_fill_5 : decode b_Course_fill 5 = .ok (.aload_n 0, 1) := by decide +kernel
theorem d_Course_fill_6 : decode b_Course_fill 6 = .ok (.getfield 48, 3) := by decide +kernel
theorem d_Course_fill_9 : decode b_Course_fill 9 = .ok (.getfield 170, 3) := by decide +kernel
theorem d_Course_fill_12 : decode b_Course_fill 12 = .ok (.if_icmp .ge 35, 3) := by decide +kernel
theorem d_Course_fill_15 : decode b_Course_fill 15 = .ok (.aload_n 0, 1) := by decide +kernel
theorem d_Course_fill_16 : decode b_Course_fill 16 = .ok (.iload_n 3, 1) := by decide +kernel
theorem d_Course_fill_17 : decode b_Course_fill 17 = .ok (.iload_n 1, 1) := by decide +kernel
theorem d_Course_fill_18 : decode b_Course_fill 18 = .ok (.invokevirtual 164, 3) := by decide +kernel
theorem d_Course_fill_21 : decode b_Course_fill 21 = .ok (.ifCond .eq 20, 3) := by decide +kernel
theorem d_Course_fill_24 : decode b_Course_fill 24 = .ok (.iload_n 2, 1) := by decide +kernel
theorem d_Course_fill_25 : decode b_Course_fill 25 = .ok (.iconst (-1), 1) := by decide +kernel
theorem d_Course_fill_26 : decode b_Course_fill 26 = .ok (.if_icmp .eq 13, 3) := by decide +kernel
theorem d_Course_fill_29 : decode b_Course_fill 29 = .ok (.aload_n 0, 1) := by decide +kernel
theorem d_Course_fill_30 : decode b_Course_fill 30 = .ok (.iload_n 3, 1) := by decide +kernel
theorem d_Course_fill_31 : decode b_Course_fill 31 = .ok (.iload_n 2, 1) := by decide +kernel
theorem d_Course_fill_32 : decode b_Course_fill 32 = .ok (.iload_n 1, 1) := by decide +kernel
theorem d_Course_fill_33 : decode b_Course_fill 33 = .ok (.invokevirtual 188, 3) := by decide +kernel
theorem d_Course_fill_36 : decode b_Course_fill 36 = .ok (.ifCond .lt 5, 3) := by decide +kernel
theorem d_Course_fill_39 : decode b_Course_fill 39 = .ok (.iload_n 3, 1) := by decide +kernel
theorem d_Course_fill_40 : decode b_Course_fill 40 = .ok (.istore_n 2, 1) := by decide +kernel
theorem d_Course_fill_41 : decode b_Course_fill 41 = .ok (.iinc 3 1, 3) := by decide +kernel
theorem d_Course_fill_44 : decode b_Course_fill 44 = .ok (.goto (-40), 3) := by decide +kernel
theorem d_Course_fill_47 : decode b_Course_fill 47 = .ok (.iload_n 2, 1) := by decide +kernel
theorem d_Course_fill_48 : decode b_Course_fill 48 = .ok (.iconst (-1), 1) := by decide +kernel
theorem d_Course_fill_49 : decode b_Course_fill 49 = .ok (.if_icmp .eq 9, 3) := by decide +kernel
theorem d_Course_fill_52 : decode b_Course_fill 52 = .ok (.aload_n 0, 1) := by decide +kernel
theorem d_Course_fill_53 : decode b_Course_fill 53 = .ok (.iload_n 2, 1) := by decide +kernel
theorem d_Course_fill_54 : decode b_Course_fill 54 = .ok (.iload_n 1, 1) := by decide +kernel
theorem d_Course_fill_55 : decode b_Course_fill 55 = .ok (.invokevirtual 167, 3) := by decide +kernel
theorem d_Course_fill_58 : decode b_Course_fill 58 = .ok (.return_, 1) := by decide +kernel
theorem d_Course_duel_0 : decode b_Course_duel 0 = .ok (.aload_n 0, 1) := by decide +kernel
theorem d_Course_duel_1 : decode b_Course_duel 1 = .ok (.aload_n 0, 1) := by decide +kernel
theorem d_Course_duel_2 : decode b_Course_duel 2 = .ok (.getfield 38, 3) := by decide +kernel
theorem d_Course_duel_5 : decode b_Course_duel 5 = .ok (.iload_n 3, 1) := by decide +kernel
theorem d_Course_duel_6 : decode b_Course_duel 6 = .ok (.aload_n 0, 1) := by decide +kernel
theorem d_Course_duel_7 : decode b_Course_duel 7 = .ok (.getfield 48, 3) := by decide +kernel
theorem d_Course_duel_10 : decode b_Course_duel 10 = .ok (.getfield 158, 3) := by decide +kernel
theorem d_Course_duel_13 : decode b_Course_duel 13 = .ok (.iload_n 1, 1) := by decide +kernel
theorem d_Course_duel_14 : decode b_Course_duel 14 = .ok (.iaload, 1) := by decide +kernel
theorem d_Course_duel_15 : decode b_Course_duel 15 = .ok (.iload_n 1, 1) := by decide +kernel
theorem d_Course_duel_16 : decode b_Course_duel 16 = .ok (.invokevirtual 178, 3) := by decide +kernel
theorem d_Course_duel_19 : decode b_Course_duel 19 = .ok (.aload_n 0, 1) := by decide +kernel
theorem d_Course_duel_20 : decode b_Course_duel 20 = .ok (.aload_n 0, 1) := by decide +kernel
theorem d_Course_duel_21 : decode b_Course_duel 21 = .ok (.getfield 41, 3) := by decide +kernel
theorem d_Course_duel_24 : decode b_Course_duel 24 = .ok (.iload_n 3, 1) := by decide +kernel
theorem d_Course_duel_25 : decode b_Course_duel 25 = .ok (.aload_n 0, 1) := by decide +kernel
theorem d_Course_duel_26 : decode b_Course_duel 26 = .ok (.getfield 48, 3) := by decide +kernel
theorem d_Course_duel_29 : decode b_Course_duel 29 = .ok (.getfield 158, 3) := by decide +kernel
theorem d_Course_duel_32 : decode b_Course_duel 32 = .ok (.iload_n 2, 1) := by decide +kernel
theorem d_Course_duel_33 : decode b_Course_duel 33 = .ok (.iaload, 1) := by decide +kernel
theorem d_Course_duel_34 : decode b_Course_duel 34 = .ok (.iload_n 2, 1) := by decide +kernel
theorem d_Course_duel_35 : decode b_Course_duel 35 = .ok (.invokevirtual 178, 3) := by decide +kernel
theorem d_Course_duel_38 : decode b_Course_duel 38 = .ok (.aload_n 0, 1) := by decide +kernel
theorem d_Course_duel_39 : decode b_Course_duel 39 = .ok (.getfield 66, 3) := by decide +kernel
theorem d_Course_duel_42 : decode b_Course_duel 42 = .ok (.aload_n 0, 1) := by decide +kernel
theorem d_Course_duel_43 : decode b_Course_duel 43 = .ok (.getfield 38, 3) := by decide +kernel
theorem d_Course_duel_46 : decode b_Course_duel 46 = .ok (.aload_n 0, 1) := by decide +kernel
theorem d_Course_duel_47 : decode b_Course_duel 47 = .ok (.getfield 41, 3) := by decide +kernel
theorem d_Course_duel_50 : decode b_Course_duel 50 = .ok (.invokevirtual 199, 3) := by decide +kernel
theorem d_Course_duel_53 : decode b_Course_duel 53 = .ok (.istore 4, 2) := by decide +kernel
theorem d_Course_duel_55 : decode b_Course_duel 55 = .ok (.iload 4, 2) := by decide +kernel
theorem d_Course_duel_57 : decode b_Course_duel 57 = .ok (.bipush 100, 2) := by decide +kernel
theorem d_Course_duel_59 : decode b_Course_duel 59 = .ok (.if_icmp .ne 13, 3) := by decide +kernel
theorem d_Course_duel_62 : decode b_Course_duel 62 = .ok (.iload_n 2, 1) := by decide +kernel
theorem d_Course_duel_63 : decode b_Course_duel 63 = .ok (.iload_n 1, 1) := by decide +kernel
theorem d_Course_duel_64 : decode b_Course_duel 64 = .ok (.if_icmp .ge 8, 3) := by decide +kernel
theorem d_Course_duel_67 : decode b_Course_duel 67 = .ok (.bipush (-101), 2) := by decide +kernel
theorem d_Course_duel_69 : decode b_Course_duel 69 = .ok (.goto 5, 3) := by decide +kernel
theorem d_Course_duel_72 : decode b_Course_duel 72 = .ok (.iload 4, 2) := by decide +kernel
theorem d_Course_duel_74 : decode b_Course_duel 74 = .ok (.ireturn, 1) := by decide +kernel
theorem d_RuleBook_duel_0 : decode b_RuleBook_duel 0 = .ok (.iconst 0, 1) := by decide +kernel
theorem d_RuleBook_duel_1 : decode b_RuleBook_duel 1 = .ok (.istore_n 3, 1) := by decide +kernel
theorem d_RuleBook_duel_2 : decode b_RuleBook_duel 2 = .ok (.iload_n 3, 1) := by decide +kernel
theorem d_RuleBook_duel_3 : decode b_RuleBook_duel 3 = .ok (.aload_n 0, 1) := by decide +kernel
theorem d_RuleBook_duel_4 : decode b_RuleBook_duel 4 = .ok (.getfield 33, 3) := by decide +kernel
theorem d_RuleBook_duel_7 : decode b_RuleBook_duel 7 = .ok (.if_icmp .ge 68, 3) := by decide +kernel
theorem d_RuleBook_duel_10 : decode b_RuleBook_duel 10 = .ok (.aload_n 0, 1) := by decide +kernel
theorem d_RuleBook_duel_11 : decode b_RuleBook_duel 11 = .ok (.getfield 9, 3) := by decide +kernel
theorem d_RuleBook_duel_14 : decode b_RuleBook_duel 14 = .ok (.iload_n 3, 1) := by decide +kernel
theorem d_RuleBook_duel_15 : decode b_RuleBook_duel 15 = .ok (.iaload, 1) := by decide +kernel
theorem d_RuleBook_duel_16 : decode b_RuleBook_duel 16 = .ok (.bipush 11, 2) := by decide +kernel
theorem d_RuleBook_duel_18 : decode b_RuleBook_duel 18 = .ok (.if_icmp .eq 51, 3) := by decide +kernel
theorem d_RuleBook_duel_21 : decode b_RuleBook_duel 21 = .ok (.aload_n 0, 1) := by decide +kernel
theorem d_RuleBook_duel_22 : decode b_RuleBook_duel 22 = .ok (.iload_n 3, 1) := by decide +kernel
theorem d_RuleBook_duel_23 : decode b_RuleBook_duel 23 = .ok (.aload_n 1, 1) := by decide +kernel
theorem d_RuleBook_duel_24 : decode b_RuleBook_duel 24 = .ok (.invokevirtual 50, 3) := by decide +kernel
theorem d_RuleBook_duel_27 : decode b_RuleBook_duel 27 = .ok (.ifCond .eq 42, 3) := by decide +kernel
theorem d_RuleBook_duel_30 : decode b_RuleBook_duel 30 = .ok (.aload_n 0, 1) := by decide +kernel
theorem d_RuleBook_duel_31 : decode b_RuleBook_duel 31 = .ok (.iload_n 3, 1) := by decide +kernel
theorem d_RuleBook_duel_32 : decode b_RuleBook_duel 32 = .ok (.aload_n 1, 1) := by decide +kernel
theorem d_RuleBook_duel_33 : decode b_RuleBook_duel 33 = .ok (.invokevirtual 54, 3) := by decide +kernel
theorem d_RuleBook_duel_36 : decode b_RuleBook_duel 36 = .ok (.istore 4, 2) := by decide +kernel
theorem d_RuleBook_duel_38 : decode b_RuleBook_duel 38 = .ok (.aload_n 0, 1) := by decide +kernel
theorem d_RuleBook_duel_39 : decode b_RuleBook_duel 39 = .ok (.iload_n 3, 1) := by decide +kernel
theorem d_RuleBook_duel_40 : decode b_RuleBook_duel 40 = .ok (.aload_n 2, 1) := by decide +kernel
theorem d_RuleBook_duel_41 : decode b_RuleBook_duel 41 = .ok (.invokevirtual 54, 3) := by decide +kernel
theorem d_RuleBook_duel_44 : decode b_RuleBook_duel 44 = .ok (.istore 5, 2) := by decide +kernel
theorem d_RuleBook_duel_46 : decode b_RuleBook_duel 46 = .ok (.iload 4, 2) := by decide +kernel
theorem d_RuleBook_duel_48 : decode b_RuleBook_duel 48 = .ok (.iload 5, 2) := by decide +kernel
theorem d_RuleBook_duel_50 : decode b_RuleBook_duel 50 = .ok (.if_icmp .eq 19, 3) := by decide +kernel
theorem d_RuleBook_duel_53 : decode b_RuleBook_duel 53 = .ok (.iload 4, 2) := by decide +kernel
theorem d_RuleBook_duel_55 : decode b_RuleBook_duel 55 = .ok (.iload 5, 2) := by decide +kernel
theorem d_RuleBook_duel_57 : decode b_RuleBook_duel 57 = .ok (.if_icmp .le 7, 3) := by decide +kernel
theorem d_RuleBook_duel_60 : decode b_RuleBook_duel 60 = .ok (.iload_n 3, 1) := by decide +kernel
theorem d_RuleBook_duel_61 : decode b_RuleBook_duel 61 = .ok (.goto 7, 3) := by decide +kernel
theorem d_RuleBook_duel_64 : decode b_RuleBook_duel 64 = .ok (.iload_n 3, 1) := by decide +kernel
theorem d_RuleBook_duel_65 : decode b_RuleBook_duel 65 = .ok (.ineg, 1) := by decide +kernel
theorem d_RuleBook_duel_66 : decode b_RuleBook_duel 66 = .ok (.iconst 1, 1) := by decide +kernel
theorem d_RuleBook_duel_67 : decode b_RuleBook_duel 67 = .ok (.isub, 1) := by decide +kernel
theorem d_RuleBook_duel_68 : decode b_RuleBook_duel 68 = .ok (.ireturn, 1) := by decide +kernel
theorem d_RuleBook_duel_69 : decode b_RuleBook_duel 69 = .ok (.iinc 3 1, 3) := by decide +kernel
theorem d_RuleBook_duel_72 : decode b_RuleBook_duel 72 = .ok (.goto (-70), 3) := by decide +kernel
theorem d_RuleBook_duel_75 : decode b_RuleBook_duel 75 = .ok (.bipush 100, 2) := by decide +kernel
theorem d_RuleBook_duel_77 : decode b_RuleBook_duel 77 = .ok (.ireturn, 1) := by decide +kernel
