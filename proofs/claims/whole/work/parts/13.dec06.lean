theorem d_Md_subjectOf_0 : decode b_Md_subjectOf 0 = .ok (.iload_n 1, 1) := by decide +kernel
theorem d_Md_subjectOf_1 : decode b_Md_subjectOf 1 = .ok (.tableswitch 108 0 5 #[39, 50, 59, 68, 79, 85], 39) := by decide +kernel
theorem d_Md_subjectOf_40 : decode b_Md_subjectOf 40 = .ok (.aload_n 0, 1) := by decide +kernel
theorem d_Md_subjectOf_41 : decode b_Md_subjectOf 41 = .ok (.getfield 26, 3) := by decide +kernel
theorem d_Md_subjectOf_44 : decode b_Md_subjectOf 44 = .ok (.iconst 3, 1) := by decide +kernel
theorem d_Md_subjectOf_45 : decode b_Md_subjectOf 45 = .ok (.iload_n 2, 1) := by decide +kernel
theorem d_Md_subjectOf_46 : decode b_Md_subjectOf 46 = .ok (.imul, 1) := by decide +kernel
theorem d_Md_subjectOf_47 : decode b_Md_subjectOf 47 = .ok (.iconst 1, 1) := by decide +kernel
theorem d_Md_subjectOf_48 : decode b_Md_subjectOf 48 = .ok (.iadd, 1) := by decide +kernel
theorem d_Md_subjectOf_49 : decode b_Md_subjectOf 49 = .ok (.iaload, 1) := by decide +kernel
theorem d_Md_subjectOf_50 : decode b_Md_subjectOf 50 = .ok (.ireturn, 1) := by decide +kernel
theorem d_Md_subjectOf_51 : decode b_Md_subjectOf 51 = .ok (.aload_n 0, 1) := by decide +kernel
theorem d_Md_subjectOf_52 : decode b_Md_subjectOf 52 = .ok (.getfield 26, 3) := by decide +kernel
theorem d_Md_subjectOf_55 : decode b_Md_subjectOf 55 = .ok (.iconst 3, 1) := by decide +kernel
theorem d_Md_subjectOf_56 : decode b_Md_subjectOf 56 = .ok (.iload_n 2, 1) := by decide +kernel
theorem d_Md_subjectOf_57 : decode b_Md_subjectOf 57 = .ok (.imul, 1) := by decide +kernel
theorem d_Md_subjectOf_58 : decode b_Md_subjectOf 58 = .ok (.iaload, 1) := by decide +kernel
theorem d_Md_subjectOf_59 : decode b_Md_subjectOf 59 = .ok (.ireturn, 1) := by decide +kernel
theorem d_Md_subjectOf_60 : decode b_Md_subjectOf 60 = .ok (.aload_n 0, 1) := by decide +kernel
theorem d_Md_subjectOf_61 : decode b_Md_subjectOf 61 = .ok (.getfield 20, 3) := by decide +kernel
theorem d_Md_subjectOf_64 : decode b_Md_subjectOf 64 = .ok (.iconst 3, 1) := by decide +kernel
theorem d_Md_subjectOf_65 : decode b_Md_subjectOf 65 = .ok (.iload_n 3, 1) := by decide +kernel
theorem d_Md_subjectOf_66 : decode b_Md_subjectOf 66 = .ok (.imul, 1) := by decide +kernel
theorem d_Md_subjectOf_67 : decode b_Md_subjectOf 67 = .ok (.iaload, 1) := by decide +kernel
theorem d_Md_subjectOf_68 : decode b_Md_subjectOf 68 = .ok (.ireturn, 1) := by decide +kernel
theorem d_Md_subjectOf_69 : decode b_Md_subjectOf 69 = .ok (.aload_n 0, 1) := by decide +kernel
theorem d_Md_subjectOf_70 : decode b_Md_subjectOf 70 = .ok (.getfield 20, 3) := by decide +kernel
theorem d_Md_subjectOf_73 : decode b_Md_subjectOf 73 = .ok (.iconst 3, 1) := by decide +kernel
theorem d_Md_subjectOf_74 : decode b_Md_subjectOf 74 = .ok (.iload_n 3, 1) := by decide +kernel
theorem d_Md_subjectOf_75 : decode b_Md_subjectOf 75 = .ok (.imul, 1) := by decide +kernel
theorem d_Md_subjectOf_76 : decode b_Md_subjectOf 76 = .ok (.iconst 1, 1) := by decide +kernel
theorem d_Md_subjectOf_77 : decode b_Md_subjectOf 77 = .ok (.iadd, 1) := by decide +kernel
theorem d_Md_subjectOf_78 : decode b_Md_subjectOf 78 = .ok (.iaload, 1) := by decide +kernel
theorem d_Md_subjectOf_79 : decode b_Md_subjectOf 79 = .ok (.ireturn, 1) := by decide +kernel
theorem d_Md_subjectOf_80 : decode b_Md_subjectOf 80 = .ok (.aload_n 0, 1) := by decide +kernel
theorem d_Md_subjectOf_81 : decode b_Md_subjectOf 81 = .ok (.iload_n 3, 1) := by decide +kernel
theorem d_Md_subjectOf_82 : decode b_Md_subjectOf 82 = .ok (.invokevirtual 237, 3) := by decide +kernel
theorem d_Md_subjectOf_85 : decode b_Md_subjectOf 85 = .ok (.ireturn, 1) := by decide +kernel
theorem d_Md_subjectOf_86 : decode b_Md_subjectOf 86 = .ok (.iload 4, 2) := by decide +kernel
theorem d_Md_subjectOf_88 : decode b_Md_subjectOf 88 = .ok (.iconst (-1), 1) := by decide +kernel
theorem d_Md_subjectOf_89 : decode b_Md_subjectOf 89 = .ok (.if_icmp .ne 7, 3) := by decide +kernel
theorem d_Md_subjectOf_92 : decode b_Md_subjectOf 92 = .ok (.iconst 0, 1) := by decide +kernel
theorem d_Md_subjectOf_93 : decode b_Md_subjectOf 93 = .ok (.goto 15, 3) := by decide +kernel
theorem d_Md_subjectOf_96 : decode b_Md_subjectOf 96 = .ok (.aload_n 0, 1) := by decide +kernel
theorem d_Md_subjectOf_97 : decode b_Md_subjectOf 97 = .ok (.getfield 47, 3) := by decide +kernel
theorem d_Md_subjectOf_100 : decode b_Md_subjectOf 100 = .ok (.bipush 7, 2) := by decide +kernel
theorem d_Md_subjectOf_102 : decode b_Md_subjectOf 102 = .ok (.iload 4, 2) := by decide +kernel
theorem d_Md_subjectOf_104 : decode b_Md_subjectOf 104 = .ok (.imul, 1) := by decide +kernel
theorem d_Md_subjectOf_105 : decode b_Md_subjectOf 105 = .ok (.iconst 1, 1) := by decide +kernel
theorem d_Md_subjectOf_106 : decode b_Md_subjectOf 106 = .ok (.iadd, 1) := by decide +kernel
theorem d_Md_subjectOf_107 : decode b_Md_subjectOf 107 = .ok (.iaload, 1) := by decide +kernel
theorem d_Md_subjectOf_108 : decode b_Md_subjectOf 108 = .ok (.ireturn, 1) := by decide +kernel
theorem d_Md_subjectOf_109 : decode b_Md_subjectOf 109 = .ok (.iload 4, 2) := by decide +kernel
theorem d_Md_subjectOf_111 : decode b_Md_subjectOf 111 = .ok (.iconst (-1), 1) := by decide +kernel
theorem d_Md_subjectOf_112 : decode b_Md_subjectOf 112 = .ok (.if_icmp .eq 20, 3) := by decide +kernel
theorem d_Md_subjectOf_115 : decode b_Md_subjectOf 115 = .ok (.iload 5, 2) := by decide +kernel
theorem d_Md_subjectOf_117 : decode b_Md_subjectOf 117 = .ok (.aload_n 0, 1) := by decide +kernel
theorem d_Md_subjectOf_118 : decode b_Md_subjectOf 118 = .ok (.getfield 47, 3) := by decide +kernel
theorem d_Md_subjectOf_121 : decode b_Md_subjectOf 121 = .ok (.bipush 7, 2) := by decide +kernel
theorem d_Md_subjectOf_123 : decode b_Md_subjectOf 123 = .ok (.iload 4, 2) := by decide +kernel
theorem d_Md_subjectOf_125 : decode b_Md_subjectOf 125 = .ok (.imul, 1) := by decide +kernel
theorem d_Md_subjectOf_126 : decode b_Md_subjectOf 126 = .ok (.iconst 1, 1) := by decide +kernel
theorem d_Md_subjectOf_127 : decode b_Md_subjectOf 127 = .ok (.iadd, 1) := by decide +kernel
theorem d_Md_subjectOf_128 : decode b_Md_subjectOf 128 = .ok (.iaload, 1) := by decide +kernel
theorem d_Md_subjectOf_129 : decode b_Md_subjectOf 129 = .ok (.if_icmp .ge 7, 3) := by decide +kernel
theorem d_Md_subjectOf_132 : decode b_Md_subjectOf 132 = .ok (.iconst 0, 1) := by decide +kernel
theorem d_Md_subjectOf_133 : decode b_Md_subjectOf 133 = .ok (.goto 22, 3) := by decide +kernel
theorem d_Md_subjectOf_136 : decode b_Md_subjectOf 136 = .ok (.iload 5, 2) := by decide +kernel
theorem d_Md_subjectOf_138 : decode b_Md_subjectOf 138 = .ok (.aload_n 0, 1) := by decide +kernel
theorem d_Md_subjectOf_139 : decode b_Md_subjectOf 139 = .ok (.getfield 47, 3) := by decide +kernel
theorem d_Md_subjectOf_142 : decode b_Md_subjectOf 142 = .ok (.bipush 7, 2) := by decide +kernel
theorem d_Md_subjectOf_144 : decode b_Md_subjectOf 144 = .ok (.iload 4, 2) := by decide +kernel
theorem d_Md_subjectOf_146 : decode b_Md_subjectOf 146 = .ok (.imul, 1) := by decide +kernel
theorem d_Md_subjectOf_147 : decode b_Md_subjectOf 147 = .ok (.iconst 1, 1) := by decide +kernel
theorem d_Md_subjectOf_148 : decode b_Md_subjectOf 148 = .ok (.iadd, 1) := by decide +kernel
theorem d_Md_subjectOf_149 : decode b_Md_subjectOf 149 = .ok (.iaload, 1) := by decide +kernel
theorem d_Md_subjectOf_150 : decode b_Md_subjectOf 150 = .ok (.isub, 1) := by decide +kernel
theorem d_Md_subjectOf_151 : decode b_Md_subjectOf 151 = .ok (.sipush 1440, 3) := by decide +kernel
theorem d_Md_subjectOf_154 : decode b_Md_subjectOf 154 = .ok (.idiv, 1) := by decide +kernel
theorem d_Md_subjectOf_155 : decode b_Md_subjectOf 155 = .ok (.ireturn, 1) := by decide +kernel
theorem d_Md_held_0 : decode b_Md_held 0 = .ok (.iconst 0, 1) := by decide +kernel
theorem d_Md_held_1 : decode b_Md_held 1 = .ok (.istore_n 2, 1) := by decide +kernel
theorem d_Md_held_2 : decode b_Md_held 2 = .ok (.iconst 0, 1) := by decide +kernel
theorem d_Md_held_3 : decode b_Md_held 3 = .ok (.istore_n 3, 1) := by decide +kernel
theorem d_Md_held_4 : decode b_Md_held 4 = .ok (.iload_n 3, 1) := by decide +kernel
theorem d_Md_held_5 : decode b_Md_held 5 = .ok (.aload_n 0, 1) := by decide +kernel
theorem d_Md_held_6 : decode b_Md_held 6 = .ok (.getfield 23, 3) := by decide +kernel
theorem d_Md_held_9 : decode b_Md_held 9 = .ok (.if_icmp .ge 27, 3) := by decide +kernel
theorem d_Md_held_12 : decode b_Md_held 12 = .ok (.iload_n 2, 1) := by decide +kernel
theorem d_Md_held_13 : decode b_Md_held 13 = .ok (.aload_n 0, 1) := by decide +kernel
theorem d_Md_held_14 : decode b_Md_held 14 = .ok (.getfield 89, 3) := by decide +kernel
theorem d_Md_held_17 : decode b_Md_held 17 = .ok (.iload_n 3, 1) := by decide +kernel
theorem d_Md_held_18 : decode b_Md_held 18 = .ok (.iaload, 1) := by decide +kernel
theorem d_Md_held_19 : decode b_Md_held 19 = .ok (.iload_n 1, 1) := by decide +kernel
theorem d_Md_held_20 : decode b_Md_held 20 = .ok (.if_icmp .ne 7, 3) := by decide +kernel
theorem d_Md_held_23 : decode b_Md_held 23 = .ok (.iconst 1, 1) := by decide +kernel
theorem d_Md_held_24 : decode b_Md_held 24 = .ok (.goto 4, 3) := by decide +kernel
theorem d_Md_held_27 : decode b_Md_held 27 = .ok (.iconst 0, 1) := by decide +kernel
theorem d_Md_held_28 : decode b_Md_held 28 = .ok (.iadd, 1) := by decide +kernel
theorem d_Md_held_29 : decode b_Md_held 29 = .ok (.istore_n 2, 1) := by decide +kernel
theorem d_Md_held_30 : decode b_Md_held 30 = .ok (.iinc 3 1, 3) := by decide +kernel
theorem d_Md_held_33 : decode b_Md_held 33 = .ok (.goto (-29), 3) := by decide +kernel
theorem d_Md_held_36 : decode b_Md_held 36 = .ok (.iload_n 2, 1) := by decide +kernel
theorem d_Md_held_37 : decode b_Md_held 37 = .ok (.ireturn, 1) := by decide +kernel
theorem d_Md_uses_0 : decode b_Md_uses 0 = .ok (.aload_n 0, 1) := by decide +kernel
theorem d_Md_uses_1 : decode b_Md_uses 1 = .ok (.getfield 99, 3) := by decide +kernel
theorem d_Md_uses_4 : decode b_Md_uses 4 = .ok (.iload_n 1, 1) := by decide +kernel
theorem d_Md_uses_5 : decode b_Md_uses 5 = .ok (.iconst 0, 1) := by decide +kernel
theorem d_Md_uses_6 : decode b_Md_uses 6 = .ok (.bastore, 1) := by decide +kernel
theorem d_Md_uses_7 : decode b_Md_uses 7 = .ok (.aload_n 0, 1) := by decide +kernel
theorem d_Md_uses_8 : decode b_Md_uses 8 = .ok (.getfield 102, 3) := by decide +kernel
theorem d_Md_uses_11 : decode b_Md_uses 11 = .ok (.iload_n 1, 1) := by decide +kernel
theorem d_Md_uses_12 : decode b_Md_uses 12 = .ok (.iload_n 2, 1) := by decide +kernel
theorem d_Md_uses_13 : decode b_Md_uses 13 = .ok (.iastore, 1) := by decide +kernel
theorem d_Md_uses_14 : decode b_Md_uses 14 = .ok (.aload_n 0, 1) := by decide +kernel
theorem d_Md_uses_15 : decode b_Md_uses 15 = .ok (.getfield 105, 3) := by decide +kernel
theorem d_Md_uses_18 : decode b_Md_uses 18 = .ok (.iload_n 1, 1) := by decide +kernel
theorem d_Md_uses_19 : decode b_Md_uses 19 = .ok (.iload_n 3, 1) := by decide +kernel
theorem d_Md_uses_20 : decode b_Md_uses 20 = .ok (.iastore, 1) := by decide +kernel
theorem d_Md_uses_21 : decode b_Md_uses 21 = .ok (.aload_n 0, 1) := by decide +kernel
theorem d_Md_uses_22 : decode b_Md_uses 22 = .ok (.iload_n 2, 1) := by decide +kernel
theorem d_Md_uses_23 : decode b_Md_uses 23 = .ok (.aload_n 0, 1) := by decide +kernel
theorem d_Md_uses_24 : decode b_Md_uses 24 = .ok (.getfield 47, 3) := by decide +kernel
theorem d_Md_uses_27 : decode b_Md_uses 27 = .ok (.bipush 7, 2) := by decide +kernel
theorem d_Md_uses_29 : decode b_Md_uses 29 = .ok (.iload_n 1, 1) := by decide +kernel
theorem d_Md_uses_30 : decode b_Md_uses 30 = .ok (.imul, 1) := by decide +kernel
theorem d_Md_uses_31 : decode b_Md_uses 31 = .ok (.iaload, 1) := by decide +kernel
theorem d_Md_uses_32 : decode b_Md_uses 32 = .ok (.iload_n 3, 1) := by decide +kernel
theorem d_Md_uses_33 : decode b_Md_uses 33 = .ok (.invokevirtual 263, 3) := by decide +kernel
theorem d_Md_uses_36 : decode b_Md_uses 36 = .ok (.return_, 1) := by decide +kernel
theorem d_Md_takes_0 : decode b_Md_takes 0 = .ok (.aload_n 0, 1) := by decide +kernel
theorem d_Md_takes_1 : decode b_Md_takes 1 = .ok (.getfield 89, 3) := by decide +kernel
theorem d_Md_takes_4 : decode b_Md_takes 4 = .ok (.iload_n 1, 1) := by decide +kernel
theorem d_Md_takes_5 : decode b_Md_takes 5 = .ok (.iload_n 2, 1) := by decide +kernel
theorem d_Md_takes_6 : decode b_Md_takes 6 = .ok (.iastore, 1) := by decide +kernel
theorem d_Md_takes_7 : decode b_Md_takes 7 = .ok (.aload_n 0, 1) := by decide +kernel
theorem d_Md_takes_8 : decode b_Md_takes 8 = .ok (.getfield 92, 3) := by decide +kernel
theorem d_Md_takes_11 : decode b_Md_takes 11 = .ok (.iload_n 1, 1) := by decide +kernel
theorem d_Md_takes_12 : decode b_Md_takes 12 = .ok (.iload_n 3, 1) := by decide +kernel
theorem d_Md_takes_13 : decode b_Md_takes 13 = .ok (.iastore, 1) := by decide +kernel
theorem d_Md_takes_14 : decode b_Md_takes 14 = .ok (.return_, 1) := by decide +kernel
theorem d_Md_dies_0 : decode b_Md_dies 0 = .ok (.aload_n 0, 1) := by decide +kernel
theorem d_Md_dies_1 : decode b_Md_dies 1 = .ok (.getfield 95, 3) := by decide +kernel
theorem d_Md_dies_4 : decode b_Md_dies 4 = .ok (.iload_n 1, 1) := by decide +kernel
theorem d_Md_dies_5 : decode b_Md_dies 5 = .ok (.baload, 1) := by decide +kernel
theorem d_Md_dies_6 : decode b_Md_dies 6 = .ok (.ifCond .eq 4, 3) := by decide +kernel
theorem d_Md_dies_9 : decode b_Md_dies 9 = .ok (.return_, 1) := by decide +kernel
theorem d_Md_dies_10 : decode b_Md_dies 10 = .ok (.aload_n 0, 1) := by decide +kernel
theorem d_Md_dies_11 : decode b_Md_dies 11 = .ok (.getfield 95, 3) := by decide +kernel
theorem d_Md_dies_14 : decode b_Md_dies 14 = .ok (.iload_n 1, 1) := by decide +kernel
theorem d_Md_dies_15 : decode b_Md_dies 15 = .ok (.iconst 1, 1) := by decide +kernel
theorem d_Md_dies_16 : decode b_Md_dies 16 = .ok (.bastore, 1) := by decide +kernel
theorem d_Md_dies_17 : decode b_Md_dies 17 = .ok (.iconst 0, 1) := by decide +kernel
theorem d_Md_dies_18 : decode b_Md_dies 18 = .ok (.istore_n 3, 1) := by decide +kernel
theorem d_Md_dies_19 : decode b_Md_dies 19 = .ok (.iload_n 3, 1) := by decide +kernel
theorem d_Md_dies_20 : decode b_Md_dies 20 = .ok (.aload_n 0, 1) := by decide +kernel
theorem d_Md_dies_21 : decode b_Md_dies 21 = .ok (.getfield 44, 3) := by decide +kernel
theorem d_Md_dies_24 : decode b_Md_dies 24 = .ok (.if_icmp .ge 42, 3) := by decide +kernel
theorem d_Md_dies_27 : decode b_Md_dies 27 = .ok (.aload_n 0, 1) := by decide +kernel
theorem d_Md_dies_28 : decode b_Md_dies 28 = .ok (.getfield 99, 3) := by decide +kernel
theorem d_Md_dies_31 : decode b_Md_dies 31 = .ok (.iload_n 3, 1) := by decide +kernel
theorem d_Md_dies_32 : decode b_Md_dies 32 = .ok (.aload_n 0, 1) := by decide +kernel
theorem d_Md_dies_33 : decode b_Md_dies 33 = .ok (.getfield 99, 3) := by decide +kernel
theorem d_Md_dies_36 : decode b_Md_dies 36 = .ok (.iload_n 3, 1) := by decide +kernel
theorem d_Md_dies_37 : decode b_Md_dies 37 = .ok (.baload, 1) := by decide +kernel
theorem d_Md_dies_38 : decode b_Md_dies 38 = .ok (.ifCond .eq 20, 3) := by decide +kernel
theorem d_Md_dies_41 : decode b_Md_dies 41 = .ok (.aload_n 0, 1) := by decide +kernel
theorem d_Md_dies_42 : decode b_Md_dies 42 = .ok (.getfield 47, 3) := by decide +kernel
theorem d_Md_dies_45 : decode b_Md_dies 45 = .ok (.bipush 7, 2) := by decide +kernel
theorem d_Md_dies_47 : decode b_Md_dies 47 = .ok (.iload_n 3, 1) := by decide +kernel
theorem d_Md_dies_48 : decode b_Md_dies 48 = .ok (.imul, 1) := by decide +kernel
theorem d_Md_dies_49 : decode b_Md_dies 49 = .ok (.iaload, 1) := by decide +kernel
theorem d_Md_dies_50 : decode b_Md_dies 50 = .ok (.iload_n 1, 1) := by decide +kernel
theorem d_Md_dies_51 : decode b_Md_dies 51 = .ok (.if_icmp .eq 7, 3) := by decide +kernel
theorem d_Md_dies_54 : decode b_Md_dies 54 = .ok (.iconst 1, 1) := by decide +kernel
theorem d_Md_dies_55 : decode b_Md_dies 55 = .ok (.goto 4, 3) := by decide +kernel
theorem d_Md_dies_58 : decode b_Md_dies 58 = .ok (.iconst 0, 1) := by decide +kernel
theorem d_Md_dies_59 : decode b_Md_dies 59 = .ok (.bastore, 1) := by decide +kernel
theorem d_Md_dies_60 : decode b_Md_dies 60 = .ok (.iinc 3 1, 3) := by decide +kernel
theorem d_Md_dies_63 : decode b_Md_dies 63 = .ok (.goto (-44), 3) := by decide +kernel
theorem d_Md_dies_66 : decode b_Md_dies 66 = .ok (.iconst 0, 1) := by decide +kernel
theorem d_Md_dies_67 : decode b_Md_dies 67 = .ok (.istore_n 3, 1) := by decide +kernel
theorem d_Md_dies_68 : decode b_Md_dies 68 = .ok (.iload_n 3, 1) := by decide +kernel
theorem d_Md_dies_69 : decode b_Md_dies 69 = .ok (.aload_n 0, 1) := by decide +kernel
theorem d_Md_dies_70 : decode b_Md_dies 70 = .ok (.getfield 23, 3) := by decide +kernel
theorem d_Md_dies_73 : decode b_Md_dies 73 = .ok (.if_icmp .ge 34, 3) := by decide +kernel
theorem d_Md_dies_76 : decode b_Md_dies 76 = .ok (.aload_n 0, 1) := by decide +kernel
theorem d_Md_dies_77 : decode b_Md_dies 77 = .ok (.getfield 89, 3) := by decide +kernel
theorem d_Md_dies_80 : decode b_Md_dies 80 = .ok (.iload_n 3, 1) := by decide +kernel
theorem d_Md_dies_81 : decode b_Md_dies 81 = .ok (.iaload, 1) := by decide +kernel
theorem d_Md_dies_82 : decode b_Md_dies 82 = .ok (.iload_n 1, 1) := by decide +kernel
theorem d_Md_dies_83 : decode b_Md_dies 83 = .ok (.if_icmp .eq 6, 3) := by decide +kernel
theorem d_Md_dies_86 : decode b_Md_dies 86 = .ok (.goto 15, 3) := by decide +kernel
theorem d_Md_dies_89 : decode b_Md_dies 89 = .ok (.aload_n 0, 1) := by decide +kernel
theorem d_Md_dies_90 : decode b_Md_dies 90 = .ok (.iload_n 3, 1) := by decide +kernel
theorem d_Md_dies_91 : decode b_Md_dies 91 = .ok (.iload_n 2, 1) := by decide +kernel
theorem d_Md_dies_92 : decode b_Md_dies 92 = .ok (.invokevirtual 275, 3) := by decide +kernel
theorem d_Md_dies_95 : decode b_Md_dies 95 = .ok (.aload_n 0, 1) := by decide +kernel
theorem d_Md_dies_96 : decode b_Md_dies 96 = .ok (.iload_n 3, 1) := by decide +kernel
theorem d_Md_dies_97 : decode b_Md_dies 97 = .ok (.iload_n 2, 1) := by decide +kernel
theorem d_Md_dies_98 : decode b_Md_dies 98 = .ok (.invokevirtual 278, 3) := by decide +kernel
theorem d_Md_dies_101 : decode b_Md_dies 101 = .ok (.iinc 3 1, 3) := by decide +kernel
theorem d_Md_dies_104 : decode b_Md_dies 104 = .ok (.goto (-36), 3) := by decide +kernel
theorem d_Md_dies_107 : decode b_Md_dies 107 = .ok (.return_, 1) := by decide +kernel
theorem d_Md_leaves_0 : decode b_Md_leaves 0 = .ok (.aload_n 0, 1) := by decide +kernel
theorem d_Md_leaves_1 : decode b_Md_leaves 1 = .ok (.getfield 89, 3) := by decide +kernel
theorem d_Md_leaves_4 : decode b_Md_leaves 4 = .ok (.iload_n 1, 1) := by decide +kernel
theorem d_Md_leaves_5 : decode b_Md_leaves 5 = .ok (.iaload, 1) := by decide +kernel
theorem d_Md_leaves_6 : decode b_Md_leaves 6 = .ok (.istore_n 3, 1) := by decide +kernel
theorem d_Md_leaves_7 : decode b_Md_leaves 7 = .ok (.iload_n 3, 1) := by decide +kernel
theorem d_Md_leaves_8 : decode b_Md_leaves 8 = .ok (.iconst (-1), 1) := by decide +kernel
theorem d_Md_leaves_9 : decode b_Md_leaves 9 = .ok (.if_icmp .ne 4, 3) := by decide +kernel
theorem d_Md_leaves_12 : decode b_Md_leaves 12 = .ok (.return_, 1) := by decide +kernel
theorem d_Md_leaves_13 : decode b_Md_leaves 13 = .ok (.aload_n 0, 1) := by decide +kernel
theorem d_Md_leaves_14 : decode b_Md_leaves 14 = .ok (.getfield 108, 3) := by decide +kernel
theorem d_Md_leaves_17 : decode b_Md_leaves 17 = .ok (.iload_n 3, 1) := by decide +kernel
theorem d_Md_leaves_18 : decode b_Md_leaves 18 = .ok (.dup2, 1) := by decide +kernel
theorem d_Md_leaves_19 : decode b_Md_leaves 19 = .ok (.laload, 1) := by decide +kernel
theorem d_Md_leaves_20 : decode b_Md_leaves 20 = .ok (.aload_n 0, 1) := by decide +kernel
theorem d_Md_leaves_21 : decode b_Md_leaves 21 = .ok (.getfield 26, 3) := by decide +kernel
theorem d_Md_leaves_24 : decode b_Md_leaves 24 = .ok (.iconst 3, 1) := by decide +kernel
theorem d_Md_leaves_25 : decode b_Md_leaves 25 = .ok (.iload_n 1, 1) := by decide +kernel
theorem d_Md_leaves_26 : decode b_Md_leaves 26 = .ok (.imul, 1) := by decide +kernel
theorem d_Md_leaves_27 : decode b_Md_leaves 27 = .ok (.iconst 1, 1) := by decide +kernel
theorem d_Md_leaves_28 : decode b_Md_leaves 28 = .ok (.iadd, 1) := by decide +kernel
theorem d_Md_leaves_29 : decode b_Md_leaves 29 = .ok (.iaload, 1) := by decide +kernel
theorem d_Md_leaves_30 : decode b_Md_leaves 30 = .ok (.i2l, 1) := by decide +kernel
theorem d_Md_leaves_31 : decode b_Md_leaves 31 = .ok (.iload_n 2, 1) := by decide +kernel
theorem d_Md_leaves_32 : decode b_Md_leaves 32 = .ok (.aload_n 0, 1) := by decide +kernel
theorem d_Md_leaves_33 : decode b_Md_leaves 33 = .ok (.getfield 92, 3) := by decide +kernel
theorem d_Md_leaves_36 : decode b_Md_leaves 36 = .ok (.iload_n 1, 1) := by decide +kernel
theorem d_Md_leaves_37 : decode b_Md_leaves 37 = .ok (.iaload, 1) := by decide +kernel
theorem d_Md_leaves_38 : decode b_Md_leaves 38 = .ok (.isub, 1) := by decide +kernel
theorem d_Md_leaves_39 : decode b_Md_leaves 39 = .ok (.i2l, 1) := by decide +kernel
theorem d_Md_leaves_40 : decode b_Md_leaves 40 = .ok (.lmul, 1) := by decide +kernel
theorem d_Md_leaves_41 : decode b_Md_leaves 41 = .ok (.ladd, 1) := by decide +kernel
theorem d_Md_leaves_42 : decode b_Md_leaves 42 = .ok (.lastore, 1) := by decide +kernel
theorem d_Md_leaves_43 : decode b_Md_leaves 43 = .ok (.aload_n 0, 1) := by decide +kernel
theorem d_Md_leaves_44 : decode b_Md_leaves 44 = .ok (.getfield 89, 3) := by decide +kernel
theorem d_Md_leaves_47 : decode b_Md_leaves 47 = .ok (.iload_n 1, 1) := by decide +kernel
theorem d_Md_leaves_48 : decode b_Md_leaves 48 = .ok (.iconst (-1), 1) := by decide +kernel
theorem d_Md_leaves_49 : decode b_Md_leaves 49 = .ok (.iastore, 1) := by decide +kernel
theorem d_Md_leaves_50 : decode b_Md_leaves 50 = .ok (.return_, 1) := by decide +kernel
theorem d_Md_gives_0 : decode b_Md_gives 0 = .ok (.iconst (-1), 1) := by decide +kernel
theorem d_Md_gives_1 : decode b_Md_gives 1 = .ok (.istore_n 3, 1) := by decide +kernel
theorem d_Md_gives_2 : decode b_Md_gives 2 = .ok (.iconst 0, 1) := by decide +kernel
theorem d_Md_gives_3 : decode b_Md_gives 3 = .ok (.istore 4, 2) := by decide +kernel
theorem d_Md_gives_5 : decode b_Md_gives 5 = .ok (.iload 4, 2) := by decide +kernel
theorem d_Md_gives_7 : decode b_Md_gives 7 = .ok (.aload_n 0, 1) := by decide +kernel
theorem d_Md_gives_8 : decode b_Md_gives 8 = .ok (.getfield 44, 3) := by decide +kernel
theorem d_Md_gives_11 : decode b_Md_gives 11 = .ok (.if_icmp .ge 43, 3) := by decide +kernel
theorem d_Md_gives_14 : decode b_Md_gives 14 = .ok (.aload_n 0, 1) := by decide +kernel
theorem d_Md_gives_15 : decode b_Md_gives 15 = .ok (.iload 4, 2) := by decide +kernel
theorem d_Md_gives_17 : decode b_Md_gives 17 = .ok (.iload_n 1, 1) := by decide +kernel
theorem d_Md_gives_18 : decode b_Md_gives 18 = .ok (.iload_n 2, 1) := by decide +kernel
theorem d_Md_gives_19 : decode b_Md_gives 19 = .ok (.invokevirtual 266, 3) := by decide +kernel
theorem d_Md_gives_22 : decode b_Md_gives 22 = .ok (.ifCond .ne 6, 3) := by decide +kernel
theorem d_Md_gives_25 : decode b_Md_gives 25 = .ok (.goto 23, 3) := by decide +kernel
theorem d_Md_gives_28 : decode b_Md_gives 28 = .ok (.iload_n 3, 1) := by decide +kernel
theorem d_Md_gives_29 : decode b_Md_gives 29 = .ok (.iconst (-1), 1) := by decide +kernel
theorem d_Md_gives_30 : decode b_Md_gives 30 = .ok (.if_icmp .eq 15, 3) := by decide +kernel
theorem d_Md_gives_33 : decode b_Md_gives 33 = .ok (.aload_n 0, 1) := by decide +kernel
theorem d_Md_gives_34 : decode b_Md_gives 34 = .ok (.iload_n 1, 1) := by decide +kernel
theorem d_Md_gives_35 : decode b_Md_gives 35 = .ok (.iload 4, 2) := by decide +kernel
theorem d_Md_gives_37 : decode b_Md_gives 37 = .ok (.iload_n 3, 1) := by decide +kernel
theorem d_Md_gives_38 : decode b_Md_gives 38 = .ok (.iload_n 2, 1) := by decide +kernel
theorem d_Md_gives_39 : decode b_Md_gives 39 = .ok (.invokevirtual 269, 3) := by decide +kernel
theorem d_Md_gives_42 : decode b_Md_gives 42 = .ok (.ifCond .lt 6, 3) := by decide +kernel
theorem d_Md_gives_45 : decode b_Md_gives 45 = .ok (.iload 4, 2) := by decide +kernel
theorem d_Md_gives_47 : decode b_Md_gives 47 = .ok (.istore_n 3, 1) := by decide +kernel
theorem d_Md_gives_48 : decode b_Md_gives 48 = .ok (.iinc 4 1, 3) := by decide +kernel
theorem d_Md_gives_51 : decode b_Md_gives 51 = .ok (.goto (-46), 3) := by decide +kernel
theorem d_Md_gives_54 : decode b_Md_gives 54 = .ok (.iload_n 3, 1) := by decide +kernel
theorem d_Md_gives_55 : decode b_Md_gives 55 = .ok (.iconst (-1), 1) := by decide +kernel
theorem d_Md_gives_56 : decode b_Md_gives 56 = .ok (.if_icmp .eq 10, 3) := by decide +kernel
theorem d_Md_gives_59 : decode b_Md_gives 59 = .ok (.aload_n 0, 1) := by decide +kernel
theorem d_Md_gives_60 : decode b_Md_gives 60 = .ok (.iload_n 3, 1) := by decide +kernel
theorem d_Md_gives_61 : decode b_Md_gives 61 = .ok (.iload_n 1, 1) := by decide +kernel
theorem d_Md_gives_62 : decode b_Md_gives 62 = .ok (.iload_n 2, 1) := by decide +kernel
theorem d_Md_gives_63 : decode b_Md_gives 63 = .ok (.invokevirtual 272, 3) := by decide +kernel
theorem d_Md_gives_66 : decode b_Md_gives 66 = .ok (.return_, 1) := by decide +kernel
theorem d_Md_decides_0 : decode b_Md_decides 0 = .ok (.aload_n 0, 1) := by decide +kernel
theorem d_Md_decides_1 : decode b_Md_decides 1 = .ok (.iload 4, 2) := by decide +kernel
theorem d_Md_decides_3 : decode b_Md_decides 3 = .ok (.invokevirtual 245, 3) := by decide +kernel
theorem d_Md_decides_6 : decode b_Md_decides 6 = .ok (.istore 5, 2) := by decide +kernel
theorem d_Md_decides_8 : decode b_Md_decides 8 = .ok (.iload 5, 2) := by decide +kernel
theorem d_Md_decides_10 : decode b_Md_decides 10 = .ok (.ifCond .lt 117, 3) := by decide +kernel
theorem d_Md_decides_13 : decode b_Md_decides 13 = .ok (.sipush 600, 3) := by decide +kernel
theorem d_Md_decides_16 : decode b_Md_decides 16 = .ok (.iload 5, 2) := by decide +kernel
theorem d_Md_decides_18 : decode b_Md_decides 18 = .ok (.imul, 1) := by decide +kernel
theorem d_Md_decides_19 : decode b_Md_decides 19 = .ok (.istore 6, 2) := by decide +kernel
theorem d_Md_decides_21 : decode b_Md_decides 21 = .ok (.iconst 0, 1) := by decide +kernel
theorem d_Md_decides_22 : decode b_Md_decides 22 = .ok (.istore 7, 2) := by decide +kernel
theorem d_Md_decides_24 : decode b_Md_decides 24 = .ok (.iload 7, 2) := by decide +kernel
theorem d_Md_decides_26 : decode b_Md_decides 26 = .ok (.aload_n 0, 1) := by decide +kernel
theorem d_Md_decides_27 : decode b_Md_decides 27 = .ok (.getfield 62, 3) := by decide +kernel
theorem d_Md_decides_30 : decode b_Md_decides 30 = .ok (.iload 5, 2) := by decide +kernel
theorem d_Md_decides_32 : decode b_Md_decides 32 = .ok (.iaload, 1) := by decide +kernel
theorem d_Md_decides_33 : decode b_Md_decides 33 = .ok (.if_icmp .ge 94, 3) := by decide +kernel
theorem d_Md_decides_36 : decode b_Md_decides 36 = .ok (.aload_n 0, 1) := by decide +kernel
theorem d_Md_decides_37 : decode b_Md_decides 37 = .ok (.getfield 68, 3) := by decide +kernel
theorem d_Md_decides_40 : decode b_Md_decides 40 = .ok (.iload 6, 2) := by decide +kernel
theorem d_Md_decides_42 : decode b_Md_decides 42 = .ok (.iaload, 1) := by decide +kernel
theorem d_Md_decides_43 : decode b_Md_decides 43 = .ok (.iconst 4, 1) := by decide +kernel
theorem d_Md_decides_44 : decode b_Md_decides 44 = .ok (.if_icmp .eq 59, 3) := by decide +kernel
theorem d_Md_decides_47 : decode b_Md_decides 47 = .ok (.aload_n 0, 1) := by decide +kernel
theorem d_Md_decides_48 : decode b_Md_decides 48 = .ok (.iload 6, 2) := by decide +kernel
theorem d_Md_decides_50 : decode b_Md_decides 50 = .ok (.iload_n 1, 1) := by decide +kernel
theorem d_Md_decides_51 : decode b_Md_decides 51 = .ok (.aload_n 0, 1) := by decide +kernel
theorem d_Md_decides_52 : decode b_Md_decides 52 = .ok (.getfield 47, 3) := by decide +kernel
theorem d_Md_decides_55 : decode b_Md_decides 55 = .ok (.bipush 7, 2) := by decide +kernel
theorem d_Md_decides_57 : decode b_Md_decides 57 = .ok (.iload_n 2, 1) := by decide +kernel
theorem d_Md_decides_58 : decode b_Md_decides 58 = .ok (.imul, 1) := by decide +kernel
theorem d_Md_decides_59 : decode b_Md_decides 59 = .ok (.iaload, 1) := by decide +kernel
theorem d_Md_decides_60 : decode b_Md_decides 60 = .ok (.iload_n 2, 1) := by decide +kernel
theorem d_Md_decides_61 : decode b_Md_decides 61 = .ok (.iload 4, 2) := by decide +kernel
theorem d_Md_decides_63 : decode b_Md_decides 63 = .ok (.invokevirtual 248, 3) := by decide +kernel
theorem d_Md_decides_66 : decode b_Md_decides 66 = .ok (.ifCond .eq 37, 3) := by decide +kernel
theorem d_Md_decides_69 : decode b_Md_decides 69 = .ok (.aload_n 0, 1) := by decide +kernel
theorem d_Md_decides_70 : decode b_Md_decides 70 = .ok (.iload 6, 2) := by decide +kernel
theorem d_Md_decides_72 : decode b_Md_decides 72 = .ok (.iload_n 1, 1) := by decide +kernel
theorem d_Md_decides_73 : decode b_Md_decides 73 = .ok (.iload_n 2, 1) := by decide +kernel
theorem d_Md_decides_74 : decode b_Md_decides 74 = .ok (.iload_n 3, 1) := by decide +kernel
theorem d_Md_decides_75 : decode b_Md_decides 75 = .ok (.iload 4, 2) := by decide +kernel
theorem d_Md_decides_77 : decode b_Md_decides 77 = .ok (.invokevirtual 252, 3) := by decide +kernel
theorem d_Md_decides_80 : decode b_Md_decides 80 = .ok (.istore 8, 2) := by decide +kernel
theorem d_Md_decides_82 : decode b_Md_decides 82 = .ok (.iload 8, 2) := by decide +kernel
theorem d_Md_decides_84 : decode b_Md_decides 84 = .ok (.ifCond .eq 19, 3) := by decide +kernel
theorem d_Md_decides_87 : decode b_Md_decides 87 = .ok (.iload 8, 2) := by decide +kernel
theorem d_Md_decides_89 : decode b_Md_decides 89 = .ok (.ifCond .le 8, 3) := by decide +kernel
theorem d_Md_decides_92 : decode b_Md_decides 92 = .ok (.iload 7, 2) := by decide +kernel
theorem d_Md_decides_94 : decode b_Md_decides 94 = .ok (.goto 8, 3) := by decide +kernel
theorem d_Md_decides_97 : decode b_Md_decides 97 = .ok (.iload 7, 2) := by decide +kernel
theorem d_Md_decides_99 : decode b_Md_decides 99 = .ok (.ineg, 1) := by decide +kernel
theorem d_Md_decides_100 : decode b_Md_decides 100 = .ok (.iconst 1, 1) := by decide +kernel
theorem d_Md_decides_101 : decode b_Md_decides 101 = .ok (.isub, 1) := by decide +kernel
theorem d_Md_decides_102 : decode b_Md_decides 102 = .ok (.ireturn, 1) := by decide +kernel
theorem d_Md_decides_103 : decode b_Md_decides 103 = .ok (.iload 6, 2) := by decide +kernel
theorem d_Md_decides_105 : decode b_Md_decides 105 = .ok (.iconst 3, 1) := by decide +kernel
theorem d_Md_decides_106 : decode b_Md_decides 106 = .ok (.iconst 3, 1) := by decide +kernel
theorem d_Md_decides_107 : decode b_Md_decides 107 = .ok (.aload_n 0, 1) := by decide +kernel
theorem d_Md_decides_108 : decode b_Md_decides 108 = .ok (.getfield 68, 3) := by decide +kernel
theorem d_Md_decides_111 : decode b_Md_decides 111 = .ok (.iload 6, 2) := by decide +kernel
theorem d_Md_decides_113 : decode b_Md_decides 113 = .ok (.iconst 2, 1) := by decide +kernel
theorem d_Md_decides_114 : decode b_Md_decides 114 = .ok (.iadd, 1) := by decide +kernel
theorem d_Md_decides_115 : decode b_Md_decides 115 = .ok (.iaload, 1) := by decide +kernel
theorem d_Md_decides_116 : decode b_Md_decides 116 = .ok (.imul, 1) := by decide +kernel
theorem d_Md_decides_117 : decode b_Md_decides 117 = .ok (.iadd, 1) := by decide +kernel
theorem d_Md_decides_118 : decode b_Md_decides 118 = .ok (.iadd, 1) := by decide +kernel
theorem d_Md_decides_119 : decode b_Md_decides 119 = .ok (.istore 6, 2) := by decide +kernel
theorem d_Md_decides_121 : decode b_Md_decides 121 = .ok (.iinc 7 1, 3) := by decide +kernel
theorem d_Md_decides_124 : decode b_Md_decides 124 = .ok (.goto (-100), 3) := by decide +kernel
theorem d_Md_decides_127 : decode b_Md_decides 127 = .ok (.iload_n 2, 1) := by decide +kernel
theorem d_Md_decides_128 : decode b_Md_decides 128 = .ok (.iload_n 3, 1) := by decide +kernel
theorem d_Md_decides_129 : decode b_Md_decides 129 = .ok (.if_icmp .ge 8, 3) := by decide +kernel
theorem d_Md_decides_132 : decode b_Md_decides 132 = .ok (.bipush 100, 2) := by decide +kernel
theorem d_Md_decides_134 : decode b_Md_decides 134 = .ok (.goto 5, 3) := by decide +kernel
theorem d_Md_decides_137 : decode b_Md_decides 137 = .ok (.bipush (-101), 2) := by decide +kernel
theorem d_Md_decides_139 : decode b_Md_decides 139 = .ok (.ireturn, 1) := by decide +kernel
theorem d_Md_differ_0 : decode b_Md_differ 0 = .ok (.aload_n 0, 1) := by decide +kernel
theorem d_Md_differ_1 : decode b_Md_differ 1 = .ok (.getfield 68, 3) := by decide +kernel
theorem d_Md_differ_4 : decode b_Md_differ 4 = .ok (.iload_n 1, 1) := by decide +kernel
theorem d_Md_differ_5 : decode b_Md_differ 5 = .ok (.iconst 1, 1) := by decide +kernel
theorem d_Md_differ_6 : decode b_Md_differ 6 = .ok (.iadd, 1) := by decide +kernel
theorem d_Md_differ_7 : decode b_Md_differ 7 = .ok (.iaload, 1) := by decide +kernel
theorem d_Md_differ_8 : decode b_Md_differ 8 = .ok (.istore 6, 2) := by decide +kernel
theorem d_Md_differ_10 : decode b_Md_differ 10 = .ok (.aload_n 0, 1) := by decide +kernel
theorem d_Md_differ_11 : decode b_Md_differ 11 = .ok (.getfield 47, 3) := by decide +kernel
theorem d_Md_differ_14 : decode b_Md_differ 14 = .ok (.bipush 7, 2) := by decide +kernel
theorem d_Md_differ_16 : decode b_Md_differ 16 = .ok (.iload_n 3, 1) := by decide +kernel
theorem d_Md_differ_17 : decode b_Md_differ 17 = .ok (.imul, 1) := by decide +kernel
theorem d_Md_differ_18 : decode b_Md_differ 18 = .ok (.iaload, 1) := by decide +kernel
theorem d_Md_differ_19 : decode b_Md_differ 19 = .ok (.istore 7, 2) := by decide +kernel
theorem d_Md_differ_21 : decode b_Md_differ 21 = .ok (.aload_n 0, 1) := by decide +kernel
theorem d_Md_differ_22 : decode b_Md_differ 22 = .ok (.getfield 47, 3) := by decide +kernel
theorem d_Md_differ_25 : decode b_Md_differ 25 = .ok (.bipush 7, 2) := by decide +kernel
theorem d_Md_differ_27 : decode b_Md_differ 27 = .ok (.iload 4, 2) := by decide +kernel
theorem d_Md_differ_29 : decode b_Md_differ 29 = .ok (.imul, 1) := by decide +kernel
theorem d_Md_differ_30 : decode b_Md_differ 30 = .ok (.iaload, 1) := by decide +kernel
theorem d_Md_differ_31 : decode b_Md_differ 31 = .ok (.istore 8, 2) := by decide +kernel
theorem d_Md_differ_33 : decode b_Md_differ 33 = .ok (.aload_n 0, 1) := by decide +kernel
theorem d_Md_differ_34 : decode b_Md_differ 34 = .ok (.getfield 68, 3) := by decide +kernel
theorem d_Md_differ_37 : decode b_Md_differ 37 = .ok (.iload_n 1, 1) := by decide +kernel
theorem d_Md_differ_38 : decode b_Md_differ 38 = .ok (.iaload, 1) := by decide +kernel
theorem d_Md_differ_39 : decode b_Md_differ 39 = .ok (.tableswitch 143 0 2 #[25, 60, 116], 25) := by decide +kernel
theorem d_Md_differ_64 : decode b_Md_differ 64 = .ok (.aload_n 0, 1) := by decide +kernel
theorem d_Md_differ_65 : decode b_Md_differ 65 = .ok (.getfield 47, 3) := by decide +kernel
theorem d_Md_differ_68 : decode b_Md_differ 68 = .ok (.bipush 7, 2) := by decide +kernel
theorem d_Md_differ_70 : decode b_Md_differ 70 = .ok (.iload_n 3, 1) := by decide +kernel
theorem d_Md_differ_71 : decode b_Md_differ 71 = .ok (.imul, 1) := by decide +kernel
theorem d_Md_differ_72 : decode b_Md_differ 72 = .ok (.iconst 2, 1) := by decide +kernel
theorem d_Md_differ_73 : decode b_Md_differ 73 = .ok (.iadd, 1) := by decide +kernel
theorem d_Md_differ_74 : decode b_Md_differ 74 = .ok (.iaload, 1) := by decide +kernel
theorem d_Md_differ_75 : decode b_Md_differ 75 = .ok (.iload 6, 2) := by decide +kernel
theorem d_Md_differ_77 : decode b_Md_differ 77 = .ok (.ishr, 1) := by decide +kernel
theorem d_Md_differ_78 : decode b_Md_differ 78 = .ok (.iconst 1, 1) := by decide +kernel
theorem d_Md_differ_79 : decode b_Md_differ 79 = .ok (.iand, 1) := by decide +kernel
theorem d_Md_differ_80 : decode b_Md_differ 80 = .ok (.aload_n 0, 1) := by decide +kernel
theorem d_Md_differ_81 : decode b_Md_differ 81 = .ok (.getfield 47, 3) := by decide +kernel
theorem d_Md_differ_84 : decode b_Md_differ 84 = .ok (.bipush 7, 2) := by decide +kernel
theorem d_Md_differ_86 : decode b_Md_differ 86 = .ok (.iload 4, 2) := by decide +kernel
theorem d_Md_differ_88 : decode b_Md_differ 88 = .ok (.imul, 1) := by decide +kernel
theorem d_Md_differ_89 : decode b_Md_differ 89 = .ok (.iconst 2, 1) := by decide +kernel
theorem d_Md_differ_90 : decode b_Md_differ 90 = .ok (.iadd, 1) := by decide +kernel
theorem d_Md_differ_91 : decode b_Md_differ 91 = .ok (.iaload, 1) := by decide +kernel
theorem d_Md_differ_92 : decode b_Md_differ 92 = .ok (.iload 6, 2) := by decide +kernel
theorem d_Md_differ_94 : decode b_Md_differ 94 = .ok (.ishr, 1) := by decide +kernel
theorem d_Md_differ_95 : decode b_Md_differ 95 = .ok (.iconst 1, 1) := by decide +kernel
theorem d_Md_differ_96 : decode b_Md_differ 96 = .ok (.iand, 1) := by decide +kernel
theorem d_Md_differ_97 : decode b_Md_differ 97 = .ok (.isub, 1) := by decide +kernel
theorem d_Md_differ_98 : decode b_Md_differ 98 = .ok (.ireturn, 1) := by decide +kernel
theorem d_Md_differ_99 : decode b_Md_differ 99 = .ok (.aload_n 0, 1) := by decide +kernel
theorem d_Md_differ_100 : decode b_Md_differ 100 = .ok (.getfield 20, 3) := by decide +kernel
theorem d_Md_differ_103 : decode b_Md_differ 103 = .ok (.iconst 3, 1) := by decide +kernel
theorem d_Md_differ_104 : decode b_Md_differ 104 = .ok (.iload 7, 2) := by decide +kernel
theorem d_Md_differ_106 : decode b_Md_differ 106 = .ok (.imul, 1) := by decide +kernel
theorem d_Md_differ_107 : decode b_Md_differ 107 = .ok (.iconst 2, 1) := by decide +kernel
theorem d_Md_differ_108 : decode b_Md_differ 108 = .ok (.iadd, 1) := by decide +kernel
theorem d_Md_differ_109 : decode b_Md_differ 109 = .ok (.iaload, 1) := by decide +kernel
theorem d_Md_differ_110 : decode b_Md_differ 110 = .ok (.aload_n 0, 1) := by decide +kernel
theorem d_Md_differ_111 : decode b_Md_differ 111 = .ok (.getfield 26, 3) := by decide +kernel
theorem d_Md_differ_114 : decode b_Md_differ 114 = .ok (.iconst 3, 1) := by decide +kernel
theorem d_Md_differ_115 : decode b_Md_differ 115 = .ok (.iload_n 2, 1) := by decide +kernel
theorem d_Md_differ_116 : decode b_Md_differ 116 = .ok (.imul, 1) := by decide +kernel
theorem d_Md_differ_117 : decode b_Md_differ 117 = .ok (.iaload, 1) := by decide +kernel
theorem d_Md_differ_118 : decode b_Md_differ 118 = .ok (.if_icmp .ne 7, 3) := by decide +kernel
theorem d_Md_differ_121 : decode b_Md_differ 121 = .ok (.iconst 1, 1) := by decide +kernel
theorem d_Md_differ_122 : decode b_Md_differ 122 = .ok (.goto 4, 3) := by decide +kernel
theorem d_Md_differ_125 : decode b_Md_differ 125 = .ok (.iconst 0, 1) := by decide +kernel
theorem d_Md_differ_126 : decode b_Md_differ 126 = .ok (.aload_n 0, 1) := by decide +kernel
theorem d_Md_differ_127 : decode b_Md_differ 127 = .ok (.getfield 20, 3) := by decide +kernel
theorem d_Md_differ_130 : decode b_Md_differ 130 = .ok (.iconst 3, 1) := by decide +kernel
theorem d_Md_differ_131 : decode b_Md_differ 131 = .ok (.iload 8, 2) := by decide +kernel
theorem d_Md_differ_133 : decode b_Md_differ 133 = .ok (.imul, 1) := by decide +kernel
theorem d_Md_differ_134 : decode b_Md_differ 134 = .ok (.iconst 2, 1) := by decide +kernel
theorem d_Md_differ_135 : decode b_Md_differ 135 = .ok (.iadd, 1) := by decide +kernel
theorem d_Md_differ_136 : decode b_Md_differ 136 = .ok (.iaload, 1) := by decide +kernel
theorem d_Md_differ_137 : decode b_Md_differ 137 = .ok (.aload_n 0, 1) := by decide +kernel
theorem d_Md_differ_138 : decode b_Md_differ 138 = .ok (.getfield 26, 3) := by decide +kernel
theorem d_Md_differ_141 : decode b_Md_differ 141 = .ok (.iconst 3, 1) := by decide +kernel
theorem d_Md_differ_142 : decode b_Md_differ 142 = .ok (.iload_n 2, 1) := by decide +kernel
theorem d_Md_differ_143 : decode b_Md_differ 143 = .ok (.imul, 1) := by decide +kernel
theorem d_Md_differ_144 : decode b_Md_differ 144 = .ok (.iaload, 1) := by decide +kernel
theorem d_Md_differ_145 : decode b_Md_differ 145 = .ok (.if_icmp .ne 7, 3) := by decide +kernel
theorem d_Md_differ_148 : decode b_Md_differ 148 = .ok (.iconst 1, 1) := by decide +kernel
theorem d_Md_differ_149 : decode b_Md_differ 149 = .ok (.goto 4, 3) := by decide +kernel
theorem d_Md_differ_152 : decode b_Md_differ 152 = .ok (.iconst 0, 1) := by decide +kernel
theorem d_Md_differ_153 : decode b_Md_differ 153 = .ok (.isub, 1) := by decide +kernel
theorem d_Md_differ_154 : decode b_Md_differ 154 = .ok (.ireturn, 1) := by decide +kernel
theorem d_Md_differ_155 : decode b_Md_differ 155 = .ok (.aload_n 0, 1) := by decide +kernel
theorem d_Md_differ_156 : decode b_Md_differ 156 = .ok (.iload 6, 2) := by decide +kernel
theorem d_Md_differ_158 : decode b_Md_differ 158 = .ok (.iload_n 2, 1) := by decide +kernel
theorem d_Md_differ_159 : decode b_Md_differ 159 = .ok (.iload 7, 2) := by decide +kernel
theorem d_Md_differ_161 : decode b_Md_differ 161 = .ok (.iload_n 3, 1) := by decide +kernel
theorem d_Md_differ_162 : decode b_Md_differ 162 = .ok (.iload 5, 2) := by decide +kernel
theorem d_Md_differ_164 : decode b_Md_differ 164 = .ok (.invokevirtual 241, 3) := by decide +kernel
theorem d_Md_differ_167 : decode b_Md_differ 167 = .ok (.aload_n 0, 1) := by decide +kernel
theorem d_Md_differ_168 : decode b_Md_differ 168 = .ok (.iload 6, 2) := by decide +kernel
theorem d_Md_differ_170 : decode b_Md_differ 170 = .ok (.iload_n 2, 1) := by decide +kernel
theorem d_Md_differ_171 : decode b_Md_differ 171 = .ok (.iload 8, 2) := by decide +kernel
theorem d_Md_differ_173 : decode b_Md_differ 173 = .ok (.iload 4, 2) := by decide +kernel
theorem d_Md_differ_175 : decode b_Md_differ 175 = .ok (.iload 5, 2) := by decide +kernel
theorem d_Md_differ_177 : decode b_Md_differ 177 = .ok (.invokevirtual 241, 3) := by decide +kernel
theorem d_Md_differ_180 : decode b_Md_differ 180 = .ok (.isub, 1) := by decide +kernel
theorem d_Md_differ_181 : decode b_Md_differ 181 = .ok (.ireturn, 1) := by decide +kernel
theorem d_Md_differ_182 : decode b_Md_differ 182 = .ok (.aload_n 0, 1) := by decide +kernel
theorem d_Md_differ_183 : decode b_Md_differ 183 = .ok (.iload 6, 2) := by decide +kernel
theorem d_Md_differ_185 : decode b_Md_differ 185 = .ok (.iload_n 2, 1) := by decide +kernel
theorem d_Md_differ_186 : decode b_Md_differ 186 = .ok (.iload 8, 2) := by decide +kernel
theorem d_Md_differ_188 : decode b_Md_differ 188 = .ok (.iload 4, 2) := by decide +kernel
theorem d_Md_differ_190 : decode b_Md_differ 190 = .ok (.iload 5, 2) := by decide +kernel
theorem d_Md_differ_192 : decode b_Md_differ 192 = .ok (.invokevirtual 241, 3) := by decide +kernel
theorem d_Md_differ_195 : decode b_Md_differ 195 = .ok (.aload_n 0, 1) := by decide +kernel
theorem d_Md_differ_196 : decode b_Md_differ 196 = .ok (.iload 6, 2) := by decide +kernel
theorem d_Md_differ_198 : decode b_Md_differ 198 = .ok (.iload_n 2, 1) := by decide +kernel
theorem d_Md_differ_199 : decode b_Md_differ 199 = .ok (.iload 7, 2) := by decide +kernel
theorem d_Md_differ_201 : decode b_Md_differ 201 = .ok (.iload_n 3, 1) := by decide +kernel
theorem d_Md_differ_202 : decode b_Md_differ 202 = .ok (.iload 5, 2) := by decide +kernel
theorem d_Md_differ_204 : decode b_Md_differ 204 = .ok (.invokevirtual 241, 3) := by decide +kernel
theorem d_Md_differ_207 : decode b_Md_differ 207 = .ok (.isub, 1) := by decide +kernel
theorem d_Md_differ_208 : decode b_Md_differ 208 = .ok (.ireturn, 1) := by decide +kernel
theorem d_Md_resigns_0 : decode b_Md_resigns 0 = .ok (.aload_n 0, 1) := by decide +kernel
theorem d_Md_resigns_1 : decode b_Md_resigns 1 = .ok (.getfield 89, 3) := by decide +kernel
theorem d_Md_resigns_4 : decode b_Md_resigns 4 = .ok (.iload_n 1, 1) := by decide +kernel
theorem d_Md_resigns_5 : decode b_Md_resigns 5 = .ok (.iaload, 1) := by decide +kernel
theorem d_Md_resigns_6 : decode b_Md_resigns 6 = .ok (.iconst (-1), 1) := by decide +kernel
theorem d_Md_resigns_7 : decode b_Md_resigns 7 = .ok (.if_icmp .ne 4, 3) := by decide +kernel
theorem d_Md_resigns_10 : decode b_Md_resigns 10 = .ok (.return_, 1) := by decide +kernel
theorem d_Md_resigns_11 : decode b_Md_resigns 11 = .ok (.aload_n 0, 1) := by decide +kernel
theorem d_Md_resigns_12 : decode b_Md_resigns 12 = .ok (.iload_n 1, 1) := by decide +kernel
theorem d_Md_resigns_13 : decode b_Md_resigns 13 = .ok (.iload_n 3, 1) := by decide +kernel
theorem d_Md_resigns_14 : decode b_Md_resigns 14 = .ok (.invokevirtual 275, 3) := by decide +kernel
theorem d_Md_resigns_17 : decode b_Md_resigns 17 = .ok (.aload_n 0, 1) := by decide +kernel
theorem d_Md_resigns_18 : decode b_Md_resigns 18 = .ok (.getfield 95, 3) := by decide +kernel
theorem d_Md_resigns_21 : decode b_Md_resigns 21 = .ok (.iload_n 2, 1) := by decide +kernel
theorem d_Md_resigns_22 : decode b_Md_resigns 22 = .ok (.baload, 1) := by decide +kernel
theorem d_Md_resigns_23 : decode b_Md_resigns 23 = .ok (.ifCond .ne 24, 3) := by decide +kernel
theorem d_Md_resigns_26 : decode b_Md_resigns 26 = .ok (.aload_n 0, 1) := by decide +kernel
theorem d_Md_resigns_27 : decode b_Md_resigns 27 = .ok (.iload_n 1, 1) := by decide +kernel
theorem d_Md_resigns_28 : decode b_Md_resigns 28 = .ok (.iload_n 2, 1) := by decide +kernel
theorem d_Md_resigns_29 : decode b_Md_resigns 29 = .ok (.iconst (-1), 1) := by decide +kernel
theorem d_Md_resigns_30 : decode b_Md_resigns 30 = .ok (.iload_n 3, 1) := by decide +kernel
theorem d_Md_resigns_31 : decode b_Md_resigns 31 = .ok (.invokevirtual 259, 3) := by decide +kernel
theorem d_Md_resigns_34 : decode b_Md_resigns 34 = .ok (.ifCond .ne 13, 3) := by decide +kernel
theorem d_Md_resigns_37 : decode b_Md_resigns 37 = .ok (.aload_n 0, 1) := by decide +kernel
theorem d_Md_resigns_38 : decode b_Md_resigns 38 = .ok (.iload_n 1, 1) := by decide +kernel
theorem d_Md_resigns_39 : decode b_Md_resigns 39 = .ok (.iload_n 2, 1) := by decide +kernel
theorem d_Md_resigns_40 : decode b_Md_resigns 40 = .ok (.iload_n 3, 1) := by decide +kernel
theorem d_Md_resigns_41 : decode b_Md_resigns 41 = .ok (.invokevirtual 263, 3) := by decide +kernel
theorem d_Md_resigns_44 : decode b_Md_resigns 44 = .ok (.goto 9, 3) := by decide +kernel
theorem d_Md_resigns_47 : decode b_Md_resigns 47 = .ok (.aload_n 0, 1) := by decide +kernel
theorem d_Md_resigns_48 : decode b_Md_resigns 48 = .ok (.iload_n 1, 1) := by decide +kernel
theorem d_Md_resigns_49 : decode b_Md_resigns 49 = .ok (.iload_n 3, 1) := by decide +kernel
theorem d_Md_resigns_50 : decode b_Md_resigns 50 = .ok (.invokevirtual 278, 3) := by decide +kernel
theorem d_Md_resigns_53 : decode b_Md_resigns 53 = .ok (.return_, 1) := by decide +kernel
theorem d_Md_swaps_0 : decode b_Md_swaps 0 = .ok (.aload_n 0, 1) := by decide +kernel
theorem d_Md_swaps_1 : decode b_Md_swaps 1 = .ok (.getfield 89, 3) := by decide +kernel
theorem d_Md_swaps_4 : decode b_Md_swaps 4 = .ok (.iload_n 1, 1) := by decide +kernel
theorem d_Md_swaps_5 : decode b_Md_swaps 5 = .ok (.iaload, 1) := by decide +kernel
theorem d_Md_swaps_6 : decode b_Md_swaps 6 = .ok (.istore 4, 2) := by decide +kernel
theorem d_Md_swaps_8 : decode b_Md_swaps 8 = .ok (.aload_n 0, 1) := by decide +kernel
theorem d_Md_swaps_9 : decode b_Md_swaps 9 = .ok (.getfield 89, 3) := by decide +kernel
theorem d_Md_swaps_12 : decode b_Md_swaps 12 = .ok (.iload_n 2, 1) := by decide +kernel
theorem d_Md_swaps_13 : decode b_Md_swaps 13 = .ok (.iaload, 1) := by decide +kernel
theorem d_Md_swaps_14 : decode b_Md_swaps 14 = .ok (.istore 5, 2) := by decide +kernel
theorem d_Md_swaps_16 : decode b_Md_swaps 16 = .ok (.iload 4, 2) := by decide +kernel
theorem d_Md_swaps_18 : decode b_Md_swaps 18 = .ok (.iconst (-1), 1) := by decide +kernel
theorem d_Md_swaps_19 : decode b_Md_swaps 19 = .ok (.if_icmp .eq 9, 3) := by decide +kernel
theorem d_Md_swaps_22 : decode b_Md_swaps 22 = .ok (.iload 5, 2) := by decide +kernel
theorem d_Md_swaps_24 : decode b_Md_swaps 24 = .ok (.iconst (-1), 1) := by decide +kernel
theorem d_Md_swaps_25 : decode b_Md_swaps 25 = .ok (.if_icmp .ne 4, 3) := by decide +kernel
theorem d_Md_swaps_28 : decode b_Md_swaps 28 = .ok (.return_, 1) := by decide +kernel
theorem d_Md_swaps_29 : decode b_Md_swaps 29 = .ok (.aload_n 0, 1) := by decide +kernel
theorem d_Md_swaps_30 : decode b_Md_swaps 30 = .ok (.iload_n 1, 1) := by decide +kernel
theorem d_Md_swaps_31 : decode b_Md_swaps 31 = .ok (.iload_n 3, 1) := by decide +kernel
theorem d_Md_swaps_32 : decode b_Md_swaps 32 = .ok (.invokevirtual 275, 3) := by decide +kernel
theorem d_Md_swaps_35 : decode b_Md_swaps 35 = .ok (.aload_n 0, 1) := by decide +kernel
theorem d_Md_swaps_36 : decode b_Md_swaps 36 = .ok (.iload_n 2, 1) := by decide +kernel
theorem d_Md_swaps_37 : decode b_Md_swaps 37 = .ok (.iload_n 3, 1) := by decide +kernel
theorem d_Md_swaps_38 : decode b_Md_swaps 38 = .ok (.invokevirtual 275, 3) := by decide +kernel
theorem d_Md_swaps_41 : decode b_Md_swaps 41 = .ok (.aload_n 0, 1) := by decide +kernel
theorem d_Md_swaps_42 : decode b_Md_swaps 42 = .ok (.iload_n 1, 1) := by decide +kernel
theorem d_Md_swaps_43 : decode b_Md_swaps 43 = .ok (.iload 5, 2) := by decide +kernel
theorem d_Md_swaps_45 : decode b_Md_swaps 45 = .ok (.iload_n 3, 1) := by decide +kernel
theorem d_Md_swaps_46 : decode b_Md_swaps 46 = .ok (.invokevirtual 263, 3) := by decide +kernel
theorem d_Md_swaps_49 : decode b_Md_swaps 49 = .ok (.aload_n 0, 1) := by decide +kernel
theorem d_Md_swaps_50 : decode b_Md_swaps 50 = .ok (.iload_n 2, 1) := by decide +kernel
theorem d_Md_swaps_51 : decode b_Md_swaps 51 = .ok (.iload 4, 2) := by decide +kernel
theorem d_Md_swaps_53 : decode b_Md_swaps 53 = .ok (.iload_n 3, 1) := by decide +kernel
theorem d_Md_swaps_54 : decode b_Md_swaps 54 = .ok (.invokevirtual 263, 3) := by decide +kernel
theorem d_Md_swaps_57 : decode b_Md_swaps 57 = .ok (.return_, 1) := by decide +kernel
theorem d_Md_paperOf_0 : decode b_Md_paperOf 0 = .ok (.aload_n 0, 1) := by decide +kernel
theorem d_Md_paperOf_1 : decode b_Md_paperOf 1 = .ok (.iload_n 1, 1) := by decide +kernel
theorem d_Md_paperOf_2 : decode b_Md_paperOf 2 = .ok (.invokevirtual 302, 3) := by decide +kernel
theorem d_Md_paperOf_5 : decode b_Md_paperOf 5 = .ok (.ifCond .ne 6, 3) := by decide +kernel
theorem d_Md_paperOf_8 : decode b_Md_paperOf 8 = .ok (.bipush (-2), 2) := by decide +kernel
theorem d_Md_paperOf_10 : decode b_Md_paperOf 10 = .ok (.ireturn, 1) := by decide +kernel
theorem d_Md_paperOf_11 : decode b_Md_paperOf 11 = .ok (.aload_n 0, 1) := by decide +kernel
theorem d_Md_paperOf_12 : decode b_Md_paperOf 12 = .ok (.aload_n 0, 1) := by decide +kernel
theorem d_Md_paperOf_13 : decode b_Md_paperOf 13 = .ok (.invokevirtual 296, 3) := by decide +kernel
theorem d_Md_paperOf_16 : decode b_Md_paperOf 16 = .ok (.ldc 229, 2) := by decide +kernel
theorem d_Md_paperOf_18 : decode b_Md_paperOf 18 = .ok (.invokevirtual 299, 3) := by decide +kernel
theorem d_Md_paperOf_21 : decode b_Md_paperOf 21 = .ok (.iload_n 2, 1) := by decide +kernel
theorem d_Md_paperOf_22 : decode b_Md_paperOf 22 = .ok (.tableswitch 98 0 3 #[30, 37, 70, 85], 30) := by decide +kernel
theorem d_Md_paperOf_52 : decode b_Md_paperOf 52 = .ok (.aload_n 0, 1) := by decide +kernel
theorem d_Md_paperOf_53 : decode b_Md_paperOf 53 = .ok (.getfield 102, 3) := by decide +kernel
theorem d_Md_paperOf_56 : decode b_Md_paperOf 56 = .ok (.iload_n 1, 1) := by decide +kernel
theorem d_Md_paperOf_57 : decode b_Md_paperOf 57 = .ok (.iaload, 1) := by decide +kernel
theorem d_Md_paperOf_58 : decode b_Md_paperOf 58 = .ok (.ireturn, 1) := by decide +kernel
theorem d_Md_paperOf_59 : decode b_Md_paperOf 59 = .ok (.aload_n 0, 1) := by decide +kernel
theorem d_Md_paperOf_60 : decode b_Md_paperOf 60 = .ok (.getfield 102, 3) := by decide +kernel
theorem d_Md_paperOf_63 : decode b_Md_paperOf 63 = .ok (.iload_n 1, 1) := by decide +kernel
theorem d_Md_paperOf_64 : decode b_Md_paperOf 64 = .ok (.iaload, 1) := by decide +kernel
theorem d_Md_paperOf_65 : decode b_Md_paperOf 65 = .ok (.iconst (-1), 1) := by decide +kernel
theorem d_Md_paperOf_66 : decode b_Md_paperOf 66 = .ok (.if_icmp .ne 7, 3) := by decide +kernel
theorem d_Md_paperOf_69 : decode b_Md_paperOf 69 = .ok (.iconst (-1), 1) := by decide +kernel
theorem d_Md_paperOf_70 : decode b_Md_paperOf 70 = .ok (.goto 21, 3) := by decide +kernel
theorem d_Md_paperOf_73 : decode b_Md_paperOf 73 = .ok (.aload_n 0, 1) := by decide +kernel
theorem d_Md_paperOf_74 : decode b_Md_paperOf 74 = .ok (.getfield 105, 3) := by decide +kernel
theorem d_Md_paperOf_77 : decode b_Md_paperOf 77 = .ok (.iload_n 1, 1) := by decide +kernel
theorem d_Md_paperOf_78 : decode b_Md_paperOf 78 = .ok (.iaload, 1) := by decide +kernel
theorem d_Md_paperOf_79 : decode b_Md_paperOf 79 = .ok (.aload_n 0, 1) := by decide +kernel
theorem d_Md_paperOf_80 : decode b_Md_paperOf 80 = .ok (.getfield 47, 3) := by decide +kernel
theorem d_Md_paperOf_83 : decode b_Md_paperOf 83 = .ok (.bipush 7, 2) := by decide +kernel
theorem d_Md_paperOf_85 : decode b_Md_paperOf 85 = .ok (.iload_n 1, 1) := by decide +kernel
theorem d_Md_paperOf_86 : decode b_Md_paperOf 86 = .ok (.imul, 1) := by decide +kernel
theorem d_Md_paperOf_87 : decode b_Md_paperOf 87 = .ok (.iconst 1, 1) := by decide +kernel
theorem d_Md_paperOf_88 : decode b_Md_paperOf 88 = .ok (.iadd, 1) := by decide +kernel
theorem d_Md_paperOf_89 : decode b_Md_paperOf 89 = .ok (.iaload, 1) := by decide +kernel
theorem d_Md_paperOf_90 : decode b_Md_paperOf 90 = .ok (.isub, 1) := by decide +kernel
theorem d_Md_paperOf_91 : decode b_Md_paperOf 91 = .ok (.ireturn, 1) := by decide +kernel
theorem d_Md_paperOf_92 : decode b_Md_paperOf 92 = .ok (.aload_n 0, 1) := by decide +kernel
theorem d_Md_paperOf_93 : decode b_Md_paperOf 93 = .ok (.getfield 99, 3) := by decide +kernel
theorem d_Md_paperOf_96 : decode b_Md_paperOf 96 = .ok (.iload_n 1, 1) := by decide +kernel
theorem d_Md_paperOf_97 : decode b_Md_paperOf 97 = .ok (.baload, 1) := by decide +kernel
theorem d_Md_paperOf_98 : decode b_Md_paperOf 98 = .ok (.ifCond .eq 7, 3) := by decide +kernel
theorem d_Md_paperOf_101 : decode b_Md_paperOf 101 = .ok (.iconst 1, 1) := by decide +kernel
theorem d_Md_paperOf_102 : decode b_Md_paperOf 102 = .ok (.goto 4, 3) := by decide +kernel
theorem d_Md_paperOf_105 : decode b_Md_paperOf 105 = .ok (.iconst 0, 1) := by decide +kernel
theorem d_Md_paperOf_106 : decode b_Md_paperOf 106 = .ok (.ireturn, 1) := by decide +kernel
theorem d_Md_paperOf_107 : decode b_Md_paperOf 107 = .ok (.aload_n 0, 1) := by decide +kernel
theorem d_Md_paperOf_108 : decode b_Md_paperOf 108 = .ok (.getfield 47, 3) := by decide +kernel
theorem d_Md_paperOf_111 : decode b_Md_paperOf 111 = .ok (.bipush 7, 2) := by decide +kernel
theorem d_Md_paperOf_113 : decode b_Md_paperOf 113 = .ok (.iload_n 1, 1) := by decide +kernel
theorem d_Md_paperOf_114 : decode b_Md_paperOf 114 = .ok (.imul, 1) := by decide +kernel
theorem d_Md_paperOf_115 : decode b_Md_paperOf 115 = .ok (.bipush 6, 2) := by decide +kernel
theorem d_Md_paperOf_117 : decode b_Md_paperOf 117 = .ok (.iadd, 1) := by decide +kernel
theorem d_Md_paperOf_118 : decode b_Md_paperOf 118 = .ok (.iaload, 1) := by decide +kernel
theorem d_Md_paperOf_119 : decode b_Md_paperOf 119 = .ok (.ireturn, 1) := by decide +kernel
theorem d_Md_paperOf_120 : decode b_Md_paperOf 120 = .ok (.bipush (-2), 2) := by decide +kernel
theorem d_Md_paperOf_122 : decode b_Md_paperOf 122 = .ok (.ireturn, 1) := by decide +kernel
theorem d_Md_isPaper_0 : decode b_Md_isPaper 0 = .ok (.iload_n 1, 1) := by decide +kernel
theorem d_Md_isPaper_1 : decode b_Md_isPaper 1 = .ok (.ifCond .lt 34, 3) := by decide +kernel
theorem d_Md_isPaper_4 : decode b_Md_isPaper 4 = .ok (.iload_n 1, 1) := by decide +kernel
theorem d_Md_isPaper_5 : decode b_Md_isPaper 5 = .ok (.aload_n 0, 1) := by decide +kernel
theorem d_Md_isPaper_6 : decode b_Md_isPaper 6 = .ok (.getfield 44, 3) := by decide +kernel
theorem d_Md_isPaper_9 : decode b_Md_isPaper 9 = .ok (.if_icmp .ge 26, 3) := by decide +kernel
theorem d_Md_isPaper_12 : decode b_Md_isPaper 12 = .ok (.aload_n 0, 1) := by decide +kernel
theorem d_Md_isPaper_13 : decode b_Md_isPaper 13 = .ok (.getfield 47, 3) := by decide +kernel
theorem d_Md_isPaper_16 : decode b_Md_isPaper 16 = .ok (.bipush 7, 2) := by decide +kernel
theorem d_Md_isPaper_18 : decode b_Md_isPaper 18 = .ok (.iload_n 1, 1) := by decide +kernel
theorem d_Md_isPaper_19 : decode b_Md_isPaper 19 = .ok (.imul, 1) := by decide +kernel
theorem d_Md_isPaper_20 : decode b_Md_isPaper 20 = .ok (.bipush 6, 2) := by decide +kernel
theorem d_Md_isPaper_22 : decode b_Md_isPaper 22 = .ok (.iadd, 1) := by decide +kernel
theorem d_Md_isPaper_23 : decode b_Md_isPaper 23 = .ok (.iaload, 1) := by decide +kernel
theorem d_Md_isPaper_24 : decode b_Md_isPaper 24 = .ok (.aload_n 0, 1) := by decide +kernel
theorem d_Md_isPaper_25 : decode b_Md_isPaper 25 = .ok (.invokevirtual 296, 3) := by decide +kernel
theorem d_Md_isPaper_28 : decode b_Md_isPaper 28 = .ok (.if_icmp .gt 7, 3) := by decide +kernel
theorem d_Md_isPaper_31 : decode b_Md_isPaper 31 = .ok (.iconst 1, 1) := by decide +kernel
theorem d_Md_isPaper_32 : decode b_Md_isPaper 32 = .ok (.goto 4, 3) := by decide +kernel
theorem d_Md_isPaper_35 : decode b_Md_isPaper 35 = .ok (.iconst 0, 1) := by decide +kernel
theorem d_Md_isPaper_36 : decode b_Md_isPaper 36 = .ok (.ireturn, 1) := by decide +kernel
theorem d_Md_posts_0 : decode b_Md_posts 0 = .ok (.aload_n 0, 1) := by decide +kernel
theorem d_Md_posts_1 : decode b_Md_posts 1 = .ok (.iload_n 1, 1) := by decide +kernel
theorem d_Md_posts_2 : decode b_Md_posts 2 = .ok (.invokevirtual 155, 3) := by decide +kernel
theorem d_Md_posts_5 : decode b_Md_posts 5 = .ok (.ifCond .eq 10, 3) := by decide +kernel
theorem d_Md_posts_8 : decode b_Md_posts 8 = .ok (.iload_n 2, 1) := by decide +kernel
theorem d_Md_posts_9 : decode b_Md_posts 9 = .ok (.invokestatic 293, 3) := by decide +kernel
theorem d_Md_posts_12 : decode b_Md_posts 12 = .ok (.ifCond .ne 5, 3) := by decide +kernel
theorem d_Md_posts_15 : decode b_Md_posts 15 = .ok (.iconst (-1), 1) := by decide +kernel
theorem d_Md_posts_16 : decode b_Md_posts 16 = .ok (.ireturn, 1) := by decide +kernel
theorem d_Md_posts_17 : decode b_Md_posts 17 = .ok (.aload_n 0, 1) := by decide +kernel
theorem d_Md_posts_18 : decode b_Md_posts 18 = .ok (.aload_n 0, 1) := by decide +kernel
theorem d_Md_posts_19 : decode b_Md_posts 19 = .ok (.invokevirtual 296, 3) := by decide +kernel
theorem d_Md_posts_22 : decode b_Md_posts 22 = .ok (.iload_n 2, 1) := by decide +kernel
theorem d_Md_posts_23 : decode b_Md_posts 23 = .ok (.invokevirtual 299, 3) := by decide +kernel
theorem d_Md_posts_26 : decode b_Md_posts 26 = .ok (.aload_n 0, 1) := by decide +kernel
theorem d_Md_posts_27 : decode b_Md_posts 27 = .ok (.iload_n 1, 1) := by decide +kernel
theorem d_Md_posts_28 : decode b_Md_posts 28 = .ok (.invokevirtual 237, 3) := by decide +kernel
theorem d_Md_posts_31 : decode b_Md_posts 31 = .ok (.ireturn, 1) := by decide +kernel
theorem d_Md_due_0 : decode b_Md_due 0 = .ok (.aload_n 0, 1) := by decide +kernel
theorem d_Md_due_1 : decode b_Md_due 1 = .ok (.iload_n 1, 1) := by decide +kernel
theorem d_Md_due_2 : decode b_Md_due 2 = .ok (.invokevirtual 155, 3) := by decide +kernel
theorem d_Md_due_5 : decode b_Md_due 5 = .ok (.ifCond .eq 10, 3) := by decide +kernel
theorem d_Md_due_8 : decode b_Md_due 8 = .ok (.iload_n 2, 1) := by decide +kernel
theorem d_Md_due_9 : decode b_Md_due 9 = .ok (.invokestatic 293, 3) := by decide +kernel
theorem d_Md_due_12 : decode b_Md_due 12 = .ok (.ifCond .ne 7, 3) := by decide +kernel
theorem d_Md_due_15 : decode b_Md_due 15 = .ok (.ldc2_w 305, 3) := by decide +kernel
theorem d_Md_due_18 : decode b_Md_due 18 = .ok (.lreturn, 1) := by decide +kernel
theorem d_Md_due_19 : decode b_Md_due 19 = .ok (.aload_n 0, 1) := by decide +kernel
theorem d_Md_due_20 : decode b_Md_due 20 = .ok (.aload_n 0, 1) := by decide +kernel
theorem d_Md_due_21 : decode b_Md_due 21 = .ok (.invokevirtual 296, 3) := by decide +kernel
theorem d_Md_due_24 : decode b_Md_due 24 = .ok (.iload_n 2, 1) := by decide +kernel
theorem d_Md_due_25 : decode b_Md_due 25 = .ok (.invokevirtual 299, 3) := by decide +kernel
theorem d_Md_due_28 : decode b_Md_due 28 = .ok (.aload_n 0, 1) := by decide +kernel
theorem d_Md_due_29 : decode b_Md_due 29 = .ok (.getfield 108, 3) := by decide +kernel
theorem d_Md_due_32 : decode b_Md_due 32 = .ok (.iload_n 1, 1) := by decide +kernel
theorem d_Md_due_33 : decode b_Md_due 33 = .ok (.laload, 1) := by decide +kernel
theorem d_Md_due_34 : decode b_Md_due 34 = .ok (.lstore_n 3, 1) := by decide +kernel
theorem d_Md_due_35 : decode b_Md_due 35 = .ok (.iconst 0, 1) := by decide +kernel
theorem d_Md_due_36 : decode b_Md_due 36 = .ok (.istore 5, 2) := by decide +kernel
theorem d_Md_due_38 : decode b_Md_due 38 = .ok (.iload 5, 2) := by decide +kernel
theorem d_Md_due_40 : decode b_Md_due 40 = .ok (.aload_n 0, 1) := by decide +kernel
theorem d_Md_due_41 : decode b_Md_due 41 = .ok (.getfield 23, 3) := by decide +kernel
theorem d_Md_due_44 : decode b_Md_due 44 = .ok (.if_icmp .ge 50, 3) := by decide +kernel
theorem d_Md_due_47 : decode b_Md_due 47 = .ok (.lload_n 3, 1) := by decide +kernel
theorem d_Md_due_48 : decode b_Md_due 48 = .ok (.aload_n 0, 1) := by decide +kernel
theorem d_Md_due_49 : decode b_Md_due 49 = .ok (.getfield 89, 3) := by decide +kernel
theorem d_Md_due_52 : decode b_Md_due 52 = .ok (.iload 5, 2) := by decide +kernel
theorem d_Md_due_54 : decode b_Md_due 54 = .ok (.iaload, 1) := by decide +kernel
theorem d_Md_due_55 : decode b_Md_due 55 = .ok (.iload_n 1, 1) := by decide +kernel
theorem d_Md_due_56 : decode b_Md_due 56 = .ok (.if_icmp .ne 29, 3) := by decide +kernel
theorem d_Md_due_59 : decode b_Md_due 59 = .ok (.aload_n 0, 1) := by decide +kernel
theorem d_Md_due_60 : decode b_Md_due 60 = .ok (.getfield 26, 3) := by decide +kernel
theorem d_Md_due_63 : decode b_Md_due 63 = .ok (.iconst 3, 1) := by decide +kernel
theorem d_Md_due_64 : decode b_Md_due 64 = .ok (.iload 5, 2) := by decide +kernel
theorem d_Md_due_66 : decode b_Md_due 66 = .ok (.imul, 1) := by decide +kernel
theorem d_Md_due_67 : decode b_Md_due 67 = .ok (.iconst 1, 1) := by decide +kernel
theorem d_Md_due_68 : decode b_Md_due 68 = .ok (.iadd, 1) := by decide +kernel
theorem d_Md_due_69 : decode b_Md_due 69 = .ok (.iaload, 1) := by decide +kernel
theorem d_Md_due_70 : decode b_Md_due 70 = .ok (.i2l, 1) := by decide +kernel
theorem d_Md_due_71 : decode b_Md_due 71 = .ok (.iload_n 2, 1) := by decide +kernel
theorem d_Md_due_72 : decode b_Md_due 72 = .ok (.aload_n 0, 1) := by decide +kernel
theorem d_Md_due_73 : decode b_Md_due 73 = .ok (.getfield 92, 3) := by decide +kernel
theorem d_Md_due_76 : decode b_Md_due 76 = .ok (.iload 5, 2) := by decide +kernel
theorem d_Md_due_78 : decode b_Md_due 78 = .ok (.iaload, 1) := by decide +kernel
theorem d_Md_due_79 : decode b_Md_due 79 = .ok (.isub, 1) := by decide +kernel
theorem d_Md_due_80 : decode b_Md_due 80 = .ok (.i2l, 1) := by decide +kernel
theorem d_Md_due_81 : decode b_Md_due 81 = .ok (.lmul, 1) := by decide +kernel
theorem d_Md_due_82 : decode b_Md_due 82 = .ok (.goto 4, 3) := by decide +kernel
theorem d_Md_due_85 : decode b_Md_due 85 = .ok (.lconst 0, 1) := by decide +kernel
theorem d_Md_due_86 : decode b_Md_due 86 = .ok (.ladd, 1) := by decide +kernel
theorem d_Md_due_87 : decode b_Md_due 87 = .ok (.lstore_n 3, 1) := by decide +kernel
theorem d_Md_due_88 : decode b_Md_due 88 = .ok (.iinc 5 1, 3) := by decide +kernel
theorem d_Md_due_91 : decode b_Md_due 91 = .ok (.goto (-53), 3) := by decide +kernel
theorem d_Md_due_94 : decode b_Md_due 94 = .ok (.lload_n 3, 1) := by decide +kernel
theorem d_Md_due_95 : decode b_Md_due 95 = .ok (.ldc2_w 307, 3) := by decide +kernel
theorem d_Md_due_98 : decode b_Md_due 98 = .ok (.ldiv, 1) := by decide +kernel
theorem d_Md_due_99 : decode b_Md_due 99 = .ok (.lreturn, 1) := by decide +kernel
theorem d_Md_claims_0 : decode b_Md_claims 0 = .ok (.aload_n 0, 1) := by decide +kernel
theorem d_Md_claims_1 : decode b_Md_claims 1 = .ok (.iload_n 1, 1) := by decide +kernel
theorem d_Md_claims_2 : decode b_Md_claims 2 = .ok (.invokevirtual 151, 3) := by decide +kernel
theorem d_Md_claims_5 : decode b_Md_claims 5 = .ok (.ifCond .eq 10, 3) := by decide +kernel
theorem d_Md_claims_8 : decode b_Md_claims 8 = .ok (.iload_n 2, 1) := by decide +kernel
theorem d_Md_claims_9 : decode b_Md_claims 9 = .ok (.invokestatic 293, 3) := by decide +kernel
theorem d_Md_claims_12 : decode b_Md_claims 12 = .ok (.ifCond .ne 5, 3) := by decide +kernel
theorem d_Md_claims_15 : decode b_Md_claims 15 = .ok (.iconst (-1), 1) := by decide +kernel
theorem d_Md_claims_16 : decode b_Md_claims 16 = .ok (.ireturn, 1) := by decide +kernel
theorem d_Md_claims_17 : decode b_Md_claims 17 = .ok (.aload_n 0, 1) := by decide +kernel
theorem d_Md_claims_18 : decode b_Md_claims 18 = .ok (.aload_n 0, 1) := by decide +kernel
theorem d_Md_claims_19 : decode b_Md_claims 19 = .ok (.invokevirtual 296, 3) := by decide +kernel
theorem d_Md_claims_22 : decode b_Md_claims 22 = .ok (.iload_n 2, 1) := by decide +kernel
theorem d_Md_claims_23 : decode b_Md_claims 23 = .ok (.invokevirtual 299, 3) := by decide +kernel
theorem d_Md_claims_26 : decode b_Md_claims 26 = .ok (.aload_n 0, 1) := by decide +kernel
theorem d_Md_claims_27 : decode b_Md_claims 27 = .ok (.getfield 89, 3) := by decide +kernel
theorem d_Md_claims_30 : decode b_Md_claims 30 = .ok (.iload_n 1, 1) := by decide +kernel
theorem d_Md_claims_31 : decode b_Md_claims 31 = .ok (.iconst (-1), 1) := by decide +kernel
theorem d_Md_claims_32 : decode b_Md_claims 32 = .ok (.iastore, 1) := by decide +kernel
theorem d_Md_claims_33 : decode b_Md_claims 33 = .ok (.aload_n 0, 1) := by decide +kernel
theorem d_Md_claims_34 : decode b_Md_claims 34 = .ok (.iconst 0, 1) := by decide +kernel
theorem d_Md_claims_35 : decode b_Md_claims 35 = .ok (.putfield 118, 3) := by decide +kernel
theorem d_Md_claims_38 : decode b_Md_claims 38 = .ok (.iconst 0, 1) := by decide +kernel
theorem d_Md_claims_39 : decode b_Md_claims 39 = .ok (.istore_n 3, 1) := by decide +kernel
theorem d_Md_claims_40 : decode b_Md_claims 40 = .ok (.iload_n 3, 1) := by decide +kernel
theorem d_Md_claims_41 : decode b_Md_claims 41 = .ok (.aload_n 0, 1) := by decide +kernel
theorem d_Md_claims_42 : decode b_Md_claims 42 = .ok (.getfield 44, 3) := by decide +kernel
theorem d_Md_claims_45 : decode b_Md_claims 45 = .ok (.if_icmp .ge 92, 3) := by decide +kernel
theorem d_Md_claims_48 : decode b_Md_claims 48 = .ok (.aload_n 0, 1) := by decide +kernel
theorem d_Md_claims_49 : decode b_Md_claims 49 = .ok (.iload_n 3, 1) := by decide +kernel
theorem d_Md_claims_50 : decode b_Md_claims 50 = .ok (.iload_n 1, 1) := by decide +kernel
theorem d_Md_claims_51 : decode b_Md_claims 51 = .ok (.iload_n 2, 1) := by decide +kernel
theorem d_Md_claims_52 : decode b_Md_claims 52 = .ok (.invokevirtual 266, 3) := by decide +kernel
theorem d_Md_claims_55 : decode b_Md_claims 55 = .ok (.ifCond .ne 6, 3) := by decide +kernel
theorem d_Md_claims_58 : decode b_Md_claims 58 = .ok (.goto 73, 3) := by decide +kernel
theorem d_Md_claims_61 : decode b_Md_claims 61 = .ok (.aload_n 0, 1) := by decide +kernel
theorem d_Md_claims_62 : decode b_Md_claims 62 = .ok (.getfield 118, 3) := by decide +kernel
theorem d_Md_claims_65 : decode b_Md_claims 65 = .ok (.istore 4, 2) := by decide +kernel
theorem d_Md_claims_67 : decode b_Md_claims 67 = .ok (.iload 4, 2) := by decide +kernel
theorem d_Md_claims_69 : decode b_Md_claims 69 = .ok (.ifCond .le 44, 3) := by decide +kernel
theorem d_Md_claims_72 : decode b_Md_claims 72 = .ok (.aload_n 0, 1) := by decide +kernel
theorem d_Md_claims_73 : decode b_Md_claims 73 = .ok (.iload_n 1, 1) := by decide +kernel
theorem d_Md_claims_74 : decode b_Md_claims 74 = .ok (.aload_n 0, 1) := by decide +kernel
theorem d_Md_claims_75 : decode b_Md_claims 75 = .ok (.getfield 115, 3) := by decide +kernel
theorem d_Md_claims_78 : decode b_Md_claims 78 = .ok (.iload 4, 2) := by decide +kernel
theorem d_Md_claims_80 : decode b_Md_claims 80 = .ok (.iconst 1, 1) := by decide +kernel
theorem d_Md_claims_81 : decode b_Md_claims 81 = .ok (.isub, 1) := by decide +kernel
theorem d_Md_claims_82 : decode b_Md_claims 82 = .ok (.iaload, 1) := by decide +kernel
theorem d_Md_claims_83 : decode b_Md_claims 83 = .ok (.iload_n 3, 1) := by decide +kernel
theorem d_Md_claims_84 : decode b_Md_claims 84 = .ok (.iload_n 2, 1) := by decide +kernel
theorem d_Md_claims_85 : decode b_Md_claims 85 = .ok (.invokevirtual 269, 3) := by decide +kernel
theorem d_Md_claims_88 : decode b_Md_claims 88 = .ok (.ifCond .ge 25, 3) := by decide +kernel
theorem d_Md_claims_91 : decode b_Md_claims 91 = .ok (.aload_n 0, 1) := by decide +kernel
theorem d_Md_claims_92 : decode b_Md_claims 92 = .ok (.getfield 115, 3) := by decide +kernel
theorem d_Md_claims_95 : decode b_Md_claims 95 = .ok (.iload 4, 2) := by decide +kernel
theorem d_Md_claims_97 : decode b_Md_claims 97 = .ok (.aload_n 0, 1) := by decide +kernel
theorem d_Md_claims_98 : decode b_Md_claims 98 = .ok (.getfield 115, 3) := by decide +kernel
theorem d_Md_claims_101 : decode b_Md_claims 101 = .ok (.iload 4, 2) := by decide +kernel
theorem d_Md_claims_103 : decode b_Md_claims 103 = .ok (.iconst 1, 1) := by decide +kernel
theorem d_Md_claims_104 : decode b_Md_claims 104 = .ok (.isub, 1) := by decide +kernel
theorem d_Md_claims_105 : decode b_Md_claims 105 = .ok (.iaload, 1) := by decide +kernel
theorem d_Md_claims_106 : decode b_Md_claims 106 = .ok (.iastore, 1) := by decide +kernel
theorem d_Md_claims_107 : decode b_Md_claims 107 = .ok (.iinc 4 (-1), 3) := by decide +kernel
theorem d_Md_claims_110 : decode b_Md_claims 110 = .ok (.goto (-43), 3) := by decide +kernel
theorem d_Md_claims_113 : decode b_Md_claims 113 = .ok (.aload_n 0, 1) := by decide +kernel
theorem d_Md_claims_114 : decode b_Md_claims 114 = .ok (.getfield 115, 3) := by decide +kernel
theorem d_Md_claims_117 : decode b_Md_claims 117 = .ok (.iload 4, 2) := by decide +kernel
theorem d_Md_claims_119 : decode b_Md_claims 119 = .ok (.iload_n 3, 1) := by decide +kernel
theorem d_Md_claims_120 : decode b_Md_claims 120 = .ok (.iastore, 1) := by decide +kernel
theorem d_Md_claims_121 : decode b_Md_claims 121 = .ok (.aload_n 0, 1) := by decide +kernel
theorem d_Md_claims_122 : decode b_Md_claims 122 = .ok (.dup, 1) := by decide +kernel
theorem d_Md_claims_123 : decode b_Md_claims 123 = .ok (.getfield 118, 3) := by decide +kernel
theorem d_Md_claims_126 : decode b_Md_claims 126 = .ok (.iconst 1, 1) := by decide +kernel
theorem d_Md_claims_127 : decode b_Md_claims 127 = .ok (.iadd, 1) := by decide +kernel
theorem d_Md_claims_128 : decode b_Md_claims 128 = .ok (.putfield 118, 3) := by decide +kernel
theorem d_Md_claims_131 : decode b_Md_claims 131 = .ok (.iinc 3 1, 3) := by decide +kernel
theorem d_Md_claims_134 : decode b_Md_claims 134 = .ok (.goto (-94), 3) := by decide +kernel
theorem d_Md_claims_137 : decode b_Md_claims 137 = .ok (.aload_n 0, 1) := by decide +kernel
theorem d_Md_claims_138 : decode b_Md_claims 138 = .ok (.getfield 118, 3) := by decide +kernel
theorem d_Md_claims_141 : decode b_Md_claims 141 = .ok (.ireturn, 1) := by decide +kernel
theorem d_Md_claim_0 : decode b_Md_claim 0 = .ok (.iload_n 1, 1) := by decide +kernel
theorem d_Md_claim_1 : decode b_Md_claim 1 = .ok (.ifCond .lt 11, 3) := by decide +kernel
theorem d_Md_claim_4 : decode b_Md_claim 4 = .ok (.iload_n 1, 1) := by decide +kernel
theorem d_Md_claim_5 : decode b_Md_claim 5 = .ok (.aload_n 0, 1) := by decide +kernel
theorem d_Md_claim_6 : decode b_Md_claim 6 = .ok (.getfield 118, 3) := by decide +kernel
theorem d_Md_claim_9 : decode b_Md_claim 9 = .ok (.if_icmp .lt 7, 3) := by decide +kernel
theorem d_Md_claim_12 : decode b_Md_claim 12 = .ok (.iconst (-1), 1) := by decide +kernel
theorem d_Md_claim_13 : decode b_Md_claim 13 = .ok (.goto 9, 3) := by decide +kernel
theorem d_Md_claim_16 : decode b_Md_claim 16 = .ok (.aload_n 0, 1) := by decide +kernel
theorem d_Md_claim_17 : decode b_Md_claim 17 = .ok (.getfield 115, 3) := by decide +kernel
theorem d_Md_claim_20 : decode b_Md_claim 20 = .ok (.iload_n 1, 1) := by decide +kernel
theorem d_Md_claim_21 : decode b_Md_claim 21 = .ok (.iaload, 1) := by decide +kernel
theorem d_Md_claim_22 : decode b_Md_claim 22 = .ok (.ireturn, 1) := by decide +kernel
theorem d_Md_by_0 : decode b_Md_by 0 = .ok (.aload_n 0, 1) := by decide +kernel
theorem d_Md_by_1 : decode b_Md_by 1 = .ok (.iload_n 1, 1) := by decide +kernel
theorem d_Md_by_2 : decode b_Md_by 2 = .ok (.invokevirtual 151, 3) := by decide +kernel
theorem d_Md_by_5 : decode b_Md_by 5 = .ok (.ifCond .eq 33, 3) := by decide +kernel
theorem d_Md_by_8 : decode b_Md_by 8 = .ok (.iload_n 2, 1) := by decide +kernel
theorem d_Md_by_9 : decode b_Md_by 9 = .ok (.invokestatic 293, 3) := by decide +kernel
theorem d_Md_by_12 : decode b_Md_by 12 = .ok (.ifCond .eq 26, 3) := by decide +kernel
theorem d_Md_by_15 : decode b_Md_by 15 = .ok (.aload_n 0, 1) := by decide +kernel
theorem d_Md_by_16 : decode b_Md_by 16 = .ok (.iload_n 3, 1) := by decide +kernel
theorem d_Md_by_17 : decode b_Md_by 17 = .ok (.invokevirtual 302, 3) := by decide +kernel
theorem d_Md_by_20 : decode b_Md_by 20 = .ok (.ifCond .eq 18, 3) := by decide +kernel
theorem d_Md_by_23 : decode b_Md_by 23 = .ok (.aload_n 0, 1) := by decide +kernel
theorem d_Md_by_24 : decode b_Md_by 24 = .ok (.iload 4, 2) := by decide +kernel
theorem d_Md_by_26 : decode b_Md_by 26 = .ok (.invokevirtual 302, 3) := by decide +kernel
theorem d_Md_by_29 : decode b_Md_by 29 = .ok (.ifCond .eq 9, 3) := by decide +kernel
theorem d_Md_by_32 : decode b_Md_by 32 = .ok (.iload_n 3, 1) := by decide +kernel
theorem d_Md_by_33 : decode b_Md_by 33 = .ok (.iload 4, 2) := by decide +kernel
theorem d_Md_by_35 : decode b_Md_by 35 = .ok (.if_icmp .ne 7, 3) := by decide +kernel
theorem d_Md_by_38 : decode b_Md_by 38 = .ok (.sipush (-1000), 3) := by decide +kernel
theorem d_Md_by_41 : decode b_Md_by 41 = .ok (.ireturn, 1) := by decide +kernel
theorem d_Md_by_42 : decode b_Md_by 42 = .ok (.aload_n 0, 1) := by decide +kernel
theorem d_Md_by_43 : decode b_Md_by 43 = .ok (.aload_n 0, 1) := by decide +kernel
theorem d_Md_by_44 : decode b_Md_by 44 = .ok (.invokevirtual 296, 3) := by decide +kernel
theorem d_Md_by_47 : decode b_Md_by 47 = .ok (.iload_n 2, 1) := by decide +kernel
theorem d_Md_by_48 : decode b_Md_by 48 = .ok (.invokevirtual 299, 3) := by decide +kernel
theorem d_Md_by_51 : decode b_Md_by 51 = .ok (.aload_n 0, 1) := by decide +kernel
theorem d_Md_by_52 : decode b_Md_by 52 = .ok (.getfield 89, 3) := by decide +kernel
theorem d_Md_by_55 : decode b_Md_by 55 = .ok (.iload_n 1, 1) := by decide +kernel
theorem d_Md_by_56 : decode b_Md_by 56 = .ok (.iconst (-1), 1) := by decide +kernel
theorem d_Md_by_57 : decode b_Md_by 57 = .ok (.iastore, 1) := by decide +kernel
theorem d_Md_by_58 : decode b_Md_by 58 = .ok (.aload_n 0, 1) := by decide +kernel
theorem d_Md_by_59 : decode b_Md_by 59 = .ok (.iload_n 1, 1) := by decide +kernel
theorem d_Md_by_60 : decode b_Md_by 60 = .ok (.iload_n 3, 1) := by decide +kernel
theorem d_Md_by_61 : decode b_Md_by 61 = .ok (.iload 4, 2) := by decide +kernel
theorem d_Md_by_63 : decode b_Md_by 63 = .ok (.iload_n 2, 1) := by decide +kernel
theorem d_Md_by_64 : decode b_Md_by 64 = .ok (.invokevirtual 269, 3) := by decide +kernel
theorem d_Md_by_67 : decode b_Md_by 67 = .ok (.ireturn, 1) := by decide +kernel
theorem d_Md_since_0 : decode b_Md_since 0 = .ok (.aload_n 0, 1) := by decide +kernel
theorem d_Md_since_1 : decode b_Md_since 1 = .ok (.iload_n 1, 1) := by decide +kernel
theorem d_Md_since_2 : decode b_Md_since 2 = .ok (.invokevirtual 151, 3) := by decide +kernel
theorem d_Md_since_5 : decode b_Md_since 5 = .ok (.ifCond .ne 5, 3) := by decide +kernel
theorem d_Md_since_8 : decode b_Md_since 8 = .ok (.iconst (-1), 1) := by decide +kernel
theorem d_Md_since_9 : decode b_Md_since 9 = .ok (.ireturn, 1) := by decide +kernel
theorem d_Md_since_10 : decode b_Md_since 10 = .ok (.aload_n 0, 1) := by decide +kernel
theorem d_Md_since_11 : decode b_Md_since 11 = .ok (.aload_n 0, 1) := by decide +kernel
theorem d_Md_since_12 : decode b_Md_since 12 = .ok (.invokevirtual 296, 3) := by decide +kernel
theorem d_Md_since_15 : decode b_Md_since 15 = .ok (.ldc 229, 2) := by decide +kernel
theorem d_Md_since_17 : decode b_Md_since 17 = .ok (.invokevirtual 299, 3) := by decide +kernel
theorem d_Md_since_20 : decode b_Md_since 20 = .ok (.aload_n 0, 1) := by decide +kernel
theorem d_Md_since_21 : decode b_Md_since 21 = .ok (.getfield 89, 3) := by decide +kernel
theorem d_Md_since_24 : decode b_Md_since 24 = .ok (.iload_n 1, 1) := by decide +kernel
theorem d_Md_since_25 : decode b_Md_since 25 = .ok (.iaload, 1) := by decide +kernel
theorem d_Md_since_26 : decode b_Md_since 26 = .ok (.istore_n 2, 1) := by decide +kernel
theorem d_Md_since_27 : decode b_Md_since 27 = .ok (.aload_n 0, 1) := by decide +kernel
theorem d_Md_since_28 : decode b_Md_since 28 = .ok (.invokevirtual 296, 3) := by decide +kernel
theorem d_Md_since_31 : decode b_Md_since 31 = .ok (.istore_n 3, 1) := by decide +kernel
theorem d_Md_since_32 : decode b_Md_since 32 = .ok (.iconst 1, 1) := by decide +kernel
theorem d_Md_since_33 : decode b_Md_since 33 = .ok (.istore 4, 2) := by decide +kernel
theorem d_Md_since_35 : decode b_Md_since 35 = .ok (.iload_n 3, 1) := by decide +kernel
theorem d_Md_since_36 : decode b_Md_since 36 = .ok (.ifCond .le 50, 3) := by decide +kernel
theorem d_Md_since_39 : decode b_Md_since 39 = .ok (.iload 4, 2) := by decide +kernel
theorem d_Md_since_41 : decode b_Md_since 41 = .ok (.ifCond .eq 45, 3) := by decide +kernel
theorem d_Md_since_44 : decode b_Md_since 44 = .ok (.aload_n 0, 1) := by decide +kernel
theorem d_Md_since_45 : decode b_Md_since 45 = .ok (.iload_n 3, 1) := by decide +kernel
theorem d_Md_since_46 : decode b_Md_since 46 = .ok (.iconst 1, 1) := by decide +kernel
theorem d_Md_since_47 : decode b_Md_since 47 = .ok (.isub, 1) := by decide +kernel
theorem d_Md_since_48 : decode b_Md_since 48 = .ok (.ldc 229, 2) := by decide +kernel
theorem d_Md_since_50 : decode b_Md_since 50 = .ok (.invokevirtual 299, 3) := by decide +kernel
theorem d_Md_since_53 : decode b_Md_since 53 = .ok (.aload_n 0, 1) := by decide +kernel
theorem d_Md_since_54 : decode b_Md_since 54 = .ok (.getfield 89, 3) := by decide +kernel
theorem d_Md_since_57 : decode b_Md_since 57 = .ok (.iload_n 1, 1) := by decide +kernel
theorem d_Md_since_58 : decode b_Md_since 58 = .ok (.iaload, 1) := by decide +kernel
theorem d_Md_since_59 : decode b_Md_since 59 = .ok (.iload_n 2, 1) := by decide +kernel
theorem d_Md_since_60 : decode b_Md_since 60 = .ok (.if_icmp .ne 7, 3) := by decide +kernel
theorem d_Md_since_63 : decode b_Md_since 63 = .ok (.iconst 1, 1) := by decide +kernel
theorem d_Md_since_64 : decode b_Md_since 64 = .ok (.goto 4, 3) := by decide +kernel
theorem d_Md_since_67 : decode b_Md_since 67 = .ok (.iconst 0, 1) := by decide +kernel
theorem d_Md_since_68 : decode b_Md_since 68 = .ok (.istore 4, 2) := by decide +kernel
theorem d_Md_since_70 : decode b_Md_since 70 = .ok (.iload_n 3, 1) := by decide +kernel
theorem d_Md_since_71 : decode b_Md_since 71 = .ok (.iload 4, 2) := by decide +kernel
theorem d_Md_since_73 : decode b_Md_since 73 = .ok (.ifCond .eq 7, 3) := by decide +kernel
theorem d_Md_since_76 : decode b_Md_since 76 = .ok (.iconst 1, 1) := by decide +kernel
theorem d_Md_since_77 : decode b_Md_since 77 = .ok (.goto 4, 3) := by decide +kernel
theorem d_Md_since_80 : decode b_Md_since 80 = .ok (.iconst 0, 1) := by decide +kernel
theorem d_Md_since_81 : decode b_Md_since 81 = .ok (.isub, 1) := by decide +kernel
theorem d_Md_since_82 : decode b_Md_since 82 = .ok (.istore_n 3, 1) := by decide +kernel
theorem d_Md_since_83 : decode b_Md_since 83 = .ok (.goto (-48), 3) := by decide +kernel
theorem d_Md_since_86 : decode b_Md_since 86 = .ok (.iload_n 3, 1) := by decide +kernel
theorem d_Md_since_87 : decode b_Md_since 87 = .ok (.ireturn, 1) := by decide +kernel
theorem d_Md_all_0 : decode b_Md_all 0 = .ok (.iconst 0, 1) := by decide +kernel
theorem d_Md_all_1 : decode b_Md_all 1 = .ok (.istore_n 2, 1) := by decide +kernel
theorem d_Md_all_2 : decode b_Md_all 2 = .ok (.iload_n 1, 1) := by decide +kernel
theorem d_Md_all_3 : decode b_Md_all 3 = .ok (.tableswitch 117 0 6 #[41, 46, 51, 56, 61, 66, 112], 41) := by decide +kernel
theorem d_Md_all_44 : decode b_Md_all 44 = .ok (.aload_n 0, 1) := by decide +kernel
theorem d_Md_all_45 : decode b_Md_all 45 = .ok (.getfield 17, 3) := by decide +kernel
theorem d_Md_all_48 : decode b_Md_all 48 = .ok (.ireturn, 1) := by decide +kernel
theorem d_Md_all_49 : decode b_Md_all 49 = .ok (.aload_n 0, 1) := by decide +kernel
theorem d_Md_all_50 : decode b_Md_all 50 = .ok (.getfield 23, 3) := by decide +kernel
theorem d_Md_all_53 : decode b_Md_all 53 = .ok (.ireturn, 1) := by decide +kernel
theorem d_Md_all_54 : decode b_Md_all 54 = .ok (.aload_n 0, 1) := by decide +kernel
theorem d_Md_all_55 : decode b_Md_all 55 = .ok (.getfield 44, 3) := by decide +kernel
theorem d_Md_all_58 : decode b_Md_all 58 = .ok (.ireturn, 1) := by decide +kernel
theorem d_Md_all_59 : decode b_Md_all 59 = .ok (.aload_n 0, 1) := by decide +kernel
theorem d_Md_all_60 : decode b_Md_all 60 = .ok (.getfield 29, 3) := by decide +kernel
theorem d_Md_all_63 : decode b_Md_all 63 = .ok (.ireturn, 1) := by decide +kernel
theorem d_Md_all_64 : decode b_Md_all 64 = .ok (.aload_n 0, 1) := by decide +kernel
theorem d_Md_all_65 : decode b_Md_all 65 = .ok (.getfield 56, 3) := by decide +kernel
theorem d_Md_all_68 : decode b_Md_all 68 = .ok (.ireturn, 1) := by decide +kernel
theorem d_Md_all_69 : decode b_Md_all 69 = .ok (.aload_n 0, 1) := by decide +kernel
theorem d_Md_all_70 : decode b_Md_all 70 = .ok (.aload_n 0, 1) := by decide +kernel
theorem d_Md_all_71 : decode b_Md_all 71 = .ok (.invokevirtual 296, 3) := by decide +kernel
theorem d_Md_all_74 : decode b_Md_all 74 = .ok (.ldc 229, 2) := by decide +kernel
theorem d_Md_all_76 : decode b_Md_all 76 = .ok (.invokevirtual 299, 3) := by decide +kernel
theorem d_Md_all_79 : decode b_Md_all 79 = .ok (.iconst 0, 1) := by decide +kernel
theorem d_Md_all_80 : decode b_Md_all 80 = .ok (.istore_n 3, 1) := by decide +kernel
theorem d_Md_all_81 : decode b_Md_all 81 = .ok (.iload_n 3, 1) := by decide +kernel
theorem d_Md_all_82 : decode b_Md_all 82 = .ok (.aload_n 0, 1) := by decide +kernel
theorem d_Md_all_83 : decode b_Md_all 83 = .ok (.getfield 23, 3) := by decide +kernel
theorem d_Md_all_86 : decode b_Md_all 86 = .ok (.if_icmp .ge 27, 3) := by decide +kernel
theorem d_Md_all_89 : decode b_Md_all 89 = .ok (.iload_n 2, 1) := by decide +kernel
theorem d_Md_all_90 : decode b_Md_all 90 = .ok (.aload_n 0, 1) := by decide +kernel
theorem d_Md_all_91 : decode b_Md_all 91 = .ok (.getfield 89, 3) := by decide +kernel
theorem d_Md_all_94 : decode b_Md_all 94 = .ok (.iload_n 3, 1) := by decide +kernel
theorem d_Md_all_95 : decode b_Md_all 95 = .ok (.iaload, 1) := by decide +kernel
theorem d_Md_all_96 : decode b_Md_all 96 = .ok (.iconst (-1), 1) := by decide +kernel
theorem d_Md_all_97 : decode b_Md_all 97 = .ok (.if_icmp .ne 7, 3) := by decide +kernel
theorem d_Md_all_100 : decode b_Md_all 100 = .ok (.iconst 1, 1) := by decide +kernel
theorem d_Md_all_101 : decode b_Md_all 101 = .ok (.goto 4, 3) := by decide +kernel
theorem d_Md_all_104 : decode b_Md_all 104 = .ok (.iconst 0, 1) := by decide +kernel
theorem d_Md_all_105 : decode b_Md_all 105 = .ok (.iadd, 1) := by decide +kernel
theorem d_Md_all_106 : decode b_Md_all 106 = .ok (.istore_n 2, 1) := by decide +kernel
theorem d_Md_all_107 : decode b_Md_all 107 = .ok (.iinc 3 1, 3) := by decide +kernel
theorem d_Md_all_110 : decode b_Md_all 110 = .ok (.goto (-29), 3) := by decide +kernel
theorem d_Md_all_113 : decode b_Md_all 113 = .ok (.iload_n 2, 1) := by decide +kernel
theorem d_Md_all_114 : decode b_Md_all 114 = .ok (.ireturn, 1) := by decide +kernel
theorem d_Md_all_115 : decode b_Md_all 115 = .ok (.aload_n 0, 1) := by decide +kernel
theorem d_Md_all_116 : decode b_Md_all 116 = .ok (.invokevirtual 296, 3) := by decide +kernel
theorem d_Md_all_119 : decode b_Md_all 119 = .ok (.ireturn, 1) := by decide +kernel
theorem d_Md_all_120 : decode b_Md_all 120 = .ok (.iconst (-1), 1) := by decide +kernel
theorem d_Md_all_121 : decode b_Md_all 121 = .ok (.ireturn, 1) := by decide +kernel
