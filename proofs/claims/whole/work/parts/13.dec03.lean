theorem d_RuleBook_standing_0 : decode b_RuleBook_standing 0 = .ok (.aload_n 0, 1) := by decide +kernel
theorem d_RuleBook_standing_1 : decode b_RuleBook_standing 1 = .ok (.getfield 9, 3) := by decide +kernel
theorem d_RuleBook_standing_4 : decode b_RuleBook_standing 4 = .ok (.iload_n 1, 1) := by decide +kernel
theorem d_RuleBook_standing_5 : decode b_RuleBook_standing 5 = .ok (.iaload, 1) := by decide +kernel
theorem d_RuleBook_standing_6 : decode b_RuleBook_standing 6 = .ok (.tableswitch 68 7 10 #[30, 44, 49, 58], 30) := by decide +kernel
theorem d_RuleBook_standing_36 : decode b_RuleBook_standing 36 = .ok (.aload_n 2, 1) := by decide +kernel
theorem d_RuleBook_standing_37 : decode b_RuleBook_standing 37 = .ok (.bipush 8, 2) := by decide +kernel
theorem d_RuleBook_standing_39 : decode b_RuleBook_standing 39 = .ok (.iaload, 1) := by decide +kernel
theorem d_RuleBook_standing_40 : decode b_RuleBook_standing 40 = .ok (.aload_n 0, 1) := by decide +kernel
theorem d_RuleBook_standing_41 : decode b_RuleBook_standing 41 = .ok (.getfield 15, 3) := by decide +kernel
theorem d_RuleBook_standing_44 : decode b_RuleBook_standing 44 = .ok (.iload_n 1, 1) := by decide +kernel
theorem d_RuleBook_standing_45 : decode b_RuleBook_standing 45 = .ok (.iaload, 1) := by decide +kernel
theorem d_RuleBook_standing_46 : decode b_RuleBook_standing 46 = .ok (.ishr, 1) := by decide +kernel
theorem d_RuleBook_standing_47 : decode b_RuleBook_standing 47 = .ok (.iconst 1, 1) := by decide +kernel
theorem d_RuleBook_standing_48 : decode b_RuleBook_standing 48 = .ok (.iand, 1) := by decide +kernel
theorem d_RuleBook_standing_49 : decode b_RuleBook_standing 49 = .ok (.ireturn, 1) := by decide +kernel
theorem d_RuleBook_standing_50 : decode b_RuleBook_standing 50 = .ok (.aload_n 2, 1) := by decide +kernel
theorem d_RuleBook_standing_51 : decode b_RuleBook_standing 51 = .ok (.bipush 7, 2) := by decide +kernel
theorem d_RuleBook_standing_53 : decode b_RuleBook_standing 53 = .ok (.iaload, 1) := by decide +kernel
theorem d_RuleBook_standing_54 : decode b_RuleBook_standing 54 = .ok (.ireturn, 1) := by decide +kernel
theorem d_RuleBook_standing_55 : decode b_RuleBook_standing 55 = .ok (.aload_n 2, 1) := by decide +kernel
theorem d_RuleBook_standing_56 : decode b_RuleBook_standing 56 = .ok (.aload_n 0, 1) := by decide +kernel
theorem d_RuleBook_standing_57 : decode b_RuleBook_standing 57 = .ok (.getfield 15, 3) := by decide +kernel
theorem d_RuleBook_standing_60 : decode b_RuleBook_standing 60 = .ok (.iload_n 1, 1) := by decide +kernel
theorem d_RuleBook_standing_61 : decode b_RuleBook_standing 61 = .ok (.iaload, 1) := by decide +kernel
theorem d_RuleBook_standing_62 : decode b_RuleBook_standing 62 = .ok (.iaload, 1) := by decide +kernel
theorem d_RuleBook_standing_63 : decode b_RuleBook_standing 63 = .ok (.ireturn, 1) := by decide +kernel
theorem d_RuleBook_standing_64 : decode b_RuleBook_standing 64 = .ok (.aload_n 2, 1) := by decide +kernel
theorem d_RuleBook_standing_65 : decode b_RuleBook_standing 65 = .ok (.aload_n 0, 1) := by decide +kernel
theorem d_RuleBook_standing_66 : decode b_RuleBook_standing 66 = .ok (.getfield 15, 3) := by decide +kernel
theorem d_RuleBook_standing_69 : decode b_RuleBook_standing 69 = .ok (.iload_n 1, 1) := by decide +kernel
theorem d_RuleBook_standing_70 : decode b_RuleBook_standing 70 = .ok (.iaload, 1) := by decide +kernel
theorem d_RuleBook_standing_71 : decode b_RuleBook_standing 71 = .ok (.iaload, 1) := by decide +kernel
theorem d_RuleBook_standing_72 : decode b_RuleBook_standing 72 = .ok (.ineg, 1) := by decide +kernel
theorem d_RuleBook_standing_73 : decode b_RuleBook_standing 73 = .ok (.ireturn, 1) := by decide +kernel
theorem d_RuleBook_standing_74 : decode b_RuleBook_standing 74 = .ok (.iconst 0, 1) := by decide +kernel
theorem d_RuleBook_standing_75 : decode b_RuleBook_standing 75 = .ok (.ireturn, 1) := by decide +kernel
theorem d_Course_leaveTo_0 : decode b_Course_leaveTo 0 = .ok (.aload_n 0, 1) := by decide +kernel
theorem d_Course_leaveTo_1 : decode b_Course_leaveTo 1 = .ok (.getfield 9, 3) := by decide +kernel
theorem d_Course_leaveTo_4 : decode b_Course_leaveTo 4 = .ok (.iload_n 1, 1) := by decide +kernel
theorem d_Course_leaveTo_5 : decode b_Course_leaveTo 5 = .ok (.iaload, 1) := by decide +kernel
theorem d_Course_leaveTo_6 : decode b_Course_leaveTo 6 = .ok (.iconst (-1), 1) := by decide +kernel
theorem d_Course_leaveTo_7 : decode b_Course_leaveTo 7 = .ok (.if_icmp .ne 4, 3) := by decide +kernel
theorem d_Course_leaveTo_10 : decode b_Course_leaveTo 10 = .ok (.return_, 1) := by decide +kernel
theorem d_Course_leaveTo_11 : decode b_Course_leaveTo 11 = .ok (.aload_n 0, 1) := by decide +kernel
theorem d_Course_leaveTo_12 : decode b_Course_leaveTo 12 = .ok (.iload_n 1, 1) := by decide +kernel
theorem d_Course_leaveTo_13 : decode b_Course_leaveTo 13 = .ok (.iconst (-1), 1) := by decide +kernel
theorem d_Course_leaveTo_14 : decode b_Course_leaveTo 14 = .ok (.invokevirtual 173, 3) := by decide +kernel
theorem d_Course_leaveTo_17 : decode b_Course_leaveTo 17 = .ok (.aload_n 0, 1) := by decide +kernel
theorem d_Course_leaveTo_18 : decode b_Course_leaveTo 18 = .ok (.aload_n 0, 1) := by decide +kernel
theorem d_Course_leaveTo_19 : decode b_Course_leaveTo 19 = .ok (.getfield 38, 3) := by decide +kernel
theorem d_Course_leaveTo_22 : decode b_Course_leaveTo 22 = .ok (.iload_n 1, 1) := by decide +kernel
theorem d_Course_leaveTo_23 : decode b_Course_leaveTo 23 = .ok (.iload_n 2, 1) := by decide +kernel
theorem d_Course_leaveTo_24 : decode b_Course_leaveTo 24 = .ok (.iconst (-1), 1) := by decide +kernel
theorem d_Course_leaveTo_25 : decode b_Course_leaveTo 25 = .ok (.invokevirtual 178, 3) := by decide +kernel
theorem d_Course_leaveTo_28 : decode b_Course_leaveTo 28 = .ok (.aload_n 0, 1) := by decide +kernel
theorem d_Course_leaveTo_29 : decode b_Course_leaveTo 29 = .ok (.getfield 25, 3) := by decide +kernel
theorem d_Course_leaveTo_32 : decode b_Course_leaveTo 32 = .ok (.iload_n 2, 1) := by decide +kernel
theorem d_Course_leaveTo_33 : decode b_Course_leaveTo 33 = .ok (.baload, 1) := by decide +kernel
theorem d_Course_leaveTo_34 : decode b_Course_leaveTo 34 = .ok (.ifCond .ne 17, 3) := by decide +kernel
theorem d_Course_leaveTo_37 : decode b_Course_leaveTo 37 = .ok (.aload_n 0, 1) := by decide +kernel
theorem d_Course_leaveTo_38 : decode b_Course_leaveTo 38 = .ok (.getfield 66, 3) := by decide +kernel
theorem d_Course_leaveTo_41 : decode b_Course_leaveTo 41 = .ok (.aload_n 0, 1) := by decide +kernel
theorem d_Course_leaveTo_42 : decode b_Course_leaveTo 42 = .ok (.getfield 38, 3) := by decide +kernel
theorem d_Course_leaveTo_45 : decode b_Course_leaveTo 45 = .ok (.invokevirtual 182, 3) := by decide +kernel
theorem d_Course_leaveTo_48 : decode b_Course_leaveTo 48 = .ok (.ifCond .eq 11, 3) := by decide +kernel
theorem d_Course_leaveTo_51 : decode b_Course_leaveTo 51 = .ok (.aload_n 0, 1) := by decide +kernel
theorem d_Course_leaveTo_52 : decode b_Course_leaveTo 52 = .ok (.iload_n 1, 1) := by decide +kernel
theorem d_Course_leaveTo_53 : decode b_Course_leaveTo 53 = .ok (.invokevirtual 176, 3) := by decide +kernel
theorem d_Course_leaveTo_56 : decode b_Course_leaveTo 56 = .ok (.goto 9, 3) := by decide +kernel
theorem d_Course_leaveTo_59 : decode b_Course_leaveTo 59 = .ok (.aload_n 0, 1) := by decide +kernel
theorem d_Course_leaveTo_60 : decode b_Course_leaveTo 60 = .ok (.iload_n 1, 1) := by decide +kernel
theorem d_Course_leaveTo_61 : decode b_Course_leaveTo 61 = .ok (.iload_n 2, 1) := by decide +kernel
theorem d_Course_leaveTo_62 : decode b_Course_leaveTo 62 = .ok (.invokevirtual 173, 3) := by decide +kernel
theorem d_Course_leaveTo_65 : decode b_Course_leaveTo 65 = .ok (.return_, 1) := by decide +kernel
theorem d_Course_changePlaces_0 : decode b_Course_changePlaces 0 = .ok (.aload_n 0, 1) := by decide +kernel
theorem d_Course_changePlaces_1 : decode b_Course_changePlaces 1 = .ok (.getfield 9, 3) := by decide +kernel
theorem d_Course_changePlaces_4 : decode b_Course_changePlaces 4 = .ok (.iload_n 1, 1) := by decide +kernel
theorem d_Course_changePlaces_5 : decode b_Course_changePlaces 5 = .ok (.iaload, 1) := by decide +kernel
theorem d_Course_changePlaces_6 : decode b_Course_changePlaces 6 = .ok (.istore_n 3, 1) := by decide +kernel
theorem d_Course_changePlaces_7 : decode b_Course_changePlaces 7 = .ok (.aload_n 0, 1) := by decide +kernel
theorem d_Course_changePlaces_8 : decode b_Course_changePlaces 8 = .ok (.getfield 9, 3) := by decide +kernel
theorem d_Course_changePlaces_11 : decode b_Course_changePlaces 11 = .ok (.iload_n 2, 1) := by decide +kernel
theorem d_Course_changePlaces_12 : decode b_Course_changePlaces 12 = .ok (.iaload, 1) := by decide +kernel
theorem d_Course_changePlaces_13 : decode b_Course_changePlaces 13 = .ok (.istore 4, 2) := by decide +kernel
theorem d_Course_changePlaces_15 : decode b_Course_changePlaces 15 = .ok (.iload_n 3, 1) := by decide +kernel
theorem d_Course_changePlaces_16 : decode b_Course_changePlaces 16 = .ok (.iconst (-1), 1) := by decide +kernel
theorem d_Course_changePlaces_17 : decode b_Course_changePlaces 17 = .ok (.if_icmp .eq 22, 3) := by decide +kernel
theorem d_Course_changePlaces_20 : decode b_Course_changePlaces 20 = .ok (.iload 4, 2) := by decide +kernel
theorem d_Course_changePlaces_22 : decode b_Course_changePlaces 22 = .ok (.iconst (-1), 1) := by decide +kernel
theorem d_Course_changePlaces_23 : decode b_Course_changePlaces 23 = .ok (.if_icmp .eq 16, 3) := by decide +kernel
theorem d_Course_changePlaces_26 : decode b_Course_changePlaces 26 = .ok (.aload_n 0, 1) := by decide +kernel
theorem d_Course_changePlaces_27 : decode b_Course_changePlaces 27 = .ok (.iload_n 1, 1) := by decide +kernel
theorem d_Course_changePlaces_28 : decode b_Course_changePlaces 28 = .ok (.iload 4, 2) := by decide +kernel
theorem d_Course_changePlaces_30 : decode b_Course_changePlaces 30 = .ok (.invokevirtual 173, 3) := by decide +kernel
theorem d_Course_changePlaces_33 : decode b_Course_changePlaces 33 = .ok (.aload_n 0, 1) := by decide +kernel
theorem d_Course_changePlaces_34 : decode b_Course_changePlaces 34 = .ok (.iload_n 2, 1) := by decide +kernel
theorem d_Course_changePlaces_35 : decode b_Course_changePlaces 35 = .ok (.iload_n 3, 1) := by decide +kernel
theorem d_Course_changePlaces_36 : decode b_Course_changePlaces 36 = .ok (.invokevirtual 173, 3) := by decide +kernel
theorem d_Course_changePlaces_39 : decode b_Course_changePlaces 39 = .ok (.return_, 1) := by decide +kernel
theorem d_Chan_paperOf_0 : decode b_Chan_paperOf 0 = .ok (.aload_n 0, 1) := by decide +kernel
theorem d_Chan_paperOf_1 : decode b_Chan_paperOf 1 = .ok (.invokevirtual 172, 3) := by decide +kernel
theorem d_Chan_paperOf_4 : decode b_Chan_paperOf 4 = .ok (.istore_n 3, 1) := by decide +kernel
theorem d_Chan_paperOf_5 : decode b_Chan_paperOf 5 = .ok (.aload_n 0, 1) := by decide +kernel
theorem d_Chan_paperOf_6 : decode b_Chan_paperOf 6 = .ok (.getfield 35, 3) := by decide +kernel
theorem d_Chan_paperOf_9 : decode b_Chan_paperOf 9 = .ok (.iload_n 1, 1) := by decide +kernel
theorem d_Chan_paperOf_10 : decode b_Chan_paperOf 10 = .ok (.iload_n 3, 1) := by decide +kernel
theorem d_Chan_paperOf_11 : decode b_Chan_paperOf 11 = .ok (.invokevirtual 182, 3) := by decide +kernel
theorem d_Chan_paperOf_14 : decode b_Chan_paperOf 14 = .ok (.ifCond .eq 12, 3) := by decide +kernel
theorem d_Chan_paperOf_17 : decode b_Chan_paperOf 17 = .ok (.iload_n 2, 1) := by decide +kernel
theorem d_Chan_paperOf_18 : decode b_Chan_paperOf 18 = .ok (.iconst 0, 1) := by decide +kernel
theorem d_Chan_paperOf_19 : decode b_Chan_paperOf 19 = .ok (.iconst 3, 1) := by decide +kernel
theorem d_Chan_paperOf_20 : decode b_Chan_paperOf 20 = .ok (.invokestatic 101, 3) := by decide +kernel
theorem d_Chan_paperOf_23 : decode b_Chan_paperOf 23 = .ok (.ifCond .ne 6, 3) := by decide +kernel
theorem d_Chan_paperOf_26 : decode b_Chan_paperOf 26 = .ok (.bipush (-2), 2) := by decide +kernel
theorem d_Chan_paperOf_28 : decode b_Chan_paperOf 28 = .ok (.ireturn, 1) := by decide +kernel
theorem d_Chan_paperOf_29 : decode b_Chan_paperOf 29 = .ok (.aload_n 0, 1) := by decide +kernel
theorem d_Chan_paperOf_30 : decode b_Chan_paperOf 30 = .ok (.getfield 58, 3) := by decide +kernel
theorem d_Chan_paperOf_33 : decode b_Chan_paperOf 33 = .ok (.iload_n 3, 1) := by decide +kernel
theorem d_Chan_paperOf_34 : decode b_Chan_paperOf 34 = .ok (.ldc 186, 2) := by decide +kernel
theorem d_Chan_paperOf_36 : decode b_Chan_paperOf 36 = .ok (.invokevirtual 176, 3) := by decide +kernel
theorem d_Chan_paperOf_39 : decode b_Chan_paperOf 39 = .ok (.iload_n 2, 1) := by decide +kernel
theorem d_Chan_paperOf_40 : decode b_Chan_paperOf 40 = .ok (.tableswitch 93 0 2 #[28, 38, 75], 28) := by decide +kernel
theorem d_Chan_paperOf_68 : decode b_Chan_paperOf 68 = .ok (.aload_n 0, 1) := by decide +kernel
theorem d_Chan_paperOf_69 : decode b_Chan_paperOf 69 = .ok (.getfield 58, 3) := by decide +kernel
theorem d_Chan_paperOf_72 : decode b_Chan_paperOf 72 = .ok (.getfield 187, 3) := by decide +kernel
theorem d_Chan_paperOf_75 : decode b_Chan_paperOf 75 = .ok (.iload_n 1, 1) := by decide +kernel
theorem d_Chan_paperOf_76 : decode b_Chan_paperOf 76 = .ok (.iaload, 1) := by decide +kernel
theorem d_Chan_paperOf_77 : decode b_Chan_paperOf 77 = .ok (.ireturn, 1) := by decide +kernel
theorem d_Chan_paperOf_78 : decode b_Chan_paperOf 78 = .ok (.aload_n 0, 1) := by decide +kernel
theorem d_Chan_paperOf_79 : decode b_Chan_paperOf 79 = .ok (.getfield 58, 3) := by decide +kernel
theorem d_Chan_paperOf_82 : decode b_Chan_paperOf 82 = .ok (.getfield 187, 3) := by decide +kernel
theorem d_Chan_paperOf_85 : decode b_Chan_paperOf 85 = .ok (.iload_n 1, 1) := by decide +kernel
theorem d_Chan_paperOf_86 : decode b_Chan_paperOf 86 = .ok (.iaload, 1) := by decide +kernel
theorem d_Chan_paperOf_87 : decode b_Chan_paperOf 87 = .ok (.iconst (-1), 1) := by decide +kernel
theorem d_Chan_paperOf_88 : decode b_Chan_paperOf 88 = .ok (.if_icmp .ne 7, 3) := by decide +kernel
theorem d_Chan_paperOf_91 : decode b_Chan_paperOf 91 = .ok (.iconst (-1), 1) := by decide +kernel
theorem d_Chan_paperOf_92 : decode b_Chan_paperOf 92 = .ok (.goto 22, 3) := by decide +kernel
theorem d_Chan_paperOf_95 : decode b_Chan_paperOf 95 = .ok (.aload_n 0, 1) := by decide +kernel
theorem d_Chan_paperOf_96 : decode b_Chan_paperOf 96 = .ok (.getfield 58, 3) := by decide +kernel
theorem d_Chan_paperOf_99 : decode b_Chan_paperOf 99 = .ok (.getfield 190, 3) := by decide +kernel
theorem d_Chan_paperOf_102 : decode b_Chan_paperOf 102 = .ok (.iload_n 1, 1) := by decide +kernel
theorem d_Chan_paperOf_103 : decode b_Chan_paperOf 103 = .ok (.iaload, 1) := by decide +kernel
theorem d_Chan_paperOf_104 : decode b_Chan_paperOf 104 = .ok (.aload_n 0, 1) := by decide +kernel
theorem d_Chan_paperOf_105 : decode b_Chan_paperOf 105 = .ok (.getfield 35, 3) := by decide +kernel
theorem d_Chan_paperOf_108 : decode b_Chan_paperOf 108 = .ok (.getfield 193, 3) := by decide +kernel
theorem d_Chan_paperOf_111 : decode b_Chan_paperOf 111 = .ok (.iload_n 1, 1) := by decide +kernel
theorem d_Chan_paperOf_112 : decode b_Chan_paperOf 112 = .ok (.iaload, 1) := by decide +kernel
theorem d_Chan_paperOf_113 : decode b_Chan_paperOf 113 = .ok (.isub, 1) := by decide +kernel
theorem d_Chan_paperOf_114 : decode b_Chan_paperOf 114 = .ok (.ireturn, 1) := by decide +kernel
theorem d_Chan_paperOf_115 : decode b_Chan_paperOf 115 = .ok (.aload_n 0, 1) := by decide +kernel
theorem d_Chan_paperOf_116 : decode b_Chan_paperOf 116 = .ok (.getfield 58, 3) := by decide +kernel
theorem d_Chan_paperOf_119 : decode b_Chan_paperOf 119 = .ok (.getfield 196, 3) := by decide +kernel
theorem d_Chan_paperOf_122 : decode b_Chan_paperOf 122 = .ok (.iload_n 1, 1) := by decide +kernel
theorem d_Chan_paperOf_123 : decode b_Chan_paperOf 123 = .ok (.baload, 1) := by decide +kernel
theorem d_Chan_paperOf_124 : decode b_Chan_paperOf 124 = .ok (.ifCond .eq 7, 3) := by decide +kernel
theorem d_Chan_paperOf_127 : decode b_Chan_paperOf 127 = .ok (.iconst 1, 1) := by decide +kernel
theorem d_Chan_paperOf_128 : decode b_Chan_paperOf 128 = .ok (.goto 4, 3) := by decide +kernel
theorem d_Chan_paperOf_131 : decode b_Chan_paperOf 131 = .ok (.iconst 0, 1) := by decide +kernel
theorem d_Chan_paperOf_132 : decode b_Chan_paperOf 132 = .ok (.ireturn, 1) := by decide +kernel
theorem d_Chan_paperOf_133 : decode b_Chan_paperOf 133 = .ok (.aload_n 0, 1) := by decide +kernel
theorem d_Chan_paperOf_134 : decode b_Chan_paperOf 134 = .ok (.getfield 35, 3) := by decide +kernel
theorem d_Chan_paperOf_137 : decode b_Chan_paperOf 137 = .ok (.getfield 200, 3) := by decide +kernel
theorem d_Chan_paperOf_140 : decode b_Chan_paperOf 140 = .ok (.iload_n 1, 1) := by decide +kernel
theorem d_Chan_paperOf_141 : decode b_Chan_paperOf 141 = .ok (.iaload, 1) := by decide +kernel
theorem d_Chan_paperOf_142 : decode b_Chan_paperOf 142 = .ok (.ireturn, 1) := by decide +kernel
theorem d_PaperBox_isKnown_0 : decode b_PaperBox_isKnown 0 = .ok (.aload_n 0, 1) := by decide +kernel
theorem d_PaperBox_isKnown_1 : decode b_PaperBox_isKnown 1 = .ok (.iload_n 1, 1) := by decide +kernel
theorem d_PaperBox_isKnown_2 : decode b_PaperBox_isKnown 2 = .ok (.invokevirtual 40, 3) := by decide +kernel
theorem d_PaperBox_isKnown_5 : decode b_PaperBox_isKnown 5 = .ok (.ifCond .eq 17, 3) := by decide +kernel
theorem d_PaperBox_isKnown_8 : decode b_PaperBox_isKnown 8 = .ok (.aload_n 0, 1) := by decide +kernel
theorem d_PaperBox_isKnown_9 : decode b_PaperBox_isKnown 9 = .ok (.getfield 30, 3) := by decide +kernel
theorem d_PaperBox_isKnown_12 : decode b_PaperBox_isKnown 12 = .ok (.iload_n 1, 1) := by decide +kernel
theorem d_PaperBox_isKnown_13 : decode b_PaperBox_isKnown 13 = .ok (.iaload, 1) := by decide +kernel
theorem d_PaperBox_isKnown_14 : decode b_PaperBox_isKnown 14 = .ok (.iload_n 2, 1) := by decide +kernel
theorem d_PaperBox_isKnown_15 : decode b_PaperBox_isKnown 15 = .ok (.if_icmp .gt 7, 3) := by decide +kernel
theorem d_PaperBox_isKnown_18 : decode b_PaperBox_isKnown 18 = .ok (.iconst 1, 1) := by decide +kernel
theorem d_PaperBox_isKnown_19 : decode b_PaperBox_isKnown 19 = .ok (.goto 4, 3) := by decide +kernel
theorem d_PaperBox_isKnown_22 : decode b_PaperBox_isKnown 22 = .ok (.iconst 0, 1) := by decide +kernel
theorem d_PaperBox_isKnown_23 : decode b_PaperBox_isKnown 23 = .ok (.ireturn, 1) := by decide +kernel
theorem d_Chan_posts_0 : decode b_Chan_posts 0 = .ok (.aload_n 0, 1) := by decide +kernel
theorem d_Chan_posts_1 : decode b_Chan_posts 1 = .ok (.getfield 28, 3) := by decide +kernel
theorem d_Chan_posts_4 : decode b_Chan_posts 4 = .ok (.iload_n 1, 1) := by decide +kernel
theorem d_Chan_posts_5 : decode b_Chan_posts 5 = .ok (.invokevirtual 116, 3) := by decide +kernel
theorem d_Chan_posts_8 : decode b_Chan_posts 8 = .ok (.ifCond .eq 10, 3) := by decide +kernel
theorem d_Chan_posts_11 : decode b_Chan_posts 11 = .ok (.iload_n 2, 1) := by decide +kernel
theorem d_Chan_posts_12 : decode b_Chan_posts 12 = .ok (.invokestatic 129, 3) := by decide +kernel
theorem d_Chan_posts_15 : decode b_Chan_posts 15 = .ok (.ifCond .ne 5, 3) := by decide +kernel
theorem d_Chan_posts_18 : decode b_Chan_posts 18 = .ok (.iconst (-1), 1) := by decide +kernel
theorem d_Chan_posts_19 : decode b_Chan_posts 19 = .ok (.ireturn, 1) := by decide +kernel
theorem d_Chan_posts_20 : decode b_Chan_posts 20 = .ok (.aload_n 0, 1) := by decide +kernel
theorem d_Chan_posts_21 : decode b_Chan_posts 21 = .ok (.getfield 58, 3) := by decide +kernel
theorem d_Chan_posts_24 : decode b_Chan_posts 24 = .ok (.aload_n 0, 1) := by decide +kernel
theorem d_Chan_posts_25 : decode b_Chan_posts 25 = .ok (.invokevirtual 172, 3) := by decide +kernel
theorem d_Chan_posts_28 : decode b_Chan_posts 28 = .ok (.iload_n 2, 1) := by decide +kernel
theorem d_Chan_posts_29 : decode b_Chan_posts 29 = .ok (.invokevirtual 176, 3) := by decide +kernel
theorem d_Chan_posts_32 : decode b_Chan_posts 32 = .ok (.aload_n 0, 1) := by decide +kernel
theorem d_Chan_posts_33 : decode b_Chan_posts 33 = .ok (.getfield 58, 3) := by decide +kernel
theorem d_Chan_posts_36 : decode b_Chan_posts 36 = .ok (.getfield 203, 3) := by decide +kernel
theorem d_Chan_posts_39 : decode b_Chan_posts 39 = .ok (.iload_n 1, 1) := by decide +kernel
theorem d_Chan_posts_40 : decode b_Chan_posts 40 = .ok (.iaload, 1) := by decide +kernel
theorem d_Chan_posts_41 : decode b_Chan_posts 41 = .ok (.ireturn, 1) := by decide +kernel
theorem d_Chan_due_0 : decode b_Chan_due 0 = .ok (.aload_n 0, 1) := by decide +kernel
theorem d_Chan_due_1 : decode b_Chan_due 1 = .ok (.getfield 28, 3) := by decide +kernel
theorem d_Chan_due_4 : decode b_Chan_due 4 = .ok (.iload_n 1, 1) := by decide +kernel
theorem d_Chan_due_5 : decode b_Chan_due 5 = .ok (.invokevirtual 116, 3) := by decide +kernel
theorem d_Chan_due_8 : decode b_Chan_due 8 = .ok (.ifCond .eq 10, 3) := by decide +kernel
theorem d_Chan_due_11 : decode b_Chan_due 11 = .ok (.iload_n 2, 1) := by decide +kernel
theorem d_Chan_due_12 : decode b_Chan_due 12 = .ok (.invokestatic 129, 3) := by decide +kernel
theorem d_Chan_due_15 : decode b_Chan_due 15 = .ok (.ifCond .ne 7, 3) := by decide +kernel
theorem d_Chan_due_18 : decode b_Chan_due 18 = .ok (.ldc2_w 206, 3) := by decide +kernel
theorem d_Chan_due_21 : decode b_Chan_due 21 = .ok (.lreturn, 1) := by decide +kernel
theorem d_Chan_due_22 : decode b_Chan_due 22 = .ok (.aload_n 0, 1) := by decide +kernel
theorem d_Chan_due_23 : decode b_Chan_due 23 = .ok (.getfield 58, 3) := by decide +kernel
theorem d_Chan_due_26 : decode b_Chan_due 26 = .ok (.aload_n 0, 1) := by decide +kernel
theorem d_Chan_due_27 : decode b_Chan_due 27 = .ok (.invokevirtual 172, 3) := by decide +kernel
theorem d_Chan_due_30 : decode b_Chan_due 30 = .ok (.iload_n 2, 1) := by decide +kernel
theorem d_Chan_due_31 : decode b_Chan_due 31 = .ok (.invokevirtual 176, 3) := by decide +kernel
theorem d_Chan_due_34 : decode b_Chan_due 34 = .ok (.aload_n 0, 1) := by decide +kernel
theorem d_Chan_due_35 : decode b_Chan_due 35 = .ok (.getfield 58, 3) := by decide +kernel
theorem d_Chan_due_38 : decode b_Chan_due 38 = .ok (.iload_n 1, 1) := by decide +kernel
theorem d_Chan_due_39 : decode b_Chan_due 39 = .ok (.invokevirtual 208, 3) := by decide +kernel
theorem d_Chan_due_42 : decode b_Chan_due 42 = .ok (.ldc2_w 212, 3) := by decide +kernel
theorem d_Chan_due_45 : decode b_Chan_due 45 = .ok (.ldiv, 1) := by decide +kernel
theorem d_Chan_due_46 : decode b_Chan_due 46 = .ok (.lreturn, 1) := by decide +kernel
theorem d_Course_earnedBy_0 : decode b_Course_earnedBy 0 = .ok (.aload_n 0, 1) := by decide +kernel
theorem d_Course_earnedBy_1 : decode b_Course_earnedBy 1 = .ok (.getfield 21, 3) := by decide +kernel
theorem d_Course_earnedBy_4 : decode b_Course_earnedBy 4 = .ok (.iload_n 1, 1) := by decide +kernel
theorem d_Course_earnedBy_5 : decode b_Course_earnedBy 5 = .ok (.laload, 1) := by decide +kernel
theorem d_Course_earnedBy_6 : decode b_Course_earnedBy 6 = .ok (.lstore_n 2, 1) := by decide +kernel
theorem d_Course_earnedBy_7 : decode b_Course_earnedBy 7 = .ok (.iconst 0, 1) := by decide +kernel
theorem d_Course_earnedBy_8 : decode b_Course_earnedBy 8 = .ok (.istore 4, 2) := by decide +kernel
theorem d_Course_earnedBy_10 : decode b_Course_earnedBy 10 = .ok (.iload 4, 2) := by decide +kernel
theorem d_Course_earnedBy_12 : decode b_Course_earnedBy 12 = .ok (.aload_n 0, 1) := by decide +kernel
theorem d_Course_earnedBy_13 : decode b_Course_earnedBy 13 = .ok (.getfield 44, 3) := by decide +kernel
theorem d_Course_earnedBy_16 : decode b_Course_earnedBy 16 = .ok (.getfield 115, 3) := by decide +kernel
theorem d_Course_earnedBy_19 : decode b_Course_earnedBy 19 = .ok (.if_icmp .ge 48, 3) := by decide +kernel
theorem d_Course_earnedBy_22 : decode b_Course_earnedBy 22 = .ok (.aload_n 0, 1) := by decide +kernel
theorem d_Course_earnedBy_23 : decode b_Course_earnedBy 23 = .ok (.getfield 9, 3) := by decide +kernel
theorem d_Course_earnedBy_26 : decode b_Course_earnedBy 26 = .ok (.iload 4, 2) := by decide +kernel
theorem d_Course_earnedBy_28 : decode b_Course_earnedBy 28 = .ok (.iaload, 1) := by decide +kernel
theorem d_Course_earnedBy_29 : decode b_Course_earnedBy 29 = .ok (.iload_n 1, 1) := by decide +kernel
theorem d_Course_earnedBy_30 : decode b_Course_earnedBy 30 = .ok (.if_icmp .ne 31, 3) := by decide +kernel
theorem d_Course_earnedBy_33 : decode b_Course_earnedBy 33 = .ok (.lload_n 2, 1) := by decide +kernel
theorem d_Course_earnedBy_34 : decode b_Course_earnedBy 34 = .ok (.aload_n 0, 1) := by decide +kernel
theorem d_Course_earnedBy_35 : decode b_Course_earnedBy 35 = .ok (.getfield 44, 3) := by decide +kernel
theorem d_Course_earnedBy_38 : decode b_Course_earnedBy 38 = .ok (.getfield 161, 3) := by decide +kernel
theorem d_Course_earnedBy_41 : decode b_Course_earnedBy 41 = .ok (.iload 4, 2) := by decide +kernel
theorem d_Course_earnedBy_43 : decode b_Course_earnedBy 43 = .ok (.iaload, 1) := by decide +kernel
theorem d_Course_earnedBy_44 : decode b_Course_earnedBy 44 = .ok (.i2l, 1) := by decide +kernel
theorem d_Course_earnedBy_45 : decode b_Course_earnedBy 45 = .ok (.aload_n 0, 1) := by decide +kernel
theorem d_Course_earnedBy_46 : decode b_Course_earnedBy 46 = .ok (.getfield 124, 3) := by decide +kernel
theorem d_Course_earnedBy_49 : decode b_Course_earnedBy 49 = .ok (.aload_n 0, 1) := by decide +kernel
theorem d_Course_earnedBy_50 : decode b_Course_earnedBy 50 = .ok (.getfield 15, 3) := by decide +kernel
theorem d_Course_earnedBy_53 : decode b_Course_earnedBy 53 = .ok (.iload 4, 2) := by decide +kernel
theorem d_Course_earnedBy_55 : decode b_Course_earnedBy 55 = .ok (.iaload, 1) := by decide +kernel
theorem d_Course_earnedBy_56 : decode b_Course_earnedBy 56 = .ok (.isub, 1) := by decide +kernel
theorem d_Course_earnedBy_57 : decode b_Course_earnedBy 57 = .ok (.i2l, 1) := by decide +kernel
theorem d_Course_earnedBy_58 : decode b_Course_earnedBy 58 = .ok (.lmul, 1) := by decide +kernel
theorem d_Course_earnedBy_59 : decode b_Course_earnedBy 59 = .ok (.ladd, 1) := by decide +kernel
theorem d_Course_earnedBy_60 : decode b_Course_earnedBy 60 = .ok (.lstore_n 2, 1) := by decide +kernel
theorem d_Course_earnedBy_61 : decode b_Course_earnedBy 61 = .ok (.iinc 4 1, 3) := by decide +kernel
theorem d_Course_earnedBy_64 : decode b_Course_earnedBy 64 = .ok (.goto (-54), 3) := by decide +kernel
theorem d_Course_earnedBy_67 : decode b_Course_earnedBy 67 = .ok (.lload_n 2, 1) := by decide +kernel
theorem d_Course_earnedBy_68 : decode b_Course_earnedBy 68 = .ok (.lreturn, 1) := by decide +kernel
theorem d_Chan_claims_0 : decode b_Chan_claims 0 = .ok (.aload_n 0, 1) := by decide +kernel
theorem d_Chan_claims_1 : decode b_Chan_claims 1 = .ok (.getfield 28, 3) := by decide +kernel
theorem d_Chan_claims_4 : decode b_Chan_claims 4 = .ok (.iload_n 1, 1) := by decide +kernel
theorem d_Chan_claims_5 : decode b_Chan_claims 5 = .ok (.invokevirtual 113, 3) := by decide +kernel
theorem d_Chan_claims_8 : decode b_Chan_claims 8 = .ok (.ifCond .eq 10, 3) := by decide +kernel
theorem d_Chan_claims_11 : decode b_Chan_claims 11 = .ok (.iload_n 2, 1) := by decide +kernel
theorem d_Chan_claims_12 : decode b_Chan_claims 12 = .ok (.invokestatic 129, 3) := by decide +kernel
theorem d_Chan_claims_15 : decode b_Chan_claims 15 = .ok (.ifCond .ne 5, 3) := by decide +kernel
theorem d_Chan_claims_18 : decode b_Chan_claims 18 = .ok (.iconst (-1), 1) := by decide +kernel
theorem d_Chan_claims_19 : decode b_Chan_claims 19 = .ok (.ireturn, 1) := by decide +kernel
theorem d_Chan_claims_20 : decode b_Chan_claims 20 = .ok (.aload_n 0, 1) := by decide +kernel
theorem d_Chan_claims_21 : decode b_Chan_claims 21 = .ok (.getfield 58, 3) := by decide +kernel
theorem d_Chan_claims_24 : decode b_Chan_claims 24 = .ok (.aload_n 0, 1) := by decide +kernel
theorem d_Chan_claims_25 : decode b_Chan_claims 25 = .ok (.invokevirtual 172, 3) := by decide +kernel
theorem d_Chan_claims_28 : decode b_Chan_claims 28 = .ok (.iload_n 2, 1) := by decide +kernel
theorem d_Chan_claims_29 : decode b_Chan_claims 29 = .ok (.invokevirtual 176, 3) := by decide +kernel
theorem d_Chan_claims_32 : decode b_Chan_claims 32 = .ok (.aload_n 0, 1) := by decide +kernel
theorem d_Chan_claims_33 : decode b_Chan_claims 33 = .ok (.aload_n 0, 1) := by decide +kernel
theorem d_Chan_claims_34 : decode b_Chan_claims 34 = .ok (.getfield 58, 3) := by decide +kernel
theorem d_Chan_claims_37 : decode b_Chan_claims 37 = .ok (.iload_n 1, 1) := by decide +kernel
theorem d_Chan_claims_38 : decode b_Chan_claims 38 = .ok (.aload_n 0, 1) := by decide +kernel
theorem d_Chan_claims_39 : decode b_Chan_claims 39 = .ok (.getfield 78, 3) := by decide +kernel
theorem d_Chan_claims_42 : decode b_Chan_claims 42 = .ok (.invokevirtual 214, 3) := by decide +kernel
theorem d_Chan_claims_45 : decode b_Chan_claims 45 = .ok (.putfield 218, 3) := by decide +kernel
theorem d_Chan_claims_48 : decode b_Chan_claims 48 = .ok (.aload_n 0, 1) := by decide +kernel
theorem d_Chan_claims_49 : decode b_Chan_claims 49 = .ok (.getfield 218, 3) := by decide +kernel
theorem d_Chan_claims_52 : decode b_Chan_claims 52 = .ok (.ireturn, 1) := by decide +kernel
theorem d_Course_gatherClaims_0 : decode b_Course_gatherClaims 0 = .ok (.aload_n 0, 1) := by decide +kernel
theorem d_Course_gatherClaims_1 : decode b_Course_gatherClaims 1 = .ok (.getfield 9, 3) := by decide +kernel
theorem d_Course_gatherClaims_4 : decode b_Course_gatherClaims 4 = .ok (.iload_n 1, 1) := by decide +kernel
theorem d_Course_gatherClaims_5 : decode b_Course_gatherClaims 5 = .ok (.iaload, 1) := by decide +kernel
theorem d_Course_gatherClaims_6 : decode b_Course_gatherClaims 6 = .ok (.istore_n 3, 1) := by decide +kernel
theorem d_Course_gatherClaims_7 : decode b_Course_gatherClaims 7 = .ok (.aload_n 0, 1) := by decide +kernel
theorem d_Course_gatherClaims_8 : decode b_Course_gatherClaims 8 = .ok (.iload_n 1, 1) := by decide +kernel
theorem d_Course_gatherClaims_9 : decode b_Course_gatherClaims 9 = .ok (.iconst (-1), 1) := by decide +kernel
theorem d_Course_gatherClaims_10 : decode b_Course_gatherClaims 10 = .ok (.invokevirtual 121, 3) := by decide +kernel
theorem d_Course_gatherClaims_13 : decode b_Course_gatherClaims 13 = .ok (.iconst 0, 1) := by decide +kernel
theorem d_Course_gatherClaims_14 : decode b_Course_gatherClaims 14 = .ok (.istore 4, 2) := by decide +kernel
theorem d_Course_gatherClaims_16 : decode b_Course_gatherClaims 16 = .ok (.iconst 0, 1) := by decide +kernel
theorem d_Course_gatherClaims_17 : decode b_Course_gatherClaims 17 = .ok (.istore 5, 2) := by decide +kernel
theorem d_Course_gatherClaims_19 : decode b_Course_gatherClaims 19 = .ok (.iload 5, 2) := by decide +kernel
theorem d_Course_gatherClaims_21 : decode b_Course_gatherClaims 21 = .ok (.aload_n 0, 1) := by decide +kernel
theorem d_Course_gatherClaims_22 : decode b_Course_gatherClaims 22 = .ok (.getfield 48, 3) := by decide +kernel
theorem d_Course_gatherClaims_25 : decode b_Course_gatherClaims 25 = .ok (.getfield 170, 3) := by decide +kernel
theorem d_Course_gatherClaims_28 : decode b_Course_gatherClaims 28 = .ok (.if_icmp .ge 76, 3) := by decide +kernel
theorem d_Course_gatherClaims_31 : decode b_Course_gatherClaims 31 = .ok (.iload 4, 2) := by decide +kernel
theorem d_Course_gatherClaims_33 : decode b_Course_gatherClaims 33 = .ok (.aload_n 2, 1) := by decide +kernel
theorem d_Course_gatherClaims_34 : decode b_Course_gatherClaims 34 = .ok (.arraylength, 1) := by decide +kernel
theorem d_Course_gatherClaims_35 : decode b_Course_gatherClaims 35 = .ok (.if_icmp .ge 69, 3) := by decide +kernel
theorem d_Course_gatherClaims_38 : decode b_Course_gatherClaims 38 = .ok (.aload_n 0, 1) := by decide +kernel
theorem d_Course_gatherClaims_39 : decode b_Course_gatherClaims 39 = .ok (.iload 5, 2) := by decide +kernel
theorem d_Course_gatherClaims_41 : decode b_Course_gatherClaims 41 = .ok (.iload_n 1, 1) := by decide +kernel
theorem d_Course_gatherClaims_42 : decode b_Course_gatherClaims 42 = .ok (.invokevirtual 164, 3) := by decide +kernel
theorem d_Course_gatherClaims_45 : decode b_Course_gatherClaims 45 = .ok (.ifCond .eq 53, 3) := by decide +kernel
theorem d_Course_gatherClaims_48 : decode b_Course_gatherClaims 48 = .ok (.iload 4, 2) := by decide +kernel
theorem d_Course_gatherClaims_50 : decode b_Course_gatherClaims 50 = .ok (.istore 6, 2) := by decide +kernel
theorem d_Course_gatherClaims_52 : decode b_Course_gatherClaims 52 = .ok (.iload 6, 2) := by decide +kernel
theorem d_Course_gatherClaims_54 : decode b_Course_gatherClaims 54 = .ok (.ifCond .le 35, 3) := by decide +kernel
theorem d_Course_gatherClaims_57 : decode b_Course_gatherClaims 57 = .ok (.aload_n 0, 1) := by decide +kernel
theorem d_Course_gatherClaims_58 : decode b_Course_gatherClaims 58 = .ok (.iload 5, 2) := by decide +kernel
theorem d_Course_gatherClaims_60 : decode b_Course_gatherClaims 60 = .ok (.aload_n 2, 1) := by decide +kernel
theorem d_Course_gatherClaims_61 : decode b_Course_gatherClaims 61 = .ok (.iload 6, 2) := by decide +kernel
theorem d_Course_gatherClaims_63 : decode b_Course_gatherClaims 63 = .ok (.iconst 1, 1) := by decide +kernel
theorem d_Course_gatherClaims_64 : decode b_Course_gatherClaims 64 = .ok (.isub, 1) := by decide +kernel
theorem d_Course_gatherClaims_65 : decode b_Course_gatherClaims 65 = .ok (.iaload, 1) := by decide +kernel
theorem d_Course_gatherClaims_66 : decode b_Course_gatherClaims 66 = .ok (.iload_n 1, 1) := by decide +kernel
theorem d_Course_gatherClaims_67 : decode b_Course_gatherClaims 67 = .ok (.invokevirtual 188, 3) := by decide +kernel
theorem d_Course_gatherClaims_70 : decode b_Course_gatherClaims 70 = .ok (.ifCond .lt 19, 3) := by decide +kernel
theorem d_Course_gatherClaims_73 : decode b_Course_gatherClaims 73 = .ok (.aload_n 2, 1) := by decide +kernel
theorem d_Course_gatherClaims_74 : decode b_Course_gatherClaims 74 = .ok (.iload 6, 2) := by decide +kernel
theorem d_Course_gatherClaims_76 : decode b_Course_gatherClaims 76 = .ok (.aload_n 2, 1) := by decide +kernel
theorem d_Course_gatherClaims_77 : decode b_Course_gatherClaims 77 = .ok (.iload 6, 2) := by decide +kernel
theorem d_Course_gatherClaims_79 : decode b_Course_gatherClaims 79 = .ok (.iconst 1, 1) := by decide +kernel
theorem d_Course_gatherClaims_80 : decode b_Course_gatherClaims 80 = .ok (.isub, 1) := by decide +kernel
theorem d_Course_gatherClaims_81 : decode b_Course_gatherClaims 81 = .ok (.iaload, 1) := by decide +kernel
theorem d_Course_gatherClaims_82 : decode b_Course_gatherClaims 82 = .ok (.iastore, 1) := by decide +kernel
theorem d_Course_gatherClaims_83 : decode b_Course_gatherClaims 83 = .ok (.iinc 6 (-1), 3) := by decide +kernel
theorem d_Course_gatherClaims_86 : decode b_Course_gatherClaims 86 = .ok (.goto (-34), 3) := by decide +kernel
theorem d_Course_gatherClaims_89 : decode b_Course_gatherClaims 89 = .ok (.aload_n 2, 1) := by decide +kernel
theorem d_Course_gatherClaims_90 : decode b_Course_gatherClaims 90 = .ok (.iload 6, 2) := by decide +kernel
theorem d_Course_gatherClaims_92 : decode b_Course_gatherClaims 92 = .ok (.iload 5, 2) := by decide +kernel
theorem d_Course_gatherClaims_94 : decode b_Course_gatherClaims 94 = .ok (.iastore, 1) := by decide +kernel
theorem d_Course_gatherClaims_95 : decode b_Course_gatherClaims 95 = .ok (.iinc 4 1, 3) := by decide +kernel
theorem d_Course_gatherClaims_98 : decode b_Course_gatherClaims 98 = .ok (.iinc 5 1, 3) := by decide +kernel
theorem d_Course_gatherClaims_101 : decode b_Course_gatherClaims 101 = .ok (.goto (-82), 3) := by decide +kernel
theorem d_Course_gatherClaims_104 : decode b_Course_gatherClaims 104 = .ok (.aload_n 0, 1) := by decide +kernel
theorem d_Course_gatherClaims_105 : decode b_Course_gatherClaims 105 = .ok (.iload_n 1, 1) := by decide +kernel
theorem d_Course_gatherClaims_106 : decode b_Course_gatherClaims 106 = .ok (.iload_n 3, 1) := by decide +kernel
theorem d_Course_gatherClaims_107 : decode b_Course_gatherClaims 107 = .ok (.invokevirtual 121, 3) := by decide +kernel
theorem d_Course_gatherClaims_110 : decode b_Course_gatherClaims 110 = .ok (.iload 4, 2) := by decide +kernel
theorem d_Course_gatherClaims_112 : decode b_Course_gatherClaims 112 = .ok (.ireturn, 1) := by decide +kernel
theorem d_Chan_claim_0 : decode b_Chan_claim 0 = .ok (.iload_n 1, 1) := by decide +kernel
theorem d_Chan_claim_1 : decode b_Chan_claim 1 = .ok (.ifCond .lt 20, 3) := by decide +kernel
theorem d_Chan_claim_4 : decode b_Chan_claim 4 = .ok (.iload_n 1, 1) := by decide +kernel
theorem d_Chan_claim_5 : decode b_Chan_claim 5 = .ok (.aload_n 0, 1) := by decide +kernel
theorem d_Chan_claim_6 : decode b_Chan_claim 6 = .ok (.getfield 218, 3) := by decide +kernel
theorem d_Chan_claim_9 : decode b_Chan_claim 9 = .ok (.if_icmp .ge 12, 3) := by decide +kernel
theorem d_Chan_claim_12 : decode b_Chan_claim 12 = .ok (.aload_n 0, 1) := by decide +kernel
theorem d_Chan_claim_13 : decode b_Chan_claim 13 = .ok (.getfield 78, 3) := by decide +kernel
theorem d_Chan_claim_16 : decode b_Chan_claim 16 = .ok (.iload_n 1, 1) := by decide +kernel
theorem d_Chan_claim_17 : decode b_Chan_claim 17 = .ok (.iaload, 1) := by decide +kernel
theorem d_Chan_claim_18 : decode b_Chan_claim 18 = .ok (.goto 4, 3) := by decide +kernel
theorem d_Chan_claim_21 : decode b_Chan_claim 21 = .ok (.iconst (-1), 1) := by decide +kernel
theorem d_Chan_claim_22 : decode b_Chan_claim 22 = .ok (.ireturn, 1) := by decide +kernel
theorem d_Chan_by_0 : decode b_Chan_by 0 = .ok (.aload_n 0, 1) := by decide +kernel
theorem d_Chan_by_1 : decode b_Chan_by 1 = .ok (.invokevirtual 172, 3) := by decide +kernel
theorem d_Chan_by_4 : decode b_Chan_by 4 = .ok (.istore 5, 2) := by decide +kernel
theorem d_Chan_by_6 : decode b_Chan_by 6 = .ok (.aload_n 0, 1) := by decide +kernel
theorem d_Chan_by_7 : decode b_Chan_by 7 = .ok (.getfield 28, 3) := by decide +kernel
theorem d_Chan_by_10 : decode b_Chan_by 10 = .ok (.iload_n 1, 1) := by decide +kernel
theorem d_Chan_by_11 : decode b_Chan_by 11 = .ok (.invokevirtual 113, 3) := by decide +kernel
theorem d_Chan_by_14 : decode b_Chan_by 14 = .ok (.ifCond .eq 43, 3) := by decide +kernel
theorem d_Chan_by_17 : decode b_Chan_by 17 = .ok (.iload_n 2, 1) := by decide +kernel
theorem d_Chan_by_18 : decode b_Chan_by 18 = .ok (.invokestatic 129, 3) := by decide +kernel
theorem d_Chan_by_21 : decode b_Chan_by 21 = .ok (.ifCond .eq 36, 3) := by decide +kernel
theorem d_Chan_by_24 : decode b_Chan_by 24 = .ok (.iload_n 3, 1) := by decide +kernel
theorem d_Chan_by_25 : decode b_Chan_by 25 = .ok (.iload 4, 2) := by decide +kernel
theorem d_Chan_by_27 : decode b_Chan_by 27 = .ok (.if_icmp .eq 30, 3) := by decide +kernel
theorem d_Chan_by_30 : decode b_Chan_by 30 = .ok (.aload_n 0, 1) := by decide +kernel
theorem d_Chan_by_31 : decode b_Chan_by 31 = .ok (.getfield 35, 3) := by decide +kernel
theorem d_Chan_by_34 : decode b_Chan_by 34 = .ok (.iload_n 3, 1) := by decide +kernel
theorem d_Chan_by_35 : decode b_Chan_by 35 = .ok (.iload 5, 2) := by decide +kernel
theorem d_Chan_by_37 : decode b_Chan_by 37 = .ok (.invokevirtual 182, 3) := by decide +kernel
theorem d_Chan_by_40 : decode b_Chan_by 40 = .ok (.ifCond .eq 17, 3) := by decide +kernel
theorem d_Chan_by_43 : decode b_Chan_by 43 = .ok (.aload_n 0, 1) := by decide +kernel
theorem d_Chan_by_44 : decode b_Chan_by 44 = .ok (.getfield 35, 3) := by decide +kernel
theorem d_Chan_by_47 : decode b_Chan_by 47 = .ok (.iload 4, 2) := by decide +kernel
theorem d_Chan_by_49 : decode b_Chan_by 49 = .ok (.iload 5, 2) := by decide +kernel
theorem d_Chan_by_51 : decode b_Chan_by 51 = .ok (.invokevirtual 182, 3) := by decide +kernel
theorem d_Chan_by_54 : decode b_Chan_by 54 = .ok (.ifCond .ne 7, 3) := by decide +kernel
theorem d_Chan_by_57 : decode b_Chan_by 57 = .ok (.sipush (-1000), 3) := by decide +kernel
theorem d_Chan_by_60 : decode b_Chan_by 60 = .ok (.ireturn, 1) := by decide +kernel
theorem d_Chan_by_61 : decode b_Chan_by 61 = .ok (.aload_n 0, 1) := by decide +kernel
theorem d_Chan_by_62 : decode b_Chan_by 62 = .ok (.getfield 58, 3) := by decide +kernel
theorem d_Chan_by_65 : decode b_Chan_by 65 = .ok (.iload 5, 2) := by decide +kernel
theorem d_Chan_by_67 : decode b_Chan_by 67 = .ok (.iload_n 2, 1) := by decide +kernel
theorem d_Chan_by_68 : decode b_Chan_by 68 = .ok (.invokevirtual 176, 3) := by decide +kernel
theorem d_Chan_by_71 : decode b_Chan_by 71 = .ok (.aload_n 0, 1) := by decide +kernel
theorem d_Chan_by_72 : decode b_Chan_by 72 = .ok (.getfield 58, 3) := by decide +kernel
theorem d_Chan_by_75 : decode b_Chan_by 75 = .ok (.iload_n 3, 1) := by decide +kernel
theorem d_Chan_by_76 : decode b_Chan_by 76 = .ok (.iload 4, 2) := by decide +kernel
theorem d_Chan_by_78 : decode b_Chan_by 78 = .ok (.iload_n 1, 1) := by decide +kernel
theorem d_Chan_by_79 : decode b_Chan_by 79 = .ok (.invokevirtual 221, 3) := by decide +kernel
theorem d_Chan_by_82 : decode b_Chan_by 82 = .ok (.ireturn, 1) := by decide +kernel
theorem d_Course_duelWhenFree_0 : decode b_Course_duelWhenFree 0 = .ok (.aload_n 0, 1) := by decide +kernel
theorem d_Course_duelWhenFree_1 : decode b_Course_duelWhenFree 1 = .ok (.getfield 9, 3) := by decide +kernel
theorem d_Course_duelWhenFree_4 : decode b_Course_duelWhenFree 4 = .ok (.iload_n 3, 1) := by decide +kernel
theorem d_Course_duelWhenFree_5 : decode b_Course_duelWhenFree 5 = .ok (.iaload, 1) := by decide +kernel
theorem d_Course_duelWhenFree_6 : decode b_Course_duelWhenFree 6 = .ok (.istore 4, 2) := by decide +kernel
theorem d_Course_duelWhenFree_8 : decode b_Course_duelWhenFree 8 = .ok (.aload_n 0, 1) := by decide +kernel
theorem d_Course_duelWhenFree_9 : decode b_Course_duelWhenFree 9 = .ok (.iload_n 3, 1) := by decide +kernel
theorem d_Course_duelWhenFree_10 : decode b_Course_duelWhenFree 10 = .ok (.iconst (-1), 1) := by decide +kernel
theorem d_Course_duelWhenFree_11 : decode b_Course_duelWhenFree 11 = .ok (.invokevirtual 121, 3) := by decide +kernel
theorem d_Course_duelWhenFree_14 : decode b_Course_duelWhenFree 14 = .ok (.aload_n 0, 1) := by decide +kernel
theorem d_Course_duelWhenFree_15 : decode b_Course_duelWhenFree 15 = .ok (.iload_n 1, 1) := by decide +kernel
theorem d_Course_duelWhenFree_16 : decode b_Course_duelWhenFree 16 = .ok (.iload_n 2, 1) := by decide +kernel
theorem d_Course_duelWhenFree_17 : decode b_Course_duelWhenFree 17 = .ok (.iload_n 3, 1) := by decide +kernel
theorem d_Course_duelWhenFree_18 : decode b_Course_duelWhenFree 18 = .ok (.invokevirtual 188, 3) := by decide +kernel
theorem d_Course_duelWhenFree_21 : decode b_Course_duelWhenFree 21 = .ok (.istore 5, 2) := by decide +kernel
theorem d_Course_duelWhenFree_23 : decode b_Course_duelWhenFree 23 = .ok (.aload_n 0, 1) := by decide +kernel
theorem d_Course_duelWhenFree_24 : decode b_Course_duelWhenFree 24 = .ok (.iload_n 3, 1) := by decide +kernel
theorem d_Course_duelWhenFree_25 : decode b_Course_duelWhenFree 25 = .ok (.iload 4, 2) := by decide +kernel
theorem d_Course_duelWhenFree_27 : decode b_Course_duelWhenFree 27 = .ok (.invokevirtual 121, 3) := by decide +kernel
theorem d_Course_duelWhenFree_30 : decode b_Course_duelWhenFree 30 = .ok (.iload 5, 2) := by decide +kernel
theorem d_Course_duelWhenFree_32 : decode b_Course_duelWhenFree 32 = .ok (.ireturn, 1) := by decide +kernel
theorem d_Chan_since_0 : decode b_Chan_since 0 = .ok (.aload_n 0, 1) := by decide +kernel
theorem d_Chan_since_1 : decode b_Chan_since 1 = .ok (.getfield 28, 3) := by decide +kernel
theorem d_Chan_since_4 : decode b_Chan_since 4 = .ok (.iload_n 1, 1) := by decide +kernel
theorem d_Chan_since_5 : decode b_Chan_since 5 = .ok (.invokevirtual 113, 3) := by decide +kernel
theorem d_Chan_since_8 : decode b_Chan_since 8 = .ok (.ifCond .ne 5, 3) := by decide +kernel
theorem d_Chan_since_11 : decode b_Chan_since 11 = .ok (.iconst (-1), 1) := by decide +kernel
theorem d_Chan_since_12 : decode b_Chan_since 12 = .ok (.ireturn, 1) := by decide +kernel
theorem d_Chan_since_13 : decode b_Chan_since 13 = .ok (.aload_n 0, 1) := by decide +kernel
theorem d_Chan_since_14 : decode b_Chan_since 14 = .ok (.invokevirtual 172, 3) := by decide +kernel
theorem d_Chan_since_17 : decode b_Chan_since 17 = .ok (.istore_n 2, 1) := by decide +kernel
theorem d_Chan_since_18 : decode b_Chan_since 18 = .ok (.iload_n 2, 1) := by decide +kernel
theorem d_Chan_since_19 : decode b_Chan_since 19 = .ok (.istore_n 3, 1) := by decide +kernel
theorem d_Chan_since_20 : decode b_Chan_since 20 = .ok (.iload_n 3, 1) := by decide +kernel
theorem d_Chan_since_21 : decode b_Chan_since 21 = .ok (.ifCond .lt 70, 3) := by decide +kernel
theorem d_Chan_since_24 : decode b_Chan_since 24 = .ok (.aload_n 0, 1) := by decide +kernel
theorem d_Chan_since_25 : decode b_Chan_since 25 = .ok (.getfield 67, 3) := by decide +kernel
theorem d_Chan_since_28 : decode b_Chan_since 28 = .ok (.iload_n 3, 1) := by decide +kernel
theorem d_Chan_since_29 : decode b_Chan_since 29 = .ok (.invokevirtual 224, 3) := by decide +kernel
theorem d_Chan_since_32 : decode b_Chan_since 32 = .ok (.ifCond .ne 28, 3) := by decide +kernel
theorem d_Chan_since_35 : decode b_Chan_since 35 = .ok (.aload_n 0, 1) := by decide +kernel
theorem d_Chan_since_36 : decode b_Chan_since 36 = .ok (.getfield 58, 3) := by decide +kernel
theorem d_Chan_since_39 : decode b_Chan_since 39 = .ok (.iload_n 3, 1) := by decide +kernel
theorem d_Chan_since_40 : decode b_Chan_since 40 = .ok (.ldc 186, 2) := by decide +kernel
theorem d_Chan_since_42 : decode b_Chan_since 42 = .ok (.invokevirtual 176, 3) := by decide +kernel
theorem d_Chan_since_45 : decode b_Chan_since 45 = .ok (.aload_n 0, 1) := by decide +kernel
theorem d_Chan_since_46 : decode b_Chan_since 46 = .ok (.getfield 67, 3) := by decide +kernel
theorem d_Chan_since_49 : decode b_Chan_since 49 = .ok (.iload_n 3, 1) := by decide +kernel
theorem d_Chan_since_50 : decode b_Chan_since 50 = .ok (.aload_n 0, 1) := by decide +kernel
theorem d_Chan_since_51 : decode b_Chan_since 51 = .ok (.getfield 58, 3) := by decide +kernel
theorem d_Chan_since_54 : decode b_Chan_since 54 = .ok (.getfield 179, 3) := by decide +kernel
theorem d_Chan_since_57 : decode b_Chan_since 57 = .ok (.invokevirtual 227, 3) := by decide +kernel
theorem d_Chan_since_60 : decode b_Chan_since 60 = .ok (.aload_n 0, 1) := by decide +kernel
theorem d_Chan_since_61 : decode b_Chan_since 61 = .ok (.getfield 67, 3) := by decide +kernel
theorem d_Chan_since_64 : decode b_Chan_since 64 = .ok (.iload_n 1, 1) := by decide +kernel
theorem d_Chan_since_65 : decode b_Chan_since 65 = .ok (.iload_n 3, 1) := by decide +kernel
theorem d_Chan_since_66 : decode b_Chan_since 66 = .ok (.invokevirtual 231, 3) := by decide +kernel
theorem d_Chan_since_69 : decode b_Chan_since 69 = .ok (.aload_n 0, 1) := by decide +kernel
theorem d_Chan_since_70 : decode b_Chan_since 70 = .ok (.getfield 67, 3) := by decide +kernel
theorem d_Chan_since_73 : decode b_Chan_since 73 = .ok (.iload_n 1, 1) := by decide +kernel
theorem d_Chan_since_74 : decode b_Chan_since 74 = .ok (.iload_n 2, 1) := by decide +kernel
theorem d_Chan_since_75 : decode b_Chan_since 75 = .ok (.invokevirtual 231, 3) := by decide +kernel
theorem d_Chan_since_78 : decode b_Chan_since 78 = .ok (.if_icmp .eq 7, 3) := by decide +kernel
theorem d_Chan_since_81 : decode b_Chan_since 81 = .ok (.iload_n 3, 1) := by decide +kernel
theorem d_Chan_since_82 : decode b_Chan_since 82 = .ok (.iconst 1, 1) := by decide +kernel
theorem d_Chan_since_83 : decode b_Chan_since 83 = .ok (.iadd, 1) := by decide +kernel
theorem d_Chan_since_84 : decode b_Chan_since 84 = .ok (.ireturn, 1) := by decide +kernel
theorem d_Chan_since_85 : decode b_Chan_since 85 = .ok (.iinc 3 (-1), 3) := by decide +kernel
theorem d_Chan_since_88 : decode b_Chan_since 88 = .ok (.goto (-68), 3) := by decide +kernel
theorem d_Chan_since_91 : decode b_Chan_since 91 = .ok (.iconst 0, 1) := by decide +kernel
theorem d_Chan_since_92 : decode b_Chan_since 92 = .ok (.ireturn, 1) := by decide +kernel
theorem d_Ends_knows_0 : decode b_Ends_knows 0 = .ok (.iload_n 1, 1) := by decide +kernel
theorem d_Ends_knows_1 : decode b_Ends_knows 1 = .ok (.ifCond .lt 30, 3) := by decide +kernel
theorem d_Ends_knows_4 : decode b_Ends_knows 4 = .ok (.iload_n 1, 1) := by decide +kernel
theorem d_Ends_knows_5 : decode b_Ends_knows 5 = .ok (.sipush 160, 3) := by decide +kernel
theorem d_Ends_knows_8 : decode b_Ends_knows 8 = .ok (.if_icmp .gt 23, 3) := by decide +kernel
theorem d_Ends_knows_11 : decode b_Ends_knows 11 = .ok (.aload_n 0, 1) := by decide +kernel
theorem d_Ends_knows_12 : decode b_Ends_knows 12 = .ok (.getfield 15, 3) := by decide +kernel
theorem d_Ends_knows_15 : decode b_Ends_knows 15 = .ok (.iload_n 1, 1) := by decide +kernel
theorem d_Ends_knows_16 : decode b_Ends_knows 16 = .ok (.iaload, 1) := by decide +kernel
theorem d_Ends_knows_17 : decode b_Ends_knows 17 = .ok (.aload_n 0, 1) := by decide +kernel
theorem d_Ends_knows_18 : decode b_Ends_knows 18 = .ok (.getfield 18, 3) := by decide +kernel
theorem d_Ends_knows_21 : decode b_Ends_knows 21 = .ok (.getfield 28, 3) := by decide +kernel
theorem d_Ends_knows_24 : decode b_Ends_knows 24 = .ok (.if_icmp .ne 7, 3) := by decide +kernel
theorem d_Ends_knows_27 : decode b_Ends_knows 27 = .ok (.iconst 1, 1) := by decide +kernel
theorem d_Ends_knows_28 : decode b_Ends_knows 28 = .ok (.goto 4, 3) := by decide +kernel
theorem d_Ends_knows_31 : decode b_Ends_knows 31 = .ok (.iconst 0, 1) := by decide +kernel
theorem d_Ends_knows_32 : decode b_Ends_knows 32 = .ok (.ireturn, 1) := by decide +kernel
theorem d_Ends_keep_0 : decode b_Ends_keep 0 = .ok (.iload_n 1, 1) := by decide +kernel
theorem d_Ends_keep_1 : decode b_Ends_keep 1 = .ok (.ifCond .lt 17, 3) := by decide +kernel
theorem d_Ends_keep_4 : decode b_Ends_keep 4 = .ok (.iload_n 1, 1) := by decide +kernel
theorem d_Ends_keep_5 : decode b_Ends_keep 5 = .ok (.sipush 160, 3) := by decide +kernel
theorem d_Ends_keep_8 : decode b_Ends_keep 8 = .ok (.if_icmp .gt 10, 3) := by decide +kernel
theorem d_Ends_keep_11 : decode b_Ends_keep 11 = .ok (.aload_n 2, 1) := by decide +kernel
theorem d_Ends_keep_12 : decode b_Ends_keep 12 = .ok (.arraylength, 1) := by decide +kernel
theorem d_Ends_keep_13 : decode b_Ends_keep 13 = .ok (.bipush 16, 2) := by decide +kernel
theorem d_Ends_keep_15 : decode b_Ends_keep 15 = .ok (.if_icmp .ge 4, 3) := by decide +kernel
theorem d_Ends_keep_18 : decode b_Ends_keep 18 = .ok (.return_, 1) := by decide +kernel
theorem d_Ends_keep_19 : decode b_Ends_keep 19 = .ok (.aload_n 2, 1) := by decide +kernel
theorem d_Ends_keep_20 : decode b_Ends_keep 20 = .ok (.iconst 0, 1) := by decide +kernel
theorem d_Ends_keep_21 : decode b_Ends_keep 21 = .ok (.aload_n 0, 1) := by decide +kernel
theorem d_Ends_keep_22 : decode b_Ends_keep 22 = .ok (.getfield 9, 3) := by decide +kernel
theorem d_Ends_keep_25 : decode b_Ends_keep 25 = .ok (.iload_n 1, 1) := by decide +kernel
theorem d_Ends_keep_26 : decode b_Ends_keep 26 = .ok (.bipush 16, 2) := by decide +kernel
theorem d_Ends_keep_28 : decode b_Ends_keep 28 = .ok (.imul, 1) := by decide +kernel
theorem d_Ends_keep_29 : decode b_Ends_keep 29 = .ok (.bipush 16, 2) := by decide +kernel
theorem d_Ends_keep_31 : decode b_Ends_keep 31 = .ok (.invokestatic 34, 3) := by decide +kernel
theorem d_Ends_keep_34 : decode b_Ends_keep 34 = .ok (.aload_n 0, 1) := by decide +kernel
theorem d_Ends_keep_35 : decode b_Ends_keep 35 = .ok (.getfield 15, 3) := by decide +kernel
theorem d_Ends_keep_38 : decode b_Ends_keep 38 = .ok (.iload_n 1, 1) := by decide +kernel
theorem d_Ends_keep_39 : decode b_Ends_keep 39 = .ok (.aload_n 0, 1) := by decide +kernel
theorem d_Ends_keep_40 : decode b_Ends_keep 40 = .ok (.getfield 18, 3) := by decide +kernel
theorem d_Ends_keep_43 : decode b_Ends_keep 43 = .ok (.getfield 28, 3) := by decide +kernel
theorem d_Ends_keep_46 : decode b_Ends_keep 46 = .ok (.iastore, 1) := by decide +kernel
theorem d_Ends_keep_47 : decode b_Ends_keep 47 = .ok (.return_, 1) := by decide +kernel
theorem d_Ends_holderOf_0 : decode b_Ends_holderOf 0 = .ok (.aload_n 0, 1) := by decide +kernel
theorem d_Ends_holderOf_1 : decode b_Ends_holderOf 1 = .ok (.getfield 18, 3) := by decide +kernel
theorem d_Ends_holderOf_4 : decode b_Ends_holderOf 4 = .ok (.iload_n 1, 1) := by decide +kernel
theorem d_Ends_holderOf_5 : decode b_Ends_holderOf 5 = .ok (.invokevirtual 40, 3) := by decide +kernel
theorem d_Ends_holderOf_8 : decode b_Ends_holderOf 8 = .ok (.ifCond .eq 25, 3) := by decide +kernel
theorem d_Ends_holderOf_11 : decode b_Ends_holderOf 11 = .ok (.aload_n 0, 1) := by decide +kernel
theorem d_Ends_holderOf_12 : decode b_Ends_holderOf 12 = .ok (.iload_n 2, 1) := by decide +kernel
theorem d_Ends_holderOf_13 : decode b_Ends_holderOf 13 = .ok (.invokevirtual 44, 3) := by decide +kernel
theorem d_Ends_holderOf_16 : decode b_Ends_holderOf 16 = .ok (.ifCond .eq 17, 3) := by decide +kernel
theorem d_Ends_holderOf_19 : decode b_Ends_holderOf 19 = .ok (.aload_n 0, 1) := by decide +kernel
theorem d_Ends_holderOf_20 : decode b_Ends_holderOf 20 = .ok (.getfield 9, 3) := by decide +kernel
theorem d_Ends_holderOf_23 : decode b_Ends_holderOf 23 = .ok (.iload_n 2, 1) := by decide +kernel
theorem d_Ends_holderOf_24 : decode b_Ends_holderOf 24 = .ok (.bipush 16, 2) := by decide +kernel
theorem d_Ends_holderOf_26 : decode b_Ends_holderOf 26 = .ok (.imul, 1) := by decide +kernel
theorem d_Ends_holderOf_27 : decode b_Ends_holderOf 27 = .ok (.iload_n 1, 1) := by decide +kernel
theorem d_Ends_holderOf_28 : decode b_Ends_holderOf 28 = .ok (.iadd, 1) := by decide +kernel
theorem d_Ends_holderOf_29 : decode b_Ends_holderOf 29 = .ok (.iaload, 1) := by decide +kernel
theorem d_Ends_holderOf_30 : decode b_Ends_holderOf 30 = .ok (.goto 4, 3) := by decide +kernel
theorem d_Ends_holderOf_33 : decode b_Ends_holderOf 33 = .ok (.iconst (-1), 1) := by decide +kernel
theorem d_Ends_holderOf_34 : decode b_Ends_holderOf 34 = .ok (.ireturn, 1) := by decide +kernel
theorem d_Chan_all_0 : decode b_Chan_all 0 = .ok (.iload_n 1, 1) := by decide +kernel
theorem d_Chan_all_1 : decode b_Chan_all 1 = .ok (.tableswitch 109 0 6 #[43, 51, 59, 67, 75, 83, 104], 43) := by decide +kernel
theorem d_Chan_all_44 : decode b_Chan_all 44 = .ok (.aload_n 0, 1) := by decide +kernel
theorem d_Chan_all_45 : decode b_Chan_all 45 = .ok (.getfield 28, 3) := by decide +kernel
theorem d_Chan_all_48 : decode b_Chan_all 48 = .ok (.getfield 234, 3) := by decide +kernel
theorem d_Chan_all_51 : decode b_Chan_all 51 = .ok (.ireturn, 1) := by decide +kernel
theorem d_Chan_all_52 : decode b_Chan_all 52 = .ok (.aload_n 0, 1) := by decide +kernel
theorem d_Chan_all_53 : decode b_Chan_all 53 = .ok (.getfield 28, 3) := by decide +kernel
theorem d_Chan_all_56 : decode b_Chan_all 56 = .ok (.getfield 237, 3) := by decide +kernel
theorem d_Chan_all_59 : decode b_Chan_all 59 = .ok (.ireturn, 1) := by decide +kernel
theorem d_Chan_all_60 : decode b_Chan_all 60 = .ok (.aload_n 0, 1) := by decide +kernel
theorem d_Chan_all_61 : decode b_Chan_all 61 = .ok (.getfield 35, 3) := by decide +kernel
theorem d_Chan_all_64 : decode b_Chan_all 64 = .ok (.getfield 159, 3) := by decide +kernel
theorem d_Chan_all_67 : decode b_Chan_all 67 = .ok (.ireturn, 1) := by decide +kernel
theorem d_Chan_all_68 : decode b_Chan_all 68 = .ok (.aload_n 0, 1) := by decide +kernel
theorem d_Chan_all_69 : decode b_Chan_all 69 = .ok (.getfield 42, 3) := by decide +kernel
theorem d_Chan_all_72 : decode b_Chan_all 72 = .ok (.getfield 119, 3) := by decide +kernel
theorem d_Chan_all_75 : decode b_Chan_all 75 = .ok (.ireturn, 1) := by decide +kernel
theorem d_Chan_all_76 : decode b_Chan_all 76 = .ok (.aload_n 0, 1) := by decide +kernel
theorem d_Chan_all_77 : decode b_Chan_all 77 = .ok (.getfield 49, 3) := by decide +kernel
theorem d_Chan_all_80 : decode b_Chan_all 80 = .ok (.getfield 132, 3) := by decide +kernel
theorem d_Chan_all_83 : decode b_Chan_all 83 = .ok (.ireturn, 1) := by decide +kernel
theorem d_Chan_all_84 : decode b_Chan_all 84 = .ok (.aload_n 0, 1) := by decide +kernel
theorem d_Chan_all_85 : decode b_Chan_all 85 = .ok (.getfield 58, 3) := by decide +kernel
theorem d_Chan_all_88 : decode b_Chan_all 88 = .ok (.aload_n 0, 1) := by decide +kernel
theorem d_Chan_all_89 : decode b_Chan_all 89 = .ok (.invokevirtual 172, 3) := by decide +kernel
theorem d_Chan_all_92 : decode b_Chan_all 92 = .ok (.ldc 186, 2) := by decide +kernel
theorem d_Chan_all_94 : decode b_Chan_all 94 = .ok (.invokevirtual 176, 3) := by decide +kernel
theorem d_Chan_all_97 : decode b_Chan_all 97 = .ok (.aload_n 0, 1) := by decide +kernel
theorem d_Chan_all_98 : decode b_Chan_all 98 = .ok (.getfield 58, 3) := by decide +kernel
theorem d_Chan_all_101 : decode b_Chan_all 101 = .ok (.invokevirtual 240, 3) := by decide +kernel
theorem d_Chan_all_104 : decode b_Chan_all 104 = .ok (.ireturn, 1) := by decide +kernel
theorem d_Chan_all_105 : decode b_Chan_all 105 = .ok (.aload_n 0, 1) := by decide +kernel
theorem d_Chan_all_106 : decode b_Chan_all 106 = .ok (.invokevirtual 172, 3) := by decide +kernel
theorem d_Chan_all_109 : decode b_Chan_all 109 = .ok (.ireturn, 1) := by decide +kernel
theorem d_Chan_all_110 : decode b_Chan_all 110 = .ok (.iconst (-1), 1) := by decide +kernel
theorem d_Chan_all_111 : decode b_Chan_all 111 = .ok (.ireturn, 1) := by decide +kernel
theorem d_Course_freePosts_0 : decode b_Course_freePosts 0 = .ok (.iconst 0, 1) := by decide +kernel
theorem d_Course_freePosts_1 : decode b_Course_freePosts 1 = .ok (.istore_n 1, 1) := by decide +kernel
theorem d_Course_freePosts_2 : decode b_Course_freePosts 2 = .ok (.iconst 0, 1) := by decide +kernel
theorem d_Course_freePosts_3 : decode b_Course_freePosts 3 = .ok (.istore_n 2, 1) := by decide +kernel
theorem d_Course_freePosts_4 : decode b_Course_freePosts 4 = .ok (.iload_n 2, 1) := by decide +kernel
theorem d_Course_freePosts_5 : decode b_Course_freePosts 5 = .ok (.aload_n 0, 1) := by decide +kernel
theorem d_Course_freePosts_6 : decode b_Course_freePosts 6 = .ok (.getfield 44, 3) := by decide +kernel
theorem d_Course_freePosts_9 : decode b_Course_freePosts 9 = .ok (.getfield 115, 3) := by decide +kernel
theorem d_Course_freePosts_12 : decode b_Course_freePosts 12 = .ok (.if_icmp .ge 22, 3) := by decide +kernel
theorem d_Course_freePosts_15 : decode b_Course_freePosts 15 = .ok (.aload_n 0, 1) := by decide +kernel
theorem d_Course_freePosts_16 : decode b_Course_freePosts 16 = .ok (.getfield 9, 3) := by decide +kernel
theorem d_Course_freePosts_19 : decode b_Course_freePosts 19 = .ok (.iload_n 2, 1) := by decide +kernel
theorem d_Course_freePosts_20 : decode b_Course_freePosts 20 = .ok (.iaload, 1) := by decide +kernel
theorem d_Course_freePosts_21 : decode b_Course_freePosts 21 = .ok (.iconst (-1), 1) := by decide +kernel
theorem d_Course_freePosts_22 : decode b_Course_freePosts 22 = .ok (.if_icmp .ne 6, 3) := by decide +kernel
theorem d_Course_freePosts_25 : decode b_Course_freePosts 25 = .ok (.iinc 1 1, 3) := by decide +kernel
theorem d_Course_freePosts_28 : decode b_Course_freePosts 28 = .ok (.iinc 2 1, 3) := by decide +kernel
theorem d_Course_freePosts_31 : decode b_Course_freePosts 31 = .ok (.goto (-27), 3) := by decide +kernel
theorem d_Course_freePosts_34 : decode b_Course_freePosts 34 = .ok (.iload_n 1, 1) := by decide +kernel
theorem d_Course_freePosts_35 : decode b_Course_freePosts 35 = .ok (.ireturn, 1) := by decide +kernel
theorem d_Chan_wish_0 : decode b_Chan_wish 0 = .ok (.aload_n 0, 1) := by decide +kernel
theorem d_Chan_wish_1 : decode b_Chan_wish 1 = .ok (.getfield 28, 3) := by decide +kernel
theorem d_Chan_wish_4 : decode b_Chan_wish 4 = .ok (.iload_n 1, 1) := by decide +kernel
theorem d_Chan_wish_5 : decode b_Chan_wish 5 = .ok (.invokevirtual 116, 3) := by decide +kernel
theorem d_Chan_wish_8 : decode b_Chan_wish 8 = .ok (.ifCond .eq 14, 3) := by decide +kernel
theorem d_Chan_wish_11 : decode b_Chan_wish 11 = .ok (.aload_n 0, 1) := by decide +kernel
theorem d_Chan_wish_12 : decode b_Chan_wish 12 = .ok (.getfield 28, 3) := by decide +kernel
theorem d_Chan_wish_15 : decode b_Chan_wish 15 = .ok (.iload_n 2, 1) := by decide +kernel
theorem d_Chan_wish_16 : decode b_Chan_wish 16 = .ok (.invokevirtual 113, 3) := by decide +kernel
theorem d_Chan_wish_19 : decode b_Chan_wish 19 = .ok (.ifCond .ne 5, 3) := by decide +kernel
theorem d_Chan_wish_22 : decode b_Chan_wish 22 = .ok (.iconst (-1), 1) := by decide +kernel
theorem d_Chan_wish_23 : decode b_Chan_wish 23 = .ok (.ireturn, 1) := by decide +kernel
theorem d_Chan_wish_24 : decode b_Chan_wish 24 = .ok (.aload_n 0, 1) := by decide +kernel
theorem d_Chan_wish_25 : decode b_Chan_wish 25 = .ok (.getfield 74, 3) := by decide +kernel
theorem d_Chan_wish_28 : decode b_Chan_wish 28 = .ok (.iload_n 1, 1) := by decide +kernel
theorem d_Chan_wish_29 : decode b_Chan_wish 29 = .ok (.iload_n 2, 1) := by decide +kernel
theorem d_Chan_wish_30 : decode b_Chan_wish 30 = .ok (.invokevirtual 243, 3) := by decide +kernel
theorem d_Chan_wish_33 : decode b_Chan_wish 33 = .ok (.ireturn, 1) := by decide +kernel
theorem d_Exchange_addWish_0 : decode b_Exchange_addWish 0 = .ok (.aload_n 0, 1) := by decide +kernel
theorem d_Exchange_addWish_1 : decode b_Exchange_addWish 1 = .ok (.getfield 15, 3) := by decide +kernel
theorem d_Exchange_addWish_4 : decode b_Exchange_addWish 4 = .ok (.iload_n 1, 1) := by decide +kernel
theorem d_Exchange_addWish_5 : decode b_Exchange_addWish 5 = .ok (.iaload, 1) := by decide +kernel
theorem d_Exchange_addWish_6 : decode b_Exchange_addWish 6 = .ok (.istore_n 3, 1) := by decide +kernel
theorem d_Exchange_addWish_7 : decode b_Exchange_addWish 7 = .ok (.iconst 0, 1) := by decide +kernel
theorem d_Exchange_addWish_8 : decode b_Exchange_addWish 8 = .ok (.istore 4, 2) := by decide +kernel
theorem d_Exchange_addWish_10 : decode b_Exchange_addWish 10 = .ok (.iload 4, 2) := by decide +kernel
theorem d_Exchange_addWish_12 : decode b_Exchange_addWish 12 = .ok (.iload_n 3, 1) := by decide +kernel
theorem d_Exchange_addWish_13 : decode b_Exchange_addWish 13 = .ok (.if_icmp .ge 26, 3) := by decide +kernel
theorem d_Exchange_addWish_16 : decode b_Exchange_addWish 16 = .ok (.aload_n 0, 1) := by decide +kernel
theorem d_Exchange_addWish_17 : decode b_Exchange_addWish 17 = .ok (.getfield 9, 3) := by decide +kernel
theorem d_Exchange_addWish_20 : decode b_Exchange_addWish 20 = .ok (.iload_n 1, 1) := by decide +kernel
theorem d_Exchange_addWish_21 : decode b_Exchange_addWish 21 = .ok (.iconst 3, 1) := by decide +kernel
theorem d_Exchange_addWish_22 : decode b_Exchange_addWish 22 = .ok (.imul, 1) := by decide +kernel
theorem d_Exchange_addWish_23 : decode b_Exchange_addWish 23 = .ok (.iload 4, 2) := by decide +kernel
theorem d_Exchange_addWish_25 : decode b_Exchange_addWish 25 = .ok (.iadd, 1) := by decide +kernel
theorem d_Exchange_addWish_26 : decode b_Exchange_addWish 26 = .ok (.iaload, 1) := by decide +kernel
theorem d_Exchange_addWish_27 : decode b_Exchange_addWish 27 = .ok (.iload_n 2, 1) := by decide +kernel
theorem d_Exchange_addWish_28 : decode b_Exchange_addWish 28 = .ok (.if_icmp .ne 5, 3) := by decide +kernel
theorem d_Exchange_addWish_31 : decode b_Exchange_addWish 31 = .ok (.iconst (-1), 1) := by decide +kernel
theorem d_Exchange_addWish_32 : decode b_Exchange_addWish 32 = .ok (.ireturn, 1) := by decide +kernel
theorem d_Exchange_addWish_33 : decode b_Exchange_addWish 33 = .ok (.iinc 4 1, 3) := by decide +kernel
theorem d_Exchange_addWish_36 : decode b_Exchange_addWish 36 = .ok (.goto (-26), 3) := by decide +kernel
theorem d_Exchange_addWish_39 : decode b_Exchange_addWish 39 = .ok (.iload_n 3, 1) := by decide +kernel
theorem d_Exchange_addWish_40 : decode b_Exchange_addWish 40 = .ok (.iconst 3, 1) := by decide +kernel
theorem d_Exchange_addWish_41 : decode b_Exchange_addWish 41 = .ok (.if_icmp .lt 5, 3) := by decide +kernel
theorem d_Exchange_addWish_44 : decode b_Exchange_addWish 44 = .ok (.iconst (-1), 1) := by decide +kernel
theorem d_Exchange_addWish_45 : decode b_Exchange_addWish 45 = .ok (.ireturn, 1) := by decide +kernel
theorem d_Exchange_addWish_46 : decode b_Exchange_addWish 46 = .ok (.aload_n 0, 1) := by decide +kernel
theorem d_Exchange_addWish_47 : decode b_Exchange_addWish 47 = .ok (.getfield 9, 3) := by decide +kernel
theorem d_Exchange_addWish_50 : decode b_Exchange_addWish 50 = .ok (.iload_n 1, 1) := by decide +kernel
theorem d_Exchange_addWish_51 : decode b_Exchange_addWish 51 = .ok (.iconst 3, 1) := by decide +kernel
theorem d_Exchange_addWish_52 : decode b_Exchange_addWish 52 = .ok (.imul, 1) := by decide +kernel
theorem d_Exchange_addWish_53 : decode b_Exchange_addWish 53 = .ok (.iload_n 3, 1) := by decide +kernel
theorem d_Exchange_addWish_54 : decode b_Exchange_addWish 54 = .ok (.iadd, 1) := by decide +kernel
theorem d_Exchange_addWish_55 : decode b_Exchange_addWish 55 = .ok (.iload_n 2, 1) := by decide +kernel
theorem d_Exchange_addWish_56 : decode b_Exchange_addWish 56 = .ok (.iastore, 1) := by decide +kernel
theorem d_Exchange_addWish_57 : decode b_Exchange_addWish 57 = .ok (.aload_n 0, 1) := by decide +kernel
theorem d_Exchange_addWish_58 : decode b_Exchange_addWish 58 = .ok (.getfield 15, 3) := by decide +kernel
theorem d_Exchange_addWish_61 : decode b_Exchange_addWish 61 = .ok (.iload_n 1, 1) := by decide +kernel
theorem d_Exchange_addWish_62 : decode b_Exchange_addWish 62 = .ok (.iload_n 3, 1) := by decide +kernel
theorem d_Exchange_addWish_63 : decode b_Exchange_addWish 63 = .ok (.iconst 1, 1) := by decide +kernel
theorem d_Exchange_addWish_64 : decode b_Exchange_addWish 64 = .ok (.iadd, 1) := by decide +kernel
theorem d_Exchange_addWish_65 : decode b_Exchange_addWish 65 = .ok (.iastore, 1) := by decide +kernel
theorem d_Exchange_addWish_66 : decode b_Exchange_addWish 66 = .ok (.iload_n 3, 1) := by decide +kernel
theorem d_Exchange_addWish_67 : decode b_Exchange_addWish 67 = .ok (.iconst 1, 1) := by decide +kernel
theorem d_Exchange_addWish_68 : decode b_Exchange_addWish 68 = .ok (.iadd, 1) := by decide +kernel
theorem d_Exchange_addWish_69 : decode b_Exchange_addWish 69 = .ok (.ireturn, 1) := by decide +kernel
theorem d_Chan_content_0 : decode b_Chan_content 0 = .ok (.aload_n 0, 1) := by decide +kernel
theorem d_Chan_content_1 : decode b_Chan_content 1 = .ok (.getfield 28, 3) := by decide +kernel
theorem d_Chan_content_4 : decode b_Chan_content 4 = .ok (.iload_n 1, 1) := by decide +kernel
theorem d_Chan_content_5 : decode b_Chan_content 5 = .ok (.invokevirtual 116, 3) := by decide +kernel
theorem d_Chan_content_8 : decode b_Chan_content 8 = .ok (.ifCond .eq 14, 3) := by decide +kernel
theorem d_Chan_content_11 : decode b_Chan_content 11 = .ok (.aload_n 0, 1) := by decide +kernel
theorem d_Chan_content_12 : decode b_Chan_content 12 = .ok (.getfield 74, 3) := by decide +kernel
theorem d_Chan_content_15 : decode b_Chan_content 15 = .ok (.iload_n 1, 1) := by decide +kernel
theorem d_Chan_content_16 : decode b_Chan_content 16 = .ok (.invokevirtual 246, 3) := by decide +kernel
theorem d_Chan_content_19 : decode b_Chan_content 19 = .ok (.goto 4, 3) := by decide +kernel
theorem d_Chan_content_22 : decode b_Chan_content 22 = .ok (.iconst (-1), 1) := by decide +kernel
theorem d_Chan_content_23 : decode b_Chan_content 23 = .ok (.ireturn, 1) := by decide +kernel
theorem d_Exchange_dropWishes_0 : decode b_Exchange_dropWishes 0 = .ok (.aload_n 0, 1) := by decide +kernel
theorem d_Exchange_dropWishes_1 : decode b_Exchange_dropWishes 1 = .ok (.getfield 15, 3) := by decide +kernel
theorem d_Exchange_dropWishes_4 : decode b_Exchange_dropWishes 4 = .ok (.iload_n 1, 1) := by decide +kernel
theorem d_Exchange_dropWishes_5 : decode b_Exchange_dropWishes 5 = .ok (.iaload, 1) := by decide +kernel
theorem d_Exchange_dropWishes_6 : decode b_Exchange_dropWishes 6 = .ok (.istore_n 2, 1) := by decide +kernel
theorem d_Exchange_dropWishes_7 : decode b_Exchange_dropWishes 7 = .ok (.aload_n 0, 1) := by decide +kernel
theorem d_Exchange_dropWishes_8 : decode b_Exchange_dropWishes 8 = .ok (.getfield 15, 3) := by decide +kernel
theorem d_Exchange_dropWishes_11 : decode b_Exchange_dropWishes 11 = .ok (.iload_n 1, 1) := by decide +kernel
theorem d_Exchange_dropWishes_12 : decode b_Exchange_dropWishes 12 = .ok (.iconst 0, 1) := by decide +kernel
theorem d_Exchange_dropWishes_13 : decode b_Exchange_dropWishes 13 = .ok (.iastore, 1) := by decide +kernel
theorem d_Exchange_dropWishes_14 : decode b_Exchange_dropWishes 14 = .ok (.iload_n 2, 1) := by decide +kernel
theorem d_Exchange_dropWishes_15 : decode b_Exchange_dropWishes 15 = .ok (.ireturn, 1) := by decide +kernel
theorem d_Chan_rings_0 : decode b_Chan_rings 0 = .ok (.aload_n 0, 1) := by decide +kernel
theorem d_Chan_rings_1 : decode b_Chan_rings 1 = .ok (.getfield 58, 3) := by decide +kernel
theorem d_Chan_rings_4 : decode b_Chan_rings 4 = .ok (.aload_n 0, 1) := by decide +kernel
theorem d_Chan_rings_5 : decode b_Chan_rings 5 = .ok (.invokevirtual 172, 3) := by decide +kernel
theorem d_Chan_rings_8 : decode b_Chan_rings 8 = .ok (.ldc 186, 2) := by decide +kernel
theorem d_Chan_rings_10 : decode b_Chan_rings 10 = .ok (.invokevirtual 176, 3) := by decide +kernel
theorem d_Chan_rings_13 : decode b_Chan_rings 13 = .ok (.aload_n 0, 1) := by decide +kernel
theorem d_Chan_rings_14 : decode b_Chan_rings 14 = .ok (.getfield 74, 3) := by decide +kernel
theorem d_Chan_rings_17 : decode b_Chan_rings 17 = .ok (.aload_n 0, 1) := by decide +kernel
theorem d_Chan_rings_18 : decode b_Chan_rings 18 = .ok (.getfield 58, 3) := by decide +kernel
theorem d_Chan_rings_21 : decode b_Chan_rings 21 = .ok (.getfield 179, 3) := by decide +kernel
theorem d_Chan_rings_24 : decode b_Chan_rings 24 = .ok (.aload_n 0, 1) := by decide +kernel
theorem d_Chan_rings_25 : decode b_Chan_rings 25 = .ok (.getfield 28, 3) := by decide +kernel
theorem d_Chan_rings_28 : decode b_Chan_rings 28 = .ok (.getfield 237, 3) := by decide +kernel
theorem d_Chan_rings_31 : decode b_Chan_rings 31 = .ok (.invokevirtual 250, 3) := by decide +kernel
theorem d_Chan_rings_34 : decode b_Chan_rings 34 = .ok (.ireturn, 1) := by decide +kernel
theorem d_Exchange_turn_0 : decode b_Exchange_turn 0 = .ok (.aload_n 0, 1) := by decide +kernel
theorem d_Exchange_turn_1 : decode b_Exchange_turn 1 = .ok (.getfield 24, 3) := by decide +kernel
theorem d_Exchange_turn_4 : decode b_Exchange_turn 4 = .ok (.iconst (-1), 1) := by decide +kernel
theorem d_Exchange_turn_5 : decode b_Exchange_turn 5 = .ok (.invokestatic 27, 3) := by decide +kernel
theorem d_Exchange_turn_8 : decode b_Exchange_turn 8 = .ok (.aload_n 0, 1) := by decide +kernel
theorem d_Exchange_turn_9 : decode b_Exchange_turn 9 = .ok (.aload_n 1, 1) := by decide +kernel
theorem d_Exchange_turn_10 : decode b_Exchange_turn 10 = .ok (.iload_n 2, 1) := by decide +kernel
theorem d_Exchange_turn_11 : decode b_Exchange_turn 11 = .ok (.invokevirtual 33, 3) := by decide +kernel
theorem d_Exchange_turn_14 : decode b_Exchange_turn 14 = .ok (.iconst 0, 1) := by decide +kernel
theorem d_Exchange_turn_15 : decode b_Exchange_turn 15 = .ok (.istore_n 3, 1) := by decide +kernel
theorem d_Exchange_turn_16 : decode b_Exchange_turn 16 = .ok (.iconst 0, 1) := by decide +kernel
theorem d_Exchange_turn_17 : decode b_Exchange_turn 17 = .ok (.istore 4, 2) := by decide +kernel
theorem d_Exchange_turn_19 : decode b_Exchange_turn 19 = .ok (.iload 4, 2) := by decide +kernel
theorem d_Exchange_turn_21 : decode b_Exchange_turn 21 = .ok (.bipush 24, 2) := by decide +kernel
theorem d_Exchange_turn_23 : decode b_Exchange_turn 23 = .ok (.if_icmp .ge 21, 3) := by decide +kernel
theorem d_Exchange_turn_26 : decode b_Exchange_turn 26 = .ok (.aload_n 0, 1) := by decide +kernel
theorem d_Exchange_turn_27 : decode b_Exchange_turn 27 = .ok (.aload_n 1, 1) := by decide +kernel
theorem d_Exchange_turn_28 : decode b_Exchange_turn 28 = .ok (.invokevirtual 36, 3) := by decide +kernel
theorem d_Exchange_turn_31 : decode b_Exchange_turn 31 = .ok (.iload_n 3, 1) := by decide +kernel
theorem d_Exchange_turn_32 : decode b_Exchange_turn 32 = .ok (.aload_n 0, 1) := by decide +kernel
theorem d_Exchange_turn_33 : decode b_Exchange_turn 33 = .ok (.invokevirtual 40, 3) := by decide +kernel
theorem d_Exchange_turn_36 : decode b_Exchange_turn 36 = .ok (.iadd, 1) := by decide +kernel
theorem d_Exchange_turn_37 : decode b_Exchange_turn 37 = .ok (.istore_n 3, 1) := by decide +kernel
theorem d_Exchange_turn_38 : decode b_Exchange_turn 38 = .ok (.iinc 4 1, 3) := by decide +kernel
theorem d_Exchange_turn_41 : decode b_Exchange_turn 41 = .ok (.goto (-22), 3) := by decide +kernel
theorem d_Exchange_turn_44 : decode b_Exchange_turn 44 = .ok (.iload_n 3, 1) := by decide +kernel
theorem d_Exchange_turn_45 : decode b_Exchange_turn 45 = .ok (.ireturn, 1) := by decide +kernel
theorem d_Exchange_offerSinglePosts_0 : decode b_Exchange_offerSinglePosts 0 = .ok (.aload_n 0, 1) := by decide +kernel
theorem d_Exchange_offerSinglePosts_1 : decode b_Exchange_offerSinglePosts 1 = .ok (.getfield 18, 3) := by decide +kernel
theorem d_Exchange_offerSinglePosts_4 : decode b_Exchange_offerSinglePosts 4 = .ok (.iconst (-1), 1) := by decide +kernel
theorem d_Exchange_offerSinglePosts_5 : decode b_Exchange_offerSinglePosts 5 = .ok (.invokestatic 27, 3) := by decide +kernel
theorem d_Exchange_offerSinglePosts_8 : decode b_Exchange_offerSinglePosts 8 = .ok (.iconst 0, 1) := by decide +kernel
theorem d_Exchange_offerSinglePosts_9 : decode b_Exchange_offerSinglePosts 9 = .ok (.istore_n 3, 1) := by decide +kernel
theorem d_Exchange_offerSinglePosts_10 : decode b_Exchange_offerSinglePosts 10 = .ok (.iload_n 3, 1) := by decide +kernel
theorem d_Exchange_offerSinglePosts_11 : decode b_Exchange_offerSinglePosts 11 = .ok (.bipush 24, 2) := by decide +kernel
theorem d_Exchange_offerSinglePosts_13 : decode b_Exchange_offerSinglePosts 13 = .ok (.if_icmp .ge 63, 3) := by decide +kernel
theorem d_Exchange_offerSinglePosts_16 : decode b_Exchange_offerSinglePosts 16 = .ok (.iconst 0, 1) := by decide +kernel
theorem d_Exchange_offerSinglePosts_17 : decode b_Exchange_offerSinglePosts 17 = .ok (.istore 4, 2) := by decide +kernel
theorem d_Exchange_offerSinglePosts_19 : decode b_Exchange_offerSinglePosts 19 = .ok (.iconst (-1), 1) := by decide +kernel
theorem d_Exchange_offerSinglePosts_20 : decode b_Exchange_offerSinglePosts 20 = .ok (.istore 5, 2) := by decide +kernel
theorem d_Exchange_offerSinglePosts_22 : decode b_Exchange_offerSinglePosts 22 = .ok (.iconst 0, 1) := by decide +kernel
theorem d_Exchange_offerSinglePosts_23 : decode b_Exchange_offerSinglePosts 23 = .ok (.istore 6, 2) := by decide +kernel
theorem d_Exchange_offerSinglePosts_25 : decode b_Exchange_offerSinglePosts 25 = .ok (.iload 6, 2) := by decide +kernel
theorem d_Exchange_offerSinglePosts_27 : decode b_Exchange_offerSinglePosts 27 = .ok (.iload_n 2, 1) := by decide +kernel
theorem d_Exchange_offerSinglePosts_28 : decode b_Exchange_offerSinglePosts 28 = .ok (.if_icmp .ge 24, 3) := by decide +kernel
theorem d_Exchange_offerSinglePosts_31 : decode b_Exchange_offerSinglePosts 31 = .ok (.aload_n 1, 1) := by decide +kernel
theorem d_Exchange_offerSinglePosts_32 : decode b_Exchange_offerSinglePosts 32 = .ok (.iload 6, 2) := by decide +kernel
theorem d_Exchange_offerSinglePosts_34 : decode b_Exchange_offerSinglePosts 34 = .ok (.iaload, 1) := by decide +kernel
theorem d_Exchange_offerSinglePosts_35 : decode b_Exchange_offerSinglePosts 35 = .ok (.iload_n 3, 1) := by decide +kernel
theorem d_Exchange_offerSinglePosts_36 : decode b_Exchange_offerSinglePosts 36 = .ok (.if_icmp .ne 10, 3) := by decide +kernel
theorem d_Exchange_offerSinglePosts_39 : decode b_Exchange_offerSinglePosts 39 = .ok (.iinc 4 1, 3) := by decide +kernel
theorem d_Exchange_offerSinglePosts_42 : decode b_Exchange_offerSinglePosts 42 = .ok (.iload 6, 2) := by decide +kernel
theorem d_Exchange_offerSinglePosts_44 : decode b_Exchange_offerSinglePosts 44 = .ok (.istore 5, 2) := by decide +kernel
theorem d_Exchange_offerSinglePosts_46 : decode b_Exchange_offerSinglePosts 46 = .ok (.iinc 6 1, 3) := by decide +kernel
theorem d_Exchange_offerSinglePosts_49 : decode b_Exchange_offerSinglePosts 49 = .ok (.goto (-24), 3) := by decide +kernel
theorem d_Exchange_offerSinglePosts_52 : decode b_Exchange_offerSinglePosts 52 = .ok (.aload_n 0, 1) := by decide +kernel
theorem d_Exchange_offerSinglePosts_53 : decode b_Exchange_offerSinglePosts 53 = .ok (.getfield 18, 3) := by decide +kernel
theorem d_Exchange_offerSinglePosts_56 : decode b_Exchange_offerSinglePosts 56 = .ok (.iload_n 3, 1) := by decide +kernel
theorem d_Exchange_offerSinglePosts_57 : decode b_Exchange_offerSinglePosts 57 = .ok (.iload 4, 2) := by decide +kernel
theorem d_Exchange_offerSinglePosts_59 : decode b_Exchange_offerSinglePosts 59 = .ok (.iconst 1, 1) := by decide +kernel
theorem d_Exchange_offerSinglePosts_60 : decode b_Exchange_offerSinglePosts 60 = .ok (.if_icmp .ne 8, 3) := by decide +kernel
theorem d_Exchange_offerSinglePosts_63 : decode b_Exchange_offerSinglePosts 63 = .ok (.iload 5, 2) := by decide +kernel
theorem d_Exchange_offerSinglePosts_65 : decode b_Exchange_offerSinglePosts 65 = .ok (.goto 4, 3) := by decide +kernel
theorem d_Exchange_offerSinglePosts_68 : decode b_Exchange_offerSinglePosts 68 = .ok (.iconst (-1), 1) := by decide +kernel
theorem d_Exchange_offerSinglePosts_69 : decode b_Exchange_offerSinglePosts 69 = .ok (.iastore, 1) := by decide +kernel
theorem d_Exchange_offerSinglePosts_70 : decode b_Exchange_offerSinglePosts 70 = .ok (.iinc 3 1, 3) := by decide +kernel
theorem d_Exchange_offerSinglePosts_73 : decode b_Exchange_offerSinglePosts 73 = .ok (.goto (-63), 3) := by decide +kernel
theorem d_Exchange_offerSinglePosts_76 : decode b_Exchange_offerSinglePosts 76 = .ok (.return_, 1) := by decide +kernel
theorem d_Exchange_pointAll_0 : decode b_Exchange_pointAll 0 = .ok (.iconst 0, 1) := by decide +kernel
theorem d_Exchange_pointAll_1 : decode b_Exchange_pointAll 1 = .ok (.istore_n 2, 1) := by decide +kernel
theorem d_Exchange_pointAll_2 : decode b_Exchange_pointAll 2 = .ok (.iload_n 2, 1) := by decide +kernel
theorem d_Exchange_pointAll_3 : decode b_Exchange_pointAll 3 = .ok (.bipush 24, 2) := by decide +kernel
theorem d_Exchange_pointAll_5 : decode b_Exchange_pointAll 5 = .ok (.if_icmp .ge 35, 3) := by decide +kernel
theorem d_Exchange_pointAll_8 : decode b_Exchange_pointAll 8 = .ok (.aload_n 0, 1) := by decide +kernel
theorem d_Exchange_pointAll_9 : decode b_Exchange_pointAll 9 = .ok (.getfield 21, 3) := by decide +kernel
theorem d_Exchange_pointAll_12 : decode b_Exchange_pointAll 12 = .ok (.iload_n 2, 1) := by decide +kernel
theorem d_Exchange_pointAll_13 : decode b_Exchange_pointAll 13 = .ok (.aload_n 0, 1) := by decide +kernel
theorem d_Exchange_pointAll_14 : decode b_Exchange_pointAll 14 = .ok (.getfield 18, 3) := by decide +kernel
theorem d_Exchange_pointAll_17 : decode b_Exchange_pointAll 17 = .ok (.iload_n 2, 1) := by decide +kernel
theorem d_Exchange_pointAll_18 : decode b_Exchange_pointAll 18 = .ok (.iaload, 1) := by decide +kernel
theorem d_Exchange_pointAll_19 : decode b_Exchange_pointAll 19 = .ok (.iconst (-1), 1) := by decide +kernel
theorem d_Exchange_pointAll_20 : decode b_Exchange_pointAll 20 = .ok (.if_icmp .ne 7, 3) := by decide +kernel
theorem d_Exchange_pointAll_23 : decode b_Exchange_pointAll 23 = .ok (.iconst (-1), 1) := by decide +kernel
theorem d_Exchange_pointAll_24 : decode b_Exchange_pointAll 24 = .ok (.goto 9, 3) := by decide +kernel
theorem d_Exchange_pointAll_27 : decode b_Exchange_pointAll 27 = .ok (.aload_n 0, 1) := by decide +kernel
theorem d_Exchange_pointAll_28 : decode b_Exchange_pointAll 28 = .ok (.iload_n 2, 1) := by decide +kernel
theorem d_Exchange_pointAll_29 : decode b_Exchange_pointAll 29 = .ok (.aload_n 1, 1) := by decide +kernel
theorem d_Exchange_pointAll_30 : decode b_Exchange_pointAll 30 = .ok (.invokevirtual 44, 3) := by decide +kernel
theorem d_Exchange_pointAll_33 : decode b_Exchange_pointAll 33 = .ok (.iastore, 1) := by decide +kernel
theorem d_Exchange_pointAll_34 : decode b_Exchange_pointAll 34 = .ok (.iinc 2 1, 3) := by decide +kernel
theorem d_Exchange_pointAll_37 : decode b_Exchange_pointAll 37 = .ok (.goto (-35), 3) := by decide +kernel
theorem d_Exchange_pointAll_40 : decode b_Exchange_pointAll 40 = .ok (.return_, 1) := by decide +kernel
theorem d_Exchange_pointFrom_0 : decode b_Exchange_pointFrom 0 = .ok (.iconst 0, 1) := by decide +kernel
theorem d_Exchange_pointFrom_1 : decode b_Exchange_pointFrom 1 = .ok (.istore_n 3, 1) := by decide +kernel
theorem d_Exchange_pointFrom_2 : decode b_Exchange_pointFrom 2 = .ok (.iload_n 3, 1) := by decide +kernel
theorem d_Exchange_pointFrom_3 : decode b_Exchange_pointFrom 3 = .ok (.aload_n 0, 1) := by decide +kernel
theorem d_Exchange_pointFrom_4 : decode b_Exchange_pointFrom 4 = .ok (.getfield 15, 3) := by decide +kernel
theorem d_Exchange_pointFrom_7 : decode b_Exchange_pointFrom 7 = .ok (.iload_n 1, 1) := by decide +kernel
theorem d_Exchange_pointFrom_8 : decode b_Exchange_pointFrom 8 = .ok (.iaload, 1) := by decide +kernel
theorem d_Exchange_pointFrom_9 : decode b_Exchange_pointFrom 9 = .ok (.if_icmp .ge 43, 3) := by decide +kernel
theorem d_Exchange_pointFrom_12 : decode b_Exchange_pointFrom 12 = .ok (.aload_n 2, 1) := by decide +kernel
theorem d_Exchange_pointFrom_13 : decode b_Exchange_pointFrom 13 = .ok (.aload_n 0, 1) := by decide +kernel
theorem d_Exchange_pointFrom_14 : decode b_Exchange_pointFrom 14 = .ok (.getfield 9, 3) := by decide +kernel
theorem d_Exchange_pointFrom_17 : decode b_Exchange_pointFrom 17 = .ok (.iload_n 1, 1) := by decide +kernel
theorem d_Exchange_pointFrom_18 : decode b_Exchange_pointFrom 18 = .ok (.iconst 3, 1) := by decide +kernel
theorem d_Exchange_pointFrom_19 : decode b_Exchange_pointFrom 19 = .ok (.imul, 1) := by decide +kernel
theorem d_Exchange_pointFrom_20 : decode b_Exchange_pointFrom 20 = .ok (.iload_n 3, 1) := by decide +kernel
theorem d_Exchange_pointFrom_21 : decode b_Exchange_pointFrom 21 = .ok (.iadd, 1) := by decide +kernel
theorem d_Exchange_pointFrom_22 : decode b_Exchange_pointFrom 22 = .ok (.iaload, 1) := by decide +kernel
theorem d_Exchange_pointFrom_23 : decode b_Exchange_pointFrom 23 = .ok (.iaload, 1) := by decide +kernel
theorem d_Exchange_pointFrom_24 : decode b_Exchange_pointFrom 24 = .ok (.istore 4, 2) := by decide +kernel
theorem d_Exchange_pointFrom_26 : decode b_Exchange_pointFrom 26 = .ok (.iload 4, 2) := by decide +kernel
theorem d_Exchange_pointFrom_28 : decode b_Exchange_pointFrom 28 = .ok (.iconst (-1), 1) := by decide +kernel
theorem d_Exchange_pointFrom_29 : decode b_Exchange_pointFrom 29 = .ok (.if_icmp .eq 17, 3) := by decide +kernel
theorem d_Exchange_pointFrom_32 : decode b_Exchange_pointFrom 32 = .ok (.aload_n 0, 1) := by decide +kernel
theorem d_Exchange_pointFrom_33 : decode b_Exchange_pointFrom 33 = .ok (.getfield 18, 3) := by decide +kernel
theorem d_Exchange_pointFrom_36 : decode b_Exchange_pointFrom 36 = .ok (.iload 4, 2) := by decide +kernel
theorem d_Exchange_pointFrom_38 : decode b_Exchange_pointFrom 38 = .ok (.iaload, 1) := by decide +kernel
theorem d_Exchange_pointFrom_39 : decode b_Exchange_pointFrom 39 = .ok (.iconst (-1), 1) := by decide +kernel
theorem d_Exchange_pointFrom_40 : decode b_Exchange_pointFrom 40 = .ok (.if_icmp .eq 6, 3) := by decide +kernel
theorem d_Exchange_pointFrom_43 : decode b_Exchange_pointFrom 43 = .ok (.iload 4, 2) := by decide +kernel
theorem d_Exchange_pointFrom_45 : decode b_Exchange_pointFrom 45 = .ok (.ireturn, 1) := by decide +kernel
theorem d_Exchange_pointFrom_46 : decode b_Exchange_pointFrom 46 = .ok (.iinc 3 1, 3) := by decide +kernel
theorem d_Exchange_pointFrom_49 : decode b_Exchange_pointFrom 49 = .ok (.goto (-47), 3) := by decide +kernel
theorem d_Exchange_pointFrom_52 : decode b_Exchange_pointFrom 52 = .ok (.iload_n 1, 1) := by decide +kernel
theorem d_Exchange_pointFrom_53 : decode b_Exchange_pointFrom 53 = .ok (.ireturn, 1) := by decide +kernel
theorem d_Exchange_leaveInRings_0 : decode b_Exchange_leaveInRings 0 = .ok (.iconst 0, 1) := by decide +kernel
theorem d_Exchange_leaveInRings_1 : decode b_Exchange_leaveInRings 1 = .ok (.istore_n 1, 1) := by decide +kernel
theorem d_Exchange_leaveInRings_2 : decode b_Exchange_leaveInRings 2 = .ok (.iload_n 1, 1) := by decide +kernel
theorem d_Exchange_leaveInRings_3 : decode b_Exchange_leaveInRings 3 = .ok (.bipush 24, 2) := by decide +kernel
theorem d_Exchange_leaveInRings_5 : decode b_Exchange_leaveInRings 5 = .ok (.if_icmp .ge 44, 3) := by decide +kernel
theorem d_Exchange_leaveInRings_8 : decode b_Exchange_leaveInRings 8 = .ok (.aload_n 0, 1) := by decide +kernel
theorem d_Exchange_leaveInRings_9 : decode b_Exchange_leaveInRings 9 = .ok (.getfield 21, 3) := by decide +kernel
theorem d_Exchange_leaveInRings_12 : decode b_Exchange_leaveInRings 12 = .ok (.iload_n 1, 1) := by decide +kernel
theorem d_Exchange_leaveInRings_13 : decode b_Exchange_leaveInRings 13 = .ok (.iaload, 1) := by decide +kernel
theorem d_Exchange_leaveInRings_14 : decode b_Exchange_leaveInRings 14 = .ok (.iconst (-1), 1) := by decide +kernel
theorem d_Exchange_leaveInRings_15 : decode b_Exchange_leaveInRings 15 = .ok (.if_icmp .eq 28, 3) := by decide +kernel
theorem d_Exchange_leaveInRings_18 : decode b_Exchange_leaveInRings 18 = .ok (.aload_n 0, 1) := by decide +kernel
theorem d_Exchange_leaveInRings_19 : decode b_Exchange_leaveInRings 19 = .ok (.iload_n 1, 1) := by decide +kernel
theorem d_Exchange_leaveInRings_20 : decode b_Exchange_leaveInRings 20 = .ok (.invokevirtual 48, 3) := by decide +kernel
theorem d_Exchange_leaveInRings_23 : decode b_Exchange_leaveInRings 23 = .ok (.ifCond .eq 20, 3) := by decide +kernel
theorem d_Exchange_leaveInRings_26 : decode b_Exchange_leaveInRings 26 = .ok (.aload_n 0, 1) := by decide +kernel
theorem d_Exchange_leaveInRings_27 : decode b_Exchange_leaveInRings 27 = .ok (.getfield 24, 3) := by decide +kernel
theorem d_Exchange_leaveInRings_30 : decode b_Exchange_leaveInRings 30 = .ok (.iload_n 1, 1) := by decide +kernel
theorem d_Exchange_leaveInRings_31 : decode b_Exchange_leaveInRings 31 = .ok (.aload_n 0, 1) := by decide +kernel
theorem d_Exchange_leaveInRings_32 : decode b_Exchange_leaveInRings 32 = .ok (.getfield 18, 3) := by decide +kernel
theorem d_Exchange_leaveInRings_35 : decode b_Exchange_leaveInRings 35 = .ok (.aload_n 0, 1) := by decide +kernel
theorem d_Exchange_leaveInRings_36 : decode b_Exchange_leaveInRings 36 = .ok (.getfield 21, 3) := by decide +kernel
theorem d_Exchange_leaveInRings_39 : decode b_Exchange_leaveInRings 39 = .ok (.iload_n 1, 1) := by decide +kernel
theorem d_Exchange_leaveInRings_40 : decode b_Exchange_leaveInRings 40 = .ok (.iaload, 1) := by decide +kernel
theorem d_Exchange_leaveInRings_41 : decode b_Exchange_leaveInRings 41 = .ok (.iaload, 1) := by decide +kernel
theorem d_Exchange_leaveInRings_42 : decode b_Exchange_leaveInRings 42 = .ok (.iastore, 1) := by decide +kernel
theorem d_Exchange_leaveInRings_43 : decode b_Exchange_leaveInRings 43 = .ok (.iinc 1 1, 3) := by decide +kernel
theorem d_Exchange_leaveInRings_46 : decode b_Exchange_leaveInRings 46 = .ok (.goto (-44), 3) := by decide +kernel
theorem d_Exchange_leaveInRings_49 : decode b_Exchange_leaveInRings 49 = .ok (.iconst 0, 1) := by decide +kernel
theorem d_Exchange_leaveInRings_50 : decode b_Exchange_leaveInRings 50 = .ok (.istore_n 1, 1) := by decide +kernel
theorem d_Exchange_leaveInRings_51 : decode b_Exchange_leaveInRings 51 = .ok (.iconst 0, 1) := by decide +kernel
theorem d_Exchange_leaveInRings_52 : decode b_Exchange_leaveInRings 52 = .ok (.istore_n 2, 1) := by decide +kernel
theorem d_Exchange_leaveInRings_53 : decode b_Exchange_leaveInRings 53 = .ok (.iload_n 2, 1) := by decide +kernel
theorem d_Exchange_leaveInRings_54 : decode b_Exchange_leaveInRings 54 = .ok (.bipush 24, 2) := by decide +kernel
theorem d_Exchange_leaveInRings_56 : decode b_Exchange_leaveInRings 56 = .ok (.if_icmp .ge 59, 3) := by decide +kernel
theorem d_Exchange_leaveInRings_59 : decode b_Exchange_leaveInRings 59 = .ok (.aload_n 0, 1) := by decide +kernel
theorem d_Exchange_leaveInRings_60 : decode b_Exchange_leaveInRings 60 = .ok (.getfield 18, 3) := by decide +kernel
theorem d_Exchange_leaveInRings_63 : decode b_Exchange_leaveInRings 63 = .ok (.iload_n 2, 1) := by decide +kernel
theorem d_Exchange_leaveInRings_64 : decode b_Exchange_leaveInRings 64 = .ok (.iaload, 1) := by decide +kernel
theorem d_Exchange_leaveInRings_65 : decode b_Exchange_leaveInRings 65 = .ok (.iconst (-1), 1) := by decide +kernel
theorem d_Exchange_leaveInRings_66 : decode b_Exchange_leaveInRings 66 = .ok (.if_icmp .eq 43, 3) := by decide +kernel
theorem d_Exchange_leaveInRings_69 : decode b_Exchange_leaveInRings 69 = .ok (.aload_n 0, 1) := by decide +kernel
theorem d_Exchange_leaveInRings_70 : decode b_Exchange_leaveInRings 70 = .ok (.getfield 24, 3) := by decide +kernel
theorem d_Exchange_leaveInRings_73 : decode b_Exchange_leaveInRings 73 = .ok (.iload_n 2, 1) := by decide +kernel
theorem d_Exchange_leaveInRings_74 : decode b_Exchange_leaveInRings 74 = .ok (.iaload, 1) := by decide +kernel
theorem d_Exchange_leaveInRings_75 : decode b_Exchange_leaveInRings 75 = .ok (.iconst (-1), 1) := by decide +kernel
theorem d_Exchange_leaveInRings_76 : decode b_Exchange_leaveInRings 76 = .ok (.if_icmp .eq 33, 3) := by decide +kernel
theorem d_Exchange_leaveInRings_79 : decode b_Exchange_leaveInRings 79 = .ok (.iload_n 1, 1) := by decide +kernel
theorem d_Exchange_leaveInRings_80 : decode b_Exchange_leaveInRings 80 = .ok (.aload_n 0, 1) := by decide +kernel
theorem d_Exchange_leaveInRings_81 : decode b_Exchange_leaveInRings 81 = .ok (.getfield 24, 3) := by decide +kernel
theorem d_Exchange_leaveInRings_84 : decode b_Exchange_leaveInRings 84 = .ok (.iload_n 2, 1) := by decide +kernel
theorem d_Exchange_leaveInRings_85 : decode b_Exchange_leaveInRings 85 = .ok (.iaload, 1) := by decide +kernel
theorem d_Exchange_leaveInRings_86 : decode b_Exchange_leaveInRings 86 = .ok (.aload_n 0, 1) := by decide +kernel
theorem d_Exchange_leaveInRings_87 : decode b_Exchange_leaveInRings 87 = .ok (.getfield 18, 3) := by decide +kernel
theorem d_Exchange_leaveInRings_90 : decode b_Exchange_leaveInRings 90 = .ok (.iload_n 2, 1) := by decide +kernel
theorem d_Exchange_leaveInRings_91 : decode b_Exchange_leaveInRings 91 = .ok (.iaload, 1) := by decide +kernel
theorem d_Exchange_leaveInRings_92 : decode b_Exchange_leaveInRings 92 = .ok (.if_icmp .ne 7, 3) := by decide +kernel
theorem d_Exchange_leaveInRings_95 : decode b_Exchange_leaveInRings 95 = .ok (.iconst 0, 1) := by decide +kernel
theorem d_Exchange_leaveInRings_96 : decode b_Exchange_leaveInRings 96 = .ok (.goto 4, 3) := by decide +kernel
theorem d_Exchange_leaveInRings_99 : decode b_Exchange_leaveInRings 99 = .ok (.iconst 1, 1) := by decide +kernel
theorem d_Exchange_leaveInRings_100 : decode b_Exchange_leaveInRings 100 = .ok (.iadd, 1) := by decide +kernel
theorem d_Exchange_leaveInRings_101 : decode b_Exchange_leaveInRings 101 = .ok (.istore_n 1, 1) := by decide +kernel
theorem d_Exchange_leaveInRings_102 : decode b_Exchange_leaveInRings 102 = .ok (.aload_n 0, 1) := by decide +kernel
theorem d_Exchange_leaveInRings_103 : decode b_Exchange_leaveInRings 103 = .ok (.getfield 18, 3) := by decide +kernel
theorem d_Exchange_leaveInRings_106 : decode b_Exchange_leaveInRings 106 = .ok (.iload_n 2, 1) := by decide +kernel
theorem d_Exchange_leaveInRings_107 : decode b_Exchange_leaveInRings 107 = .ok (.iconst (-1), 1) := by decide +kernel
theorem d_Exchange_leaveInRings_108 : decode b_Exchange_leaveInRings 108 = .ok (.iastore, 1) := by decide +kernel
theorem d_Exchange_leaveInRings_109 : decode b_Exchange_leaveInRings 109 = .ok (.iinc 2 1, 3) := by decide +kernel
theorem d_Exchange_leaveInRings_112 : decode b_Exchange_leaveInRings 112 = .ok (.goto (-59), 3) := by decide +kernel
theorem d_Exchange_leaveInRings_115 : decode b_Exchange_leaveInRings 115 = .ok (.iload_n 1, 1) := by decide +kernel
theorem d_Exchange_leaveInRings_116 : decode b_Exchange_leaveInRings 116 = .ok (.ireturn, 1) := by decide +kernel
