theorem d_Md_wish_0 : decode b_Md_wish 0 = .ok (.aload_n 0, 1) := by decide +kernel
theorem d_Md_wish_1 : decode b_Md_wish 1 = .ok (.iload_n 1, 1) := by decide +kernel
theorem d_Md_wish_2 : decode b_Md_wish 2 = .ok (.invokevirtual 155, 3) := by decide +kernel
theorem d_Md_wish_5 : decode b_Md_wish 5 = .ok (.ifCond .eq 21, 3) := by decide +kernel
theorem d_Md_wish_8 : decode b_Md_wish 8 = .ok (.aload_n 0, 1) := by decide +kernel
theorem d_Md_wish_9 : decode b_Md_wish 9 = .ok (.iload_n 2, 1) := by decide +kernel
theorem d_Md_wish_10 : decode b_Md_wish 10 = .ok (.invokevirtual 151, 3) := by decide +kernel
theorem d_Md_wish_13 : decode b_Md_wish 13 = .ok (.ifCond .eq 13, 3) := by decide +kernel
theorem d_Md_wish_16 : decode b_Md_wish 16 = .ok (.aload_n 0, 1) := by decide +kernel
theorem d_Md_wish_17 : decode b_Md_wish 17 = .ok (.getfield 124, 3) := by decide +kernel
theorem d_Md_wish_20 : decode b_Md_wish 20 = .ok (.iload_n 1, 1) := by decide +kernel
theorem d_Md_wish_21 : decode b_Md_wish 21 = .ok (.iaload, 1) := by decide +kernel
theorem d_Md_wish_22 : decode b_Md_wish 22 = .ok (.iconst 3, 1) := by decide +kernel
theorem d_Md_wish_23 : decode b_Md_wish 23 = .ok (.if_icmp .ne 5, 3) := by decide +kernel
theorem d_Md_wish_26 : decode b_Md_wish 26 = .ok (.iconst (-1), 1) := by decide +kernel
theorem d_Md_wish_27 : decode b_Md_wish 27 = .ok (.ireturn, 1) := by decide +kernel
theorem d_Md_wish_28 : decode b_Md_wish 28 = .ok (.iconst 0, 1) := by decide +kernel
theorem d_Md_wish_29 : decode b_Md_wish 29 = .ok (.istore_n 3, 1) := by decide +kernel
theorem d_Md_wish_30 : decode b_Md_wish 30 = .ok (.iload_n 3, 1) := by decide +kernel
theorem d_Md_wish_31 : decode b_Md_wish 31 = .ok (.aload_n 0, 1) := by decide +kernel
theorem d_Md_wish_32 : decode b_Md_wish 32 = .ok (.getfield 124, 3) := by decide +kernel
theorem d_Md_wish_35 : decode b_Md_wish 35 = .ok (.iload_n 1, 1) := by decide +kernel
theorem d_Md_wish_36 : decode b_Md_wish 36 = .ok (.iaload, 1) := by decide +kernel
theorem d_Md_wish_37 : decode b_Md_wish 37 = .ok (.if_icmp .ge 25, 3) := by decide +kernel
theorem d_Md_wish_40 : decode b_Md_wish 40 = .ok (.aload_n 0, 1) := by decide +kernel
theorem d_Md_wish_41 : decode b_Md_wish 41 = .ok (.getfield 121, 3) := by decide +kernel
theorem d_Md_wish_44 : decode b_Md_wish 44 = .ok (.iconst 3, 1) := by decide +kernel
theorem d_Md_wish_45 : decode b_Md_wish 45 = .ok (.iload_n 1, 1) := by decide +kernel
theorem d_Md_wish_46 : decode b_Md_wish 46 = .ok (.imul, 1) := by decide +kernel
theorem d_Md_wish_47 : decode b_Md_wish 47 = .ok (.iload_n 3, 1) := by decide +kernel
theorem d_Md_wish_48 : decode b_Md_wish 48 = .ok (.iadd, 1) := by decide +kernel
theorem d_Md_wish_49 : decode b_Md_wish 49 = .ok (.iaload, 1) := by decide +kernel
theorem d_Md_wish_50 : decode b_Md_wish 50 = .ok (.iload_n 2, 1) := by decide +kernel
theorem d_Md_wish_51 : decode b_Md_wish 51 = .ok (.if_icmp .ne 5, 3) := by decide +kernel
theorem d_Md_wish_54 : decode b_Md_wish 54 = .ok (.iconst (-1), 1) := by decide +kernel
theorem d_Md_wish_55 : decode b_Md_wish 55 = .ok (.ireturn, 1) := by decide +kernel
theorem d_Md_wish_56 : decode b_Md_wish 56 = .ok (.iinc 3 1, 3) := by decide +kernel
theorem d_Md_wish_59 : decode b_Md_wish 59 = .ok (.goto (-29), 3) := by decide +kernel
theorem d_Md_wish_62 : decode b_Md_wish 62 = .ok (.aload_n 0, 1) := by decide +kernel
theorem d_Md_wish_63 : decode b_Md_wish 63 = .ok (.getfield 121, 3) := by decide +kernel
theorem d_Md_wish_66 : decode b_Md_wish 66 = .ok (.iconst 3, 1) := by decide +kernel
theorem d_Md_wish_67 : decode b_Md_wish 67 = .ok (.iload_n 1, 1) := by decide +kernel
theorem d_Md_wish_68 : decode b_Md_wish 68 = .ok (.imul, 1) := by decide +kernel
theorem d_Md_wish_69 : decode b_Md_wish 69 = .ok (.aload_n 0, 1) := by decide +kernel
theorem d_Md_wish_70 : decode b_Md_wish 70 = .ok (.getfield 124, 3) := by decide +kernel
theorem d_Md_wish_73 : decode b_Md_wish 73 = .ok (.iload_n 1, 1) := by decide +kernel
theorem d_Md_wish_74 : decode b_Md_wish 74 = .ok (.iaload, 1) := by decide +kernel
theorem d_Md_wish_75 : decode b_Md_wish 75 = .ok (.iadd, 1) := by decide +kernel
theorem d_Md_wish_76 : decode b_Md_wish 76 = .ok (.iload_n 2, 1) := by decide +kernel
theorem d_Md_wish_77 : decode b_Md_wish 77 = .ok (.iastore, 1) := by decide +kernel
theorem d_Md_wish_78 : decode b_Md_wish 78 = .ok (.aload_n 0, 1) := by decide +kernel
theorem d_Md_wish_79 : decode b_Md_wish 79 = .ok (.getfield 124, 3) := by decide +kernel
theorem d_Md_wish_82 : decode b_Md_wish 82 = .ok (.iload_n 1, 1) := by decide +kernel
theorem d_Md_wish_83 : decode b_Md_wish 83 = .ok (.dup2, 1) := by decide +kernel
theorem d_Md_wish_84 : decode b_Md_wish 84 = .ok (.iaload, 1) := by decide +kernel
theorem d_Md_wish_85 : decode b_Md_wish 85 = .ok (.iconst 1, 1) := by decide +kernel
theorem d_Md_wish_86 : decode b_Md_wish 86 = .ok (.iadd, 1) := by decide +kernel
theorem d_Md_wish_87 : decode b_Md_wish 87 = .ok (.iastore, 1) := by decide +kernel
theorem d_Md_wish_88 : decode b_Md_wish 88 = .ok (.aload_n 0, 1) := by decide +kernel
theorem d_Md_wish_89 : decode b_Md_wish 89 = .ok (.getfield 124, 3) := by decide +kernel
theorem d_Md_wish_92 : decode b_Md_wish 92 = .ok (.iload_n 1, 1) := by decide +kernel
theorem d_Md_wish_93 : decode b_Md_wish 93 = .ok (.iaload, 1) := by decide +kernel
theorem d_Md_wish_94 : decode b_Md_wish 94 = .ok (.ireturn, 1) := by decide +kernel
theorem d_Md_content_0 : decode b_Md_content 0 = .ok (.aload_n 0, 1) := by decide +kernel
theorem d_Md_content_1 : decode b_Md_content 1 = .ok (.iload_n 1, 1) := by decide +kernel
theorem d_Md_content_2 : decode b_Md_content 2 = .ok (.invokevirtual 155, 3) := by decide +kernel
theorem d_Md_content_5 : decode b_Md_content 5 = .ok (.ifCond .ne 5, 3) := by decide +kernel
theorem d_Md_content_8 : decode b_Md_content 8 = .ok (.iconst (-1), 1) := by decide +kernel
theorem d_Md_content_9 : decode b_Md_content 9 = .ok (.ireturn, 1) := by decide +kernel
theorem d_Md_content_10 : decode b_Md_content 10 = .ok (.aload_n 0, 1) := by decide +kernel
theorem d_Md_content_11 : decode b_Md_content 11 = .ok (.getfield 124, 3) := by decide +kernel
theorem d_Md_content_14 : decode b_Md_content 14 = .ok (.iload_n 1, 1) := by decide +kernel
theorem d_Md_content_15 : decode b_Md_content 15 = .ok (.iaload, 1) := by decide +kernel
theorem d_Md_content_16 : decode b_Md_content 16 = .ok (.istore_n 2, 1) := by decide +kernel
theorem d_Md_content_17 : decode b_Md_content 17 = .ok (.aload_n 0, 1) := by decide +kernel
theorem d_Md_content_18 : decode b_Md_content 18 = .ok (.getfield 124, 3) := by decide +kernel
theorem d_Md_content_21 : decode b_Md_content 21 = .ok (.iload_n 1, 1) := by decide +kernel
theorem d_Md_content_22 : decode b_Md_content 22 = .ok (.iconst 0, 1) := by decide +kernel
theorem d_Md_content_23 : decode b_Md_content 23 = .ok (.iastore, 1) := by decide +kernel
theorem d_Md_content_24 : decode b_Md_content 24 = .ok (.iload_n 2, 1) := by decide +kernel
theorem d_Md_content_25 : decode b_Md_content 25 = .ok (.ireturn, 1) := by decide +kernel
theorem d_Md_rings_0 : decode b_Md_rings 0 = .ok (.aload_n 0, 1) := by decide +kernel
theorem d_Md_rings_1 : decode b_Md_rings 1 = .ok (.aload_n 0, 1) := by decide +kernel
theorem d_Md_rings_2 : decode b_Md_rings 2 = .ok (.invokevirtual 296, 3) := by decide +kernel
theorem d_Md_rings_5 : decode b_Md_rings 5 = .ok (.ldc 229, 2) := by decide +kernel
theorem d_Md_rings_7 : decode b_Md_rings 7 = .ok (.invokevirtual 299, 3) := by decide +kernel
theorem d_Md_rings_10 : decode b_Md_rings 10 = .ok (.aload_n 0, 1) := by decide +kernel
theorem d_Md_rings_11 : decode b_Md_rings 11 = .ok (.iconst 1, 1) := by decide +kernel
theorem d_Md_rings_12 : decode b_Md_rings 12 = .ok (.putfield 136, 3) := by decide +kernel
theorem d_Md_rings_15 : decode b_Md_rings 15 = .ok (.aload_n 0, 1) := by decide +kernel
theorem d_Md_rings_16 : decode b_Md_rings 16 = .ok (.aload_n 0, 1) := by decide +kernel
theorem d_Md_rings_17 : decode b_Md_rings 17 = .ok (.getfield 17, 3) := by decide +kernel
theorem d_Md_rings_20 : decode b_Md_rings 20 = .ok (.putfield 140, 3) := by decide +kernel
theorem d_Md_rings_23 : decode b_Md_rings 23 = .ok (.iconst 0, 1) := by decide +kernel
theorem d_Md_rings_24 : decode b_Md_rings 24 = .ok (.istore_n 1, 1) := by decide +kernel
theorem d_Md_rings_25 : decode b_Md_rings 25 = .ok (.iconst 0, 1) := by decide +kernel
theorem d_Md_rings_26 : decode b_Md_rings 26 = .ok (.istore_n 2, 1) := by decide +kernel
theorem d_Md_rings_27 : decode b_Md_rings 27 = .ok (.iload_n 2, 1) := by decide +kernel
theorem d_Md_rings_28 : decode b_Md_rings 28 = .ok (.aload_n 0, 1) := by decide +kernel
theorem d_Md_rings_29 : decode b_Md_rings 29 = .ok (.getfield 17, 3) := by decide +kernel
theorem d_Md_rings_32 : decode b_Md_rings 32 = .ok (.if_icmp .ge 95, 3) := by decide +kernel
theorem d_Md_rings_35 : decode b_Md_rings 35 = .ok (.aload_n 0, 1) := by decide +kernel
theorem d_Md_rings_36 : decode b_Md_rings 36 = .ok (.getfield 130, 3) := by decide +kernel
theorem d_Md_rings_39 : decode b_Md_rings 39 = .ok (.iload_n 2, 1) := by decide +kernel
theorem d_Md_rings_40 : decode b_Md_rings 40 = .ok (.aload_n 0, 1) := by decide +kernel
theorem d_Md_rings_41 : decode b_Md_rings 41 = .ok (.iload_n 2, 1) := by decide +kernel
theorem d_Md_rings_42 : decode b_Md_rings 42 = .ok (.invokevirtual 237, 3) := by decide +kernel
theorem d_Md_rings_45 : decode b_Md_rings 45 = .ok (.iconst 1, 1) := by decide +kernel
theorem d_Md_rings_46 : decode b_Md_rings 46 = .ok (.if_icmp .ne 7, 3) := by decide +kernel
theorem d_Md_rings_49 : decode b_Md_rings 49 = .ok (.iconst 1, 1) := by decide +kernel
theorem d_Md_rings_50 : decode b_Md_rings 50 = .ok (.goto 4, 3) := by decide +kernel
theorem d_Md_rings_53 : decode b_Md_rings 53 = .ok (.iconst 0, 1) := by decide +kernel
theorem d_Md_rings_54 : decode b_Md_rings 54 = .ok (.bastore, 1) := by decide +kernel
theorem d_Md_rings_55 : decode b_Md_rings 55 = .ok (.aload_n 0, 1) := by decide +kernel
theorem d_Md_rings_56 : decode b_Md_rings 56 = .ok (.getfield 127, 3) := by decide +kernel
theorem d_Md_rings_59 : decode b_Md_rings 59 = .ok (.iload_n 2, 1) := by decide +kernel
theorem d_Md_rings_60 : decode b_Md_rings 60 = .ok (.iconst (-1), 1) := by decide +kernel
theorem d_Md_rings_61 : decode b_Md_rings 61 = .ok (.iastore, 1) := by decide +kernel
theorem d_Md_rings_62 : decode b_Md_rings 62 = .ok (.iload_n 1, 1) := by decide +kernel
theorem d_Md_rings_63 : decode b_Md_rings 63 = .ok (.aload_n 0, 1) := by decide +kernel
theorem d_Md_rings_64 : decode b_Md_rings 64 = .ok (.getfield 130, 3) := by decide +kernel
theorem d_Md_rings_67 : decode b_Md_rings 67 = .ok (.iload_n 2, 1) := by decide +kernel
theorem d_Md_rings_68 : decode b_Md_rings 68 = .ok (.baload, 1) := by decide +kernel
theorem d_Md_rings_69 : decode b_Md_rings 69 = .ok (.ifCond .eq 7, 3) := by decide +kernel
theorem d_Md_rings_72 : decode b_Md_rings 72 = .ok (.iconst 1, 1) := by decide +kernel
theorem d_Md_rings_73 : decode b_Md_rings 73 = .ok (.goto 4, 3) := by decide +kernel
theorem d_Md_rings_76 : decode b_Md_rings 76 = .ok (.iconst 0, 1) := by decide +kernel
theorem d_Md_rings_77 : decode b_Md_rings 77 = .ok (.iadd, 1) := by decide +kernel
theorem d_Md_rings_78 : decode b_Md_rings 78 = .ok (.istore_n 1, 1) := by decide +kernel
theorem d_Md_rings_79 : decode b_Md_rings 79 = .ok (.iconst 0, 1) := by decide +kernel
theorem d_Md_rings_80 : decode b_Md_rings 80 = .ok (.istore_n 3, 1) := by decide +kernel
theorem d_Md_rings_81 : decode b_Md_rings 81 = .ok (.iload_n 3, 1) := by decide +kernel
theorem d_Md_rings_82 : decode b_Md_rings 82 = .ok (.aload_n 0, 1) := by decide +kernel
theorem d_Md_rings_83 : decode b_Md_rings 83 = .ok (.getfield 23, 3) := by decide +kernel
theorem d_Md_rings_86 : decode b_Md_rings 86 = .ok (.if_icmp .ge 35, 3) := by decide +kernel
theorem d_Md_rings_89 : decode b_Md_rings 89 = .ok (.aload_n 0, 1) := by decide +kernel
theorem d_Md_rings_90 : decode b_Md_rings 90 = .ok (.getfield 133, 3) := by decide +kernel
theorem d_Md_rings_93 : decode b_Md_rings 93 = .ok (.iload_n 2, 1) := by decide +kernel
theorem d_Md_rings_94 : decode b_Md_rings 94 = .ok (.aload_n 0, 1) := by decide +kernel
theorem d_Md_rings_95 : decode b_Md_rings 95 = .ok (.getfield 89, 3) := by decide +kernel
theorem d_Md_rings_98 : decode b_Md_rings 98 = .ok (.iload_n 3, 1) := by decide +kernel
theorem d_Md_rings_99 : decode b_Md_rings 99 = .ok (.iaload, 1) := by decide +kernel
theorem d_Md_rings_100 : decode b_Md_rings 100 = .ok (.iload_n 2, 1) := by decide +kernel
theorem d_Md_rings_101 : decode b_Md_rings 101 = .ok (.if_icmp .ne 7, 3) := by decide +kernel
theorem d_Md_rings_104 : decode b_Md_rings 104 = .ok (.iload_n 3, 1) := by decide +kernel
theorem d_Md_rings_105 : decode b_Md_rings 105 = .ok (.goto 9, 3) := by decide +kernel
theorem d_Md_rings_108 : decode b_Md_rings 108 = .ok (.aload_n 0, 1) := by decide +kernel
theorem d_Md_rings_109 : decode b_Md_rings 109 = .ok (.getfield 133, 3) := by decide +kernel
theorem d_Md_rings_112 : decode b_Md_rings 112 = .ok (.iload_n 2, 1) := by decide +kernel
theorem d_Md_rings_113 : decode b_Md_rings 113 = .ok (.iaload, 1) := by decide +kernel
theorem d_Md_rings_114 : decode b_Md_rings 114 = .ok (.iastore, 1) := by decide +kernel
theorem d_Md_rings_115 : decode b_Md_rings 115 = .ok (.iinc 3 1, 3) := by decide +kernel
theorem d_Md_rings_118 : decode b_Md_rings 118 = .ok (.goto (-37), 3) := by decide +kernel
theorem d_Md_rings_121 : decode b_Md_rings 121 = .ok (.iinc 2 1, 3) := by decide +kernel
theorem d_Md_rings_124 : decode b_Md_rings 124 = .ok (.goto (-97), 3) := by decide +kernel
theorem d_Md_rings_127 : decode b_Md_rings 127 = .ok (.iconst 0, 1) := by decide +kernel
theorem d_Md_rings_128 : decode b_Md_rings 128 = .ok (.istore_n 2, 1) := by decide +kernel
theorem d_Md_rings_129 : decode b_Md_rings 129 = .ok (.iload_n 1, 1) := by decide +kernel
theorem d_Md_rings_130 : decode b_Md_rings 130 = .ok (.ifCond .le 171, 3) := by decide +kernel
theorem d_Md_rings_133 : decode b_Md_rings 133 = .ok (.iconst 0, 1) := by decide +kernel
theorem d_Md_rings_134 : decode b_Md_rings 134 = .ok (.istore_n 3, 1) := by decide +kernel
theorem d_Md_rings_135 : decode b_Md_rings 135 = .ok (.aload_n 0, 1) := by decide +kernel
theorem d_Md_rings_136 : decode b_Md_rings 136 = .ok (.getfield 130, 3) := by decide +kernel
theorem d_Md_rings_139 : decode b_Md_rings 139 = .ok (.iload_n 3, 1) := by decide +kernel
theorem d_Md_rings_140 : decode b_Md_rings 140 = .ok (.baload, 1) := by decide +kernel
theorem d_Md_rings_141 : decode b_Md_rings 141 = .ok (.ifCond .ne 9, 3) := by decide +kernel
theorem d_Md_rings_144 : decode b_Md_rings 144 = .ok (.iinc 3 1, 3) := by decide +kernel
theorem d_Md_rings_147 : decode b_Md_rings 147 = .ok (.goto (-12), 3) := by decide +kernel
theorem d_Md_rings_150 : decode b_Md_rings 150 = .ok (.iconst 0, 1) := by decide +kernel
theorem d_Md_rings_151 : decode b_Md_rings 151 = .ok (.istore 4, 2) := by decide +kernel
theorem d_Md_rings_153 : decode b_Md_rings 153 = .ok (.iload 4, 2) := by decide +kernel
theorem d_Md_rings_155 : decode b_Md_rings 155 = .ok (.aload_n 0, 1) := by decide +kernel
theorem d_Md_rings_156 : decode b_Md_rings 156 = .ok (.getfield 17, 3) := by decide +kernel
theorem d_Md_rings_159 : decode b_Md_rings 159 = .ok (.if_icmp .ge 20, 3) := by decide +kernel
theorem d_Md_rings_162 : decode b_Md_rings 162 = .ok (.aload_n 0, 1) := by decide +kernel
theorem d_Md_rings_163 : decode b_Md_rings 163 = .ok (.getfield 89, 3) := by decide +kernel
theorem d_Md_rings_166 : decode b_Md_rings 166 = .ok (.aload_n 0, 1) := by decide +kernel
theorem d_Md_rings_167 : decode b_Md_rings 167 = .ok (.iload_n 3, 1) := by decide +kernel
theorem d_Md_rings_168 : decode b_Md_rings 168 = .ok (.invokevirtual 309, 3) := by decide +kernel
theorem d_Md_rings_171 : decode b_Md_rings 171 = .ok (.iaload, 1) := by decide +kernel
theorem d_Md_rings_172 : decode b_Md_rings 172 = .ok (.istore_n 3, 1) := by decide +kernel
theorem d_Md_rings_173 : decode b_Md_rings 173 = .ok (.iinc 4 1, 3) := by decide +kernel
theorem d_Md_rings_176 : decode b_Md_rings 176 = .ok (.goto (-23), 3) := by decide +kernel
theorem d_Md_rings_179 : decode b_Md_rings 179 = .ok (.iload_n 3, 1) := by decide +kernel
theorem d_Md_rings_180 : decode b_Md_rings 180 = .ok (.istore 4, 2) := by decide +kernel
theorem d_Md_rings_182 : decode b_Md_rings 182 = .ok (.iconst 1, 1) := by decide +kernel
theorem d_Md_rings_183 : decode b_Md_rings 183 = .ok (.istore 5, 2) := by decide +kernel
theorem d_Md_rings_185 : decode b_Md_rings 185 = .ok (.iload 5, 2) := by decide +kernel
theorem d_Md_rings_187 : decode b_Md_rings 187 = .ok (.ifCond .eq 65, 3) := by decide +kernel
theorem d_Md_rings_190 : decode b_Md_rings 190 = .ok (.aload_n 0, 1) := by decide +kernel
theorem d_Md_rings_191 : decode b_Md_rings 191 = .ok (.getfield 127, 3) := by decide +kernel
theorem d_Md_rings_194 : decode b_Md_rings 194 = .ok (.iload_n 3, 1) := by decide +kernel
theorem d_Md_rings_195 : decode b_Md_rings 195 = .ok (.aload_n 0, 1) := by decide +kernel
theorem d_Md_rings_196 : decode b_Md_rings 196 = .ok (.iload_n 3, 1) := by decide +kernel
theorem d_Md_rings_197 : decode b_Md_rings 197 = .ok (.invokevirtual 309, 3) := by decide +kernel
theorem d_Md_rings_200 : decode b_Md_rings 200 = .ok (.iastore, 1) := by decide +kernel
theorem d_Md_rings_201 : decode b_Md_rings 201 = .ok (.iload_n 2, 1) := by decide +kernel
theorem d_Md_rings_202 : decode b_Md_rings 202 = .ok (.aload_n 0, 1) := by decide +kernel
theorem d_Md_rings_203 : decode b_Md_rings 203 = .ok (.getfield 127, 3) := by decide +kernel
theorem d_Md_rings_206 : decode b_Md_rings 206 = .ok (.iload_n 3, 1) := by decide +kernel
theorem d_Md_rings_207 : decode b_Md_rings 207 = .ok (.iaload, 1) := by decide +kernel
theorem d_Md_rings_208 : decode b_Md_rings 208 = .ok (.aload_n 0, 1) := by decide +kernel
theorem d_Md_rings_209 : decode b_Md_rings 209 = .ok (.getfield 133, 3) := by decide +kernel
theorem d_Md_rings_212 : decode b_Md_rings 212 = .ok (.iload_n 3, 1) := by decide +kernel
theorem d_Md_rings_213 : decode b_Md_rings 213 = .ok (.iaload, 1) := by decide +kernel
theorem d_Md_rings_214 : decode b_Md_rings 214 = .ok (.if_icmp .ne 7, 3) := by decide +kernel
theorem d_Md_rings_217 : decode b_Md_rings 217 = .ok (.iconst 0, 1) := by decide +kernel
theorem d_Md_rings_218 : decode b_Md_rings 218 = .ok (.goto 4, 3) := by decide +kernel
theorem d_Md_rings_221 : decode b_Md_rings 221 = .ok (.iconst 1, 1) := by decide +kernel
theorem d_Md_rings_222 : decode b_Md_rings 222 = .ok (.iadd, 1) := by decide +kernel
theorem d_Md_rings_223 : decode b_Md_rings 223 = .ok (.istore_n 2, 1) := by decide +kernel
theorem d_Md_rings_224 : decode b_Md_rings 224 = .ok (.aload_n 0, 1) := by decide +kernel
theorem d_Md_rings_225 : decode b_Md_rings 225 = .ok (.getfield 89, 3) := by decide +kernel
theorem d_Md_rings_228 : decode b_Md_rings 228 = .ok (.aload_n 0, 1) := by decide +kernel
theorem d_Md_rings_229 : decode b_Md_rings 229 = .ok (.getfield 127, 3) := by decide +kernel
theorem d_Md_rings_232 : decode b_Md_rings 232 = .ok (.iload_n 3, 1) := by decide +kernel
theorem d_Md_rings_233 : decode b_Md_rings 233 = .ok (.iaload, 1) := by decide +kernel
theorem d_Md_rings_234 : decode b_Md_rings 234 = .ok (.iaload, 1) := by decide +kernel
theorem d_Md_rings_235 : decode b_Md_rings 235 = .ok (.istore_n 3, 1) := by decide +kernel
theorem d_Md_rings_236 : decode b_Md_rings 236 = .ok (.iload_n 3, 1) := by decide +kernel
theorem d_Md_rings_237 : decode b_Md_rings 237 = .ok (.iload 4, 2) := by decide +kernel
theorem d_Md_rings_239 : decode b_Md_rings 239 = .ok (.if_icmp .eq 7, 3) := by decide +kernel
theorem d_Md_rings_242 : decode b_Md_rings 242 = .ok (.iconst 1, 1) := by decide +kernel
theorem d_Md_rings_243 : decode b_Md_rings 243 = .ok (.goto 4, 3) := by decide +kernel
theorem d_Md_rings_246 : decode b_Md_rings 246 = .ok (.iconst 0, 1) := by decide +kernel
theorem d_Md_rings_247 : decode b_Md_rings 247 = .ok (.istore 5, 2) := by decide +kernel
theorem d_Md_rings_249 : decode b_Md_rings 249 = .ok (.goto (-64), 3) := by decide +kernel
theorem d_Md_rings_252 : decode b_Md_rings 252 = .ok (.iconst 1, 1) := by decide +kernel
theorem d_Md_rings_253 : decode b_Md_rings 253 = .ok (.istore 5, 2) := by decide +kernel
theorem d_Md_rings_255 : decode b_Md_rings 255 = .ok (.iload 5, 2) := by decide +kernel
theorem d_Md_rings_257 : decode b_Md_rings 257 = .ok (.ifCond .eq 41, 3) := by decide +kernel
theorem d_Md_rings_260 : decode b_Md_rings 260 = .ok (.aload_n 0, 1) := by decide +kernel
theorem d_Md_rings_261 : decode b_Md_rings 261 = .ok (.getfield 130, 3) := by decide +kernel
theorem d_Md_rings_264 : decode b_Md_rings 264 = .ok (.iload_n 3, 1) := by decide +kernel
theorem d_Md_rings_265 : decode b_Md_rings 265 = .ok (.iconst 0, 1) := by decide +kernel
theorem d_Md_rings_266 : decode b_Md_rings 266 = .ok (.bastore, 1) := by decide +kernel
theorem d_Md_rings_267 : decode b_Md_rings 267 = .ok (.iinc 1 (-1), 3) := by decide +kernel
theorem d_Md_rings_270 : decode b_Md_rings 270 = .ok (.aload_n 0, 1) := by decide +kernel
theorem d_Md_rings_271 : decode b_Md_rings 271 = .ok (.getfield 89, 3) := by decide +kernel
theorem d_Md_rings_274 : decode b_Md_rings 274 = .ok (.aload_n 0, 1) := by decide +kernel
theorem d_Md_rings_275 : decode b_Md_rings 275 = .ok (.getfield 127, 3) := by decide +kernel
theorem d_Md_rings_278 : decode b_Md_rings 278 = .ok (.iload_n 3, 1) := by decide +kernel
theorem d_Md_rings_279 : decode b_Md_rings 279 = .ok (.iaload, 1) := by decide +kernel
theorem d_Md_rings_280 : decode b_Md_rings 280 = .ok (.iaload, 1) := by decide +kernel
theorem d_Md_rings_281 : decode b_Md_rings 281 = .ok (.istore_n 3, 1) := by decide +kernel
theorem d_Md_rings_282 : decode b_Md_rings 282 = .ok (.iload_n 3, 1) := by decide +kernel
theorem d_Md_rings_283 : decode b_Md_rings 283 = .ok (.iload 4, 2) := by decide +kernel
theorem d_Md_rings_285 : decode b_Md_rings 285 = .ok (.if_icmp .eq 7, 3) := by decide +kernel
theorem d_Md_rings_288 : decode b_Md_rings 288 = .ok (.iconst 1, 1) := by decide +kernel
theorem d_Md_rings_289 : decode b_Md_rings 289 = .ok (.goto 4, 3) := by decide +kernel
theorem d_Md_rings_292 : decode b_Md_rings 292 = .ok (.iconst 0, 1) := by decide +kernel
theorem d_Md_rings_293 : decode b_Md_rings 293 = .ok (.istore 5, 2) := by decide +kernel
theorem d_Md_rings_295 : decode b_Md_rings 295 = .ok (.goto (-40), 3) := by decide +kernel
theorem d_Md_rings_298 : decode b_Md_rings 298 = .ok (.goto (-169), 3) := by decide +kernel
theorem d_Md_rings_301 : decode b_Md_rings 301 = .ok (.iload_n 2, 1) := by decide +kernel
theorem d_Md_rings_302 : decode b_Md_rings 302 = .ok (.ireturn, 1) := by decide +kernel
theorem d_Md_points_0 : decode b_Md_points 0 = .ok (.iconst 0, 1) := by decide +kernel
theorem d_Md_points_1 : decode b_Md_points 1 = .ok (.istore_n 2, 1) := by decide +kernel
theorem d_Md_points_2 : decode b_Md_points 2 = .ok (.iload_n 2, 1) := by decide +kernel
theorem d_Md_points_3 : decode b_Md_points 3 = .ok (.aload_n 0, 1) := by decide +kernel
theorem d_Md_points_4 : decode b_Md_points 4 = .ok (.getfield 124, 3) := by decide +kernel
theorem d_Md_points_7 : decode b_Md_points 7 = .ok (.iload_n 1, 1) := by decide +kernel
theorem d_Md_points_8 : decode b_Md_points 8 = .ok (.iaload, 1) := by decide +kernel
theorem d_Md_points_9 : decode b_Md_points 9 = .ok (.if_icmp .ge 50, 3) := by decide +kernel
theorem d_Md_points_12 : decode b_Md_points 12 = .ok (.aload_n 0, 1) := by decide +kernel
theorem d_Md_points_13 : decode b_Md_points 13 = .ok (.getfield 89, 3) := by decide +kernel
theorem d_Md_points_16 : decode b_Md_points 16 = .ok (.aload_n 0, 1) := by decide +kernel
theorem d_Md_points_17 : decode b_Md_points 17 = .ok (.getfield 121, 3) := by decide +kernel
theorem d_Md_points_20 : decode b_Md_points 20 = .ok (.iconst 3, 1) := by decide +kernel
theorem d_Md_points_21 : decode b_Md_points 21 = .ok (.iload_n 1, 1) := by decide +kernel
theorem d_Md_points_22 : decode b_Md_points 22 = .ok (.imul, 1) := by decide +kernel
theorem d_Md_points_23 : decode b_Md_points 23 = .ok (.iload_n 2, 1) := by decide +kernel
theorem d_Md_points_24 : decode b_Md_points 24 = .ok (.iadd, 1) := by decide +kernel
theorem d_Md_points_25 : decode b_Md_points 25 = .ok (.iaload, 1) := by decide +kernel
theorem d_Md_points_26 : decode b_Md_points 26 = .ok (.iaload, 1) := by decide +kernel
theorem d_Md_points_27 : decode b_Md_points 27 = .ok (.istore_n 3, 1) := by decide +kernel
theorem d_Md_points_28 : decode b_Md_points 28 = .ok (.iload_n 3, 1) := by decide +kernel
theorem d_Md_points_29 : decode b_Md_points 29 = .ok (.iconst (-1), 1) := by decide +kernel
theorem d_Md_points_30 : decode b_Md_points 30 = .ok (.if_icmp .eq 23, 3) := by decide +kernel
theorem d_Md_points_33 : decode b_Md_points 33 = .ok (.aload_n 0, 1) := by decide +kernel
theorem d_Md_points_34 : decode b_Md_points 34 = .ok (.getfield 130, 3) := by decide +kernel
theorem d_Md_points_37 : decode b_Md_points 37 = .ok (.iload_n 3, 1) := by decide +kernel
theorem d_Md_points_38 : decode b_Md_points 38 = .ok (.baload, 1) := by decide +kernel
theorem d_Md_points_39 : decode b_Md_points 39 = .ok (.ifCond .eq 14, 3) := by decide +kernel
theorem d_Md_points_42 : decode b_Md_points 42 = .ok (.aload_n 0, 1) := by decide +kernel
theorem d_Md_points_43 : decode b_Md_points 43 = .ok (.getfield 121, 3) := by decide +kernel
theorem d_Md_points_46 : decode b_Md_points 46 = .ok (.iconst 3, 1) := by decide +kernel
theorem d_Md_points_47 : decode b_Md_points 47 = .ok (.iload_n 1, 1) := by decide +kernel
theorem d_Md_points_48 : decode b_Md_points 48 = .ok (.imul, 1) := by decide +kernel
theorem d_Md_points_49 : decode b_Md_points 49 = .ok (.iload_n 2, 1) := by decide +kernel
theorem d_Md_points_50 : decode b_Md_points 50 = .ok (.iadd, 1) := by decide +kernel
theorem d_Md_points_51 : decode b_Md_points 51 = .ok (.iaload, 1) := by decide +kernel
theorem d_Md_points_52 : decode b_Md_points 52 = .ok (.ireturn, 1) := by decide +kernel
theorem d_Md_points_53 : decode b_Md_points 53 = .ok (.iinc 2 1, 3) := by decide +kernel
theorem d_Md_points_56 : decode b_Md_points 56 = .ok (.goto (-54), 3) := by decide +kernel
theorem d_Md_points_59 : decode b_Md_points 59 = .ok (.aload_n 0, 1) := by decide +kernel
theorem d_Md_points_60 : decode b_Md_points 60 = .ok (.getfield 133, 3) := by decide +kernel
theorem d_Md_points_63 : decode b_Md_points 63 = .ok (.iload_n 1, 1) := by decide +kernel
theorem d_Md_points_64 : decode b_Md_points 64 = .ok (.iaload, 1) := by decide +kernel
theorem d_Md_points_65 : decode b_Md_points 65 = .ok (.ireturn, 1) := by decide +kernel
theorem d_Md_got_0 : decode b_Md_got 0 = .ok (.aload_n 0, 1) := by decide +kernel
theorem d_Md_got_1 : decode b_Md_got 1 = .ok (.getfield 136, 3) := by decide +kernel
theorem d_Md_got_4 : decode b_Md_got 4 = .ok (.ifCond .eq 15, 3) := by decide +kernel
theorem d_Md_got_7 : decode b_Md_got 7 = .ok (.iload_n 1, 1) := by decide +kernel
theorem d_Md_got_8 : decode b_Md_got 8 = .ok (.ifCond .lt 11, 3) := by decide +kernel
theorem d_Md_got_11 : decode b_Md_got 11 = .ok (.iload_n 1, 1) := by decide +kernel
theorem d_Md_got_12 : decode b_Md_got 12 = .ok (.aload_n 0, 1) := by decide +kernel
theorem d_Md_got_13 : decode b_Md_got 13 = .ok (.getfield 140, 3) := by decide +kernel
theorem d_Md_got_16 : decode b_Md_got 16 = .ok (.if_icmp .lt 7, 3) := by decide +kernel
theorem d_Md_got_19 : decode b_Md_got 19 = .ok (.iconst (-1), 1) := by decide +kernel
theorem d_Md_got_20 : decode b_Md_got 20 = .ok (.goto 9, 3) := by decide +kernel
theorem d_Md_got_23 : decode b_Md_got 23 = .ok (.aload_n 0, 1) := by decide +kernel
theorem d_Md_got_24 : decode b_Md_got 24 = .ok (.getfield 127, 3) := by decide +kernel
theorem d_Md_got_27 : decode b_Md_got 27 = .ok (.iload_n 1, 1) := by decide +kernel
theorem d_Md_got_28 : decode b_Md_got 28 = .ok (.iaload, 1) := by decide +kernel
theorem d_Md_got_29 : decode b_Md_got 29 = .ok (.ireturn, 1) := by decide +kernel
