theorem dX0_allPurses_1 : decode cX0_allPurses 1 = .ok (.istore_n 1, 1) := by decide +kernel
theorem dX0_allPurses_2 : decode cX0_allPurses 2 = .ok (.iconst 0, 1) := by decide +kernel
theorem dX0_allPurses_3 : decode cX0_allPurses 3 = .ok (.istore_n 2, 1) := by decide +kernel
theorem dX0_allPurses_4 : decode cX0_allPurses 4 = .ok (.iload_n 2, 1) := by decide +kernel
theorem dX0_allPurses_5 : decode cX0_allPurses 5 = .ok (.aload_n 0, 1) := by decide +kernel
theorem dX0_allPurses_6 : decode cX0_allPurses 6 = .ok (.getfield 34, 3) := by decide +kernel
theorem dX0_allPurses_9 : decode cX0_allPurses 9 = .ok (.getfield 109, 3) := by decide +kernel
theorem dX0_allPurses_12 : decode cX0_allPurses 12 = .ok (.if_icmp .ge 18, 3) := by decide +kernel
theorem dX0_allPurses_15 : decode cX0_allPurses 15 = .ok (.iload_n 1, 1) := by decide +kernel
theorem dX0_allPurses_16 : decode cX0_allPurses 16 = .ok (.aload_n 0, 1) := by decide +kernel
theorem dX0_allPurses_17 : decode cX0_allPurses 17 = .ok (.getfield 9, 3) := by decide +kernel
theorem dX0_allPurses_20 : decode cX0_allPurses 20 = .ok (.iload_n 2, 1) := by decide +kernel
theorem dX0_allPurses_21 : decode cX0_allPurses 21 = .ok (.iaload, 1) := by decide +kernel
theorem dX0_allPurses_22 : decode cX0_allPurses 22 = .ok (.iadd, 1) := by decide +kernel
theorem dX0_allPurses_23 : decode cX0_allPurses 23 = .ok (.istore_n 1, 1) := by decide +kernel
theorem dX0_allPurses_24 : decode cX0_allPurses 24 = .ok (.iinc 2 1, 3) := by decide +kernel
theorem dX0_allPurses_27 : decode cX0_allPurses 27 = .ok (.goto (-23), 3) := by decide +kernel
theorem dX0_allPurses_30 : decode cX0_allPurses 30 = .ok (.iload_n 1, 1) := by decide +kernel
theorem dX0_allPurses_31 : decode cX0_allPurses 31 = .ok (.ireturn, 1) := by decide +kernel
theorem dX11_count_0 : decode cX11_count 0 = .ok (.iload_n 1, 1) := by decide +kernel
theorem dX11_count_1 : decode cX11_count 1 = .ok (.tableswitch 200 0 12 #[67, 75, 83, 91, 99, 107, 115, 123, 131, 155, 179, 187, 195], 67) := by decide +kernel
theorem dX11_count_68 : decode cX11_count 68 = .ok (.aload_n 0, 1) := by decide +kernel
theorem dX11_count_69 : decode cX11_count 69 = .ok (.getfield 19, 3) := by decide +kernel
theorem dX11_count_72 : decode cX11_count 72 = .ok (.getfield 255, 3) := by decide +kernel
theorem dX11_count_75 : decode cX11_count 75 = .ok (.ireturn, 1) := by decide +kernel
theorem dX11_count_76 : decode cX11_count 76 = .ok (.aload_n 0, 1) := by decide +kernel
theorem dX11_count_77 : decode cX11_count 77 = .ok (.getfield 19, 3) := by decide +kernel
theorem dX11_count_80 : decode cX11_count 80 = .ok (.getfield 241, 3) := by decide +kernel
theorem dX11_count_83 : decode cX11_count 83 = .ok (.ireturn, 1) := by decide +kernel
theorem dX11_count_84 : decode cX11_count 84 = .ok (.aload_n 0, 1) := by decide +kernel
theorem dX11_count_85 : decode cX11_count 85 = .ok (.getfield 19, 3) := by decide +kernel
theorem dX11_count_88 : decode cX11_count 88 = .ok (.getfield 90, 3) := by decide +kernel
theorem dX11_count_91 : decode cX11_count 91 = .ok (.ireturn, 1) := by decide +kernel
theorem dX11_count_92 : decode cX11_count 92 = .ok (.aload_n 0, 1) := by decide +kernel
theorem dX11_count_93 : decode cX11_count 93 = .ok (.getfield 19, 3) := by decide +kernel
theorem dX11_count_96 : decode cX11_count 96 = .ok (.getfield 258, 3) := by decide +kernel
theorem dX11_count_99 : decode cX11_count 99 = .ok (.ireturn, 1) := by decide +kernel
theorem dX11_count_100 : decode cX11_count 100 = .ok (.aload_n 0, 1) := by decide +kernel
theorem dX11_count_101 : decode cX11_count 101 = .ok (.getfield 28, 3) := by decide +kernel
theorem dX11_count_104 : decode cX11_count 104 = .ok (.invokevirtual 252, 3) := by decide +kernel
theorem dX11_count_107 : decode cX11_count 107 = .ok (.ireturn, 1) := by decide +kernel
theorem dX11_count_108 : decode cX11_count 108 = .ok (.aload_n 0, 1) := by decide +kernel
theorem dX11_count_109 : decode cX11_count 109 = .ok (.getfield 28, 3) := by decide +kernel
theorem dX11_count_112 : decode cX11_count 112 = .ok (.invokevirtual 261, 3) := by decide +kernel
theorem dX11_count_115 : decode cX11_count 115 = .ok (.ireturn, 1) := by decide +kernel
theorem dX11_count_116 : decode cX11_count 116 = .ok (.aload_n 0, 1) := by decide +kernel
theorem dX11_count_117 : decode cX11_count 117 = .ok (.getfield 28, 3) := by decide +kernel
theorem dX11_count_120 : decode cX11_count 120 = .ok (.invokevirtual 264, 3) := by decide +kernel
theorem dX11_count_123 : decode cX11_count 123 = .ok (.ireturn, 1) := by decide +kernel
theorem dX11_count_124 : decode cX11_count 124 = .ok (.aload_n 0, 1) := by decide +kernel
theorem dX11_count_125 : decode cX11_count 125 = .ok (.getfield 28, 3) := by decide +kernel
theorem dX11_count_128 : decode cX11_count 128 = .ok (.getfield 173, 3) := by decide +kernel
theorem dX11_count_131 : decode cX11_count 131 = .ok (.ireturn, 1) := by decide +kernel
theorem dX11_count_132 : decode cX11_count 132 = .ok (.aload_n 0, 1) := by decide +kernel
theorem dX11_count_133 : decode cX11_count 133 = .ok (.getfield 19, 3) := by decide +kernel
theorem dX11_count_136 : decode cX11_count 136 = .ok (.getfield 90, 3) := by decide +kernel
theorem dX11_count_139 : decode cX11_count 139 = .ok (.ifCond .ne 7, 3) := by decide +kernel
theorem dX11_count_142 : decode cX11_count 142 = .ok (.iconst (-1), 1) := by decide +kernel
theorem dX11_count_143 : decode cX11_count 143 = .ok (.goto 12, 3) := by decide +kernel
theorem dX11_count_146 : decode cX11_count 146 = .ok (.aload_n 0, 1) := by decide +kernel
theorem dX11_count_147 : decode cX11_count 147 = .ok (.getfield 28, 3) := by decide +kernel
theorem dX11_count_150 : decode cX11_count 150 = .ok (.getfield 180, 3) := by decide +kernel
theorem dX11_count_153 : decode cX11_count 153 = .ok (.iconst 0, 1) := by decide +kernel
theorem dX11_count_154 : decode cX11_count 154 = .ok (.iaload, 1) := by decide +kernel
theorem dX11_count_155 : decode cX11_count 155 = .ok (.ireturn, 1) := by decide +kernel
theorem dX11_count_156 : decode cX11_count 156 = .ok (.aload_n 0, 1) := by decide +kernel
theorem dX11_count_157 : decode cX11_count 157 = .ok (.getfield 19, 3) := by decide +kernel
theorem dX11_count_160 : decode cX11_count 160 = .ok (.getfield 90, 3) := by decide +kernel
theorem dX11_count_163 : decode cX11_count 163 = .ok (.ifCond .ne 7, 3) := by decide +kernel
theorem dX11_count_166 : decode cX11_count 166 = .ok (.iconst (-1), 1) := by decide +kernel
theorem dX11_count_167 : decode cX11_count 167 = .ok (.goto 12, 3) := by decide +kernel
theorem dX11_count_170 : decode cX11_count 170 = .ok (.aload_n 0, 1) := by decide +kernel
theorem dX11_count_171 : decode cX11_count 171 = .ok (.getfield 28, 3) := by decide +kernel
theorem dX11_count_174 : decode cX11_count 174 = .ok (.getfield 180, 3) := by decide +kernel
theorem dX11_count_177 : decode cX11_count 177 = .ok (.iconst 1, 1) := by decide +kernel
theorem dX11_count_178 : decode cX11_count 178 = .ok (.iaload, 1) := by decide +kernel
theorem dX11_count_179 : decode cX11_count 179 = .ok (.ireturn, 1) := by decide +kernel
theorem dX11_count_180 : decode cX11_count 180 = .ok (.aload_n 0, 1) := by decide +kernel
theorem dX11_count_181 : decode cX11_count 181 = .ok (.getfield 28, 3) := by decide +kernel
theorem dX11_count_184 : decode cX11_count 184 = .ok (.getfield 232, 3) := by decide +kernel
theorem dX11_count_187 : decode cX11_count 187 = .ok (.ireturn, 1) := by decide +kernel
theorem dX11_count_188 : decode cX11_count 188 = .ok (.aload_n 0, 1) := by decide +kernel
theorem dX11_count_189 : decode cX11_count 189 = .ok (.getfield 10, 3) := by decide +kernel
theorem dX11_count_192 : decode cX11_count 192 = .ok (.getfield 71, 3) := by decide +kernel
theorem dX11_count_195 : decode cX11_count 195 = .ok (.ireturn, 1) := by decide +kernel
theorem dX11_count_196 : decode cX11_count 196 = .ok (.aload_n 0, 1) := by decide +kernel
theorem dX11_count_197 : decode cX11_count 197 = .ok (.getfield 63, 3) := by decide +kernel
theorem dX11_count_200 : decode cX11_count 200 = .ok (.ireturn, 1) := by decide +kernel
theorem dX11_count_201 : decode cX11_count 201 = .ok (.bipush (-102), 2) := by decide +kernel
theorem dX11_count_203 : decode cX11_count 203 = .ok (.ireturn, 1) := by decide +kernel
theorem dX11_mix_0 : decode cX11_mix 0 = .ok (.ldc2_w 305, 3) := by decide +kernel
theorem dX11_mix_3 : decode cX11_mix 3 = .ok (.lload_n 0, 1) := by decide +kernel
theorem dX11_mix_4 : decode cX11_mix 4 = .ok (.lmul, 1) := by decide +kernel
theorem dX11_mix_5 : decode cX11_mix 5 = .ok (.iload_n 2, 1) := by decide +kernel
theorem dX11_mix_6 : decode cX11_mix 6 = .ok (.i2l, 1) := by decide +kernel
theorem dX11_mix_7 : decode cX11_mix 7 = .ok (.ladd, 1) := by decide +kernel
theorem dX11_mix_8 : decode cX11_mix 8 = .ok (.lreturn, 1) := by decide +kernel
theorem dX11_mixPerson_0 : decode cX11_mixPerson 0 = .ok (.lload_n 1, 1) := by decide +kernel
theorem dX11_mixPerson_1 : decode cX11_mixPerson 1 = .ok (.lstore 4, 2) := by decide +kernel
theorem dX11_mixPerson_3 : decode cX11_mixPerson 3 = .ok (.iconst 0, 1) := by decide +kernel
theorem dX11_mixPerson_4 : decode cX11_mixPerson 4 = .ok (.istore 6, 2) := by decide +kernel
theorem dX11_mixPerson_6 : decode cX11_mixPerson 6 = .ok (.iload 6, 2) := by decide +kernel
theorem dX11_mixPerson_8 : decode cX11_mixPerson 8 = .ok (.bipush 8, 2) := by decide +kernel
theorem dX11_mixPerson_10 : decode cX11_mixPerson 10 = .ok (.if_icmp .gt 23, 3) := by decide +kernel
theorem dX11_mixPerson_13 : decode cX11_mixPerson 13 = .ok (.lload 4, 2) := by decide +kernel
theorem dX11_mixPerson_15 : decode cX11_mixPerson 15 = .ok (.aload_n 0, 1) := by decide +kernel
theorem dX11_mixPerson_16 : decode cX11_mixPerson 16 = .ok (.iload_n 3, 1) := by decide +kernel
theorem dX11_mixPerson_17 : decode cX11_mixPerson 17 = .ok (.iload 6, 2) := by decide +kernel
theorem dX11_mixPerson_19 : decode cX11_mixPerson 19 = .ok (.invokevirtual 298, 3) := by decide +kernel
theorem dX11_mixPerson_22 : decode cX11_mixPerson 22 = .ok (.invokestatic 276, 3) := by decide +kernel
theorem dX11_mixPerson_25 : decode cX11_mixPerson 25 = .ok (.lstore 4, 2) := by decide +kernel
theorem dX11_mixPerson_27 : decode cX11_mixPerson 27 = .ok (.iinc 6 1, 3) := by decide +kernel
theorem dX11_mixPerson_30 : decode cX11_mixPerson 30 = .ok (.goto (-24), 3) := by decide +kernel
theorem dX11_mixPerson_33 : decode cX11_mixPerson 33 = .ok (.iconst 0, 1) := by decide +kernel
theorem dX11_mixPerson_34 : decode cX11_mixPerson 34 = .ok (.istore 6, 2) := by decide +kernel
theorem dX11_mixPerson_36 : decode cX11_mixPerson 36 = .ok (.iload 6, 2) := by decide +kernel
theorem dX11_mixPerson_38 : decode cX11_mixPerson 38 = .ok (.aload_n 0, 1) := by decide +kernel
theorem dX11_mixPerson_39 : decode cX11_mixPerson 39 = .ok (.getfield 19, 3) := by decide +kernel
theorem dX11_mixPerson_42 : decode cX11_mixPerson 42 = .ok (.getfield 255, 3) := by decide +kernel
theorem dX11_mixPerson_45 : decode cX11_mixPerson 45 = .ok (.if_icmp .ge 40, 3) := by decide +kernel
theorem dX11_mixPerson_48 : decode cX11_mixPerson 48 = .ok (.lload 4, 2) := by decide +kernel
theorem dX11_mixPerson_50 : decode cX11_mixPerson 50 = .ok (.aload_n 0, 1) := by decide +kernel
theorem dX11_mixPerson_51 : decode cX11_mixPerson 51 = .ok (.iload_n 3, 1) := by decide +kernel
theorem dX11_mixPerson_52 : decode cX11_mixPerson 52 = .ok (.iload 6, 2) := by decide +kernel
theorem dX11_mixPerson_54 : decode cX11_mixPerson 54 = .ok (.iconst 0, 1) := by decide +kernel
theorem dX11_mixPerson_55 : decode cX11_mixPerson 55 = .ok (.invokevirtual 301, 3) := by decide +kernel
theorem dX11_mixPerson_58 : decode cX11_mixPerson 58 = .ok (.invokestatic 276, 3) := by decide +kernel
theorem dX11_mixPerson_61 : decode cX11_mixPerson 61 = .ok (.lstore 4, 2) := by decide +kernel
theorem dX11_mixPerson_63 : decode cX11_mixPerson 63 = .ok (.lload 4, 2) := by decide +kernel
theorem dX11_mixPerson_65 : decode cX11_mixPerson 65 = .ok (.aload_n 0, 1) := by decide +kernel
theorem dX11_mixPerson_66 : decode cX11_mixPerson 66 = .ok (.iload_n 3, 1) := by decide +kernel
theorem dX11_mixPerson_67 : decode cX11_mixPerson 67 = .ok (.iload 6, 2) := by decide +kernel
theorem dX11_mixPerson_69 : decode cX11_mixPerson 69 = .ok (.bipush 10, 2) := by decide +kernel
theorem dX11_mixPerson_71 : decode cX11_mixPerson 71 = .ok (.invokevirtual 301, 3) := by decide +kernel
theorem dX11_mixPerson_74 : decode cX11_mixPerson 74 = .ok (.invokestatic 276, 3) := by decide +kernel
theorem dX11_mixPerson_77 : decode cX11_mixPerson 77 = .ok (.lstore 4, 2) := by decide +kernel
theorem dX11_mixPerson_79 : decode cX11_mixPerson 79 = .ok (.iinc 6 1, 3) := by decide +kernel
theorem dX11_mixPerson_82 : decode cX11_mixPerson 82 = .ok (.goto (-46), 3) := by decide +kernel
theorem dX11_mixPerson_85 : decode cX11_mixPerson 85 = .ok (.aload_n 0, 1) := by decide +kernel
theorem dX11_mixPerson_86 : decode cX11_mixPerson 86 = .ok (.getfield 48, 3) := by decide +kernel
theorem dX11_mixPerson_89 : decode cX11_mixPerson 89 = .ok (.aload_n 0, 1) := by decide +kernel
theorem dX11_mixPerson_90 : decode cX11_mixPerson 90 = .ok (.getfield 28, 3) := by decide +kernel
theorem dX11_mixPerson_93 : decode cX11_mixPerson 93 = .ok (.iload_n 3, 1) := by decide +kernel
theorem dX11_mixPerson_94 : decode cX11_mixPerson 94 = .ok (.iconst 2, 1) := by decide +kernel
theorem dX11_mixPerson_95 : decode cX11_mixPerson 95 = .ok (.invokevirtual 201, 3) := by decide +kernel
theorem dX11_mixPerson_98 : decode cX11_mixPerson 98 = .ok (.lload 4, 2) := by decide +kernel
theorem dX11_mixPerson_100 : decode cX11_mixPerson 100 = .ok (.aload_n 0, 1) := by decide +kernel
theorem dX11_mixPerson_101 : decode cX11_mixPerson 101 = .ok (.getfield 48, 3) := by decide +kernel
theorem dX11_mixPerson_104 : decode cX11_mixPerson 104 = .ok (.getfield 205, 3) := by decide +kernel
theorem dX11_mixPerson_107 : decode cX11_mixPerson 107 = .ok (.invokestatic 276, 3) := by decide +kernel
theorem dX11_mixPerson_110 : decode cX11_mixPerson 110 = .ok (.lstore 4, 2) := by decide +kernel
theorem dX11_mixPerson_112 : decode cX11_mixPerson 112 = .ok (.lload 4, 2) := by decide +kernel
theorem dX11_mixPerson_114 : decode cX11_mixPerson 114 = .ok (.aload_n 0, 1) := by decide +kernel
theorem dX11_mixPerson_115 : decode cX11_mixPerson 115 = .ok (.getfield 48, 3) := by decide +kernel
theorem dX11_mixPerson_118 : decode cX11_mixPerson 118 = .ok (.iconst 0, 1) := by decide +kernel
theorem dX11_mixPerson_119 : decode cX11_mixPerson 119 = .ok (.iconst 2, 1) := by decide +kernel
theorem dX11_mixPerson_120 : decode cX11_mixPerson 120 = .ok (.invokevirtual 208, 3) := by decide +kernel
theorem dX11_mixPerson_123 : decode cX11_mixPerson 123 = .ok (.invokestatic 276, 3) := by decide +kernel
theorem dX11_mixPerson_126 : decode cX11_mixPerson 126 = .ok (.lstore 4, 2) := by decide +kernel
theorem dX11_mixPerson_128 : decode cX11_mixPerson 128 = .ok (.lload 4, 2) := by decide +kernel
theorem dX11_mixPerson_130 : decode cX11_mixPerson 130 = .ok (.aload_n 0, 1) := by decide +kernel
theorem dX11_mixPerson_131 : decode cX11_mixPerson 131 = .ok (.getfield 48, 3) := by decide +kernel
theorem dX11_mixPerson_134 : decode cX11_mixPerson 134 = .ok (.iconst 1, 1) := by decide +kernel
theorem dX11_mixPerson_135 : decode cX11_mixPerson 135 = .ok (.iconst 2, 1) := by decide +kernel
theorem dX11_mixPerson_136 : decode cX11_mixPerson 136 = .ok (.invokevirtual 208, 3) := by decide +kernel
theorem dX11_mixPerson_139 : decode cX11_mixPerson 139 = .ok (.invokestatic 276, 3) := by decide +kernel
theorem dX11_mixPerson_142 : decode cX11_mixPerson 142 = .ok (.lreturn, 1) := by decide +kernel
theorem dX11_digest_0 : decode cX11_digest 0 = .ok (.ldc2_w 267, 3) := by decide +kernel
theorem dX11_digest_3 : decode cX11_digest 3 = .ok (.lstore_n 1, 1) := by decide +kernel
theorem dX11_digest_4 : decode cX11_digest 4 = .ok (.iconst 0, 1) := by decide +kernel
theorem dX11_digest_5 : decode cX11_digest 5 = .ok (.istore_n 3, 1) := by decide +kernel
theorem dX11_digest_6 : decode cX11_digest 6 = .ok (.iload_n 3, 1) := by decide +kernel
theorem dX11_digest_7 : decode cX11_digest 7 = .ok (.aload_n 0, 1) := by decide +kernel
theorem dX11_digest_8 : decode cX11_digest 8 = .ok (.getfield 19, 3) := by decide +kernel
theorem dX11_digest_11 : decode cX11_digest 11 = .ok (.getfield 90, 3) := by decide +kernel
theorem dX11_digest_14 : decode cX11_digest 14 = .ok (.if_icmp .ge 16, 3) := by decide +kernel
theorem dX11_digest_17 : decode cX11_digest 17 = .ok (.aload_n 0, 1) := by decide +kernel
theorem dX11_digest_18 : decode cX11_digest 18 = .ok (.lload_n 1, 1) := by decide +kernel
theorem dX11_digest_19 : decode cX11_digest 19 = .ok (.iload_n 3, 1) := by decide +kernel
theorem dX11_digest_20 : decode cX11_digest 20 = .ok (.invokevirtual 269, 3) := by decide +kernel
theorem dX11_digest_23 : decode cX11_digest 23 = .ok (.lstore_n 1, 1) := by decide +kernel
theorem dX11_digest_24 : decode cX11_digest 24 = .ok (.iinc 3 1, 3) := by decide +kernel
theorem dX11_digest_27 : decode cX11_digest 27 = .ok (.goto (-21), 3) := by decide +kernel
theorem dX11_digest_30 : decode cX11_digest 30 = .ok (.iconst 0, 1) := by decide +kernel
theorem dX11_digest_31 : decode cX11_digest 31 = .ok (.istore_n 3, 1) := by decide +kernel
theorem dX11_digest_32 : decode cX11_digest 32 = .ok (.iload_n 3, 1) := by decide +kernel
theorem dX11_digest_33 : decode cX11_digest 33 = .ok (.aload_n 0, 1) := by decide +kernel
theorem dX11_digest_34 : decode cX11_digest 34 = .ok (.getfield 19, 3) := by decide +kernel
theorem dX11_digest_37 : decode cX11_digest 37 = .ok (.getfield 241, 3) := by decide +kernel
theorem dX11_digest_40 : decode cX11_digest 40 = .ok (.if_icmp .ge 36, 3) := by decide +kernel
theorem dX11_digest_43 : decode cX11_digest 43 = .ok (.iconst 0, 1) := by decide +kernel
theorem dX11_digest_44 : decode cX11_digest 44 = .ok (.istore 4, 2) := by decide +kernel
theorem dX11_digest_46 : decode cX11_digest 46 = .ok (.iload 4, 2) := by decide +kernel
theorem dX11_digest_48 : decode cX11_digest 48 = .ok (.iconst 2, 1) := by decide +kernel
theorem dX11_digest_49 : decode cX11_digest 49 = .ok (.if_icmp .gt 21, 3) := by decide +kernel
theorem dX11_digest_52 : decode cX11_digest 52 = .ok (.lload_n 1, 1) := by decide +kernel
theorem dX11_digest_53 : decode cX11_digest 53 = .ok (.aload_n 0, 1) := by decide +kernel
theorem dX11_digest_54 : decode cX11_digest 54 = .ok (.iload_n 3, 1) := by decide +kernel
theorem dX11_digest_55 : decode cX11_digest 55 = .ok (.iload 4, 2) := by decide +kernel
theorem dX11_digest_57 : decode cX11_digest 57 = .ok (.invokevirtual 273, 3) := by decide +kernel
theorem dX11_digest_60 : decode cX11_digest 60 = .ok (.invokestatic 276, 3) := by decide +kernel
theorem dX11_digest_63 : decode cX11_digest 63 = .ok (.lstore_n 1, 1) := by decide +kernel
theorem dX11_digest_64 : decode cX11_digest 64 = .ok (.iinc 4 1, 3) := by decide +kernel
theorem dX11_digest_67 : decode cX11_digest 67 = .ok (.goto (-21), 3) := by decide +kernel
theorem dX11_digest_70 : decode cX11_digest 70 = .ok (.iinc 3 1, 3) := by decide +kernel
theorem dX11_digest_73 : decode cX11_digest 73 = .ok (.goto (-41), 3) := by decide +kernel
theorem dX11_digest_76 : decode cX11_digest 76 = .ok (.iconst 0, 1) := by decide +kernel
theorem dX11_digest_77 : decode cX11_digest 77 = .ok (.istore_n 3, 1) := by decide +kernel
theorem dX11_digest_78 : decode cX11_digest 78 = .ok (.iload_n 3, 1) := by decide +kernel
theorem dX11_digest_79 : decode cX11_digest 79 = .ok (.aload_n 0, 1) := by decide +kernel
theorem dX11_digest_80 : decode cX11_digest 80 = .ok (.getfield 19, 3) := by decide +kernel
theorem dX11_digest_83 : decode cX11_digest 83 = .ok (.getfield 258, 3) := by decide +kernel
theorem dX11_digest_86 : decode cX11_digest 86 = .ok (.if_icmp .ge 36, 3) := by decide +kernel
theorem dX11_digest_89 : decode cX11_digest 89 = .ok (.iconst 0, 1) := by decide +kernel
theorem dX11_digest_90 : decode cX11_digest 90 = .ok (.istore 4, 2) := by decide +kernel
theorem dX11_digest_92 : decode cX11_digest 92 = .ok (.iload 4, 2) := by decide +kernel
theorem dX11_digest_94 : decode cX11_digest 94 = .ok (.iconst 5, 1) := by decide +kernel
theorem dX11_digest_95 : decode cX11_digest 95 = .ok (.if_icmp .gt 21, 3) := by decide +kernel
theorem dX11_digest_98 : decode cX11_digest 98 = .ok (.lload_n 1, 1) := by decide +kernel
theorem dX11_digest_99 : decode cX11_digest 99 = .ok (.aload_n 0, 1) := by decide +kernel
theorem dX11_digest_100 : decode cX11_digest 100 = .ok (.iload_n 3, 1) := by decide +kernel
theorem dX11_digest_101 : decode cX11_digest 101 = .ok (.iload 4, 2) := by decide +kernel
theorem dX11_digest_103 : decode cX11_digest 103 = .ok (.invokevirtual 279, 3) := by decide +kernel
theorem dX11_digest_106 : decode cX11_digest 106 = .ok (.invokestatic 276, 3) := by decide +kernel
theorem dX11_digest_109 : decode cX11_digest 109 = .ok (.lstore_n 1, 1) := by decide +kernel
theorem dX11_digest_110 : decode cX11_digest 110 = .ok (.iinc 4 1, 3) := by decide +kernel
theorem dX11_digest_113 : decode cX11_digest 113 = .ok (.goto (-21), 3) := by decide +kernel
theorem dX11_digest_116 : decode cX11_digest 116 = .ok (.iinc 3 1, 3) := by decide +kernel
theorem dX11_digest_119 : decode cX11_digest 119 = .ok (.goto (-41), 3) := by decide +kernel
theorem dX11_digest_122 : decode cX11_digest 122 = .ok (.iconst 0, 1) := by decide +kernel
theorem dX11_digest_123 : decode cX11_digest 123 = .ok (.istore_n 3, 1) := by decide +kernel
theorem dX11_digest_124 : decode cX11_digest 124 = .ok (.iload_n 3, 1) := by decide +kernel
theorem dX11_digest_125 : decode cX11_digest 125 = .ok (.aload_n 0, 1) := by decide +kernel
theorem dX11_digest_126 : decode cX11_digest 126 = .ok (.getfield 19, 3) := by decide +kernel
theorem dX11_digest_129 : decode cX11_digest 129 = .ok (.getfield 255, 3) := by decide +kernel
theorem dX11_digest_132 : decode cX11_digest 132 = .ok (.if_icmp .ge 20, 3) := by decide +kernel
theorem dX11_digest_135 : decode cX11_digest 135 = .ok (.lload_n 1, 1) := by decide +kernel
theorem dX11_digest_136 : decode cX11_digest 136 = .ok (.aload_n 0, 1) := by decide +kernel
theorem dX11_digest_137 : decode cX11_digest 137 = .ok (.iload_n 3, 1) := by decide +kernel
theorem dX11_digest_138 : decode cX11_digest 138 = .ok (.iconst 0, 1) := by decide +kernel
theorem dX11_digest_139 : decode cX11_digest 139 = .ok (.invokevirtual 282, 3) := by decide +kernel
theorem dX11_digest_142 : decode cX11_digest 142 = .ok (.invokestatic 276, 3) := by decide +kernel
theorem dX11_digest_145 : decode cX11_digest 145 = .ok (.lstore_n 1, 1) := by decide +kernel
theorem dX11_digest_146 : decode cX11_digest 146 = .ok (.iinc 3 1, 3) := by decide +kernel
theorem dX11_digest_149 : decode cX11_digest 149 = .ok (.goto (-25), 3) := by decide +kernel
theorem dX11_digest_152 : decode cX11_digest 152 = .ok (.aload_n 0, 1) := by decide +kernel
theorem dX11_digest_153 : decode cX11_digest 153 = .ok (.getfield 19, 3) := by decide +kernel
theorem dX11_digest_156 : decode cX11_digest 156 = .ok (.getfield 90, 3) := by decide +kernel
theorem dX11_digest_159 : decode cX11_digest 159 = .ok (.ifCond .le 38, 3) := by decide +kernel
theorem dX11_digest_162 : decode cX11_digest 162 = .ok (.lload_n 1, 1) := by decide +kernel
theorem dX11_digest_163 : decode cX11_digest 163 = .ok (.aload_n 0, 1) := by decide +kernel
theorem dX11_digest_164 : decode cX11_digest 164 = .ok (.invokevirtual 285, 3) := by decide +kernel
theorem dX11_digest_167 : decode cX11_digest 167 = .ok (.invokestatic 276, 3) := by decide +kernel
theorem dX11_digest_170 : decode cX11_digest 170 = .ok (.lstore_n 1, 1) := by decide +kernel
theorem dX11_digest_171 : decode cX11_digest 171 = .ok (.lload_n 1, 1) := by decide +kernel
theorem dX11_digest_172 : decode cX11_digest 172 = .ok (.aload_n 0, 1) := by decide +kernel
theorem dX11_digest_173 : decode cX11_digest 173 = .ok (.iconst 0, 1) := by decide +kernel
theorem dX11_digest_174 : decode cX11_digest 174 = .ok (.iconst 1, 1) := by decide +kernel
theorem dX11_digest_175 : decode cX11_digest 175 = .ok (.iconst 2, 1) := by decide +kernel
theorem dX11_digest_176 : decode cX11_digest 176 = .ok (.iconst 0, 1) := by decide +kernel
theorem dX11_digest_177 : decode cX11_digest 177 = .ok (.invokevirtual 288, 3) := by decide +kernel
theorem dX11_digest_180 : decode cX11_digest 180 = .ok (.invokestatic 276, 3) := by decide +kernel
theorem dX11_digest_183 : decode cX11_digest 183 = .ok (.lstore_n 1, 1) := by decide +kernel
theorem dX11_digest_184 : decode cX11_digest 184 = .ok (.lload_n 1, 1) := by decide +kernel
theorem dX11_digest_185 : decode cX11_digest 185 = .ok (.aload_n 0, 1) := by decide +kernel
theorem dX11_digest_186 : decode cX11_digest 186 = .ok (.iconst 0, 1) := by decide +kernel
theorem dX11_digest_187 : decode cX11_digest 187 = .ok (.iconst 1, 1) := by decide +kernel
theorem dX11_digest_188 : decode cX11_digest 188 = .ok (.iconst 2, 1) := by decide +kernel
theorem dX11_digest_189 : decode cX11_digest 189 = .ok (.iconst 1, 1) := by decide +kernel
theorem dX11_digest_190 : decode cX11_digest 190 = .ok (.invokevirtual 288, 3) := by decide +kernel
theorem dX11_digest_193 : decode cX11_digest 193 = .ok (.invokestatic 276, 3) := by decide +kernel
theorem dX11_digest_196 : decode cX11_digest 196 = .ok (.lstore_n 1, 1) := by decide +kernel
theorem dX11_digest_197 : decode cX11_digest 197 = .ok (.iconst 0, 1) := by decide +kernel
theorem dX11_digest_198 : decode cX11_digest 198 = .ok (.istore_n 3, 1) := by decide +kernel
theorem dX11_digest_199 : decode cX11_digest 199 = .ok (.iload_n 3, 1) := by decide +kernel
theorem dX11_digest_200 : decode cX11_digest 200 = .ok (.aload_n 0, 1) := by decide +kernel
theorem dX11_digest_201 : decode cX11_digest 201 = .ok (.getfield 10, 3) := by decide +kernel
theorem dX11_digest_204 : decode cX11_digest 204 = .ok (.getfield 71, 3) := by decide +kernel
theorem dX11_digest_207 : decode cX11_digest 207 = .ok (.if_icmp .ge 23, 3) := by decide +kernel
theorem dX11_digest_210 : decode cX11_digest 210 = .ok (.lload_n 1, 1) := by decide +kernel
theorem dX11_digest_211 : decode cX11_digest 211 = .ok (.aload_n 0, 1) := by decide +kernel
theorem dX11_digest_212 : decode cX11_digest 212 = .ok (.getfield 10, 3) := by decide +kernel
theorem dX11_digest_215 : decode cX11_digest 215 = .ok (.getfield 292, 3) := by decide +kernel
theorem dX11_digest_218 : decode cX11_digest 218 = .ok (.iload_n 3, 1) := by decide +kernel
theorem dX11_digest_219 : decode cX11_digest 219 = .ok (.iaload, 1) := by decide +kernel
theorem dX11_digest_220 : decode cX11_digest 220 = .ok (.invokestatic 276, 3) := by decide +kernel
theorem dX11_digest_223 : decode cX11_digest 223 = .ok (.lstore_n 1, 1) := by decide +kernel
theorem dX11_digest_224 : decode cX11_digest 224 = .ok (.iinc 3 1, 3) := by decide +kernel
theorem dX11_digest_227 : decode cX11_digest 227 = .ok (.goto (-28), 3) := by decide +kernel
theorem dX11_digest_230 : decode cX11_digest 230 = .ok (.iconst 0, 1) := by decide +kernel
theorem dX11_digest_231 : decode cX11_digest 231 = .ok (.istore_n 3, 1) := by decide +kernel
theorem dX11_digest_232 : decode cX11_digest 232 = .ok (.iload_n 3, 1) := by decide +kernel
theorem dX11_digest_233 : decode cX11_digest 233 = .ok (.bipush 12, 2) := by decide +kernel
theorem dX11_digest_235 : decode cX11_digest 235 = .ok (.if_icmp .gt 19, 3) := by decide +kernel
theorem dX11_digest_238 : decode cX11_digest 238 = .ok (.lload_n 1, 1) := by decide +kernel
theorem dX11_digest_239 : decode cX11_digest 239 = .ok (.aload_n 0, 1) := by decide +kernel
theorem dX11_digest_240 : decode cX11_digest 240 = .ok (.iload_n 3, 1) := by decide +kernel
theorem dX11_digest_241 : decode cX11_digest 241 = .ok (.invokevirtual 295, 3) := by decide +kernel
theorem dX11_digest_244 : decode cX11_digest 244 = .ok (.invokestatic 276, 3) := by decide +kernel
theorem dX11_digest_247 : decode cX11_digest 247 = .ok (.lstore_n 1, 1) := by decide +kernel
theorem dX11_digest_248 : decode cX11_digest 248 = .ok (.iinc 3 1, 3) := by decide +kernel
theorem dX11_digest_251 : decode cX11_digest 251 = .ok (.goto (-19), 3) := by decide +kernel
theorem dX11_digest_254 : decode cX11_digest 254 = .ok (.lload_n 1, 1) := by decide +kernel
theorem dX11_digest_255 : decode cX11_digest 255 = .ok (.lreturn, 1) := by decide +kernel
theorem dX12_in_0 : decode cX12_in 0 = .ok (.lload_n 0, 1) := by decide +kernel
theorem dX12_in_1 : decode cX12_in 1 = .ok (.lload_n 2, 1) := by decide +kernel
theorem dX12_in_2 : decode cX12_in 2 = .ok (.lcmp, 1) := by decide +kernel
theorem dX12_in_3 : decode cX12_in 3 = .ok (.ifCond .lt 14, 3) := by decide +kernel
theorem dX12_in_6 : decode cX12_in 6 = .ok (.lload_n 0, 1) := by decide +kernel
theorem dX12_in_7 : decode cX12_in 7 = .ok (.lload 4, 2) := by decide +kernel
theorem dX12_in_9 : decode cX12_in 9 = .ok (.lcmp, 1) := by decide +kernel
theorem dX12_in_10 : decode cX12_in 10 = .ok (.ifCond .gt 7, 3) := by decide +kernel
theorem dX12_in_13 : decode cX12_in 13 = .ok (.iconst 1, 1) := by decide +kernel
theorem dX12_in_14 : decode cX12_in 14 = .ok (.goto 4, 3) := by decide +kernel
theorem dX12_in_17 : decode cX12_in 17 = .ok (.iconst 0, 1) := by decide +kernel
theorem dX12_in_18 : decode cX12_in 18 = .ok (.ireturn, 1) := by decide +kernel
theorem dX12_copy_0 : decode cX12_copy 0 = .ok (.iconst 0, 1) := by decide +kernel
theorem dX12_copy_1 : decode cX12_copy 1 = .ok (.istore_n 2, 1) := by decide +kernel
theorem dX12_copy_2 : decode cX12_copy 2 = .ok (.iload_n 2, 1) := by decide +kernel
theorem dX12_copy_3 : decode cX12_copy 3 = .ok (.aload_n 0, 1) := by decide +kernel
theorem dX12_copy_4 : decode cX12_copy 4 = .ok (.arraylength, 1) := by decide +kernel
theorem dX12_copy_5 : decode cX12_copy 5 = .ok (.if_icmp .ge 15, 3) := by decide +kernel
theorem dX12_copy_8 : decode cX12_copy 8 = .ok (.aload_n 1, 1) := by decide +kernel
theorem dX12_copy_9 : decode cX12_copy 9 = .ok (.iload_n 2, 1) := by decide +kernel
theorem dX12_copy_10 : decode cX12_copy 10 = .ok (.aload_n 0, 1) := by decide +kernel
theorem dX12_copy_11 : decode cX12_copy 11 = .ok (.iload_n 2, 1) := by decide +kernel
theorem dX12_copy_12 : decode cX12_copy 12 = .ok (.iaload, 1) := by decide +kernel
theorem dX12_copy_13 : decode cX12_copy 13 = .ok (.iastore, 1) := by decide +kernel
theorem dX12_copy_14 : decode cX12_copy 14 = .ok (.iinc 2 1, 3) := by decide +kernel
theorem dX12_copy_17 : decode cX12_copy 17 = .ok (.goto (-15), 3) := by decide +kernel
theorem dX12_copy_20 : decode cX12_copy 20 = .ok (.return_, 1) := by decide +kernel
theorem dX12_letter_0 : decode cX12_letter 0 = .ok (.iload_n 1, 1) := by decide +kernel
theorem dX12_letter_1 : decode cX12_letter 1 = .ok (.i2l, 1) := by decide +kernel
theorem dX12_letter_2 : decode cX12_letter 2 = .ok (.lconst 1, 1) := by decide +kernel
theorem dX12_letter_3 : decode cX12_letter 3 = .ok (.ldc2_w 101, 3) := by decide +kernel
theorem dX12_letter_6 : decode cX12_letter 6 = .ok (.invokestatic 103, 3) := by decide +kernel
theorem dX12_letter_9 : decode cX12_letter 9 = .ok (.ifCond .ne 6, 3) := by decide +kernel
theorem dX12_letter_12 : decode cX12_letter 12 = .ok (.bipush (-102), 2) := by decide +kernel
theorem dX12_letter_14 : decode cX12_letter 14 = .ok (.ireturn, 1) := by decide +kernel
theorem dX12_letter_15 : decode cX12_letter 15 = .ok (.aload_n 0, 1) := by decide +kernel
theorem dX12_letter_16 : decode cX12_letter 16 = .ok (.getfield 107, 3) := by decide +kernel
theorem dX12_letter_19 : decode cX12_letter 19 = .ok (.bipush 64, 2) := by decide +kernel
theorem dX12_letter_21 : decode cX12_letter 21 = .ok (.if_icmp .ne 6, 3) := by decide +kernel
theorem dX12_letter_24 : decode cX12_letter 24 = .ok (.bipush (-104), 2) := by decide +kernel
theorem dX12_letter_26 : decode cX12_letter 26 = .ok (.ireturn, 1) := by decide +kernel
theorem dX12_letter_27 : decode cX12_letter 27 = .ok (.aload_n 0, 1) := by decide +kernel
theorem dX12_letter_28 : decode cX12_letter 28 = .ok (.getfield 7, 3) := by decide +kernel
theorem dX12_letter_31 : decode cX12_letter 31 = .ok (.aload_n 0, 1) := by decide +kernel
theorem dX12_letter_32 : decode cX12_letter 32 = .ok (.getfield 107, 3) := by decide +kernel
theorem dX12_letter_35 : decode cX12_letter 35 = .ok (.iload_n 1, 1) := by decide +kernel
theorem dX12_letter_36 : decode cX12_letter 36 = .ok (.iastore, 1) := by decide +kernel
theorem dX12_letter_37 : decode cX12_letter 37 = .ok (.aload_n 0, 1) := by decide +kernel
theorem dX12_letter_38 : decode cX12_letter 38 = .ok (.dup, 1) := by decide +kernel
theorem dX12_letter_39 : decode cX12_letter 39 = .ok (.getfield 107, 3) := by decide +kernel
theorem dX12_letter_42 : decode cX12_letter 42 = .ok (.iconst 1, 1) := by decide +kernel
theorem dX12_letter_43 : decode cX12_letter 43 = .ok (.iadd, 1) := by decide +kernel
theorem dX12_letter_44 : decode cX12_letter 44 = .ok (.putfield 107, 3) := by decide +kernel
theorem dX12_letter_47 : decode cX12_letter 47 = .ok (.aload_n 0, 1) := by decide +kernel
theorem dX12_letter_48 : decode cX12_letter 48 = .ok (.getfield 107, 3) := by decide +kernel
theorem dX12_letter_51 : decode cX12_letter 51 = .ok (.ireturn, 1) := by decide +kernel
theorem dX12_blank_0 : decode cX12_blank 0 = .ok (.aload_n 0, 1) := by decide +kernel
theorem dX12_blank_1 : decode cX12_blank 1 = .ok (.getfield 107, 3) := by decide +kernel
theorem dX12_blank_4 : decode cX12_blank 4 = .ok (.istore_n 1, 1) := by decide +kernel
theorem dX12_blank_5 : decode cX12_blank 5 = .ok (.aload_n 0, 1) := by decide +kernel
theorem dX12_blank_6 : decode cX12_blank 6 = .ok (.iconst 0, 1) := by decide +kernel
theorem dX12_blank_7 : decode cX12_blank 7 = .ok (.putfield 107, 3) := by decide +kernel
theorem dX12_blank_10 : decode cX12_blank 10 = .ok (.iload_n 1, 1) := by decide +kernel
theorem dX12_blank_11 : decode cX12_blank 11 = .ok (.ireturn, 1) := by decide +kernel
theorem dX12_kindBy_0 : decode cX12_kindBy 0 = .ok (.iload_n 0, 1) := by decide +kernel
theorem dX12_kindBy_1 : decode cX12_kindBy 1 = .ok (.lookupswitch 61 #[(98, 55), (100, 59), (104, 57), (112, 51), (114, 53)], 51) := by decide +kernel
theorem dX12_kindBy_52 : decode cX12_kindBy 52 = .ok (.iconst 0, 1) := by decide +kernel
theorem dX12_kindBy_53 : decode cX12_kindBy 53 = .ok (.ireturn, 1) := by decide +kernel
theorem dX12_kindBy_54 : decode cX12_kindBy 54 = .ok (.iconst 1, 1) := by decide +kernel
theorem dX12_kindBy_55 : decode cX12_kindBy 55 = .ok (.ireturn, 1) := by decide +kernel
theorem dX12_kindBy_56 : decode cX12_kindBy 56 = .ok (.iconst 2, 1) := by decide +kernel
theorem dX12_kindBy_57 : decode cX12_kindBy 57 = .ok (.ireturn, 1) := by decide +kernel
theorem dX12_kindBy_58 : decode cX12_kindBy 58 = .ok (.iconst 3, 1) := by decide +kernel
theorem dX12_kindBy_59 : decode cX12_kindBy 59 = .ok (.ireturn, 1) := by decide +kernel
theorem dX12_kindBy_60 : decode cX12_kindBy 60 = .ok (.iconst 4, 1) := by decide +kernel
theorem dX12_kindBy_61 : decode cX12_kindBy 61 = .ok (.ireturn, 1) := by decide +kernel
theorem dX12_kindBy_62 : decode cX12_kindBy 62 = .ok (.iconst (-1), 1) := by decide +kernel
theorem dX12_kindBy_63 : decode cX12_kindBy 63 = .ok (.ireturn, 1) := by decide +kernel
theorem dX12_lockBy_0 : decode cX12_lockBy 0 = .ok (.iload_n 0, 1) := by decide +kernel
theorem dX12_lockBy_1 : decode cX12_lockBy 1 = .ok (.bipush 111, 2) := by decide +kernel
theorem dX12_lockBy_3 : decode cX12_lockBy 3 = .ok (.if_icmp .ne 7, 3) := by decide +kernel
theorem dX12_lockBy_6 : decode cX12_lockBy 6 = .ok (.iconst (-1), 1) := by decide +kernel
theorem dX12_lockBy_7 : decode cX12_lockBy 7 = .ok (.goto 7, 3) := by decide +kernel
theorem dX12_lockBy_10 : decode cX12_lockBy 10 = .ok (.iload_n 0, 1) := by decide +kernel
theorem dX12_lockBy_11 : decode cX12_lockBy 11 = .ok (.bipush 97, 2) := by decide +kernel
theorem dX12_lockBy_13 : decode cX12_lockBy 13 = .ok (.isub, 1) := by decide +kernel
theorem dX12_lockBy_14 : decode cX12_lockBy 14 = .ok (.ireturn, 1) := by decide +kernel
theorem dX12_isRoomLetter_0 : decode cX12_isRoomLetter 0 = .ok (.iload_n 1, 1) := by decide +kernel
theorem dX12_isRoomLetter_1 : decode cX12_isRoomLetter 1 = .ok (.i2l, 1) := by decide +kernel
theorem dX12_isRoomLetter_2 : decode cX12_isRoomLetter 2 = .ok (.ldc2_w 110, 3) := by decide +kernel
theorem dX12_isRoomLetter_5 : decode cX12_isRoomLetter 5 = .ok (.aload_n 0, 1) := by decide +kernel
theorem dX12_isRoomLetter_6 : decode cX12_isRoomLetter 6 = .ok (.getfield 7, 3) := by decide +kernel
theorem dX12_isRoomLetter_9 : decode cX12_isRoomLetter 9 = .ok (.iconst 0, 1) := by decide +kernel
theorem dX12_isRoomLetter_10 : decode cX12_isRoomLetter 10 = .ok (.iaload, 1) := by decide +kernel
theorem dX12_isRoomLetter_11 : decode cX12_isRoomLetter 11 = .ok (.iconst 1, 1) := by decide +kernel
theorem dX12_isRoomLetter_12 : decode cX12_isRoomLetter 12 = .ok (.isub, 1) := by decide +kernel
theorem dX12_isRoomLetter_13 : decode cX12_isRoomLetter 13 = .ok (.i2l, 1) := by decide +kernel
theorem dX12_isRoomLetter_14 : decode cX12_isRoomLetter 14 = .ok (.invokestatic 103, 3) := by decide +kernel
theorem dX12_isRoomLetter_17 : decode cX12_isRoomLetter 17 = .ok (.ireturn, 1) := by decide +kernel
theorem dX12_isDoorLetter_0 : decode cX12_isDoorLetter 0 = .ok (.aload_n 0, 1) := by decide +kernel
theorem dX12_isDoorLetter_1 : decode cX12_isDoorLetter 1 = .ok (.getfield 7, 3) := by decide +kernel
theorem dX12_isDoorLetter_4 : decode cX12_isDoorLetter 4 = .ok (.iload_n 1, 1) := by decide +kernel
theorem dX12_isDoorLetter_5 : decode cX12_isDoorLetter 5 = .ok (.iaload, 1) := by decide +kernel
theorem dX12_isDoorLetter_6 : decode cX12_isDoorLetter 6 = .ok (.istore_n 2, 1) := by decide +kernel
theorem dX12_isDoorLetter_7 : decode cX12_isDoorLetter 7 = .ok (.iload_n 1, 1) := by decide +kernel
theorem dX12_isDoorLetter_8 : decode cX12_isDoorLetter 8 = .ok (.iconst 2, 1) := by decide +kernel
theorem dX12_isDoorLetter_9 : decode cX12_isDoorLetter 9 = .ok (.isub, 1) := by decide +kernel
theorem dX12_isDoorLetter_10 : decode cX12_isDoorLetter 10 = .ok (.iconst 4, 1) := by decide +kernel
theorem dX12_isDoorLetter_11 : decode cX12_isDoorLetter 11 = .ok (.irem, 1) := by decide +kernel
theorem dX12_isDoorLetter_12 : decode cX12_isDoorLetter 12 = .ok (.tableswitch 84 0 2 #[28, 34, 60], 28) := by decide +kernel
theorem dX12_isDoorLetter_40 : decode cX12_isDoorLetter 40 = .ok (.aload_n 0, 1) := by decide +kernel
theorem dX12_isDoorLetter_41 : decode cX12_isDoorLetter 41 = .ok (.iload_n 2, 1) := by decide +kernel
theorem dX12_isDoorLetter_42 : decode cX12_isDoorLetter 42 = .ok (.invokevirtual 112, 3) := by decide +kernel
theorem dX12_isDoorLetter_45 : decode cX12_isDoorLetter 45 = .ok (.ireturn, 1) := by decide +kernel
theorem dX12_isDoorLetter_46 : decode cX12_isDoorLetter 46 = .ok (.aload_n 0, 1) := by decide +kernel
theorem dX12_isDoorLetter_47 : decode cX12_isDoorLetter 47 = .ok (.iload_n 2, 1) := by decide +kernel
theorem dX12_isDoorLetter_48 : decode cX12_isDoorLetter 48 = .ok (.invokevirtual 112, 3) := by decide +kernel
theorem dX12_isDoorLetter_51 : decode cX12_isDoorLetter 51 = .ok (.ifCond .eq 19, 3) := by decide +kernel
theorem dX12_isDoorLetter_54 : decode cX12_isDoorLetter 54 = .ok (.iload_n 2, 1) := by decide +kernel
theorem dX12_isDoorLetter_55 : decode cX12_isDoorLetter 55 = .ok (.aload_n 0, 1) := by decide +kernel
theorem dX12_isDoorLetter_56 : decode cX12_isDoorLetter 56 = .ok (.getfield 7, 3) := by decide +kernel
theorem dX12_isDoorLetter_59 : decode cX12_isDoorLetter 59 = .ok (.iload_n 1, 1) := by decide +kernel
theorem dX12_isDoorLetter_60 : decode cX12_isDoorLetter 60 = .ok (.iconst 1, 1) := by decide +kernel
theorem dX12_isDoorLetter_61 : decode cX12_isDoorLetter 61 = .ok (.isub, 1) := by decide +kernel
theorem dX12_isDoorLetter_62 : decode cX12_isDoorLetter 62 = .ok (.iaload, 1) := by decide +kernel
theorem dX12_isDoorLetter_63 : decode cX12_isDoorLetter 63 = .ok (.if_icmp .eq 7, 3) := by decide +kernel
theorem dX12_isDoorLetter_66 : decode cX12_isDoorLetter 66 = .ok (.iconst 1, 1) := by decide +kernel
theorem dX12_isDoorLetter_67 : decode cX12_isDoorLetter 67 = .ok (.goto 4, 3) := by decide +kernel
theorem dX12_isDoorLetter_70 : decode cX12_isDoorLetter 70 = .ok (.iconst 0, 1) := by decide +kernel
theorem dX12_isDoorLetter_71 : decode cX12_isDoorLetter 71 = .ok (.ireturn, 1) := by decide +kernel
theorem dX12_isDoorLetter_72 : decode cX12_isDoorLetter 72 = .ok (.iload_n 2, 1) := by decide +kernel
theorem dX12_isDoorLetter_73 : decode cX12_isDoorLetter 73 = .ok (.bipush 111, 2) := by decide +kernel
theorem dX12_isDoorLetter_75 : decode cX12_isDoorLetter 75 = .ok (.if_icmp .eq 15, 3) := by decide +kernel
theorem dX12_isDoorLetter_78 : decode cX12_isDoorLetter 78 = .ok (.iload_n 2, 1) := by decide +kernel
theorem dX12_isDoorLetter_79 : decode cX12_isDoorLetter 79 = .ok (.bipush 97, 2) := by decide +kernel
theorem dX12_isDoorLetter_81 : decode cX12_isDoorLetter 81 = .ok (.if_icmp .eq 9, 3) := by decide +kernel
theorem dX12_isDoorLetter_84 : decode cX12_isDoorLetter 84 = .ok (.iload_n 2, 1) := by decide +kernel
theorem dX12_isDoorLetter_85 : decode cX12_isDoorLetter 85 = .ok (.bipush 98, 2) := by decide +kernel
theorem dX12_isDoorLetter_87 : decode cX12_isDoorLetter 87 = .ok (.if_icmp .ne 7, 3) := by decide +kernel
theorem dX12_isDoorLetter_90 : decode cX12_isDoorLetter 90 = .ok (.iconst 1, 1) := by decide +kernel
theorem dX12_isDoorLetter_91 : decode cX12_isDoorLetter 91 = .ok (.goto 4, 3) := by decide +kernel
theorem dX12_isDoorLetter_94 : decode cX12_isDoorLetter 94 = .ok (.iconst 0, 1) := by decide +kernel
theorem dX12_isDoorLetter_95 : decode cX12_isDoorLetter 95 = .ok (.ireturn, 1) := by decide +kernel
theorem dX12_isDoorLetter_96 : decode cX12_isDoorLetter 96 = .ok (.iload_n 2, 1) := by decide +kernel
theorem dX12_isDoorLetter_97 : decode cX12_isDoorLetter 97 = .ok (.bipush 59, 2) := by decide +kernel
theorem dX12_isDoorLetter_99 : decode cX12_isDoorLetter 99 = .ok (.if_icmp .ne 10, 3) := by decide +kernel
theorem dX12_isDoorLetter_102 : decode cX12_isDoorLetter 102 = .ok (.aload_n 0, 1) := by decide +kernel
theorem dX12_isDoorLetter_103 : decode cX12_isDoorLetter 103 = .ok (.iload_n 1, 1) := by decide +kernel
theorem dX12_isDoorLetter_104 : decode cX12_isDoorLetter 104 = .ok (.putfield 116, 3) := by decide +kernel
theorem dX12_isDoorLetter_107 : decode cX12_isDoorLetter 107 = .ok (.iconst 1, 1) := by decide +kernel
theorem dX12_isDoorLetter_108 : decode cX12_isDoorLetter 108 = .ok (.ireturn, 1) := by decide +kernel
theorem dX12_isDoorLetter_109 : decode cX12_isDoorLetter 109 = .ok (.iload_n 2, 1) := by decide +kernel
theorem dX12_isDoorLetter_110 : decode cX12_isDoorLetter 110 = .ok (.bipush 44, 2) := by decide +kernel
theorem dX12_isDoorLetter_112 : decode cX12_isDoorLetter 112 = .ok (.if_icmp .ne 13, 3) := by decide +kernel
theorem dX12_isDoorLetter_115 : decode cX12_isDoorLetter 115 = .ok (.iload_n 1, 1) := by decide +kernel
theorem dX12_isDoorLetter_116 : decode cX12_isDoorLetter 116 = .ok (.bipush 25, 2) := by decide +kernel
theorem dX12_isDoorLetter_118 : decode cX12_isDoorLetter 118 = .ok (.if_icmp .ge 7, 3) := by decide +kernel
theorem dX12_isDoorLetter_121 : decode cX12_isDoorLetter 121 = .ok (.iconst 1, 1) := by decide +kernel
theorem dX12_isDoorLetter_122 : decode cX12_isDoorLetter 122 = .ok (.goto 4, 3) := by decide +kernel
theorem dX12_isDoorLetter_125 : decode cX12_isDoorLetter 125 = .ok (.iconst 0, 1) := by decide +kernel
theorem dX12_isDoorLetter_126 : decode cX12_isDoorLetter 126 = .ok (.ireturn, 1) := by decide +kernel
theorem dX12_isPersonLetter_0 : decode cX12_isPersonLetter 0 = .ok (.aload_n 0, 1) := by decide +kernel
theorem dX12_isPersonLetter_1 : decode cX12_isPersonLetter 1 = .ok (.getfield 7, 3) := by decide +kernel
theorem dX12_isPersonLetter_4 : decode cX12_isPersonLetter 4 = .ok (.iload_n 1, 1) := by decide +kernel
theorem dX12_isPersonLetter_5 : decode cX12_isPersonLetter 5 = .ok (.iaload, 1) := by decide +kernel
theorem dX12_isPersonLetter_6 : decode cX12_isPersonLetter 6 = .ok (.istore_n 2, 1) := by decide +kernel
theorem dX12_isPersonLetter_7 : decode cX12_isPersonLetter 7 = .ok (.iload_n 1, 1) := by decide +kernel
theorem dX12_isPersonLetter_8 : decode cX12_isPersonLetter 8 = .ok (.aload_n 0, 1) := by decide +kernel
theorem dX12_isPersonLetter_9 : decode cX12_isPersonLetter 9 = .ok (.getfield 116, 3) := by decide +kernel
theorem dX12_isPersonLetter_12 : decode cX12_isPersonLetter 12 = .ok (.isub, 1) := by decide +kernel
theorem dX12_isPersonLetter_13 : decode cX12_isPersonLetter 13 = .ok (.iconst 1, 1) := by decide +kernel
theorem dX12_isPersonLetter_14 : decode cX12_isPersonLetter 14 = .ok (.isub, 1) := by decide +kernel
theorem dX12_isPersonLetter_15 : decode cX12_isPersonLetter 15 = .ok (.istore_n 3, 1) := by decide +kernel
theorem dX12_isPersonLetter_16 : decode cX12_isPersonLetter 16 = .ok (.iload_n 3, 1) := by decide +kernel
theorem dX12_isPersonLetter_17 : decode cX12_isPersonLetter 17 = .ok (.iconst 4, 1) := by decide +kernel
theorem dX12_isPersonLetter_18 : decode cX12_isPersonLetter 18 = .ok (.irem, 1) := by decide +kernel
theorem dX12_isPersonLetter_19 : decode cX12_isPersonLetter 19 = .ok (.tableswitch 57 0 2 #[25, 39, 51], 25) := by decide +kernel
theorem dX12_isPersonLetter_44 : decode cX12_isPersonLetter 44 = .ok (.iload_n 2, 1) := by decide +kernel
theorem dX12_isPersonLetter_45 : decode cX12_isPersonLetter 45 = .ok (.invokestatic 119, 3) := by decide +kernel
theorem dX12_isPersonLetter_48 : decode cX12_isPersonLetter 48 = .ok (.iconst (-1), 1) := by decide +kernel
theorem dX12_isPersonLetter_49 : decode cX12_isPersonLetter 49 = .ok (.if_icmp .eq 7, 3) := by decide +kernel
theorem dX12_isPersonLetter_52 : decode cX12_isPersonLetter 52 = .ok (.iconst 1, 1) := by decide +kernel
theorem dX12_isPersonLetter_53 : decode cX12_isPersonLetter 53 = .ok (.goto 4, 3) := by decide +kernel
theorem dX12_isPersonLetter_56 : decode cX12_isPersonLetter 56 = .ok (.iconst 0, 1) := by decide +kernel
theorem dX12_isPersonLetter_57 : decode cX12_isPersonLetter 57 = .ok (.ireturn, 1) := by decide +kernel
theorem dX12_isPersonLetter_58 : decode cX12_isPersonLetter 58 = .ok (.iload_n 2, 1) := by decide +kernel
theorem dX12_isPersonLetter_59 : decode cX12_isPersonLetter 59 = .ok (.i2l, 1) := by decide +kernel
theorem dX12_isPersonLetter_60 : decode cX12_isPersonLetter 60 = .ok (.ldc2_w 110, 3) := by decide +kernel
theorem dX12_isPersonLetter_63 : decode cX12_isPersonLetter 63 = .ok (.ldc2_w 123, 3) := by decide +kernel
theorem dX12_isPersonLetter_66 : decode cX12_isPersonLetter 66 = .ok (.invokestatic 103, 3) := by decide +kernel
theorem dX12_isPersonLetter_69 : decode cX12_isPersonLetter 69 = .ok (.ireturn, 1) := by decide +kernel
theorem dX12_isPersonLetter_70 : decode cX12_isPersonLetter 70 = .ok (.aload_n 0, 1) := by decide +kernel
theorem dX12_isPersonLetter_71 : decode cX12_isPersonLetter 71 = .ok (.iload_n 2, 1) := by decide +kernel
theorem dX12_isPersonLetter_72 : decode cX12_isPersonLetter 72 = .ok (.invokevirtual 112, 3) := by decide +kernel
theorem dX12_isPersonLetter_75 : decode cX12_isPersonLetter 75 = .ok (.ireturn, 1) := by decide +kernel
theorem dX12_isPersonLetter_76 : decode cX12_isPersonLetter 76 = .ok (.iload_n 2, 1) := by decide +kernel
theorem dX12_isPersonLetter_77 : decode cX12_isPersonLetter 77 = .ok (.bipush 59, 2) := by decide +kernel
theorem dX12_isPersonLetter_79 : decode cX12_isPersonLetter 79 = .ok (.if_icmp .ne 15, 3) := by decide +kernel
theorem dX12_isPersonLetter_82 : decode cX12_isPersonLetter 82 = .ok (.iload_n 3, 1) := by decide +kernel
theorem dX12_isPersonLetter_83 : decode cX12_isPersonLetter 83 = .ok (.iconst 3, 1) := by decide +kernel
theorem dX12_isPersonLetter_84 : decode cX12_isPersonLetter 84 = .ok (.if_icmp .le 10, 3) := by decide +kernel
theorem dX12_isPersonLetter_87 : decode cX12_isPersonLetter 87 = .ok (.aload_n 0, 1) := by decide +kernel
theorem dX12_isPersonLetter_88 : decode cX12_isPersonLetter 88 = .ok (.iload_n 1, 1) := by decide +kernel
theorem dX12_isPersonLetter_89 : decode cX12_isPersonLetter 89 = .ok (.putfield 125, 3) := by decide +kernel
theorem dX12_isPersonLetter_92 : decode cX12_isPersonLetter 92 = .ok (.iconst 1, 1) := by decide +kernel
theorem dX12_isPersonLetter_93 : decode cX12_isPersonLetter 93 = .ok (.ireturn, 1) := by decide +kernel
theorem dX12_isPersonLetter_94 : decode cX12_isPersonLetter 94 = .ok (.iload_n 2, 1) := by decide +kernel
theorem dX12_isPersonLetter_95 : decode cX12_isPersonLetter 95 = .ok (.bipush 44, 2) := by decide +kernel
theorem dX12_isPersonLetter_97 : decode cX12_isPersonLetter 97 = .ok (.if_icmp .ne 13, 3) := by decide +kernel
theorem dX12_isPersonLetter_100 : decode cX12_isPersonLetter 100 = .ok (.iload_n 3, 1) := by decide +kernel
theorem dX12_isPersonLetter_101 : decode cX12_isPersonLetter 101 = .ok (.bipush 15, 2) := by decide +kernel
theorem dX12_isPersonLetter_103 : decode cX12_isPersonLetter 103 = .ok (.if_icmp .ge 7, 3) := by decide +kernel
theorem dX12_isPersonLetter_106 : decode cX12_isPersonLetter 106 = .ok (.iconst 1, 1) := by decide +kernel
theorem dX12_isPersonLetter_107 : decode cX12_isPersonLetter 107 = .ok (.goto 4, 3) := by decide +kernel
theorem dX12_isPersonLetter_110 : decode cX12_isPersonLetter 110 = .ok (.iconst 0, 1) := by decide +kernel
theorem dX12_isPersonLetter_111 : decode cX12_isPersonLetter 111 = .ok (.ireturn, 1) := by decide +kernel
theorem dX12_isPersonDigit_0 : decode cX12_isPersonDigit 0 = .ok (.iload_n 1, 1) := by decide +kernel
theorem dX12_isPersonDigit_1 : decode cX12_isPersonDigit 1 = .ok (.i2l, 1) := by decide +kernel
theorem dX12_isPersonDigit_2 : decode cX12_isPersonDigit 2 = .ok (.ldc2_w 110, 3) := by decide +kernel
theorem dX12_isPersonDigit_5 : decode cX12_isPersonDigit 5 = .ok (.bipush 48, 2) := by decide +kernel
theorem dX12_isPersonDigit_7 : decode cX12_isPersonDigit 7 = .ok (.aload_n 0, 1) := by decide +kernel
theorem dX12_isPersonDigit_8 : decode cX12_isPersonDigit 8 = .ok (.getfield 125, 3) := by decide +kernel
theorem dX12_isPersonDigit_11 : decode cX12_isPersonDigit 11 = .ok (.aload_n 0, 1) := by decide +kernel
theorem dX12_isPersonDigit_12 : decode cX12_isPersonDigit 12 = .ok (.getfield 116, 3) := by decide +kernel
theorem dX12_isPersonDigit_15 : decode cX12_isPersonDigit 15 = .ok (.isub, 1) := by decide +kernel
theorem dX12_isPersonDigit_16 : decode cX12_isPersonDigit 16 = .ok (.iconst 4, 1) := by decide +kernel
theorem dX12_isPersonDigit_17 : decode cX12_isPersonDigit 17 = .ok (.idiv, 1) := by decide +kernel
theorem dX12_isPersonDigit_18 : decode cX12_isPersonDigit 18 = .ok (.iadd, 1) := by decide +kernel
theorem dX12_isPersonDigit_19 : decode cX12_isPersonDigit 19 = .ok (.iconst 1, 1) := by decide +kernel
theorem dX12_isPersonDigit_20 : decode cX12_isPersonDigit 20 = .ok (.isub, 1) := by decide +kernel
theorem dX12_isPersonDigit_21 : decode cX12_isPersonDigit 21 = .ok (.i2l, 1) := by decide +kernel
theorem dX12_isPersonDigit_22 : decode cX12_isPersonDigit 22 = .ok (.invokestatic 103, 3) := by decide +kernel
theorem dX12_isPersonDigit_25 : decode cX12_isPersonDigit 25 = .ok (.ireturn, 1) := by decide +kernel
theorem dX12_isDebtLetter_0 : decode cX12_isDebtLetter 0 = .ok (.aload_n 0, 1) := by decide +kernel
theorem dX12_isDebtLetter_1 : decode cX12_isDebtLetter 1 = .ok (.getfield 7, 3) := by decide +kernel
theorem dX12_isDebtLetter_4 : decode cX12_isDebtLetter 4 = .ok (.iload_n 1, 1) := by decide +kernel
theorem dX12_isDebtLetter_5 : decode cX12_isDebtLetter 5 = .ok (.iaload, 1) := by decide +kernel
theorem dX12_isDebtLetter_6 : decode cX12_isDebtLetter 6 = .ok (.istore_n 2, 1) := by decide +kernel
theorem dX12_isDebtLetter_7 : decode cX12_isDebtLetter 7 = .ok (.iload_n 1, 1) := by decide +kernel
theorem dX12_isDebtLetter_8 : decode cX12_isDebtLetter 8 = .ok (.aload_n 0, 1) := by decide +kernel
theorem dX12_isDebtLetter_9 : decode cX12_isDebtLetter 9 = .ok (.getfield 125, 3) := by decide +kernel
theorem dX12_isDebtLetter_12 : decode cX12_isDebtLetter 12 = .ok (.isub, 1) := by decide +kernel
theorem dX12_isDebtLetter_13 : decode cX12_isDebtLetter 13 = .ok (.iconst 1, 1) := by decide +kernel
theorem dX12_isDebtLetter_14 : decode cX12_isDebtLetter 14 = .ok (.isub, 1) := by decide +kernel
theorem dX12_isDebtLetter_15 : decode cX12_isDebtLetter 15 = .ok (.istore_n 3, 1) := by decide +kernel
theorem dX12_isDebtLetter_16 : decode cX12_isDebtLetter 16 = .ok (.iload_n 3, 1) := by decide +kernel
theorem dX12_isDebtLetter_17 : decode cX12_isDebtLetter 17 = .ok (.iconst 5, 1) := by decide +kernel
theorem dX12_isDebtLetter_18 : decode cX12_isDebtLetter 18 = .ok (.irem, 1) := by decide +kernel
theorem dX12_isDebtLetter_19 : decode cX12_isDebtLetter 19 = .ok (.tableswitch 79 0 3 #[29, 35, 61, 67], 29) := by decide +kernel
theorem dX12_isDebtLetter_48 : decode cX12_isDebtLetter 48 = .ok (.aload_n 0, 1) := by decide +kernel
theorem dX12_isDebtLetter_49 : decode cX12_isDebtLetter 49 = .ok (.iload_n 2, 1) := by decide +kernel
theorem dX12_isDebtLetter_50 : decode cX12_isDebtLetter 50 = .ok (.invokevirtual 128, 3) := by decide +kernel
theorem dX12_isDebtLetter_53 : decode cX12_isDebtLetter 53 = .ok (.ireturn, 1) := by decide +kernel
theorem dX12_isDebtLetter_54 : decode cX12_isDebtLetter 54 = .ok (.aload_n 0, 1) := by decide +kernel
theorem dX12_isDebtLetter_55 : decode cX12_isDebtLetter 55 = .ok (.iload_n 2, 1) := by decide +kernel
theorem dX12_isDebtLetter_56 : decode cX12_isDebtLetter 56 = .ok (.invokevirtual 128, 3) := by decide +kernel
theorem dX12_isDebtLetter_59 : decode cX12_isDebtLetter 59 = .ok (.ifCond .eq 19, 3) := by decide +kernel
theorem dX12_isDebtLetter_62 : decode cX12_isDebtLetter 62 = .ok (.iload_n 2, 1) := by decide +kernel
theorem dX12_isDebtLetter_63 : decode cX12_isDebtLetter 63 = .ok (.aload_n 0, 1) := by decide +kernel
theorem dX12_isDebtLetter_64 : decode cX12_isDebtLetter 64 = .ok (.getfield 7, 3) := by decide +kernel
theorem dX12_isDebtLetter_67 : decode cX12_isDebtLetter 67 = .ok (.iload_n 1, 1) := by decide +kernel
theorem dX12_isDebtLetter_68 : decode cX12_isDebtLetter 68 = .ok (.iconst 1, 1) := by decide +kernel
theorem dX12_isDebtLetter_69 : decode cX12_isDebtLetter 69 = .ok (.isub, 1) := by decide +kernel
theorem dX12_isDebtLetter_70 : decode cX12_isDebtLetter 70 = .ok (.iaload, 1) := by decide +kernel
theorem dX12_isDebtLetter_71 : decode cX12_isDebtLetter 71 = .ok (.if_icmp .eq 7, 3) := by decide +kernel
theorem dX12_isDebtLetter_74 : decode cX12_isDebtLetter 74 = .ok (.iconst 1, 1) := by decide +kernel
theorem dX12_isDebtLetter_75 : decode cX12_isDebtLetter 75 = .ok (.goto 4, 3) := by decide +kernel
theorem dX12_isDebtLetter_78 : decode cX12_isDebtLetter 78 = .ok (.iconst 0, 1) := by decide +kernel
theorem dX12_isDebtLetter_79 : decode cX12_isDebtLetter 79 = .ok (.ireturn, 1) := by decide +kernel
theorem dX12_isDebtLetter_80 : decode cX12_isDebtLetter 80 = .ok (.aload_n 0, 1) := by decide +kernel
theorem dX12_isDebtLetter_81 : decode cX12_isDebtLetter 81 = .ok (.iload_n 2, 1) := by decide +kernel
theorem dX12_isDebtLetter_82 : decode cX12_isDebtLetter 82 = .ok (.invokevirtual 112, 3) := by decide +kernel
theorem dX12_isDebtLetter_85 : decode cX12_isDebtLetter 85 = .ok (.ireturn, 1) := by decide +kernel
theorem dX12_isDebtLetter_86 : decode cX12_isDebtLetter 86 = .ok (.iload_n 2, 1) := by decide +kernel
theorem dX12_isDebtLetter_87 : decode cX12_isDebtLetter 87 = .ok (.i2l, 1) := by decide +kernel
theorem dX12_isDebtLetter_88 : decode cX12_isDebtLetter 88 = .ok (.ldc2_w 131, 3) := by decide +kernel
theorem dX12_isDebtLetter_91 : decode cX12_isDebtLetter 91 = .ok (.ldc2_w 123, 3) := by decide +kernel
theorem dX12_isDebtLetter_94 : decode cX12_isDebtLetter 94 = .ok (.invokestatic 103, 3) := by decide +kernel
theorem dX12_isDebtLetter_97 : decode cX12_isDebtLetter 97 = .ok (.ireturn, 1) := by decide +kernel
theorem dX12_isDebtLetter_98 : decode cX12_isDebtLetter 98 = .ok (.iload_n 2, 1) := by decide +kernel
theorem dX12_isDebtLetter_99 : decode cX12_isDebtLetter 99 = .ok (.bipush 44, 2) := by decide +kernel
theorem dX12_isDebtLetter_101 : decode cX12_isDebtLetter 101 = .ok (.if_icmp .ne 13, 3) := by decide +kernel
theorem dX12_isDebtLetter_104 : decode cX12_isDebtLetter 104 = .ok (.iload_n 3, 1) := by decide +kernel
theorem dX12_isDebtLetter_105 : decode cX12_isDebtLetter 105 = .ok (.bipush 19, 2) := by decide +kernel
theorem dX12_isDebtLetter_107 : decode cX12_isDebtLetter 107 = .ok (.if_icmp .ge 7, 3) := by decide +kernel
theorem dX12_isDebtLetter_110 : decode cX12_isDebtLetter 110 = .ok (.iconst 1, 1) := by decide +kernel
theorem dX12_isDebtLetter_111 : decode cX12_isDebtLetter 111 = .ok (.goto 4, 3) := by decide +kernel
theorem dX12_isDebtLetter_114 : decode cX12_isDebtLetter 114 = .ok (.iconst 0, 1) := by decide +kernel
theorem dX12_isDebtLetter_115 : decode cX12_isDebtLetter 115 = .ok (.ireturn, 1) := by decide +kernel
theorem dX12_isGood_0 : decode cX12_isGood 0 = .ok (.iload_n 1, 1) := by decide +kernel
theorem dX12_isGood_1 : decode cX12_isGood 1 = .ok (.iconst 2, 1) := by decide +kernel
theorem dX12_isGood_2 : decode cX12_isGood 2 = .ok (.if_icmp .ge 43, 3) := by decide +kernel
theorem dX12_isGood_5 : decode cX12_isGood 5 = .ok (.iload_n 1, 1) := by decide +kernel
theorem dX12_isGood_6 : decode cX12_isGood 6 = .ok (.ifCond .ne 22, 3) := by decide +kernel
theorem dX12_isGood_9 : decode cX12_isGood 9 = .ok (.aload_n 0, 1) := by decide +kernel
theorem dX12_isGood_10 : decode cX12_isGood 10 = .ok (.getfield 7, 3) := by decide +kernel
theorem dX12_isGood_13 : decode cX12_isGood 13 = .ok (.iconst 0, 1) := by decide +kernel
theorem dX12_isGood_14 : decode cX12_isGood 14 = .ok (.iaload, 1) := by decide +kernel
theorem dX12_isGood_15 : decode cX12_isGood 15 = .ok (.i2l, 1) := by decide +kernel
theorem dX12_isGood_16 : decode cX12_isGood 16 = .ok (.ldc2_w 133, 3) := by decide +kernel
theorem dX12_isGood_19 : decode cX12_isGood 19 = .ok (.ldc2_w 135, 3) := by decide +kernel
theorem dX12_isGood_22 : decode cX12_isGood 22 = .ok (.invokestatic 103, 3) := by decide +kernel
theorem dX12_isGood_25 : decode cX12_isGood 25 = .ok (.goto 19, 3) := by decide +kernel
theorem dX12_isGood_28 : decode cX12_isGood 28 = .ok (.aload_n 0, 1) := by decide +kernel
theorem dX12_isGood_29 : decode cX12_isGood 29 = .ok (.getfield 7, 3) := by decide +kernel
theorem dX12_isGood_32 : decode cX12_isGood 32 = .ok (.iconst 1, 1) := by decide +kernel
theorem dX12_isGood_33 : decode cX12_isGood 33 = .ok (.iaload, 1) := by decide +kernel
theorem dX12_isGood_34 : decode cX12_isGood 34 = .ok (.bipush 59, 2) := by decide +kernel
theorem dX12_isGood_36 : decode cX12_isGood 36 = .ok (.if_icmp .ne 7, 3) := by decide +kernel
theorem dX12_isGood_39 : decode cX12_isGood 39 = .ok (.iconst 1, 1) := by decide +kernel
theorem dX12_isGood_40 : decode cX12_isGood 40 = .ok (.goto 4, 3) := by decide +kernel
theorem dX12_isGood_43 : decode cX12_isGood 43 = .ok (.iconst 0, 1) := by decide +kernel
theorem dX12_isGood_44 : decode cX12_isGood 44 = .ok (.ireturn, 1) := by decide +kernel
theorem dX12_isGood_45 : decode cX12_isGood 45 = .ok (.aload_n 0, 1) := by decide +kernel
theorem dX12_isGood_46 : decode cX12_isGood 46 = .ok (.getfield 116, 3) := by decide +kernel
theorem dX12_isGood_49 : decode cX12_isGood 49 = .ok (.ifCond .ne 9, 3) := by decide +kernel
theorem dX12_isGood_52 : decode cX12_isGood 52 = .ok (.aload_n 0, 1) := by decide +kernel
theorem dX12_isGood_53 : decode cX12_isGood 53 = .ok (.iload_n 1, 1) := by decide +kernel
theorem dX12_isGood_54 : decode cX12_isGood 54 = .ok (.invokevirtual 137, 3) := by decide +kernel
theorem dX12_isGood_57 : decode cX12_isGood 57 = .ok (.ireturn, 1) := by decide +kernel
theorem dX12_isGood_58 : decode cX12_isGood 58 = .ok (.aload_n 0, 1) := by decide +kernel
theorem dX12_isGood_59 : decode cX12_isGood 59 = .ok (.getfield 125, 3) := by decide +kernel
theorem dX12_isGood_62 : decode cX12_isGood 62 = .ok (.ifCond .ne 11, 3) := by decide +kernel
theorem dX12_isGood_65 : decode cX12_isGood 65 = .ok (.aload_n 0, 1) := by decide +kernel
theorem dX12_isGood_66 : decode cX12_isGood 66 = .ok (.iload_n 1, 1) := by decide +kernel
theorem dX12_isGood_67 : decode cX12_isGood 67 = .ok (.invokevirtual 140, 3) := by decide +kernel
theorem dX12_isGood_70 : decode cX12_isGood 70 = .ok (.goto 8, 3) := by decide +kernel
theorem dX12_isGood_73 : decode cX12_isGood 73 = .ok (.aload_n 0, 1) := by decide +kernel
theorem dX12_isGood_74 : decode cX12_isGood 74 = .ok (.iload_n 1, 1) := by decide +kernel
theorem dX12_isGood_75 : decode cX12_isGood 75 = .ok (.invokevirtual 143, 3) := by decide +kernel
theorem dX12_isGood_78 : decode cX12_isGood 78 = .ok (.ireturn, 1) := by decide +kernel
theorem dX12_faultOf_0 : decode cX12_faultOf 0 = .ok (.aload_n 0, 1) := by decide +kernel
theorem dX12_faultOf_1 : decode cX12_faultOf 1 = .ok (.iconst 0, 1) := by decide +kernel
theorem dX12_faultOf_2 : decode cX12_faultOf 2 = .ok (.putfield 116, 3) := by decide +kernel
theorem dX12_faultOf_5 : decode cX12_faultOf 5 = .ok (.aload_n 0, 1) := by decide +kernel
theorem dX12_faultOf_6 : decode cX12_faultOf 6 = .ok (.iconst 0, 1) := by decide +kernel
theorem dX12_faultOf_7 : decode cX12_faultOf 7 = .ok (.putfield 125, 3) := by decide +kernel
theorem dX12_faultOf_10 : decode cX12_faultOf 10 = .ok (.iconst 0, 1) := by decide +kernel
theorem dX12_faultOf_11 : decode cX12_faultOf 11 = .ok (.istore_n 1, 1) := by decide +kernel
theorem dX12_faultOf_12 : decode cX12_faultOf 12 = .ok (.iload_n 1, 1) := by decide +kernel
theorem dX12_faultOf_13 : decode cX12_faultOf 13 = .ok (.aload_n 0, 1) := by decide +kernel
theorem dX12_faultOf_14 : decode cX12_faultOf 14 = .ok (.getfield 107, 3) := by decide +kernel
theorem dX12_faultOf_17 : decode cX12_faultOf 17 = .ok (.if_icmp .ge 17, 3) := by decide +kernel
theorem dX12_faultOf_20 : decode cX12_faultOf 20 = .ok (.aload_n 0, 1) := by decide +kernel
theorem dX12_faultOf_21 : decode cX12_faultOf 21 = .ok (.iload_n 1, 1) := by decide +kernel
theorem dX12_faultOf_22 : decode cX12_faultOf 22 = .ok (.invokevirtual 146, 3) := by decide +kernel
theorem dX12_faultOf_25 : decode cX12_faultOf 25 = .ok (.ifCond .eq 9, 3) := by decide +kernel
theorem dX12_faultOf_28 : decode cX12_faultOf 28 = .ok (.iinc 1 1, 3) := by decide +kernel
theorem dX12_faultOf_31 : decode cX12_faultOf 31 = .ok (.goto (-19), 3) := by decide +kernel
theorem dX12_faultOf_34 : decode cX12_faultOf 34 = .ok (.iload_n 1, 1) := by decide +kernel
theorem dX12_faultOf_35 : decode cX12_faultOf 35 = .ok (.ireturn, 1) := by decide +kernel
theorem dX12_fault_0 : decode cX12_fault 0 = .ok (.aload_n 0, 1) := by decide +kernel
theorem dX12_fault_1 : decode cX12_fault 1 = .ok (.invokevirtual 149, 3) := by decide +kernel
theorem dX12_fault_4 : decode cX12_fault 4 = .ok (.ireturn, 1) := by decide +kernel
theorem dX12_house_0 : decode cX12_house 0 = .ok (.aload_n 0, 1) := by decide +kernel
theorem dX12_house_1 : decode cX12_house 1 = .ok (.invokevirtual 149, 3) := by decide +kernel
theorem dX12_house_4 : decode cX12_house 4 = .ok (.aload_n 0, 1) := by decide +kernel
theorem dX12_house_5 : decode cX12_house 5 = .ok (.getfield 107, 3) := by decide +kernel
theorem dX12_house_8 : decode cX12_house 8 = .ok (.if_icmp .lt 24, 3) := by decide +kernel
theorem dX12_house_11 : decode cX12_house 11 = .ok (.aload_n 0, 1) := by decide +kernel
theorem dX12_house_12 : decode cX12_house 12 = .ok (.getfield 125, 3) := by decide +kernel
theorem dX12_house_15 : decode cX12_house 15 = .ok (.ifCond .eq 17, 3) := by decide +kernel
theorem dX12_house_18 : decode cX12_house 18 = .ok (.aload_n 0, 1) := by decide +kernel
theorem dX12_house_19 : decode cX12_house 19 = .ok (.getfield 107, 3) := by decide +kernel
theorem dX12_house_22 : decode cX12_house 22 = .ok (.aload_n 0, 1) := by decide +kernel
theorem dX12_house_23 : decode cX12_house 23 = .ok (.getfield 125, 3) := by decide +kernel
theorem dX12_house_26 : decode cX12_house 26 = .ok (.isub, 1) := by decide +kernel
theorem dX12_house_27 : decode cX12_house 27 = .ok (.iconst 5, 1) := by decide +kernel
theorem dX12_house_28 : decode cX12_house 28 = .ok (.irem, 1) := by decide +kernel
theorem dX12_house_29 : decode cX12_house 29 = .ok (.ifCond .eq 6, 3) := by decide +kernel
theorem dX12_house_32 : decode cX12_house 32 = .ok (.bipush (-103), 2) := by decide +kernel
theorem dX12_house_34 : decode cX12_house 34 = .ok (.ireturn, 1) := by decide +kernel
theorem dX12_house_35 : decode cX12_house 35 = .ok (.aload_n 0, 1) := by decide +kernel
theorem dX12_house_36 : decode cX12_house 36 = .ok (.aload_n 0, 1) := by decide +kernel
theorem dX12_house_37 : decode cX12_house 37 = .ok (.getfield 7, 3) := by decide +kernel
theorem dX12_house_40 : decode cX12_house 40 = .ok (.iconst 0, 1) := by decide +kernel
theorem dX12_house_41 : decode cX12_house 41 = .ok (.iaload, 1) := by decide +kernel
theorem dX12_house_42 : decode cX12_house 42 = .ok (.bipush 48, 2) := by decide +kernel
theorem dX12_house_44 : decode cX12_house 44 = .ok (.isub, 1) := by decide +kernel
theorem dX12_house_45 : decode cX12_house 45 = .ok (.putfield 153, 3) := by decide +kernel
theorem dX12_house_48 : decode cX12_house 48 = .ok (.aload_n 0, 1) := by decide +kernel
theorem dX12_house_49 : decode cX12_house 49 = .ok (.aload_n 0, 1) := by decide +kernel
theorem dX12_house_50 : decode cX12_house 50 = .ok (.getfield 116, 3) := by decide +kernel
theorem dX12_house_53 : decode cX12_house 53 = .ok (.iconst 1, 1) := by decide +kernel
theorem dX12_house_54 : decode cX12_house 54 = .ok (.isub, 1) := by decide +kernel
theorem dX12_house_55 : decode cX12_house 55 = .ok (.iconst 4, 1) := by decide +kernel
theorem dX12_house_56 : decode cX12_house 56 = .ok (.idiv, 1) := by decide +kernel
theorem dX12_house_57 : decode cX12_house 57 = .ok (.putfield 156, 3) := by decide +kernel
theorem dX12_house_60 : decode cX12_house 60 = .ok (.aload_n 0, 1) := by decide +kernel
theorem dX12_house_61 : decode cX12_house 61 = .ok (.aload_n 0, 1) := by decide +kernel
theorem dX12_house_62 : decode cX12_house 62 = .ok (.getfield 125, 3) := by decide +kernel
theorem dX12_house_65 : decode cX12_house 65 = .ok (.aload_n 0, 1) := by decide +kernel
theorem dX12_house_66 : decode cX12_house 66 = .ok (.getfield 116, 3) := by decide +kernel
theorem dX12_house_69 : decode cX12_house 69 = .ok (.isub, 1) := by decide +kernel
theorem dX12_house_70 : decode cX12_house 70 = .ok (.iconst 4, 1) := by decide +kernel
theorem dX12_house_71 : decode cX12_house 71 = .ok (.idiv, 1) := by decide +kernel
theorem dX12_house_72 : decode cX12_house 72 = .ok (.putfield 159, 3) := by decide +kernel
theorem dX12_house_75 : decode cX12_house 75 = .ok (.aload_n 0, 1) := by decide +kernel
theorem dX12_house_76 : decode cX12_house 76 = .ok (.aload_n 0, 1) := by decide +kernel
theorem dX12_house_77 : decode cX12_house 77 = .ok (.getfield 107, 3) := by decide +kernel
theorem dX12_house_80 : decode cX12_house 80 = .ok (.aload_n 0, 1) := by decide +kernel
theorem dX12_house_81 : decode cX12_house 81 = .ok (.getfield 125, 3) := by decide +kernel
theorem dX12_house_84 : decode cX12_house 84 = .ok (.isub, 1) := by decide +kernel
theorem dX12_house_85 : decode cX12_house 85 = .ok (.iconst 5, 1) := by decide +kernel
theorem dX12_house_86 : decode cX12_house 86 = .ok (.idiv, 1) := by decide +kernel
theorem dX12_house_87 : decode cX12_house 87 = .ok (.putfield 162, 3) := by decide +kernel
theorem dX12_house_90 : decode cX12_house 90 = .ok (.iconst 0, 1) := by decide +kernel
theorem dX12_house_91 : decode cX12_house 91 = .ok (.istore_n 1, 1) := by decide +kernel
theorem dX12_house_92 : decode cX12_house 92 = .ok (.iload_n 1, 1) := by decide +kernel
theorem dX12_house_93 : decode cX12_house 93 = .ok (.aload_n 0, 1) := by decide +kernel
theorem dX12_house_94 : decode cX12_house 94 = .ok (.getfield 156, 3) := by decide +kernel
theorem dX12_house_97 : decode cX12_house 97 = .ok (.if_icmp .ge 66, 3) := by decide +kernel
theorem dX12_house_100 : decode cX12_house 100 = .ok (.aload_n 0, 1) := by decide +kernel
theorem dX12_house_101 : decode cX12_house 101 = .ok (.getfield 13, 3) := by decide +kernel
theorem dX12_house_104 : decode cX12_house 104 = .ok (.iload_n 1, 1) := by decide +kernel
theorem dX12_house_105 : decode cX12_house 105 = .ok (.aload_n 0, 1) := by decide +kernel
theorem dX12_house_106 : decode cX12_house 106 = .ok (.getfield 7, 3) := by decide +kernel
theorem dX12_house_109 : decode cX12_house 109 = .ok (.iconst 2, 1) := by decide +kernel
theorem dX12_house_110 : decode cX12_house 110 = .ok (.iconst 4, 1) := by decide +kernel
theorem dX12_house_111 : decode cX12_house 111 = .ok (.iload_n 1, 1) := by decide +kernel
theorem dX12_house_112 : decode cX12_house 112 = .ok (.imul, 1) := by decide +kernel
theorem dX12_house_113 : decode cX12_house 113 = .ok (.iadd, 1) := by decide +kernel
theorem dX12_house_114 : decode cX12_house 114 = .ok (.iaload, 1) := by decide +kernel
theorem dX12_house_115 : decode cX12_house 115 = .ok (.bipush 48, 2) := by decide +kernel
theorem dX12_house_117 : decode cX12_house 117 = .ok (.isub, 1) := by decide +kernel
theorem dX12_house_118 : decode cX12_house 118 = .ok (.iastore, 1) := by decide +kernel
theorem dX12_house_119 : decode cX12_house 119 = .ok (.aload_n 0, 1) := by decide +kernel
theorem dX12_house_120 : decode cX12_house 120 = .ok (.getfield 16, 3) := by decide +kernel
theorem dX12_house_123 : decode cX12_house 123 = .ok (.iload_n 1, 1) := by decide +kernel
theorem dX12_house_124 : decode cX12_house 124 = .ok (.aload_n 0, 1) := by decide +kernel
theorem dX12_house_125 : decode cX12_house 125 = .ok (.getfield 7, 3) := by decide +kernel
theorem dX12_house_128 : decode cX12_house 128 = .ok (.iconst 3, 1) := by decide +kernel
theorem dX12_house_129 : decode cX12_house 129 = .ok (.iconst 4, 1) := by decide +kernel
theorem dX12_house_130 : decode cX12_house 130 = .ok (.iload_n 1, 1) := by decide +kernel
theorem dX12_house_131 : decode cX12_house 131 = .ok (.imul, 1) := by decide +kernel
theorem dX12_house_132 : decode cX12_house 132 = .ok (.iadd, 1) := by decide +kernel
theorem dX12_house_133 : decode cX12_house 133 = .ok (.iaload, 1) := by decide +kernel
theorem dX12_house_134 : decode cX12_house 134 = .ok (.bipush 48, 2) := by decide +kernel
theorem dX12_house_136 : decode cX12_house 136 = .ok (.isub, 1) := by decide +kernel
theorem dX12_house_137 : decode cX12_house 137 = .ok (.iastore, 1) := by decide +kernel
theorem dX12_house_138 : decode cX12_house 138 = .ok (.aload_n 0, 1) := by decide +kernel
theorem dX12_house_139 : decode cX12_house 139 = .ok (.getfield 19, 3) := by decide +kernel
theorem dX12_house_142 : decode cX12_house 142 = .ok (.iload_n 1, 1) := by decide +kernel
theorem dX12_house_143 : decode cX12_house 143 = .ok (.aload_n 0, 1) := by decide +kernel
theorem dX12_house_144 : decode cX12_house 144 = .ok (.getfield 7, 3) := by decide +kernel
theorem dX12_house_147 : decode cX12_house 147 = .ok (.iconst 4, 1) := by decide +kernel
theorem dX12_house_148 : decode cX12_house 148 = .ok (.iconst 4, 1) := by decide +kernel
theorem dX12_house_149 : decode cX12_house 149 = .ok (.iload_n 1, 1) := by decide +kernel
theorem dX12_house_150 : decode cX12_house 150 = .ok (.imul, 1) := by decide +kernel
theorem dX12_house_151 : decode cX12_house 151 = .ok (.iadd, 1) := by decide +kernel
theorem dX12_house_152 : decode cX12_house 152 = .ok (.iaload, 1) := by decide +kernel
theorem dX12_house_153 : decode cX12_house 153 = .ok (.invokestatic 165, 3) := by decide +kernel
theorem dX12_house_156 : decode cX12_house 156 = .ok (.iastore, 1) := by decide +kernel
theorem dX12_house_157 : decode cX12_house 157 = .ok (.iinc 1 1, 3) := by decide +kernel
theorem dX12_house_160 : decode cX12_house 160 = .ok (.goto (-68), 3) := by decide +kernel
theorem dX12_house_163 : decode cX12_house 163 = .ok (.iconst 0, 1) := by decide +kernel
theorem dX12_house_164 : decode cX12_house 164 = .ok (.istore_n 1, 1) := by decide +kernel
theorem dX12_house_165 : decode cX12_house 165 = .ok (.iload_n 1, 1) := by decide +kernel
theorem dX12_house_166 : decode cX12_house 166 = .ok (.aload_n 0, 1) := by decide +kernel
theorem dX12_house_167 : decode cX12_house 167 = .ok (.getfield 159, 3) := by decide +kernel
theorem dX12_house_170 : decode cX12_house 170 = .ok (.if_icmp .ge 69, 3) := by decide +kernel
theorem dX12_house_173 : decode cX12_house 173 = .ok (.aload_n 0, 1) := by decide +kernel
theorem dX12_house_174 : decode cX12_house 174 = .ok (.getfield 116, 3) := by decide +kernel
theorem dX12_house_177 : decode cX12_house 177 = .ok (.iconst 1, 1) := by decide +kernel
theorem dX12_house_178 : decode cX12_house 178 = .ok (.iadd, 1) := by decide +kernel
theorem dX12_house_179 : decode cX12_house 179 = .ok (.iconst 4, 1) := by decide +kernel
theorem dX12_house_180 : decode cX12_house 180 = .ok (.iload_n 1, 1) := by decide +kernel
theorem dX12_house_181 : decode cX12_house 181 = .ok (.imul, 1) := by decide +kernel
theorem dX12_house_182 : decode cX12_house 182 = .ok (.iadd, 1) := by decide +kernel
theorem dX12_house_183 : decode cX12_house 183 = .ok (.istore_n 2, 1) := by decide +kernel
theorem dX12_house_184 : decode cX12_house 184 = .ok (.aload_n 0, 1) := by decide +kernel
theorem dX12_house_185 : decode cX12_house 185 = .ok (.getfield 22, 3) := by decide +kernel
theorem dX12_house_188 : decode cX12_house 188 = .ok (.iload_n 1, 1) := by decide +kernel
theorem dX12_house_189 : decode cX12_house 189 = .ok (.aload_n 0, 1) := by decide +kernel
theorem dX12_house_190 : decode cX12_house 190 = .ok (.getfield 7, 3) := by decide +kernel
theorem dX12_house_193 : decode cX12_house 193 = .ok (.iload_n 2, 1) := by decide +kernel
theorem dX12_house_194 : decode cX12_house 194 = .ok (.iaload, 1) := by decide +kernel
theorem dX12_house_195 : decode cX12_house 195 = .ok (.invokestatic 119, 3) := by decide +kernel
theorem dX12_house_198 : decode cX12_house 198 = .ok (.iastore, 1) := by decide +kernel
theorem dX12_house_199 : decode cX12_house 199 = .ok (.aload_n 0, 1) := by decide +kernel
theorem dX12_house_200 : decode cX12_house 200 = .ok (.getfield 25, 3) := by decide +kernel
theorem dX12_house_203 : decode cX12_house 203 = .ok (.iload_n 1, 1) := by decide +kernel
theorem dX12_house_204 : decode cX12_house 204 = .ok (.aload_n 0, 1) := by decide +kernel
theorem dX12_house_205 : decode cX12_house 205 = .ok (.getfield 7, 3) := by decide +kernel
theorem dX12_house_208 : decode cX12_house 208 = .ok (.iload_n 2, 1) := by decide +kernel
theorem dX12_house_209 : decode cX12_house 209 = .ok (.iconst 1, 1) := by decide +kernel
theorem dX12_house_210 : decode cX12_house 210 = .ok (.iadd, 1) := by decide +kernel
theorem dX12_house_211 : decode cX12_house 211 = .ok (.iaload, 1) := by decide +kernel
theorem dX12_house_212 : decode cX12_house 212 = .ok (.bipush 48, 2) := by decide +kernel
theorem dX12_house_214 : decode cX12_house 214 = .ok (.isub, 1) := by decide +kernel
theorem dX12_house_215 : decode cX12_house 215 = .ok (.iastore, 1) := by decide +kernel
theorem dX12_house_216 : decode cX12_house 216 = .ok (.aload_n 0, 1) := by decide +kernel
theorem dX12_house_217 : decode cX12_house 217 = .ok (.getfield 28, 3) := by decide +kernel
theorem dX12_house_220 : decode cX12_house 220 = .ok (.iload_n 1, 1) := by decide +kernel
theorem dX12_house_221 : decode cX12_house 221 = .ok (.aload_n 0, 1) := by decide +kernel
theorem dX12_house_222 : decode cX12_house 222 = .ok (.getfield 7, 3) := by decide +kernel
theorem dX12_house_225 : decode cX12_house 225 = .ok (.iload_n 2, 1) := by decide +kernel
theorem dX12_house_226 : decode cX12_house 226 = .ok (.iconst 2, 1) := by decide +kernel
theorem dX12_house_227 : decode cX12_house 227 = .ok (.iadd, 1) := by decide +kernel
theorem dX12_house_228 : decode cX12_house 228 = .ok (.iaload, 1) := by decide +kernel
theorem dX12_house_229 : decode cX12_house 229 = .ok (.bipush 48, 2) := by decide +kernel
theorem dX12_house_231 : decode cX12_house 231 = .ok (.isub, 1) := by decide +kernel
theorem dX12_house_232 : decode cX12_house 232 = .ok (.iastore, 1) := by decide +kernel
theorem dX12_house_233 : decode cX12_house 233 = .ok (.iinc 1 1, 3) := by decide +kernel
theorem dX12_house_236 : decode cX12_house 236 = .ok (.goto (-71), 3) := by decide +kernel
theorem dX12_house_239 : decode cX12_house 239 = .ok (.iconst 0, 1) := by decide +kernel
theorem dX12_house_240 : decode cX12_house 240 = .ok (.istore_n 1, 1) := by decide +kernel
theorem dX12_house_241 : decode cX12_house 241 = .ok (.iload_n 1, 1) := by decide +kernel
theorem dX12_house_242 : decode cX12_house 242 = .ok (.aload_n 0, 1) := by decide +kernel
theorem dX12_house_243 : decode cX12_house 243 = .ok (.getfield 162, 3) := by decide +kernel
theorem dX12_house_246 : decode cX12_house 246 = .ok (.if_icmp .ge 93, 3) := by decide +kernel
theorem dX12_house_249 : decode cX12_house 249 = .ok (.aload_n 0, 1) := by decide +kernel
theorem dX12_house_250 : decode cX12_house 250 = .ok (.getfield 125, 3) := by decide +kernel
theorem dX12_house_253 : decode cX12_house 253 = .ok (.iconst 1, 1) := by decide +kernel
theorem dX12_house_254 : decode cX12_house 254 = .ok (.iadd, 1) := by decide +kernel
theorem dX12_house_255 : decode cX12_house 255 = .ok (.iconst 5, 1) := by decide +kernel
theorem dX12_house_256 : decode cX12_house 256 = .ok (.iload_n 1, 1) := by decide +kernel
theorem dX12_house_257 : decode cX12_house 257 = .ok (.imul, 1) := by decide +kernel
theorem dX12_house_258 : decode cX12_house 258 = .ok (.iadd, 1) := by decide +kernel
theorem dX12_house_259 : decode cX12_house 259 = .ok (.istore_n 2, 1) := by decide +kernel
theorem dX12_house_260 : decode cX12_house 260 = .ok (.aload_n 0, 1) := by decide +kernel
theorem dX12_house_261 : decode cX12_house 261 = .ok (.getfield 34, 3) := by decide +kernel
theorem dX12_house_264 : decode cX12_house 264 = .ok (.iload_n 1, 1) := by decide +kernel
theorem dX12_house_265 : decode cX12_house 265 = .ok (.aload_n 0, 1) := by decide +kernel
theorem dX12_house_266 : decode cX12_house 266 = .ok (.getfield 7, 3) := by decide +kernel
theorem dX12_house_269 : decode cX12_house 269 = .ok (.iload_n 2, 1) := by decide +kernel
theorem dX12_house_270 : decode cX12_house 270 = .ok (.iaload, 1) := by decide +kernel
theorem dX12_house_271 : decode cX12_house 271 = .ok (.bipush 48, 2) := by decide +kernel
theorem dX12_house_273 : decode cX12_house 273 = .ok (.isub, 1) := by decide +kernel
theorem dX12_house_274 : decode cX12_house 274 = .ok (.iastore, 1) := by decide +kernel
theorem dX12_house_275 : decode cX12_house 275 = .ok (.aload_n 0, 1) := by decide +kernel
theorem dX12_house_276 : decode cX12_house 276 = .ok (.getfield 37, 3) := by decide +kernel
theorem dX12_house_279 : decode cX12_house 279 = .ok (.iload_n 1, 1) := by decide +kernel
theorem dX12_house_280 : decode cX12_house 280 = .ok (.aload_n 0, 1) := by decide +kernel
theorem dX12_house_281 : decode cX12_house 281 = .ok (.getfield 7, 3) := by decide +kernel
theorem dX12_house_284 : decode cX12_house 284 = .ok (.iload_n 2, 1) := by decide +kernel
theorem dX12_house_285 : decode cX12_house 285 = .ok (.iconst 1, 1) := by decide +kernel
theorem dX12_house_286 : decode cX12_house 286 = .ok (.iadd, 1) := by decide +kernel
theorem dX12_house_287 : decode cX12_house 287 = .ok (.iaload, 1) := by decide +kernel
theorem dX12_house_288 : decode cX12_house 288 = .ok (.bipush 48, 2) := by decide +kernel
theorem dX12_house_290 : decode cX12_house 290 = .ok (.isub, 1) := by decide +kernel
theorem dX12_house_291 : decode cX12_house 291 = .ok (.iastore, 1) := by decide +kernel
theorem dX12_house_292 : decode cX12_house 292 = .ok (.aload_n 0, 1) := by decide +kernel
theorem dX12_house_293 : decode cX12_house 293 = .ok (.getfield 40, 3) := by decide +kernel
theorem dX12_house_296 : decode cX12_house 296 = .ok (.iload_n 1, 1) := by decide +kernel
theorem dX12_house_297 : decode cX12_house 297 = .ok (.aload_n 0, 1) := by decide +kernel
theorem dX12_house_298 : decode cX12_house 298 = .ok (.getfield 7, 3) := by decide +kernel
theorem dX12_house_301 : decode cX12_house 301 = .ok (.iload_n 2, 1) := by decide +kernel
theorem dX12_house_302 : decode cX12_house 302 = .ok (.iconst 2, 1) := by decide +kernel
theorem dX12_house_303 : decode cX12_house 303 = .ok (.iadd, 1) := by decide +kernel
theorem dX12_house_304 : decode cX12_house 304 = .ok (.iaload, 1) := by decide +kernel
theorem dX12_house_305 : decode cX12_house 305 = .ok (.bipush 48, 2) := by decide +kernel
theorem dX12_house_307 : decode cX12_house 307 = .ok (.isub, 1) := by decide +kernel
theorem dX12_house_308 : decode cX12_house 308 = .ok (.iastore, 1) := by decide +kernel
theorem dX12_house_309 : decode cX12_house 309 = .ok (.aload_n 0, 1) := by decide +kernel
theorem dX12_house_310 : decode cX12_house 310 = .ok (.getfield 43, 3) := by decide +kernel
theorem dX12_house_313 : decode cX12_house 313 = .ok (.iload_n 1, 1) := by decide +kernel
theorem dX12_house_314 : decode cX12_house 314 = .ok (.aload_n 0, 1) := by decide +kernel
theorem dX12_house_315 : decode cX12_house 315 = .ok (.getfield 7, 3) := by decide +kernel
theorem dX12_house_318 : decode cX12_house 318 = .ok (.iload_n 2, 1) := by decide +kernel
theorem dX12_house_319 : decode cX12_house 319 = .ok (.iconst 3, 1) := by decide +kernel
theorem dX12_house_320 : decode cX12_house 320 = .ok (.iadd, 1) := by decide +kernel
theorem dX12_house_321 : decode cX12_house 321 = .ok (.iaload, 1) := by decide +kernel
theorem dX12_house_322 : decode cX12_house 322 = .ok (.bipush 48, 2) := by decide +kernel
theorem dX12_house_324 : decode cX12_house 324 = .ok (.isub, 1) := by decide +kernel
theorem dX12_house_325 : decode cX12_house 325 = .ok (.iastore, 1) := by decide +kernel
theorem dX12_house_326 : decode cX12_house 326 = .ok (.aload_n 0, 1) := by decide +kernel
theorem dX12_house_327 : decode cX12_house 327 = .ok (.getfield 46, 3) := by decide +kernel
theorem dX12_house_330 : decode cX12_house 330 = .ok (.iload_n 1, 1) := by decide +kernel
theorem dX12_house_331 : decode cX12_house 331 = .ok (.iconst 0, 1) := by decide +kernel
theorem dX12_house_332 : decode cX12_house 332 = .ok (.iastore, 1) := by decide +kernel
theorem dX12_house_333 : decode cX12_house 333 = .ok (.iinc 1 1, 3) := by decide +kernel
theorem dX12_house_336 : decode cX12_house 336 = .ok (.goto (-95), 3) := by decide +kernel
theorem dX12_house_339 : decode cX12_house 339 = .ok (.aload_n 0, 1) := by decide +kernel
theorem dX12_house_340 : decode cX12_house 340 = .ok (.getfield 31, 3) := by decide +kernel
theorem dX12_house_343 : decode cX12_house 343 = .ok (.iconst 0, 1) := by decide +kernel
theorem dX12_house_344 : decode cX12_house 344 = .ok (.iconst 0, 1) := by decide +kernel
theorem dX12_house_345 : decode cX12_house 345 = .ok (.iastore, 1) := by decide +kernel
theorem dX12_house_346 : decode cX12_house 346 = .ok (.aload_n 0, 1) := by decide +kernel
theorem dX12_house_347 : decode cX12_house 347 = .ok (.getfield 31, 3) := by decide +kernel
theorem dX12_house_350 : decode cX12_house 350 = .ok (.iconst 1, 1) := by decide +kernel
theorem dX12_house_351 : decode cX12_house 351 = .ok (.iconst 1, 1) := by decide +kernel
theorem dX12_house_352 : decode cX12_house 352 = .ok (.iastore, 1) := by decide +kernel
theorem dX12_house_353 : decode cX12_house 353 = .ok (.aload_n 0, 1) := by decide +kernel
theorem dX12_house_354 : decode cX12_house 354 = .ok (.iconst 0, 1) := by decide +kernel
theorem dX12_house_355 : decode cX12_house 355 = .ok (.putfield 168, 3) := by decide +kernel
theorem dX12_house_358 : decode cX12_house 358 = .ok (.aload_n 0, 1) := by decide +kernel
theorem dX12_house_359 : decode cX12_house 359 = .ok (.iconst 0, 1) := by decide +kernel
theorem dX12_house_360 : decode cX12_house 360 = .ok (.putfield 171, 3) := by decide +kernel
theorem dX12_house_363 : decode cX12_house 363 = .ok (.aload_n 0, 1) := by decide +kernel
theorem dX12_house_364 : decode cX12_house 364 = .ok (.dup, 1) := by decide +kernel
theorem dX12_house_365 : decode cX12_house 365 = .ok (.getfield 174, 3) := by decide +kernel
theorem dX12_house_368 : decode cX12_house 368 = .ok (.iconst 1, 1) := by decide +kernel
theorem dX12_house_369 : decode cX12_house 369 = .ok (.iadd, 1) := by decide +kernel
theorem dX12_house_370 : decode cX12_house 370 = .ok (.putfield 174, 3) := by decide +kernel
theorem dX12_house_373 : decode cX12_house 373 = .ok (.aload_n 0, 1) := by decide +kernel
theorem dX12_house_374 : decode cX12_house 374 = .ok (.iconst 0, 1) := by decide +kernel
theorem dX12_house_375 : decode cX12_house 375 = .ok (.putfield 107, 3) := by decide +kernel
theorem dX12_house_378 : decode cX12_house 378 = .ok (.aload_n 0, 1) := by decide +kernel
theorem dX12_house_379 : decode cX12_house 379 = .ok (.getfield 159, 3) := by decide +kernel
theorem dX12_house_382 : decode cX12_house 382 = .ok (.ireturn, 1) := by decide +kernel
theorem dX12_lacks_0 : decode cX12_lacks 0 = .ok (.aload_n 0, 1) := by decide +kernel
theorem dX12_lacks_1 : decode cX12_lacks 1 = .ok (.getfield 159, 3) := by decide +kernel
theorem dX12_lacks_4 : decode cX12_lacks 4 = .ok (.ifCond .ne 7, 3) := by decide +kernel
theorem dX12_lacks_7 : decode cX12_lacks 7 = .ok (.iconst 1, 1) := by decide +kernel
theorem dX12_lacks_8 : decode cX12_lacks 8 = .ok (.goto 4, 3) := by decide +kernel
theorem dX12_lacks_11 : decode cX12_lacks 11 = .ok (.iconst 0, 1) := by decide +kernel
theorem dX12_lacks_12 : decode cX12_lacks 12 = .ok (.ireturn, 1) := by decide +kernel
theorem dX12_isPerson_0 : decode cX12_isPerson 0 = .ok (.iload_n 1, 1) := by decide +kernel
theorem dX12_isPerson_1 : decode cX12_isPerson 1 = .ok (.i2l, 1) := by decide +kernel
theorem dX12_isPerson_2 : decode cX12_isPerson 2 = .ok (.lconst 0, 1) := by decide +kernel
theorem dX12_isPerson_3 : decode cX12_isPerson 3 = .ok (.aload_n 0, 1) := by decide +kernel
theorem dX12_isPerson_4 : decode cX12_isPerson 4 = .ok (.getfield 159, 3) := by decide +kernel
theorem dX12_isPerson_7 : decode cX12_isPerson 7 = .ok (.iconst 1, 1) := by decide +kernel
theorem dX12_isPerson_8 : decode cX12_isPerson 8 = .ok (.isub, 1) := by decide +kernel
theorem dX12_isPerson_9 : decode cX12_isPerson 9 = .ok (.i2l, 1) := by decide +kernel
theorem dX12_isPerson_10 : decode cX12_isPerson 10 = .ok (.invokestatic 103, 3) := by decide +kernel
theorem dX12_isPerson_13 : decode cX12_isPerson 13 = .ok (.ireturn, 1) := by decide +kernel
theorem dX12_isDoor_0 : decode cX12_isDoor 0 = .ok (.iload_n 1, 1) := by decide +kernel
theorem dX12_isDoor_1 : decode cX12_isDoor 1 = .ok (.i2l, 1) := by decide +kernel
theorem dX12_isDoor_2 : decode cX12_isDoor 2 = .ok (.lconst 0, 1) := by decide +kernel
theorem dX12_isDoor_3 : decode cX12_isDoor 3 = .ok (.aload_n 0, 1) := by decide +kernel
theorem dX12_isDoor_4 : decode cX12_isDoor 4 = .ok (.getfield 156, 3) := by decide +kernel
theorem dX12_isDoor_7 : decode cX12_isDoor 7 = .ok (.iconst 1, 1) := by decide +kernel
theorem dX12_isDoor_8 : decode cX12_isDoor 8 = .ok (.isub, 1) := by decide +kernel
theorem dX12_isDoor_9 : decode cX12_isDoor 9 = .ok (.i2l, 1) := by decide +kernel
theorem dX12_isDoor_10 : decode cX12_isDoor 10 = .ok (.invokestatic 103, 3) := by decide +kernel
theorem dX12_isDoor_13 : decode cX12_isDoor 13 = .ok (.ireturn, 1) := by decide +kernel
theorem dX12_isDebt_0 : decode cX12_isDebt 0 = .ok (.iload_n 1, 1) := by decide +kernel
theorem dX12_isDebt_1 : decode cX12_isDebt 1 = .ok (.i2l, 1) := by decide +kernel
theorem dX12_isDebt_2 : decode cX12_isDebt 2 = .ok (.lconst 0, 1) := by decide +kernel
theorem dX12_isDebt_3 : decode cX12_isDebt 3 = .ok (.aload_n 0, 1) := by decide +kernel
theorem dX12_isDebt_4 : decode cX12_isDebt 4 = .ok (.getfield 162, 3) := by decide +kernel
theorem dX12_isDebt_7 : decode cX12_isDebt 7 = .ok (.iconst 1, 1) := by decide +kernel
theorem dX12_isDebt_8 : decode cX12_isDebt 8 = .ok (.isub, 1) := by decide +kernel
theorem dX12_isDebt_9 : decode cX12_isDebt 9 = .ok (.i2l, 1) := by decide +kernel
theorem dX12_isDebt_10 : decode cX12_isDebt 10 = .ok (.invokestatic 103, 3) := by decide +kernel
theorem dX12_isDebt_13 : decode cX12_isDebt 13 = .ok (.ireturn, 1) := by decide +kernel
theorem dX12_isRoom_0 : decode cX12_isRoom 0 = .ok (.iload_n 1, 1) := by decide +kernel
theorem dX12_isRoom_1 : decode cX12_isRoom 1 = .ok (.i2l, 1) := by decide +kernel
theorem dX12_isRoom_2 : decode cX12_isRoom 2 = .ok (.lconst 0, 1) := by decide +kernel
theorem dX12_isRoom_3 : decode cX12_isRoom 3 = .ok (.aload_n 0, 1) := by decide +kernel
theorem dX12_isRoom_4 : decode cX12_isRoom 4 = .ok (.getfield 153, 3) := by decide +kernel
theorem dX12_isRoom_7 : decode cX12_isRoom 7 = .ok (.iconst 1, 1) := by decide +kernel
theorem dX12_isRoom_8 : decode cX12_isRoom 8 = .ok (.isub, 1) := by decide +kernel
theorem dX12_isRoom_9 : decode cX12_isRoom 9 = .ok (.i2l, 1) := by decide +kernel
theorem dX12_isRoom_10 : decode cX12_isRoom 10 = .ok (.invokestatic 103, 3) := by decide +kernel
theorem dX12_isRoom_13 : decode cX12_isRoom 13 = .ok (.ireturn, 1) := by decide +kernel
theorem dX12_isRich_0 : decode cX12_isRich 0 = .ok (.aload_n 0, 1) := by decide +kernel
theorem dX12_isRich_1 : decode cX12_isRich 1 = .ok (.getfield 22, 3) := by decide +kernel
theorem dX12_isRich_4 : decode cX12_isRich 4 = .ok (.iload_n 1, 1) := by decide +kernel
theorem dX12_isRich_5 : decode cX12_isRich 5 = .ok (.iaload, 1) := by decide +kernel
theorem dX12_isRich_6 : decode cX12_isRich 6 = .ok (.iconst 1, 1) := by decide +kernel
theorem dX12_isRich_7 : decode cX12_isRich 7 = .ok (.if_icmp .eq 13, 3) := by decide +kernel
theorem dX12_isRich_10 : decode cX12_isRich 10 = .ok (.aload_n 0, 1) := by decide +kernel
theorem dX12_isRich_11 : decode cX12_isRich 11 = .ok (.getfield 22, 3) := by decide +kernel
theorem dX12_isRich_14 : decode cX12_isRich 14 = .ok (.iload_n 1, 1) := by decide +kernel
theorem dX12_isRich_15 : decode cX12_isRich 15 = .ok (.iaload, 1) := by decide +kernel
theorem dX12_isRich_16 : decode cX12_isRich 16 = .ok (.iconst 4, 1) := by decide +kernel
theorem dX12_isRich_17 : decode cX12_isRich 17 = .ok (.if_icmp .ne 7, 3) := by decide +kernel
theorem dX12_isRich_20 : decode cX12_isRich 20 = .ok (.iconst 1, 1) := by decide +kernel
theorem dX12_isRich_21 : decode cX12_isRich 21 = .ok (.goto 4, 3) := by decide +kernel
theorem dX12_isRich_24 : decode cX12_isRich 24 = .ok (.iconst 0, 1) := by decide +kernel
theorem dX12_isRich_25 : decode cX12_isRich 25 = .ok (.ireturn, 1) := by decide +kernel
theorem dX12_costs_0 : decode cX12_costs 0 = .ok (.aload_n 0, 1) := by decide +kernel
theorem dX12_costs_1 : decode cX12_costs 1 = .ok (.getfield 43, 3) := by decide +kernel
theorem dX12_costs_4 : decode cX12_costs 4 = .ok (.iload_n 1, 1) := by decide +kernel
theorem dX12_costs_5 : decode cX12_costs 5 = .ok (.iaload, 1) := by decide +kernel
theorem dX12_costs_6 : decode cX12_costs 6 = .ok (.aload_n 0, 1) := by decide +kernel
theorem dX12_costs_7 : decode cX12_costs 7 = .ok (.getfield 22, 3) := by decide +kernel
theorem dX12_costs_10 : decode cX12_costs 10 = .ok (.aload_n 0, 1) := by decide +kernel
theorem dX12_costs_11 : decode cX12_costs 11 = .ok (.getfield 34, 3) := by decide +kernel
theorem dX12_costs_14 : decode cX12_costs 14 = .ok (.iload_n 1, 1) := by decide +kernel
theorem dX12_costs_15 : decode cX12_costs 15 = .ok (.iaload, 1) := by decide +kernel
theorem dX12_costs_16 : decode cX12_costs 16 = .ok (.iaload, 1) := by decide +kernel
theorem dX12_costs_17 : decode cX12_costs 17 = .ok (.iconst 1, 1) := by decide +kernel
theorem dX12_costs_18 : decode cX12_costs 18 = .ok (.if_icmp .ne 7, 3) := by decide +kernel
theorem dX12_costs_21 : decode cX12_costs 21 = .ok (.iconst 1, 1) := by decide +kernel
theorem dX12_costs_22 : decode cX12_costs 22 = .ok (.goto 4, 3) := by decide +kernel
theorem dX12_costs_25 : decode cX12_costs 25 = .ok (.iconst 0, 1) := by decide +kernel
theorem dX12_costs_26 : decode cX12_costs 26 = .ok (.iadd, 1) := by decide +kernel
theorem dX12_costs_27 : decode cX12_costs 27 = .ok (.ireturn, 1) := by decide +kernel
theorem dX12_begin_0 : decode cX12_begin 0 = .ok (.aload_n 0, 1) := by decide +kernel
theorem dX12_begin_1 : decode cX12_begin 1 = .ok (.getfield 25, 3) := by decide +kernel
theorem dX12_begin_4 : decode cX12_begin 4 = .ok (.aload_n 0, 1) := by decide +kernel
theorem dX12_begin_5 : decode cX12_begin 5 = .ok (.getfield 49, 3) := by decide +kernel
theorem dX12_begin_8 : decode cX12_begin 8 = .ok (.invokestatic 177, 3) := by decide +kernel
theorem dX12_begin_11 : decode cX12_begin 11 = .ok (.aload_n 0, 1) := by decide +kernel
theorem dX12_begin_12 : decode cX12_begin 12 = .ok (.getfield 28, 3) := by decide +kernel
theorem dX12_begin_15 : decode cX12_begin 15 = .ok (.aload_n 0, 1) := by decide +kernel
theorem dX12_begin_16 : decode cX12_begin 16 = .ok (.getfield 52, 3) := by decide +kernel
theorem dX12_begin_19 : decode cX12_begin 19 = .ok (.invokestatic 177, 3) := by decide +kernel
theorem dX12_begin_22 : decode cX12_begin 22 = .ok (.aload_n 0, 1) := by decide +kernel
theorem dX12_begin_23 : decode cX12_begin 23 = .ok (.getfield 46, 3) := by decide +kernel
theorem dX12_begin_26 : decode cX12_begin 26 = .ok (.aload_n 0, 1) := by decide +kernel
theorem dX12_begin_27 : decode cX12_begin 27 = .ok (.getfield 55, 3) := by decide +kernel
theorem dX12_begin_30 : decode cX12_begin 30 = .ok (.invokestatic 177, 3) := by decide +kernel
theorem dX12_begin_33 : decode cX12_begin 33 = .ok (.return_, 1) := by decide +kernel
theorem dX12_through_0 : decode cX12_through 0 = .ok (.aload_n 0, 1) := by decide +kernel
theorem dX12_through_1 : decode cX12_through 1 = .ok (.iload_n 1, 1) := by decide +kernel
theorem dX12_through_2 : decode cX12_through 2 = .ok (.invokevirtual 181, 3) := by decide +kernel
theorem dX12_through_5 : decode cX12_through 5 = .ok (.ifCond .ne 42, 3) := by decide +kernel
theorem dX12_through_8 : decode cX12_through 8 = .ok (.aload_n 0, 1) := by decide +kernel
theorem dX12_through_9 : decode cX12_through 9 = .ok (.getfield 19, 3) := by decide +kernel
theorem dX12_through_12 : decode cX12_through 12 = .ok (.iload_n 2, 1) := by decide +kernel
theorem dX12_through_13 : decode cX12_through 13 = .ok (.iaload, 1) := by decide +kernel
theorem dX12_through_14 : decode cX12_through 14 = .ok (.iconst (-1), 1) := by decide +kernel
theorem dX12_through_15 : decode cX12_through 15 = .ok (.if_icmp .eq 28, 3) := by decide +kernel
theorem dX12_through_18 : decode cX12_through 18 = .ok (.aload_n 0, 1) := by decide +kernel
theorem dX12_through_19 : decode cX12_through 19 = .ok (.getfield 22, 3) := by decide +kernel
theorem dX12_through_22 : decode cX12_through 22 = .ok (.iload_n 1, 1) := by decide +kernel
theorem dX12_through_23 : decode cX12_through 23 = .ok (.iaload, 1) := by decide +kernel
theorem dX12_through_24 : decode cX12_through 24 = .ok (.iconst 2, 1) := by decide +kernel
theorem dX12_through_25 : decode cX12_through 25 = .ok (.if_icmp .eq 18, 3) := by decide +kernel
theorem dX12_through_28 : decode cX12_through 28 = .ok (.aload_n 0, 1) := by decide +kernel
theorem dX12_through_29 : decode cX12_through 29 = .ok (.getfield 31, 3) := by decide +kernel
theorem dX12_through_32 : decode cX12_through 32 = .ok (.aload_n 0, 1) := by decide +kernel
theorem dX12_through_33 : decode cX12_through 33 = .ok (.getfield 19, 3) := by decide +kernel
theorem dX12_through_36 : decode cX12_through 36 = .ok (.iload_n 2, 1) := by decide +kernel
theorem dX12_through_37 : decode cX12_through 37 = .ok (.iaload, 1) := by decide +kernel
theorem dX12_through_38 : decode cX12_through 38 = .ok (.iaload, 1) := by decide +kernel
theorem dX12_through_39 : decode cX12_through 39 = .ok (.iload_n 1, 1) := by decide +kernel
theorem dX12_through_40 : decode cX12_through 40 = .ok (.if_icmp .ne 7, 3) := by decide +kernel
theorem dX12_through_43 : decode cX12_through 43 = .ok (.iconst 1, 1) := by decide +kernel
theorem dX12_through_44 : decode cX12_through 44 = .ok (.goto 4, 3) := by decide +kernel
theorem dX12_through_47 : decode cX12_through 47 = .ok (.iconst 0, 1) := by decide +kernel
theorem dX12_through_48 : decode cX12_through 48 = .ok (.istore 4, 2) := by decide +kernel
theorem dX12_through_50 : decode cX12_through 50 = .ok (.aload_n 0, 1) := by decide +kernel
theorem dX12_through_51 : decode cX12_through 51 = .ok (.getfield 13, 3) := by decide +kernel
theorem dX12_through_54 : decode cX12_through 54 = .ok (.iload_n 2, 1) := by decide +kernel
theorem dX12_through_55 : decode cX12_through 55 = .ok (.iaload, 1) := by decide +kernel
theorem dX12_through_56 : decode cX12_through 56 = .ok (.iload_n 3, 1) := by decide +kernel
theorem dX12_through_57 : decode cX12_through 57 = .ok (.if_icmp .ne 12, 3) := by decide +kernel
theorem dX12_through_60 : decode cX12_through 60 = .ok (.aload_n 0, 1) := by decide +kernel
theorem dX12_through_61 : decode cX12_through 61 = .ok (.getfield 16, 3) := by decide +kernel
theorem dX12_through_64 : decode cX12_through 64 = .ok (.iload_n 2, 1) := by decide +kernel
theorem dX12_through_65 : decode cX12_through 65 = .ok (.iaload, 1) := by decide +kernel
theorem dX12_through_66 : decode cX12_through 66 = .ok (.goto 23, 3) := by decide +kernel
theorem dX12_through_69 : decode cX12_through 69 = .ok (.aload_n 0, 1) := by decide +kernel
theorem dX12_through_70 : decode cX12_through 70 = .ok (.getfield 16, 3) := by decide +kernel
theorem dX12_through_73 : decode cX12_through 73 = .ok (.iload_n 2, 1) := by decide +kernel
theorem dX12_through_74 : decode cX12_through 74 = .ok (.iaload, 1) := by decide +kernel
theorem dX12_through_75 : decode cX12_through 75 = .ok (.iload_n 3, 1) := by decide +kernel
theorem dX12_through_76 : decode cX12_through 76 = .ok (.if_icmp .ne 12, 3) := by decide +kernel
theorem dX12_through_79 : decode cX12_through 79 = .ok (.aload_n 0, 1) := by decide +kernel
theorem dX12_through_80 : decode cX12_through 80 = .ok (.getfield 13, 3) := by decide +kernel
theorem dX12_through_83 : decode cX12_through 83 = .ok (.iload_n 2, 1) := by decide +kernel
theorem dX12_through_84 : decode cX12_through 84 = .ok (.iaload, 1) := by decide +kernel
theorem dX12_through_85 : decode cX12_through 85 = .ok (.goto 4, 3) := by decide +kernel
theorem dX12_through_88 : decode cX12_through 88 = .ok (.iconst (-1), 1) := by decide +kernel
theorem dX12_through_89 : decode cX12_through 89 = .ok (.istore 5, 2) := by decide +kernel
theorem dX12_through_91 : decode cX12_through 91 = .ok (.iload 4, 2) := by decide +kernel
theorem dX12_through_93 : decode cX12_through 93 = .ok (.ifCond .eq 8, 3) := by decide +kernel
theorem dX12_through_96 : decode cX12_through 96 = .ok (.iload 5, 2) := by decide +kernel
theorem dX12_through_98 : decode cX12_through 98 = .ok (.goto 4, 3) := by decide +kernel
theorem dX12_through_101 : decode cX12_through 101 = .ok (.iconst (-1), 1) := by decide +kernel
theorem dX12_through_102 : decode cX12_through 102 = .ok (.ireturn, 1) := by decide +kernel
theorem dX12_mayThen_0 : decode cX12_mayThen 0 = .ok (.aload_n 0, 1) := by decide +kernel
theorem dX12_mayThen_1 : decode cX12_mayThen 1 = .ok (.getfield 34, 3) := by decide +kernel
theorem dX12_mayThen_4 : decode cX12_mayThen 4 = .ok (.iload_n 1, 1) := by decide +kernel
theorem dX12_mayThen_5 : decode cX12_mayThen 5 = .ok (.iaload, 1) := by decide +kernel
theorem dX12_mayThen_6 : decode cX12_mayThen 6 = .ok (.istore_n 2, 1) := by decide +kernel
theorem dX12_mayThen_7 : decode cX12_mayThen 7 = .ok (.aload_n 0, 1) := by decide +kernel
theorem dX12_mayThen_8 : decode cX12_mayThen 8 = .ok (.iload_n 2, 1) := by decide +kernel
theorem dX12_mayThen_9 : decode cX12_mayThen 9 = .ok (.invokevirtual 181, 3) := by decide +kernel
theorem dX12_mayThen_12 : decode cX12_mayThen 12 = .ok (.ifCond .ne 48, 3) := by decide +kernel
theorem dX12_mayThen_15 : decode cX12_mayThen 15 = .ok (.aload_n 0, 1) := by decide +kernel
theorem dX12_mayThen_16 : decode cX12_mayThen 16 = .ok (.getfield 52, 3) := by decide +kernel
theorem dX12_mayThen_19 : decode cX12_mayThen 19 = .ok (.iload_n 2, 1) := by decide +kernel
theorem dX12_mayThen_20 : decode cX12_mayThen 20 = .ok (.iaload, 1) := by decide +kernel
theorem dX12_mayThen_21 : decode cX12_mayThen 21 = .ok (.aload_n 0, 1) := by decide +kernel
theorem dX12_mayThen_22 : decode cX12_mayThen 22 = .ok (.getfield 40, 3) := by decide +kernel
theorem dX12_mayThen_25 : decode cX12_mayThen 25 = .ok (.iload_n 1, 1) := by decide +kernel
theorem dX12_mayThen_26 : decode cX12_mayThen 26 = .ok (.iaload, 1) := by decide +kernel
theorem dX12_mayThen_27 : decode cX12_mayThen 27 = .ok (.if_icmp .ne 37, 3) := by decide +kernel
theorem dX12_mayThen_30 : decode cX12_mayThen 30 = .ok (.aload_n 0, 1) := by decide +kernel
theorem dX12_mayThen_31 : decode cX12_mayThen 31 = .ok (.getfield 22, 3) := by decide +kernel
theorem dX12_mayThen_34 : decode cX12_mayThen 34 = .ok (.iload_n 2, 1) := by decide +kernel
theorem dX12_mayThen_35 : decode cX12_mayThen 35 = .ok (.iaload, 1) := by decide +kernel
theorem dX12_mayThen_36 : decode cX12_mayThen 36 = .ok (.iconst 3, 1) := by decide +kernel
theorem dX12_mayThen_37 : decode cX12_mayThen 37 = .ok (.if_icmp .eq 23, 3) := by decide +kernel
theorem dX12_mayThen_40 : decode cX12_mayThen 40 = .ok (.aload_n 0, 1) := by decide +kernel
theorem dX12_mayThen_41 : decode cX12_mayThen 41 = .ok (.getfield 52, 3) := by decide +kernel
theorem dX12_mayThen_44 : decode cX12_mayThen 44 = .ok (.aload_n 0, 1) := by decide +kernel
theorem dX12_mayThen_45 : decode cX12_mayThen 45 = .ok (.getfield 37, 3) := by decide +kernel
theorem dX12_mayThen_48 : decode cX12_mayThen 48 = .ok (.iload_n 1, 1) := by decide +kernel
theorem dX12_mayThen_49 : decode cX12_mayThen 49 = .ok (.iaload, 1) := by decide +kernel
theorem dX12_mayThen_50 : decode cX12_mayThen 50 = .ok (.iaload, 1) := by decide +kernel
theorem dX12_mayThen_51 : decode cX12_mayThen 51 = .ok (.aload_n 0, 1) := by decide +kernel
theorem dX12_mayThen_52 : decode cX12_mayThen 52 = .ok (.getfield 40, 3) := by decide +kernel
theorem dX12_mayThen_55 : decode cX12_mayThen 55 = .ok (.iload_n 1, 1) := by decide +kernel
theorem dX12_mayThen_56 : decode cX12_mayThen 56 = .ok (.iaload, 1) := by decide +kernel
theorem dX12_mayThen_57 : decode cX12_mayThen 57 = .ok (.if_icmp .ne 7, 3) := by decide +kernel
theorem dX12_mayThen_60 : decode cX12_mayThen 60 = .ok (.iconst 1, 1) := by decide +kernel
theorem dX12_mayThen_61 : decode cX12_mayThen 61 = .ok (.goto 4, 3) := by decide +kernel
theorem dX12_mayThen_64 : decode cX12_mayThen 64 = .ok (.iconst 0, 1) := by decide +kernel
theorem dX12_mayThen_65 : decode cX12_mayThen 65 = .ok (.istore_n 3, 1) := by decide +kernel
theorem dX12_mayThen_66 : decode cX12_mayThen 66 = .ok (.aload_n 0, 1) := by decide +kernel
theorem dX12_mayThen_67 : decode cX12_mayThen 67 = .ok (.getfield 55, 3) := by decide +kernel
theorem dX12_mayThen_70 : decode cX12_mayThen 70 = .ok (.iload_n 1, 1) := by decide +kernel
theorem dX12_mayThen_71 : decode cX12_mayThen 71 = .ok (.iaload, 1) := by decide +kernel
theorem dX12_mayThen_72 : decode cX12_mayThen 72 = .ok (.ifCond .ne 25, 3) := by decide +kernel
theorem dX12_mayThen_75 : decode cX12_mayThen 75 = .ok (.aload_n 0, 1) := by decide +kernel
theorem dX12_mayThen_76 : decode cX12_mayThen 76 = .ok (.getfield 49, 3) := by decide +kernel
theorem dX12_mayThen_79 : decode cX12_mayThen 79 = .ok (.iload_n 2, 1) := by decide +kernel
theorem dX12_mayThen_80 : decode cX12_mayThen 80 = .ok (.iaload, 1) := by decide +kernel
theorem dX12_mayThen_81 : decode cX12_mayThen 81 = .ok (.aload_n 0, 1) := by decide +kernel
theorem dX12_mayThen_82 : decode cX12_mayThen 82 = .ok (.iload_n 1, 1) := by decide +kernel
theorem dX12_mayThen_83 : decode cX12_mayThen 83 = .ok (.invokevirtual 184, 3) := by decide +kernel
theorem dX12_mayThen_86 : decode cX12_mayThen 86 = .ok (.if_icmp .lt 11, 3) := by decide +kernel
theorem dX12_mayThen_89 : decode cX12_mayThen 89 = .ok (.iload_n 3, 1) := by decide +kernel
theorem dX12_mayThen_90 : decode cX12_mayThen 90 = .ok (.ifCond .eq 7, 3) := by decide +kernel
theorem dX12_mayThen_93 : decode cX12_mayThen 93 = .ok (.iconst 1, 1) := by decide +kernel
theorem dX12_mayThen_94 : decode cX12_mayThen 94 = .ok (.goto 4, 3) := by decide +kernel
theorem dX12_mayThen_97 : decode cX12_mayThen 97 = .ok (.iconst 0, 1) := by decide +kernel
theorem dX12_mayThen_98 : decode cX12_mayThen 98 = .ok (.ireturn, 1) := by decide +kernel
theorem dX12_payThen_0 : decode cX12_payThen 0 = .ok (.aload_n 0, 1) := by decide +kernel
theorem dX12_payThen_1 : decode cX12_payThen 1 = .ok (.getfield 49, 3) := by decide +kernel
theorem dX12_payThen_4 : decode cX12_payThen 4 = .ok (.aload_n 0, 1) := by decide +kernel
theorem dX12_payThen_5 : decode cX12_payThen 5 = .ok (.getfield 34, 3) := by decide +kernel
theorem dX12_payThen_8 : decode cX12_payThen 8 = .ok (.iload_n 1, 1) := by decide +kernel
theorem dX12_payThen_9 : decode cX12_payThen 9 = .ok (.iaload, 1) := by decide +kernel
theorem dX12_payThen_10 : decode cX12_payThen 10 = .ok (.dup2, 1) := by decide +kernel
theorem dX12_payThen_11 : decode cX12_payThen 11 = .ok (.iaload, 1) := by decide +kernel
theorem dX12_payThen_12 : decode cX12_payThen 12 = .ok (.aload_n 0, 1) := by decide +kernel
theorem dX12_payThen_13 : decode cX12_payThen 13 = .ok (.iload_n 1, 1) := by decide +kernel
theorem dX12_payThen_14 : decode cX12_payThen 14 = .ok (.invokevirtual 184, 3) := by decide +kernel
theorem dX12_payThen_17 : decode cX12_payThen 17 = .ok (.isub, 1) := by decide +kernel
theorem dX12_payThen_18 : decode cX12_payThen 18 = .ok (.iastore, 1) := by decide +kernel
theorem dX12_payThen_19 : decode cX12_payThen 19 = .ok (.aload_n 0, 1) := by decide +kernel
theorem dX12_payThen_20 : decode cX12_payThen 20 = .ok (.getfield 49, 3) := by decide +kernel
theorem dX12_payThen_23 : decode cX12_payThen 23 = .ok (.aload_n 0, 1) := by decide +kernel
theorem dX12_payThen_24 : decode cX12_payThen 24 = .ok (.getfield 37, 3) := by decide +kernel
theorem dX12_payThen_27 : decode cX12_payThen 27 = .ok (.iload_n 1, 1) := by decide +kernel
theorem dX12_payThen_28 : decode cX12_payThen 28 = .ok (.iaload, 1) := by decide +kernel
theorem dX12_payThen_29 : decode cX12_payThen 29 = .ok (.iaload, 1) := by decide +kernel
theorem dX12_payThen_30 : decode cX12_payThen 30 = .ok (.aload_n 0, 1) := by decide +kernel
theorem dX12_payThen_31 : decode cX12_payThen 31 = .ok (.getfield 43, 3) := by decide +kernel
theorem dX12_payThen_34 : decode cX12_payThen 34 = .ok (.iload_n 1, 1) := by decide +kernel
theorem dX12_payThen_35 : decode cX12_payThen 35 = .ok (.iaload, 1) := by decide +kernel
theorem dX12_payThen_36 : decode cX12_payThen 36 = .ok (.iadd, 1) := by decide +kernel
theorem dX12_payThen_37 : decode cX12_payThen 37 = .ok (.istore_n 2, 1) := by decide +kernel
theorem dX12_payThen_38 : decode cX12_payThen 38 = .ok (.aload_n 0, 1) := by decide +kernel
theorem dX12_payThen_39 : decode cX12_payThen 39 = .ok (.getfield 49, 3) := by decide +kernel
theorem dX12_payThen_42 : decode cX12_payThen 42 = .ok (.aload_n 0, 1) := by decide +kernel
theorem dX12_payThen_43 : decode cX12_payThen 43 = .ok (.getfield 37, 3) := by decide +kernel
theorem dX12_payThen_46 : decode cX12_payThen 46 = .ok (.iload_n 1, 1) := by decide +kernel
theorem dX12_payThen_47 : decode cX12_payThen 47 = .ok (.iaload, 1) := by decide +kernel
theorem dX12_payThen_48 : decode cX12_payThen 48 = .ok (.iload_n 2, 1) := by decide +kernel
theorem dX12_payThen_49 : decode cX12_payThen 49 = .ok (.bipush 99, 2) := by decide +kernel
theorem dX12_payThen_51 : decode cX12_payThen 51 = .ok (.if_icmp .le 8, 3) := by decide +kernel
theorem dX12_payThen_54 : decode cX12_payThen 54 = .ok (.bipush 99, 2) := by decide +kernel
theorem dX12_payThen_56 : decode cX12_payThen 56 = .ok (.goto 4, 3) := by decide +kernel
theorem dX12_payThen_59 : decode cX12_payThen 59 = .ok (.iload_n 2, 1) := by decide +kernel
theorem dX12_payThen_60 : decode cX12_payThen 60 = .ok (.iastore, 1) := by decide +kernel
theorem dX12_payThen_61 : decode cX12_payThen 61 = .ok (.aload_n 0, 1) := by decide +kernel
theorem dX12_payThen_62 : decode cX12_payThen 62 = .ok (.getfield 55, 3) := by decide +kernel
theorem dX12_payThen_65 : decode cX12_payThen 65 = .ok (.iload_n 1, 1) := by decide +kernel
theorem dX12_payThen_66 : decode cX12_payThen 66 = .ok (.iconst 1, 1) := by decide +kernel
theorem dX12_payThen_67 : decode cX12_payThen 67 = .ok (.iastore, 1) := by decide +kernel
theorem dX12_payThen_68 : decode cX12_payThen 68 = .ok (.return_, 1) := by decide +kernel
theorem dX12_keysOf_0 : decode cX12_keysOf 0 = .ok (.aload_n 0, 1) := by decide +kernel
theorem dX12_keysOf_1 : decode cX12_keysOf 1 = .ok (.getfield 31, 3) := by decide +kernel
theorem dX12_keysOf_4 : decode cX12_keysOf 4 = .ok (.iconst 0, 1) := by decide +kernel
theorem dX12_keysOf_5 : decode cX12_keysOf 5 = .ok (.iaload, 1) := by decide +kernel
theorem dX12_keysOf_6 : decode cX12_keysOf 6 = .ok (.iload_n 1, 1) := by decide +kernel
theorem dX12_keysOf_7 : decode cX12_keysOf 7 = .ok (.if_icmp .ne 7, 3) := by decide +kernel
theorem dX12_keysOf_10 : decode cX12_keysOf 10 = .ok (.iconst 1, 1) := by decide +kernel
theorem dX12_keysOf_11 : decode cX12_keysOf 11 = .ok (.goto 4, 3) := by decide +kernel
theorem dX12_keysOf_14 : decode cX12_keysOf 14 = .ok (.iconst 0, 1) := by decide +kernel
theorem dX12_keysOf_15 : decode cX12_keysOf 15 = .ok (.aload_n 0, 1) := by decide +kernel
theorem dX12_keysOf_16 : decode cX12_keysOf 16 = .ok (.getfield 31, 3) := by decide +kernel
theorem dX12_keysOf_19 : decode cX12_keysOf 19 = .ok (.iconst 1, 1) := by decide +kernel
theorem dX12_keysOf_20 : decode cX12_keysOf 20 = .ok (.iaload, 1) := by decide +kernel
theorem dX12_keysOf_21 : decode cX12_keysOf 21 = .ok (.iload_n 1, 1) := by decide +kernel
theorem dX12_keysOf_22 : decode cX12_keysOf 22 = .ok (.if_icmp .ne 7, 3) := by decide +kernel
theorem dX12_keysOf_25 : decode cX12_keysOf 25 = .ok (.iconst 2, 1) := by decide +kernel
theorem dX12_keysOf_26 : decode cX12_keysOf 26 = .ok (.goto 4, 3) := by decide +kernel
theorem dX12_keysOf_29 : decode cX12_keysOf 29 = .ok (.iconst 0, 1) := by decide +kernel
theorem dX12_keysOf_30 : decode cX12_keysOf 30 = .ok (.iadd, 1) := by decide +kernel
theorem dX12_keysOf_31 : decode cX12_keysOf 31 = .ok (.ireturn, 1) := by decide +kernel
theorem dX12_doorsOf_0 : decode cX12_doorsOf 0 = .ok (.iconst 0, 1) := by decide +kernel
theorem dX12_doorsOf_1 : decode cX12_doorsOf 1 = .ok (.istore_n 2, 1) := by decide +kernel
theorem dX12_doorsOf_2 : decode cX12_doorsOf 2 = .ok (.iconst 0, 1) := by decide +kernel
theorem dX12_doorsOf_3 : decode cX12_doorsOf 3 = .ok (.istore_n 3, 1) := by decide +kernel
theorem dX12_doorsOf_4 : decode cX12_doorsOf 4 = .ok (.iload_n 3, 1) := by decide +kernel
theorem dX12_doorsOf_5 : decode cX12_doorsOf 5 = .ok (.aload_n 0, 1) := by decide +kernel
theorem dX12_doorsOf_6 : decode cX12_doorsOf 6 = .ok (.getfield 156, 3) := by decide +kernel
theorem dX12_doorsOf_9 : decode cX12_doorsOf 9 = .ok (.if_icmp .ge 35, 3) := by decide +kernel
theorem dX12_doorsOf_12 : decode cX12_doorsOf 12 = .ok (.iload_n 2, 1) := by decide +kernel
theorem dX12_doorsOf_13 : decode cX12_doorsOf 13 = .ok (.aload_n 0, 1) := by decide +kernel
theorem dX12_doorsOf_14 : decode cX12_doorsOf 14 = .ok (.iload_n 1, 1) := by decide +kernel
theorem dX12_doorsOf_15 : decode cX12_doorsOf 15 = .ok (.iload_n 3, 1) := by decide +kernel
theorem dX12_doorsOf_16 : decode cX12_doorsOf 16 = .ok (.aload_n 0, 1) := by decide +kernel
theorem dX12_doorsOf_17 : decode cX12_doorsOf 17 = .ok (.getfield 28, 3) := by decide +kernel
theorem dX12_doorsOf_20 : decode cX12_doorsOf 20 = .ok (.iload_n 1, 1) := by decide +kernel
theorem dX12_doorsOf_21 : decode cX12_doorsOf 21 = .ok (.iaload, 1) := by decide +kernel
theorem dX12_doorsOf_22 : decode cX12_doorsOf 22 = .ok (.invokevirtual 187, 3) := by decide +kernel
theorem dX12_doorsOf_25 : decode cX12_doorsOf 25 = .ok (.iconst (-1), 1) := by decide +kernel
theorem dX12_doorsOf_26 : decode cX12_doorsOf 26 = .ok (.if_icmp .eq 9, 3) := by decide +kernel
theorem dX12_doorsOf_29 : decode cX12_doorsOf 29 = .ok (.iconst 1, 1) := by decide +kernel
theorem dX12_doorsOf_30 : decode cX12_doorsOf 30 = .ok (.iload_n 3, 1) := by decide +kernel
theorem dX12_doorsOf_31 : decode cX12_doorsOf 31 = .ok (.ishl, 1) := by decide +kernel
theorem dX12_doorsOf_32 : decode cX12_doorsOf 32 = .ok (.goto 4, 3) := by decide +kernel
theorem dX12_doorsOf_35 : decode cX12_doorsOf 35 = .ok (.iconst 0, 1) := by decide +kernel
theorem dX12_doorsOf_36 : decode cX12_doorsOf 36 = .ok (.ior, 1) := by decide +kernel
theorem dX12_doorsOf_37 : decode cX12_doorsOf 37 = .ok (.istore_n 2, 1) := by decide +kernel
theorem dX12_doorsOf_38 : decode cX12_doorsOf 38 = .ok (.iinc 3 1, 3) := by decide +kernel
theorem dX12_doorsOf_41 : decode cX12_doorsOf 41 = .ok (.goto (-37), 3) := by decide +kernel
theorem dX12_doorsOf_44 : decode cX12_doorsOf 44 = .ok (.iload_n 2, 1) := by decide +kernel
theorem dX12_doorsOf_45 : decode cX12_doorsOf 45 = .ok (.ireturn, 1) := by decide +kernel
theorem dX12_mayPay_0 : decode cX12_mayPay 0 = .ok (.aload_n 0, 1) := by decide +kernel
theorem dX12_mayPay_1 : decode cX12_mayPay 1 = .ok (.invokevirtual 191, 3) := by decide +kernel
theorem dX12_mayPay_4 : decode cX12_mayPay 4 = .ok (.iconst 0, 1) := by decide +kernel
theorem dX12_mayPay_5 : decode cX12_mayPay 5 = .ok (.istore_n 2, 1) := by decide +kernel
theorem dX12_mayPay_6 : decode cX12_mayPay 6 = .ok (.iconst 0, 1) := by decide +kernel
theorem dX12_mayPay_7 : decode cX12_mayPay 7 = .ok (.istore_n 3, 1) := by decide +kernel
theorem dX12_mayPay_8 : decode cX12_mayPay 8 = .ok (.iload_n 3, 1) := by decide +kernel
theorem dX12_mayPay_9 : decode cX12_mayPay 9 = .ok (.aload_n 0, 1) := by decide +kernel
theorem dX12_mayPay_10 : decode cX12_mayPay 10 = .ok (.getfield 162, 3) := by decide +kernel
theorem dX12_mayPay_13 : decode cX12_mayPay 13 = .ok (.if_icmp .ge 37, 3) := by decide +kernel
theorem dX12_mayPay_16 : decode cX12_mayPay 16 = .ok (.iload_n 2, 1) := by decide +kernel
theorem dX12_mayPay_17 : decode cX12_mayPay 17 = .ok (.aload_n 0, 1) := by decide +kernel
theorem dX12_mayPay_18 : decode cX12_mayPay 18 = .ok (.getfield 34, 3) := by decide +kernel
theorem dX12_mayPay_21 : decode cX12_mayPay 21 = .ok (.iload_n 3, 1) := by decide +kernel
theorem dX12_mayPay_22 : decode cX12_mayPay 22 = .ok (.iaload, 1) := by decide +kernel
theorem dX12_mayPay_23 : decode cX12_mayPay 23 = .ok (.iload_n 1, 1) := by decide +kernel
theorem dX12_mayPay_24 : decode cX12_mayPay 24 = .ok (.if_icmp .ne 17, 3) := by decide +kernel
theorem dX12_mayPay_27 : decode cX12_mayPay 27 = .ok (.aload_n 0, 1) := by decide +kernel
theorem dX12_mayPay_28 : decode cX12_mayPay 28 = .ok (.iload_n 3, 1) := by decide +kernel
theorem dX12_mayPay_29 : decode cX12_mayPay 29 = .ok (.invokevirtual 194, 3) := by decide +kernel
theorem dX12_mayPay_32 : decode cX12_mayPay 32 = .ok (.ifCond .eq 9, 3) := by decide +kernel
theorem dX12_mayPay_35 : decode cX12_mayPay 35 = .ok (.iconst 1, 1) := by decide +kernel
theorem dX12_mayPay_36 : decode cX12_mayPay 36 = .ok (.iload_n 3, 1) := by decide +kernel
theorem dX12_mayPay_37 : decode cX12_mayPay 37 = .ok (.ishl, 1) := by decide +kernel
theorem dX12_mayPay_38 : decode cX12_mayPay 38 = .ok (.goto 4, 3) := by decide +kernel
theorem dX12_mayPay_41 : decode cX12_mayPay 41 = .ok (.iconst 0, 1) := by decide +kernel
theorem dX12_mayPay_42 : decode cX12_mayPay 42 = .ok (.ior, 1) := by decide +kernel
theorem dX12_mayPay_43 : decode cX12_mayPay 43 = .ok (.istore_n 2, 1) := by decide +kernel
theorem dX12_mayPay_44 : decode cX12_mayPay 44 = .ok (.iinc 3 1, 3) := by decide +kernel
theorem dX12_mayPay_47 : decode cX12_mayPay 47 = .ok (.goto (-39), 3) := by decide +kernel
theorem dX12_mayPay_50 : decode cX12_mayPay 50 = .ok (.iload_n 2, 1) := by decide +kernel
theorem dX12_mayPay_51 : decode cX12_mayPay 51 = .ok (.ireturn, 1) := by decide +kernel
theorem dX12_standing_0 : decode cX12_standing 0 = .ok (.bipush 100, 2) := by decide +kernel
theorem dX12_standing_2 : decode cX12_standing 2 = .ok (.aload_n 0, 1) := by decide +kernel
theorem dX12_standing_3 : decode cX12_standing 3 = .ok (.getfield 25, 3) := by decide +kernel
theorem dX12_standing_6 : decode cX12_standing 6 = .ok (.iload_n 1, 1) := by decide +kernel
theorem dX12_standing_7 : decode cX12_standing 7 = .ok (.iaload, 1) := by decide +kernel
theorem dX12_standing_8 : decode cX12_standing 8 = .ok (.iadd, 1) := by decide +kernel
theorem dX12_standing_9 : decode cX12_standing 9 = .ok (.istore_n 2, 1) := by decide +kernel
theorem dX12_standing_10 : decode cX12_standing 10 = .ok (.iconst 0, 1) := by decide +kernel
theorem dX12_standing_11 : decode cX12_standing 11 = .ok (.istore_n 3, 1) := by decide +kernel
theorem dX12_standing_12 : decode cX12_standing 12 = .ok (.iload_n 3, 1) := by decide +kernel
theorem dX12_standing_13 : decode cX12_standing 13 = .ok (.aload_n 0, 1) := by decide +kernel
theorem dX12_standing_14 : decode cX12_standing 14 = .ok (.getfield 162, 3) := by decide +kernel
theorem dX12_standing_17 : decode cX12_standing 17 = .ok (.if_icmp .ge 64, 3) := by decide +kernel
theorem dX12_standing_20 : decode cX12_standing 20 = .ok (.aload_n 0, 1) := by decide +kernel
theorem dX12_standing_21 : decode cX12_standing 21 = .ok (.getfield 46, 3) := by decide +kernel
theorem dX12_standing_24 : decode cX12_standing 24 = .ok (.iload_n 3, 1) := by decide +kernel
theorem dX12_standing_25 : decode cX12_standing 25 = .ok (.iaload, 1) := by decide +kernel
theorem dX12_standing_26 : decode cX12_standing 26 = .ok (.ifCond .ne 49, 3) := by decide +kernel
theorem dX12_standing_29 : decode cX12_standing 29 = .ok (.iload_n 2, 1) := by decide +kernel
theorem dX12_standing_30 : decode cX12_standing 30 = .ok (.aload_n 0, 1) := by decide +kernel
theorem dX12_standing_31 : decode cX12_standing 31 = .ok (.getfield 37, 3) := by decide +kernel
theorem dX12_standing_34 : decode cX12_standing 34 = .ok (.iload_n 3, 1) := by decide +kernel
theorem dX12_standing_35 : decode cX12_standing 35 = .ok (.iaload, 1) := by decide +kernel
theorem dX12_standing_36 : decode cX12_standing 36 = .ok (.iload_n 1, 1) := by decide +kernel
theorem dX12_standing_37 : decode cX12_standing 37 = .ok (.if_icmp .ne 12, 3) := by decide +kernel
theorem dX12_standing_40 : decode cX12_standing 40 = .ok (.aload_n 0, 1) := by decide +kernel
theorem dX12_standing_41 : decode cX12_standing 41 = .ok (.getfield 43, 3) := by decide +kernel
theorem dX12_standing_44 : decode cX12_standing 44 = .ok (.iload_n 3, 1) := by decide +kernel
theorem dX12_standing_45 : decode cX12_standing 45 = .ok (.iaload, 1) := by decide +kernel
theorem dX12_standing_46 : decode cX12_standing 46 = .ok (.goto 4, 3) := by decide +kernel
theorem dX12_standing_49 : decode cX12_standing 49 = .ok (.iconst 0, 1) := by decide +kernel
theorem dX12_standing_50 : decode cX12_standing 50 = .ok (.iadd, 1) := by decide +kernel
theorem dX12_standing_51 : decode cX12_standing 51 = .ok (.istore_n 2, 1) := by decide +kernel
theorem dX12_standing_52 : decode cX12_standing 52 = .ok (.iload_n 2, 1) := by decide +kernel
theorem dX12_standing_53 : decode cX12_standing 53 = .ok (.aload_n 0, 1) := by decide +kernel
theorem dX12_standing_54 : decode cX12_standing 54 = .ok (.getfield 34, 3) := by decide +kernel
theorem dX12_standing_57 : decode cX12_standing 57 = .ok (.iload_n 3, 1) := by decide +kernel
theorem dX12_standing_58 : decode cX12_standing 58 = .ok (.iaload, 1) := by decide +kernel
theorem dX12_standing_59 : decode cX12_standing 59 = .ok (.iload_n 1, 1) := by decide +kernel
theorem dX12_standing_60 : decode cX12_standing 60 = .ok (.if_icmp .ne 12, 3) := by decide +kernel
theorem dX12_standing_63 : decode cX12_standing 63 = .ok (.aload_n 0, 1) := by decide +kernel
theorem dX12_standing_64 : decode cX12_standing 64 = .ok (.getfield 43, 3) := by decide +kernel
theorem dX12_standing_67 : decode cX12_standing 67 = .ok (.iload_n 3, 1) := by decide +kernel
theorem dX12_standing_68 : decode cX12_standing 68 = .ok (.iaload, 1) := by decide +kernel
theorem dX12_standing_69 : decode cX12_standing 69 = .ok (.goto 4, 3) := by decide +kernel
theorem dX12_standing_72 : decode cX12_standing 72 = .ok (.iconst 0, 1) := by decide +kernel
theorem dX12_standing_73 : decode cX12_standing 73 = .ok (.isub, 1) := by decide +kernel
theorem dX12_standing_74 : decode cX12_standing 74 = .ok (.istore_n 2, 1) := by decide +kernel
theorem dX12_standing_75 : decode cX12_standing 75 = .ok (.iinc 3 1, 3) := by decide +kernel
theorem dX12_standing_78 : decode cX12_standing 78 = .ok (.goto (-66), 3) := by decide +kernel
theorem dX12_standing_81 : decode cX12_standing 81 = .ok (.iload_n 2, 1) := by decide +kernel
theorem dX12_standing_82 : decode cX12_standing 82 = .ok (.ireturn, 1) := by decide +kernel
theorem dX12_pursesOf_0 : decode cX12_pursesOf 0 = .ok (.iconst 0, 1) := by decide +kernel
theorem dX12_pursesOf_1 : decode cX12_pursesOf 1 = .ok (.istore_n 2, 1) := by decide +kernel
theorem dX12_pursesOf_2 : decode cX12_pursesOf 2 = .ok (.iconst 0, 1) := by decide +kernel
theorem dX12_pursesOf_3 : decode cX12_pursesOf 3 = .ok (.istore_n 3, 1) := by decide +kernel
theorem dX12_pursesOf_4 : decode cX12_pursesOf 4 = .ok (.iload_n 3, 1) := by decide +kernel
theorem dX12_pursesOf_5 : decode cX12_pursesOf 5 = .ok (.bipush 10, 2) := by decide +kernel
theorem dX12_pursesOf_7 : decode cX12_pursesOf 7 = .ok (.if_icmp .ge 107, 3) := by decide +kernel
theorem dX12_pursesOf_10 : decode cX12_pursesOf 10 = .ok (.iconst 1, 1) := by decide +kernel
theorem dX12_pursesOf_11 : decode cX12_pursesOf 11 = .ok (.istore 4, 2) := by decide +kernel
theorem dX12_pursesOf_13 : decode cX12_pursesOf 13 = .ok (.iconst 0, 1) := by decide +kernel
theorem dX12_pursesOf_14 : decode cX12_pursesOf 14 = .ok (.istore 5, 2) := by decide +kernel
theorem dX12_pursesOf_16 : decode cX12_pursesOf 16 = .ok (.iload 5, 2) := by decide +kernel
theorem dX12_pursesOf_18 : decode cX12_pursesOf 18 = .ok (.iconst 2, 1) := by decide +kernel
theorem dX12_pursesOf_19 : decode cX12_pursesOf 19 = .ok (.aload_n 0, 1) := by decide +kernel
theorem dX12_pursesOf_20 : decode cX12_pursesOf 20 = .ok (.getfield 171, 3) := by decide +kernel
theorem dX12_pursesOf_23 : decode cX12_pursesOf 23 = .ok (.imul, 1) := by decide +kernel
theorem dX12_pursesOf_24 : decode cX12_pursesOf 24 = .ok (.if_icmp .ge 69, 3) := by decide +kernel
theorem dX12_pursesOf_27 : decode cX12_pursesOf 27 = .ok (.aload_n 0, 1) := by decide +kernel
theorem dX12_pursesOf_28 : decode cX12_pursesOf 28 = .ok (.getfield 34, 3) := by decide +kernel
theorem dX12_pursesOf_31 : decode cX12_pursesOf 31 = .ok (.aload_n 0, 1) := by decide +kernel
theorem dX12_pursesOf_32 : decode cX12_pursesOf 32 = .ok (.getfield 76, 3) := by decide +kernel
theorem dX12_pursesOf_35 : decode cX12_pursesOf 35 = .ok (.iload 5, 2) := by decide +kernel
theorem dX12_pursesOf_37 : decode cX12_pursesOf 37 = .ok (.iaload, 1) := by decide +kernel
theorem dX12_pursesOf_38 : decode cX12_pursesOf 38 = .ok (.iaload, 1) := by decide +kernel
theorem dX12_pursesOf_39 : decode cX12_pursesOf 39 = .ok (.iload_n 1, 1) := by decide +kernel
theorem dX12_pursesOf_40 : decode cX12_pursesOf 40 = .ok (.if_icmp .ne 47, 3) := by decide +kernel
theorem dX12_pursesOf_43 : decode cX12_pursesOf 43 = .ok (.iload 4, 2) := by decide +kernel
theorem dX12_pursesOf_45 : decode cX12_pursesOf 45 = .ok (.ifCond .eq 39, 3) := by decide +kernel
theorem dX12_pursesOf_48 : decode cX12_pursesOf 48 = .ok (.iload_n 3, 1) := by decide +kernel
theorem dX12_pursesOf_49 : decode cX12_pursesOf 49 = .ok (.aload_n 0, 1) := by decide +kernel
theorem dX12_pursesOf_50 : decode cX12_pursesOf 50 = .ok (.aload_n 0, 1) := by decide +kernel
theorem dX12_pursesOf_51 : decode cX12_pursesOf 51 = .ok (.getfield 76, 3) := by decide +kernel
theorem dX12_pursesOf_54 : decode cX12_pursesOf 54 = .ok (.iload 5, 2) := by decide +kernel
theorem dX12_pursesOf_56 : decode cX12_pursesOf 56 = .ok (.iaload, 1) := by decide +kernel
theorem dX12_pursesOf_57 : decode cX12_pursesOf 57 = .ok (.invokevirtual 184, 3) := by decide +kernel
theorem dX12_pursesOf_60 : decode cX12_pursesOf 60 = .ok (.if_icmp .lt 7, 3) := by decide +kernel
theorem dX12_pursesOf_63 : decode cX12_pursesOf 63 = .ok (.iconst 1, 1) := by decide +kernel
theorem dX12_pursesOf_64 : decode cX12_pursesOf 64 = .ok (.goto 4, 3) := by decide +kernel
theorem dX12_pursesOf_67 : decode cX12_pursesOf 67 = .ok (.iconst 0, 1) := by decide +kernel
theorem dX12_pursesOf_68 : decode cX12_pursesOf 68 = .ok (.aload_n 0, 1) := by decide +kernel
theorem dX12_pursesOf_69 : decode cX12_pursesOf 69 = .ok (.getfield 76, 3) := by decide +kernel
theorem dX12_pursesOf_72 : decode cX12_pursesOf 72 = .ok (.iload 5, 2) := by decide +kernel
theorem dX12_pursesOf_74 : decode cX12_pursesOf 74 = .ok (.iconst 1, 1) := by decide +kernel
theorem dX12_pursesOf_75 : decode cX12_pursesOf 75 = .ok (.iadd, 1) := by decide +kernel
theorem dX12_pursesOf_76 : decode cX12_pursesOf 76 = .ok (.iaload, 1) := by decide +kernel
theorem dX12_pursesOf_77 : decode cX12_pursesOf 77 = .ok (.if_icmp .ne 7, 3) := by decide +kernel
theorem dX12_pursesOf_80 : decode cX12_pursesOf 80 = .ok (.iconst 1, 1) := by decide +kernel
theorem dX12_pursesOf_81 : decode cX12_pursesOf 81 = .ok (.goto 4, 3) := by decide +kernel
theorem dX12_pursesOf_84 : decode cX12_pursesOf 84 = .ok (.iconst 0, 1) := by decide +kernel
theorem dX12_pursesOf_85 : decode cX12_pursesOf 85 = .ok (.istore 4, 2) := by decide +kernel
theorem dX12_pursesOf_87 : decode cX12_pursesOf 87 = .ok (.iinc 5 2, 3) := by decide +kernel
theorem dX12_pursesOf_90 : decode cX12_pursesOf 90 = .ok (.goto (-74), 3) := by decide +kernel
theorem dX12_pursesOf_93 : decode cX12_pursesOf 93 = .ok (.iload_n 2, 1) := by decide +kernel
theorem dX12_pursesOf_94 : decode cX12_pursesOf 94 = .ok (.iload 4, 2) := by decide +kernel
theorem dX12_pursesOf_96 : decode cX12_pursesOf 96 = .ok (.ifCond .eq 9, 3) := by decide +kernel
theorem dX12_pursesOf_99 : decode cX12_pursesOf 99 = .ok (.iconst 1, 1) := by decide +kernel
theorem dX12_pursesOf_100 : decode cX12_pursesOf 100 = .ok (.iload_n 3, 1) := by decide +kernel
theorem dX12_pursesOf_101 : decode cX12_pursesOf 101 = .ok (.ishl, 1) := by decide +kernel
theorem dX12_pursesOf_102 : decode cX12_pursesOf 102 = .ok (.goto 4, 3) := by decide +kernel
theorem dX12_pursesOf_105 : decode cX12_pursesOf 105 = .ok (.iconst 0, 1) := by decide +kernel
theorem dX12_pursesOf_106 : decode cX12_pursesOf 106 = .ok (.ior, 1) := by decide +kernel
theorem dX12_pursesOf_107 : decode cX12_pursesOf 107 = .ok (.istore_n 2, 1) := by decide +kernel
theorem dX12_pursesOf_108 : decode cX12_pursesOf 108 = .ok (.iinc 3 1, 3) := by decide +kernel
theorem dX12_pursesOf_111 : decode cX12_pursesOf 111 = .ok (.goto (-107), 3) := by decide +kernel
theorem dX12_pursesOf_114 : decode cX12_pursesOf 114 = .ok (.iload_n 2, 1) := by decide +kernel
theorem dX12_pursesOf_115 : decode cX12_pursesOf 115 = .ok (.ireturn, 1) := by decide +kernel
theorem dX12_pressOf_0 : decode cX12_pressOf 0 = .ok (.aload_n 0, 1) := by decide +kernel
theorem dX12_pressOf_1 : decode cX12_pressOf 1 = .ok (.iload_n 1, 1) := by decide +kernel
theorem dX12_pressOf_2 : decode cX12_pressOf 2 = .ok (.invokevirtual 209, 3) := by decide +kernel
theorem dX12_pressOf_5 : decode cX12_pressOf 5 = .ok (.istore_n 2, 1) := by decide +kernel
theorem dX12_pressOf_6 : decode cX12_pressOf 6 = .ok (.iconst (-1), 1) := by decide +kernel
theorem dX12_pressOf_7 : decode cX12_pressOf 7 = .ok (.istore_n 3, 1) := by decide +kernel
theorem dX12_pressOf_8 : decode cX12_pressOf 8 = .ok (.bipush 11, 2) := by decide +kernel
theorem dX12_pressOf_10 : decode cX12_pressOf 10 = .ok (.istore 4, 2) := by decide +kernel
theorem dX12_pressOf_12 : decode cX12_pressOf 12 = .ok (.iconst 0, 1) := by decide +kernel
theorem dX12_pressOf_13 : decode cX12_pressOf 13 = .ok (.istore 5, 2) := by decide +kernel
theorem dX12_pressOf_15 : decode cX12_pressOf 15 = .ok (.iload 5, 2) := by decide +kernel
theorem dX12_pressOf_17 : decode cX12_pressOf 17 = .ok (.aload_n 0, 1) := by decide +kernel
theorem dX12_pressOf_18 : decode cX12_pressOf 18 = .ok (.getfield 162, 3) := by decide +kernel
theorem dX12_pressOf_21 : decode cX12_pressOf 21 = .ok (.if_icmp .ge 128, 3) := by decide +kernel
theorem dX12_pressOf_24 : decode cX12_pressOf 24 = .ok (.iload_n 2, 1) := by decide +kernel
theorem dX12_pressOf_25 : decode cX12_pressOf 25 = .ok (.ifCond .eq 124, 3) := by decide +kernel
theorem dX12_pressOf_28 : decode cX12_pressOf 28 = .ok (.iconst 0, 1) := by decide +kernel
theorem dX12_pressOf_29 : decode cX12_pressOf 29 = .ok (.istore 6, 2) := by decide +kernel
theorem dX12_pressOf_31 : decode cX12_pressOf 31 = .ok (.iconst 0, 1) := by decide +kernel
theorem dX12_pressOf_32 : decode cX12_pressOf 32 = .ok (.istore 7, 2) := by decide +kernel
theorem dX12_pressOf_34 : decode cX12_pressOf 34 = .ok (.iconst 0, 1) := by decide +kernel
theorem dX12_pressOf_35 : decode cX12_pressOf 35 = .ok (.istore 8, 2) := by decide +kernel
theorem dX12_pressOf_37 : decode cX12_pressOf 37 = .ok (.iload 8, 2) := by decide +kernel
theorem dX12_pressOf_39 : decode cX12_pressOf 39 = .ok (.bipush 10, 2) := by decide +kernel
theorem dX12_pressOf_41 : decode cX12_pressOf 41 = .ok (.if_icmp .ge 61, 3) := by decide +kernel
theorem dX12_pressOf_44 : decode cX12_pressOf 44 = .ok (.iload 6, 2) := by decide +kernel
theorem dX12_pressOf_46 : decode cX12_pressOf 46 = .ok (.iload 8, 2) := by decide +kernel
theorem dX12_pressOf_48 : decode cX12_pressOf 48 = .ok (.aload_n 0, 1) := by decide +kernel
theorem dX12_pressOf_49 : decode cX12_pressOf 49 = .ok (.iload 5, 2) := by decide +kernel
theorem dX12_pressOf_51 : decode cX12_pressOf 51 = .ok (.invokevirtual 184, 3) := by decide +kernel
theorem dX12_pressOf_54 : decode cX12_pressOf 54 = .ok (.if_icmp .lt 12, 3) := by decide +kernel
theorem dX12_pressOf_57 : decode cX12_pressOf 57 = .ok (.iload_n 2, 1) := by decide +kernel
theorem dX12_pressOf_58 : decode cX12_pressOf 58 = .ok (.iload 8, 2) := by decide +kernel
theorem dX12_pressOf_60 : decode cX12_pressOf 60 = .ok (.ishr, 1) := by decide +kernel
theorem dX12_pressOf_61 : decode cX12_pressOf 61 = .ok (.iconst 1, 1) := by decide +kernel
theorem dX12_pressOf_62 : decode cX12_pressOf 62 = .ok (.iand, 1) := by decide +kernel
theorem dX12_pressOf_63 : decode cX12_pressOf 63 = .ok (.goto 4, 3) := by decide +kernel
theorem dX12_pressOf_66 : decode cX12_pressOf 66 = .ok (.iconst 0, 1) := by decide +kernel
theorem dX12_pressOf_67 : decode cX12_pressOf 67 = .ok (.iadd, 1) := by decide +kernel
theorem dX12_pressOf_68 : decode cX12_pressOf 68 = .ok (.istore 6, 2) := by decide +kernel
theorem dX12_pressOf_70 : decode cX12_pressOf 70 = .ok (.iload 7, 2) := by decide +kernel
theorem dX12_pressOf_72 : decode cX12_pressOf 72 = .ok (.iload 8, 2) := by decide +kernel
theorem dX12_pressOf_74 : decode cX12_pressOf 74 = .ok (.aload_n 0, 1) := by decide +kernel
theorem dX12_pressOf_75 : decode cX12_pressOf 75 = .ok (.iload 5, 2) := by decide +kernel
theorem dX12_pressOf_77 : decode cX12_pressOf 77 = .ok (.invokevirtual 184, 3) := by decide +kernel
theorem dX12_pressOf_80 : decode cX12_pressOf 80 = .ok (.if_icmp .ge 12, 3) := by decide +kernel
theorem dX12_pressOf_83 : decode cX12_pressOf 83 = .ok (.iload_n 2, 1) := by decide +kernel
theorem dX12_pressOf_84 : decode cX12_pressOf 84 = .ok (.iload 8, 2) := by decide +kernel
theorem dX12_pressOf_86 : decode cX12_pressOf 86 = .ok (.ishr, 1) := by decide +kernel
theorem dX12_pressOf_87 : decode cX12_pressOf 87 = .ok (.iconst 1, 1) := by decide +kernel
theorem dX12_pressOf_88 : decode cX12_pressOf 88 = .ok (.iand, 1) := by decide +kernel
theorem dX12_pressOf_89 : decode cX12_pressOf 89 = .ok (.goto 4, 3) := by decide +kernel
theorem dX12_pressOf_92 : decode cX12_pressOf 92 = .ok (.iconst 0, 1) := by decide +kernel
theorem dX12_pressOf_93 : decode cX12_pressOf 93 = .ok (.iadd, 1) := by decide +kernel
theorem dX12_pressOf_94 : decode cX12_pressOf 94 = .ok (.istore 7, 2) := by decide +kernel
theorem dX12_pressOf_96 : decode cX12_pressOf 96 = .ok (.iinc 8 1, 3) := by decide +kernel
theorem dX12_pressOf_99 : decode cX12_pressOf 99 = .ok (.goto (-62), 3) := by decide +kernel
theorem dX12_pressOf_102 : decode cX12_pressOf 102 = .ok (.iload 6, 2) := by decide +kernel
theorem dX12_pressOf_104 : decode cX12_pressOf 104 = .ok (.iload 7, 2) := by decide +kernel
theorem dX12_pressOf_106 : decode cX12_pressOf 106 = .ok (.if_icmp .le 8, 3) := by decide +kernel
theorem dX12_pressOf_109 : decode cX12_pressOf 109 = .ok (.iload 6, 2) := by decide +kernel
theorem dX12_pressOf_111 : decode cX12_pressOf 111 = .ok (.goto 5, 3) := by decide +kernel
theorem dX12_pressOf_114 : decode cX12_pressOf 114 = .ok (.iload 7, 2) := by decide +kernel
theorem dX12_pressOf_116 : decode cX12_pressOf 116 = .ok (.istore 8, 2) := by decide +kernel
theorem dX12_pressOf_118 : decode cX12_pressOf 118 = .ok (.aload_n 0, 1) := by decide +kernel
theorem dX12_pressOf_119 : decode cX12_pressOf 119 = .ok (.getfield 34, 3) := by decide +kernel
theorem dX12_pressOf_122 : decode cX12_pressOf 122 = .ok (.iload 5, 2) := by decide +kernel
theorem dX12_pressOf_124 : decode cX12_pressOf 124 = .ok (.iaload, 1) := by decide +kernel
theorem dX12_pressOf_125 : decode cX12_pressOf 125 = .ok (.iload_n 1, 1) := by decide +kernel
theorem dX12_pressOf_126 : decode cX12_pressOf 126 = .ok (.if_icmp .ne 17, 3) := by decide +kernel
theorem dX12_pressOf_129 : decode cX12_pressOf 129 = .ok (.iload 8, 2) := by decide +kernel
theorem dX12_pressOf_131 : decode cX12_pressOf 131 = .ok (.iload 4, 2) := by decide +kernel
theorem dX12_pressOf_133 : decode cX12_pressOf 133 = .ok (.if_icmp .ge 10, 3) := by decide +kernel
theorem dX12_pressOf_136 : decode cX12_pressOf 136 = .ok (.iload 5, 2) := by decide +kernel
theorem dX12_pressOf_138 : decode cX12_pressOf 138 = .ok (.istore_n 3, 1) := by decide +kernel
theorem dX12_pressOf_139 : decode cX12_pressOf 139 = .ok (.iload 8, 2) := by decide +kernel
theorem dX12_pressOf_141 : decode cX12_pressOf 141 = .ok (.istore 4, 2) := by decide +kernel
theorem dX12_pressOf_143 : decode cX12_pressOf 143 = .ok (.iinc 5 1, 3) := by decide +kernel
theorem dX12_pressOf_146 : decode cX12_pressOf 146 = .ok (.goto (-131), 3) := by decide +kernel
theorem dX12_pressOf_149 : decode cX12_pressOf 149 = .ok (.iload_n 3, 1) := by decide +kernel
theorem dX12_pressOf_150 : decode cX12_pressOf 150 = .ok (.ireturn, 1) := by decide +kernel
theorem dX12_tellPerson_0 : decode cX12_tellPerson 0 = .ok (.iload_n 2, 1) := by decide +kernel
theorem dX12_tellPerson_1 : decode cX12_tellPerson 1 = .ok (.tableswitch 108 0 8 #[51, 58, 65, 72, 78, 84, 90, 96, 102], 51) := by decide +kernel
theorem dX12_tellPerson_52 : decode cX12_tellPerson 52 = .ok (.aload_n 0, 1) := by decide +kernel
theorem dX12_tellPerson_53 : decode cX12_tellPerson 53 = .ok (.getfield 22, 3) := by decide +kernel
theorem dX12_tellPerson_56 : decode cX12_tellPerson 56 = .ok (.iload_n 1, 1) := by decide +kernel
theorem dX12_tellPerson_57 : decode cX12_tellPerson 57 = .ok (.iaload, 1) := by decide +kernel
theorem dX12_tellPerson_58 : decode cX12_tellPerson 58 = .ok (.ireturn, 1) := by decide +kernel
theorem dX12_tellPerson_59 : decode cX12_tellPerson 59 = .ok (.aload_n 0, 1) := by decide +kernel
theorem dX12_tellPerson_60 : decode cX12_tellPerson 60 = .ok (.getfield 25, 3) := by decide +kernel
theorem dX12_tellPerson_63 : decode cX12_tellPerson 63 = .ok (.iload_n 1, 1) := by decide +kernel
theorem dX12_tellPerson_64 : decode cX12_tellPerson 64 = .ok (.iaload, 1) := by decide +kernel
theorem dX12_tellPerson_65 : decode cX12_tellPerson 65 = .ok (.ireturn, 1) := by decide +kernel
theorem dX12_tellPerson_66 : decode cX12_tellPerson 66 = .ok (.aload_n 0, 1) := by decide +kernel
theorem dX12_tellPerson_67 : decode cX12_tellPerson 67 = .ok (.getfield 28, 3) := by decide +kernel
theorem dX12_tellPerson_70 : decode cX12_tellPerson 70 = .ok (.iload_n 1, 1) := by decide +kernel
theorem dX12_tellPerson_71 : decode cX12_tellPerson 71 = .ok (.iaload, 1) := by decide +kernel
theorem dX12_tellPerson_72 : decode cX12_tellPerson 72 = .ok (.ireturn, 1) := by decide +kernel
theorem dX12_tellPerson_73 : decode cX12_tellPerson 73 = .ok (.aload_n 0, 1) := by decide +kernel
theorem dX12_tellPerson_74 : decode cX12_tellPerson 74 = .ok (.iload_n 1, 1) := by decide +kernel
theorem dX12_tellPerson_75 : decode cX12_tellPerson 75 = .ok (.invokevirtual 197, 3) := by decide +kernel
theorem dX12_tellPerson_78 : decode cX12_tellPerson 78 = .ok (.ireturn, 1) := by decide +kernel
theorem dX12_tellPerson_79 : decode cX12_tellPerson 79 = .ok (.aload_n 0, 1) := by decide +kernel
theorem dX12_tellPerson_80 : decode cX12_tellPerson 80 = .ok (.iload_n 1, 1) := by decide +kernel
theorem dX12_tellPerson_81 : decode cX12_tellPerson 81 = .ok (.invokevirtual 200, 3) := by decide +kernel
theorem dX12_tellPerson_84 : decode cX12_tellPerson 84 = .ok (.ireturn, 1) := by decide +kernel
theorem dX12_tellPerson_85 : decode cX12_tellPerson 85 = .ok (.aload_n 0, 1) := by decide +kernel
theorem dX12_tellPerson_86 : decode cX12_tellPerson 86 = .ok (.iload_n 1, 1) := by decide +kernel
theorem dX12_tellPerson_87 : decode cX12_tellPerson 87 = .ok (.invokevirtual 203, 3) := by decide +kernel
theorem dX12_tellPerson_90 : decode cX12_tellPerson 90 = .ok (.ireturn, 1) := by decide +kernel
theorem dX12_tellPerson_91 : decode cX12_tellPerson 91 = .ok (.aload_n 0, 1) := by decide +kernel
theorem dX12_tellPerson_92 : decode cX12_tellPerson 92 = .ok (.iload_n 1, 1) := by decide +kernel
theorem dX12_tellPerson_93 : decode cX12_tellPerson 93 = .ok (.invokevirtual 206, 3) := by decide +kernel
theorem dX12_tellPerson_96 : decode cX12_tellPerson 96 = .ok (.ireturn, 1) := by decide +kernel
theorem dX12_tellPerson_97 : decode cX12_tellPerson 97 = .ok (.aload_n 0, 1) := by decide +kernel
theorem dX12_tellPerson_98 : decode cX12_tellPerson 98 = .ok (.iload_n 1, 1) := by decide +kernel
theorem dX12_tellPerson_99 : decode cX12_tellPerson 99 = .ok (.invokevirtual 209, 3) := by decide +kernel
theorem dX12_tellPerson_102 : decode cX12_tellPerson 102 = .ok (.ireturn, 1) := by decide +kernel
theorem dX12_tellPerson_103 : decode cX12_tellPerson 103 = .ok (.aload_n 0, 1) := by decide +kernel
theorem dX12_tellPerson_104 : decode cX12_tellPerson 104 = .ok (.iload_n 1, 1) := by decide +kernel
theorem dX12_tellPerson_105 : decode cX12_tellPerson 105 = .ok (.invokevirtual 212, 3) := by decide +kernel
theorem dX12_tellPerson_108 : decode cX12_tellPerson 108 = .ok (.ireturn, 1) := by decide +kernel
theorem dX12_tellPerson_109 : decode cX12_tellPerson 109 = .ok (.bipush (-102), 2) := by decide +kernel
theorem dX12_tellPerson_111 : decode cX12_tellPerson 111 = .ok (.ireturn, 1) := by decide +kernel
theorem dX12_person_0 : decode cX12_person 0 = .ok (.aload_n 0, 1) := by decide +kernel
theorem dX12_person_1 : decode cX12_person 1 = .ok (.iload_n 1, 1) := by decide +kernel
theorem dX12_person_2 : decode cX12_person 2 = .ok (.invokevirtual 215, 3) := by decide +kernel
theorem dX12_person_5 : decode cX12_person 5 = .ok (.ifCond .eq 12, 3) := by decide +kernel
theorem dX12_person_8 : decode cX12_person 8 = .ok (.aload_n 0, 1) := by decide +kernel
theorem dX12_person_9 : decode cX12_person 9 = .ok (.iload_n 1, 1) := by decide +kernel
theorem dX12_person_10 : decode cX12_person 10 = .ok (.iload_n 2, 1) := by decide +kernel
theorem dX12_person_11 : decode cX12_person 11 = .ok (.invokevirtual 218, 3) := by decide +kernel
theorem dX12_person_14 : decode cX12_person 14 = .ok (.goto 5, 3) := by decide +kernel
theorem dX12_person_17 : decode cX12_person 17 = .ok (.bipush (-101), 2) := by decide +kernel
theorem dX12_person_19 : decode cX12_person 19 = .ok (.ireturn, 1) := by decide +kernel
