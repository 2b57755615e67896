theorem dX12_winters_163 : decode cX12_winters 163 = .ok (.getfield 304, 3) := by decide +kernel
theorem dX12_winters_166 : decode cX12_winters 166 = .ok (.ireturn, 1) := by decide +kernel
theorem dX12_image_0 : decode cX12_image 0 = .ok (.aload_n 0, 1) := by decide +kernel
theorem dX12_image_1 : decode cX12_image 1 = .ok (.invokevirtual 286, 3) := by decide +kernel
theorem dX12_image_4 : decode cX12_image 4 = .ok (.ifCond .eq 6, 3) := by decide +kernel
theorem dX12_image_7 : decode cX12_image 7 = .ok (.bipush (-103), 2) := by decide +kernel
theorem dX12_image_9 : decode cX12_image 9 = .ok (.ireturn, 1) := by decide +kernel
theorem dX12_image_10 : decode cX12_image 10 = .ok (.aload_n 0, 1) := by decide +kernel
theorem dX12_image_11 : decode cX12_image 11 = .ok (.getfield 25, 3) := by decide +kernel
theorem dX12_image_14 : decode cX12_image 14 = .ok (.aload_n 0, 1) := by decide +kernel
theorem dX12_image_15 : decode cX12_image 15 = .ok (.getfield 79, 3) := by decide +kernel
theorem dX12_image_18 : decode cX12_image 18 = .ok (.invokestatic 177, 3) := by decide +kernel
theorem dX12_image_21 : decode cX12_image 21 = .ok (.aload_n 0, 1) := by decide +kernel
theorem dX12_image_22 : decode cX12_image 22 = .ok (.getfield 28, 3) := by decide +kernel
theorem dX12_image_25 : decode cX12_image 25 = .ok (.aload_n 0, 1) := by decide +kernel
theorem dX12_image_26 : decode cX12_image 26 = .ok (.getfield 82, 3) := by decide +kernel
theorem dX12_image_29 : decode cX12_image 29 = .ok (.invokestatic 177, 3) := by decide +kernel
theorem dX12_image_32 : decode cX12_image 32 = .ok (.aload_n 0, 1) := by decide +kernel
theorem dX12_image_33 : decode cX12_image 33 = .ok (.getfield 31, 3) := by decide +kernel
theorem dX12_image_36 : decode cX12_image 36 = .ok (.aload_n 0, 1) := by decide +kernel
theorem dX12_image_37 : decode cX12_image 37 = .ok (.getfield 85, 3) := by decide +kernel
theorem dX12_image_40 : decode cX12_image 40 = .ok (.invokestatic 177, 3) := by decide +kernel
theorem dX12_image_43 : decode cX12_image 43 = .ok (.aload_n 0, 1) := by decide +kernel
theorem dX12_image_44 : decode cX12_image 44 = .ok (.getfield 43, 3) := by decide +kernel
theorem dX12_image_47 : decode cX12_image 47 = .ok (.aload_n 0, 1) := by decide +kernel
theorem dX12_image_48 : decode cX12_image 48 = .ok (.getfield 88, 3) := by decide +kernel
theorem dX12_image_51 : decode cX12_image 51 = .ok (.invokestatic 177, 3) := by decide +kernel
theorem dX12_image_54 : decode cX12_image 54 = .ok (.aload_n 0, 1) := by decide +kernel
theorem dX12_image_55 : decode cX12_image 55 = .ok (.getfield 46, 3) := by decide +kernel
theorem dX12_image_58 : decode cX12_image 58 = .ok (.aload_n 0, 1) := by decide +kernel
theorem dX12_image_59 : decode cX12_image 59 = .ok (.getfield 91, 3) := by decide +kernel
theorem dX12_image_62 : decode cX12_image 62 = .ok (.invokestatic 177, 3) := by decide +kernel
theorem dX12_image_65 : decode cX12_image 65 = .ok (.aload_n 0, 1) := by decide +kernel
theorem dX12_image_66 : decode cX12_image 66 = .ok (.getfield 76, 3) := by decide +kernel
theorem dX12_image_69 : decode cX12_image 69 = .ok (.aload_n 0, 1) := by decide +kernel
theorem dX12_image_70 : decode cX12_image 70 = .ok (.getfield 94, 3) := by decide +kernel
theorem dX12_image_73 : decode cX12_image 73 = .ok (.invokestatic 177, 3) := by decide +kernel
theorem dX12_image_76 : decode cX12_image 76 = .ok (.aload_n 0, 1) := by decide +kernel
theorem dX12_image_77 : decode cX12_image 77 = .ok (.aload_n 0, 1) := by decide +kernel
theorem dX12_image_78 : decode cX12_image 78 = .ok (.getfield 168, 3) := by decide +kernel
theorem dX12_image_81 : decode cX12_image 81 = .ok (.putfield 326, 3) := by decide +kernel
theorem dX12_image_84 : decode cX12_image 84 = .ok (.aload_n 0, 1) := by decide +kernel
theorem dX12_image_85 : decode cX12_image 85 = .ok (.aload_n 0, 1) := by decide +kernel
theorem dX12_image_86 : decode cX12_image 86 = .ok (.getfield 171, 3) := by decide +kernel
theorem dX12_image_89 : decode cX12_image 89 = .ok (.putfield 329, 3) := by decide +kernel
theorem dX12_image_92 : decode cX12_image 92 = .ok (.aload_n 0, 1) := by decide +kernel
theorem dX12_image_93 : decode cX12_image 93 = .ok (.aload_n 0, 1) := by decide +kernel
theorem dX12_image_94 : decode cX12_image 94 = .ok (.getfield 174, 3) := by decide +kernel
theorem dX12_image_97 : decode cX12_image 97 = .ok (.putfield 97, 3) := by decide +kernel
theorem dX12_image_100 : decode cX12_image 100 = .ok (.aload_n 0, 1) := by decide +kernel
theorem dX12_image_101 : decode cX12_image 101 = .ok (.getfield 168, 3) := by decide +kernel
theorem dX12_image_104 : decode cX12_image 104 = .ok (.ireturn, 1) := by decide +kernel
theorem dX12_restore_0 : decode cX12_restore 0 = .ok (.aload_n 0, 1) := by decide +kernel
theorem dX12_restore_1 : decode cX12_restore 1 = .ok (.getfield 97, 3) := by decide +kernel
theorem dX12_restore_4 : decode cX12_restore 4 = .ok (.aload_n 0, 1) := by decide +kernel
theorem dX12_restore_5 : decode cX12_restore 5 = .ok (.getfield 174, 3) := by decide +kernel
theorem dX12_restore_8 : decode cX12_restore 8 = .ok (.if_icmp .eq 6, 3) := by decide +kernel
theorem dX12_restore_11 : decode cX12_restore 11 = .ok (.bipush (-103), 2) := by decide +kernel
theorem dX12_restore_13 : decode cX12_restore 13 = .ok (.ireturn, 1) := by decide +kernel
theorem dX12_restore_14 : decode cX12_restore 14 = .ok (.aload_n 0, 1) := by decide +kernel
theorem dX12_restore_15 : decode cX12_restore 15 = .ok (.getfield 79, 3) := by decide +kernel
theorem dX12_restore_18 : decode cX12_restore 18 = .ok (.aload_n 0, 1) := by decide +kernel
theorem dX12_restore_19 : decode cX12_restore 19 = .ok (.getfield 25, 3) := by decide +kernel
theorem dX12_restore_22 : decode cX12_restore 22 = .ok (.invokestatic 177, 3) := by decide +kernel
theorem dX12_restore_25 : decode cX12_restore 25 = .ok (.aload_n 0, 1) := by decide +kernel
theorem dX12_restore_26 : decode cX12_restore 26 = .ok (.getfield 82, 3) := by decide +kernel
theorem dX12_restore_29 : decode cX12_restore 29 = .ok (.aload_n 0, 1) := by decide +kernel
theorem dX12_restore_30 : decode cX12_restore 30 = .ok (.getfield 28, 3) := by decide +kernel
theorem dX12_restore_33 : decode cX12_restore 33 = .ok (.invokestatic 177, 3) := by decide +kernel
theorem dX12_restore_36 : decode cX12_restore 36 = .ok (.aload_n 0, 1) := by decide +kernel
theorem dX12_restore_37 : decode cX12_restore 37 = .ok (.getfield 85, 3) := by decide +kernel
theorem dX12_restore_40 : decode cX12_restore 40 = .ok (.aload_n 0, 1) := by decide +kernel
theorem dX12_restore_41 : decode cX12_restore 41 = .ok (.getfield 31, 3) := by decide +kernel
theorem dX12_restore_44 : decode cX12_restore 44 = .ok (.invokestatic 177, 3) := by decide +kernel
theorem dX12_restore_47 : decode cX12_restore 47 = .ok (.aload_n 0, 1) := by decide +kernel
theorem dX12_restore_48 : decode cX12_restore 48 = .ok (.getfield 88, 3) := by decide +kernel
theorem dX12_restore_51 : decode cX12_restore 51 = .ok (.aload_n 0, 1) := by decide +kernel
theorem dX12_restore_52 : decode cX12_restore 52 = .ok (.getfield 43, 3) := by decide +kernel
theorem dX12_restore_55 : decode cX12_restore 55 = .ok (.invokestatic 177, 3) := by decide +kernel
theorem dX12_restore_58 : decode cX12_restore 58 = .ok (.aload_n 0, 1) := by decide +kernel
theorem dX12_restore_59 : decode cX12_restore 59 = .ok (.getfield 91, 3) := by decide +kernel
theorem dX12_restore_62 : decode cX12_restore 62 = .ok (.aload_n 0, 1) := by decide +kernel
theorem dX12_restore_63 : decode cX12_restore 63 = .ok (.getfield 46, 3) := by decide +kernel
theorem dX12_restore_66 : decode cX12_restore 66 = .ok (.invokestatic 177, 3) := by decide +kernel
theorem dX12_restore_69 : decode cX12_restore 69 = .ok (.aload_n 0, 1) := by decide +kernel
theorem dX12_restore_70 : decode cX12_restore 70 = .ok (.getfield 94, 3) := by decide +kernel
theorem dX12_restore_73 : decode cX12_restore 73 = .ok (.aload_n 0, 1) := by decide +kernel
theorem dX12_restore_74 : decode cX12_restore 74 = .ok (.getfield 76, 3) := by decide +kernel
theorem dX12_restore_77 : decode cX12_restore 77 = .ok (.invokestatic 177, 3) := by decide +kernel
theorem dX12_restore_80 : decode cX12_restore 80 = .ok (.aload_n 0, 1) := by decide +kernel
theorem dX12_restore_81 : decode cX12_restore 81 = .ok (.aload_n 0, 1) := by decide +kernel
theorem dX12_restore_82 : decode cX12_restore 82 = .ok (.getfield 326, 3) := by decide +kernel
theorem dX12_restore_85 : decode cX12_restore 85 = .ok (.putfield 168, 3) := by decide +kernel
theorem dX12_restore_88 : decode cX12_restore 88 = .ok (.aload_n 0, 1) := by decide +kernel
theorem dX12_restore_89 : decode cX12_restore 89 = .ok (.aload_n 0, 1) := by decide +kernel
theorem dX12_restore_90 : decode cX12_restore 90 = .ok (.getfield 329, 3) := by decide +kernel
theorem dX12_restore_93 : decode cX12_restore 93 = .ok (.putfield 171, 3) := by decide +kernel
theorem dX12_restore_96 : decode cX12_restore 96 = .ok (.aload_n 0, 1) := by decide +kernel
theorem dX12_restore_97 : decode cX12_restore 97 = .ok (.getfield 168, 3) := by decide +kernel
theorem dX12_restore_100 : decode cX12_restore 100 = .ok (.ireturn, 1) := by decide +kernel
theorem dX12_owedAll_0 : decode cX12_owedAll 0 = .ok (.iconst 0, 1) := by decide +kernel
theorem dX12_owedAll_1 : decode cX12_owedAll 1 = .ok (.istore_n 1, 1) := by decide +kernel
theorem dX12_owedAll_2 : decode cX12_owedAll 2 = .ok (.iconst 0, 1) := by decide +kernel
theorem dX12_owedAll_3 : decode cX12_owedAll 3 = .ok (.istore_n 2, 1) := by decide +kernel
theorem dX12_owedAll_4 : decode cX12_owedAll 4 = .ok (.iload_n 2, 1) := by decide +kernel
theorem dX12_owedAll_5 : decode cX12_owedAll 5 = .ok (.aload_n 0, 1) := by decide +kernel
theorem dX12_owedAll_6 : decode cX12_owedAll 6 = .ok (.getfield 162, 3) := by decide +kernel
theorem dX12_owedAll_9 : decode cX12_owedAll 9 = .ok (.if_icmp .ge 31, 3) := by decide +kernel
theorem dX12_owedAll_12 : decode cX12_owedAll 12 = .ok (.iload_n 1, 1) := by decide +kernel
theorem dX12_owedAll_13 : decode cX12_owedAll 13 = .ok (.aload_n 0, 1) := by decide +kernel
theorem dX12_owedAll_14 : decode cX12_owedAll 14 = .ok (.getfield 46, 3) := by decide +kernel
theorem dX12_owedAll_17 : decode cX12_owedAll 17 = .ok (.iload_n 2, 1) := by decide +kernel
theorem dX12_owedAll_18 : decode cX12_owedAll 18 = .ok (.iaload, 1) := by decide +kernel
theorem dX12_owedAll_19 : decode cX12_owedAll 19 = .ok (.ifCond .ne 12, 3) := by decide +kernel
theorem dX12_owedAll_22 : decode cX12_owedAll 22 = .ok (.aload_n 0, 1) := by decide +kernel
theorem dX12_owedAll_23 : decode cX12_owedAll 23 = .ok (.getfield 43, 3) := by decide +kernel
theorem dX12_owedAll_26 : decode cX12_owedAll 26 = .ok (.iload_n 2, 1) := by decide +kernel
theorem dX12_owedAll_27 : decode cX12_owedAll 27 = .ok (.iaload, 1) := by decide +kernel
theorem dX12_owedAll_28 : decode cX12_owedAll 28 = .ok (.goto 4, 3) := by decide +kernel
theorem dX12_owedAll_31 : decode cX12_owedAll 31 = .ok (.iconst 0, 1) := by decide +kernel
theorem dX12_owedAll_32 : decode cX12_owedAll 32 = .ok (.iadd, 1) := by decide +kernel
theorem dX12_owedAll_33 : decode cX12_owedAll 33 = .ok (.istore_n 1, 1) := by decide +kernel
theorem dX12_owedAll_34 : decode cX12_owedAll 34 = .ok (.iinc 2 1, 3) := by decide +kernel
theorem dX12_owedAll_37 : decode cX12_owedAll 37 = .ok (.goto (-33), 3) := by decide +kernel
theorem dX12_owedAll_40 : decode cX12_owedAll 40 = .ok (.iload_n 1, 1) := by decide +kernel
theorem dX12_owedAll_41 : decode cX12_owedAll 41 = .ok (.ireturn, 1) := by decide +kernel
theorem dX12_pursesAll_0 : decode cX12_pursesAll 0 = .ok (.iconst 0, 1) := by decide +kernel
theorem dX12_pursesAll_1 : decode cX12_pursesAll 1 = .ok (.istore_n 1, 1) := by decide +kernel
theorem dX12_pursesAll_2 : decode cX12_pursesAll 2 = .ok (.iconst 0, 1) := by decide +kernel
theorem dX12_pursesAll_3 : decode cX12_pursesAll 3 = .ok (.istore_n 2, 1) := by decide +kernel
theorem dX12_pursesAll_4 : decode cX12_pursesAll 4 = .ok (.iload_n 2, 1) := by decide +kernel
theorem dX12_pursesAll_5 : decode cX12_pursesAll 5 = .ok (.aload_n 0, 1) := by decide +kernel
theorem dX12_pursesAll_6 : decode cX12_pursesAll 6 = .ok (.getfield 159, 3) := by decide +kernel
theorem dX12_pursesAll_9 : decode cX12_pursesAll 9 = .ok (.if_icmp .ge 18, 3) := by decide +kernel
theorem dX12_pursesAll_12 : decode cX12_pursesAll 12 = .ok (.iload_n 1, 1) := by decide +kernel
theorem dX12_pursesAll_13 : decode cX12_pursesAll 13 = .ok (.aload_n 0, 1) := by decide +kernel
theorem dX12_pursesAll_14 : decode cX12_pursesAll 14 = .ok (.getfield 25, 3) := by decide +kernel
theorem dX12_pursesAll_17 : decode cX12_pursesAll 17 = .ok (.iload_n 2, 1) := by decide +kernel
theorem dX12_pursesAll_18 : decode cX12_pursesAll 18 = .ok (.iaload, 1) := by decide +kernel
theorem dX12_pursesAll_19 : decode cX12_pursesAll 19 = .ok (.iadd, 1) := by decide +kernel
theorem dX12_pursesAll_20 : decode cX12_pursesAll 20 = .ok (.istore_n 1, 1) := by decide +kernel
theorem dX12_pursesAll_21 : decode cX12_pursesAll 21 = .ok (.iinc 2 1, 3) := by decide +kernel
theorem dX12_pursesAll_24 : decode cX12_pursesAll 24 = .ok (.goto (-20), 3) := by decide +kernel
theorem dX12_pursesAll_27 : decode cX12_pursesAll 27 = .ok (.iload_n 1, 1) := by decide +kernel
theorem dX12_pursesAll_28 : decode cX12_pursesAll 28 = .ok (.ireturn, 1) := by decide +kernel
theorem dX12_countOf_0 : decode cX12_countOf 0 = .ok (.iload_n 1, 1) := by decide +kernel
theorem dX12_countOf_1 : decode cX12_countOf 1 = .ok (.tableswitch 147 0 12 #[67, 72, 77, 82, 87, 96, 101, 106, 111, 111, 132, 137, 142], 67) := by decide +kernel
theorem dX12_countOf_68 : decode cX12_countOf 68 = .ok (.aload_n 0, 1) := by decide +kernel
theorem dX12_countOf_69 : decode cX12_countOf 69 = .ok (.getfield 153, 3) := by decide +kernel
theorem dX12_countOf_72 : decode cX12_countOf 72 = .ok (.ireturn, 1) := by decide +kernel
theorem dX12_countOf_73 : decode cX12_countOf 73 = .ok (.aload_n 0, 1) := by decide +kernel
theorem dX12_countOf_74 : decode cX12_countOf 74 = .ok (.getfield 156, 3) := by decide +kernel
theorem dX12_countOf_77 : decode cX12_countOf 77 = .ok (.ireturn, 1) := by decide +kernel
theorem dX12_countOf_78 : decode cX12_countOf 78 = .ok (.aload_n 0, 1) := by decide +kernel
theorem dX12_countOf_79 : decode cX12_countOf 79 = .ok (.getfield 159, 3) := by decide +kernel
theorem dX12_countOf_82 : decode cX12_countOf 82 = .ok (.ireturn, 1) := by decide +kernel
theorem dX12_countOf_83 : decode cX12_countOf 83 = .ok (.aload_n 0, 1) := by decide +kernel
theorem dX12_countOf_84 : decode cX12_countOf 84 = .ok (.getfield 162, 3) := by decide +kernel
theorem dX12_countOf_87 : decode cX12_countOf 87 = .ok (.ireturn, 1) := by decide +kernel
theorem dX12_countOf_88 : decode cX12_countOf 88 = .ok (.aload_n 0, 1) := by decide +kernel
theorem dX12_countOf_89 : decode cX12_countOf 89 = .ok (.aload_n 0, 1) := by decide +kernel
theorem dX12_countOf_90 : decode cX12_countOf 90 = .ok (.getfield 46, 3) := by decide +kernel
theorem dX12_countOf_93 : decode cX12_countOf 93 = .ok (.invokevirtual 322, 3) := by decide +kernel
theorem dX12_countOf_96 : decode cX12_countOf 96 = .ok (.ireturn, 1) := by decide +kernel
theorem dX12_countOf_97 : decode cX12_countOf 97 = .ok (.aload_n 0, 1) := by decide +kernel
theorem dX12_countOf_98 : decode cX12_countOf 98 = .ok (.invokevirtual 332, 3) := by decide +kernel
theorem dX12_countOf_101 : decode cX12_countOf 101 = .ok (.ireturn, 1) := by decide +kernel
theorem dX12_countOf_102 : decode cX12_countOf 102 = .ok (.aload_n 0, 1) := by decide +kernel
theorem dX12_countOf_103 : decode cX12_countOf 103 = .ok (.invokevirtual 335, 3) := by decide +kernel
theorem dX12_countOf_106 : decode cX12_countOf 106 = .ok (.ireturn, 1) := by decide +kernel
theorem dX12_countOf_107 : decode cX12_countOf 107 = .ok (.aload_n 0, 1) := by decide +kernel
theorem dX12_countOf_108 : decode cX12_countOf 108 = .ok (.getfield 168, 3) := by decide +kernel
theorem dX12_countOf_111 : decode cX12_countOf 111 = .ok (.ireturn, 1) := by decide +kernel
theorem dX12_countOf_112 : decode cX12_countOf 112 = .ok (.aload_n 0, 1) := by decide +kernel
theorem dX12_countOf_113 : decode cX12_countOf 113 = .ok (.invokevirtual 286, 3) := by decide +kernel
theorem dX12_countOf_116 : decode cX12_countOf 116 = .ok (.ifCond .eq 7, 3) := by decide +kernel
theorem dX12_countOf_119 : decode cX12_countOf 119 = .ok (.iconst (-1), 1) := by decide +kernel
theorem dX12_countOf_120 : decode cX12_countOf 120 = .ok (.goto 12, 3) := by decide +kernel
theorem dX12_countOf_123 : decode cX12_countOf 123 = .ok (.aload_n 0, 1) := by decide +kernel
theorem dX12_countOf_124 : decode cX12_countOf 124 = .ok (.getfield 31, 3) := by decide +kernel
theorem dX12_countOf_127 : decode cX12_countOf 127 = .ok (.iload_n 1, 1) := by decide +kernel
theorem dX12_countOf_128 : decode cX12_countOf 128 = .ok (.bipush 8, 2) := by decide +kernel
theorem dX12_countOf_130 : decode cX12_countOf 130 = .ok (.isub, 1) := by decide +kernel
theorem dX12_countOf_131 : decode cX12_countOf 131 = .ok (.iaload, 1) := by decide +kernel
theorem dX12_countOf_132 : decode cX12_countOf 132 = .ok (.ireturn, 1) := by decide +kernel
theorem dX12_countOf_133 : decode cX12_countOf 133 = .ok (.aload_n 0, 1) := by decide +kernel
theorem dX12_countOf_134 : decode cX12_countOf 134 = .ok (.getfield 171, 3) := by decide +kernel
theorem dX12_countOf_137 : decode cX12_countOf 137 = .ok (.ireturn, 1) := by decide +kernel
theorem dX12_countOf_138 : decode cX12_countOf 138 = .ok (.aload_n 0, 1) := by decide +kernel
theorem dX12_countOf_139 : decode cX12_countOf 139 = .ok (.getfield 107, 3) := by decide +kernel
theorem dX12_countOf_142 : decode cX12_countOf 142 = .ok (.ireturn, 1) := by decide +kernel
theorem dX12_countOf_143 : decode cX12_countOf 143 = .ok (.aload_n 0, 1) := by decide +kernel
theorem dX12_countOf_144 : decode cX12_countOf 144 = .ok (.getfield 174, 3) := by decide +kernel
theorem dX12_countOf_147 : decode cX12_countOf 147 = .ok (.ireturn, 1) := by decide +kernel
theorem dX12_countOf_148 : decode cX12_countOf 148 = .ok (.bipush (-102), 2) := by decide +kernel
theorem dX12_countOf_150 : decode cX12_countOf 150 = .ok (.ireturn, 1) := by decide +kernel
theorem dX12_count_0 : decode cX12_count 0 = .ok (.aload_n 0, 1) := by decide +kernel
theorem dX12_count_1 : decode cX12_count 1 = .ok (.iload_n 1, 1) := by decide +kernel
theorem dX12_count_2 : decode cX12_count 2 = .ok (.invokevirtual 338, 3) := by decide +kernel
theorem dX12_count_5 : decode cX12_count 5 = .ok (.ireturn, 1) := by decide +kernel
theorem dX12_say_0 : decode cX12_say 0 = .ok (.aload_n 0, 1) := by decide +kernel
theorem dX12_say_1 : decode cX12_say 1 = .ok (.ldc2_w 341, 3) := by decide +kernel
theorem dX12_say_4 : decode cX12_say 4 = .ok (.aload_n 0, 1) := by decide +kernel
theorem dX12_say_5 : decode cX12_say 5 = .ok (.getfield 343, 3) := by decide +kernel
theorem dX12_say_8 : decode cX12_say 8 = .ok (.lmul, 1) := by decide +kernel
theorem dX12_say_9 : decode cX12_say 9 = .ok (.lload_n 1, 1) := by decide +kernel
theorem dX12_say_10 : decode cX12_say 10 = .ok (.ladd, 1) := by decide +kernel
theorem dX12_say_11 : decode cX12_say 11 = .ok (.putfield 343, 3) := by decide +kernel
theorem dX12_say_14 : decode cX12_say 14 = .ok (.return_, 1) := by decide +kernel
theorem dX12_sayPerson_0 : decode cX12_sayPerson 0 = .ok (.iconst 0, 1) := by decide +kernel
theorem dX12_sayPerson_1 : decode cX12_sayPerson 1 = .ok (.istore_n 2, 1) := by decide +kernel
theorem dX12_sayPerson_2 : decode cX12_sayPerson 2 = .ok (.iload_n 2, 1) := by decide +kernel
theorem dX12_sayPerson_3 : decode cX12_sayPerson 3 = .ok (.bipush 9, 2) := by decide +kernel
theorem dX12_sayPerson_5 : decode cX12_sayPerson 5 = .ok (.if_icmp .ge 20, 3) := by decide +kernel
theorem dX12_sayPerson_8 : decode cX12_sayPerson 8 = .ok (.aload_n 0, 1) := by decide +kernel
theorem dX12_sayPerson_9 : decode cX12_sayPerson 9 = .ok (.aload_n 0, 1) := by decide +kernel
theorem dX12_sayPerson_10 : decode cX12_sayPerson 10 = .ok (.iload_n 1, 1) := by decide +kernel
theorem dX12_sayPerson_11 : decode cX12_sayPerson 11 = .ok (.iload_n 2, 1) := by decide +kernel
theorem dX12_sayPerson_12 : decode cX12_sayPerson 12 = .ok (.invokevirtual 218, 3) := by decide +kernel
theorem dX12_sayPerson_15 : decode cX12_sayPerson 15 = .ok (.i2l, 1) := by decide +kernel
theorem dX12_sayPerson_16 : decode cX12_sayPerson 16 = .ok (.invokevirtual 347, 3) := by decide +kernel
theorem dX12_sayPerson_19 : decode cX12_sayPerson 19 = .ok (.iinc 2 1, 3) := by decide +kernel
theorem dX12_sayPerson_22 : decode cX12_sayPerson 22 = .ok (.goto (-20), 3) := by decide +kernel
theorem dX12_sayPerson_25 : decode cX12_sayPerson 25 = .ok (.iconst 0, 1) := by decide +kernel
theorem dX12_sayPerson_26 : decode cX12_sayPerson 26 = .ok (.istore_n 2, 1) := by decide +kernel
theorem dX12_sayPerson_27 : decode cX12_sayPerson 27 = .ok (.iload_n 2, 1) := by decide +kernel
theorem dX12_sayPerson_28 : decode cX12_sayPerson 28 = .ok (.aload_n 0, 1) := by decide +kernel
theorem dX12_sayPerson_29 : decode cX12_sayPerson 29 = .ok (.getfield 153, 3) := by decide +kernel
theorem dX12_sayPerson_32 : decode cX12_sayPerson 32 = .ok (.if_icmp .ge 34, 3) := by decide +kernel
theorem dX12_sayPerson_35 : decode cX12_sayPerson 35 = .ok (.aload_n 0, 1) := by decide +kernel
theorem dX12_sayPerson_36 : decode cX12_sayPerson 36 = .ok (.aload_n 0, 1) := by decide +kernel
theorem dX12_sayPerson_37 : decode cX12_sayPerson 37 = .ok (.iload_n 1, 1) := by decide +kernel
theorem dX12_sayPerson_38 : decode cX12_sayPerson 38 = .ok (.iload_n 2, 1) := by decide +kernel
theorem dX12_sayPerson_39 : decode cX12_sayPerson 39 = .ok (.iconst 0, 1) := by decide +kernel
theorem dX12_sayPerson_40 : decode cX12_sayPerson 40 = .ok (.invokevirtual 253, 3) := by decide +kernel
theorem dX12_sayPerson_43 : decode cX12_sayPerson 43 = .ok (.i2l, 1) := by decide +kernel
theorem dX12_sayPerson_44 : decode cX12_sayPerson 44 = .ok (.invokevirtual 347, 3) := by decide +kernel
theorem dX12_sayPerson_47 : decode cX12_sayPerson 47 = .ok (.aload_n 0, 1) := by decide +kernel
theorem dX12_sayPerson_48 : decode cX12_sayPerson 48 = .ok (.aload_n 0, 1) := by decide +kernel
theorem dX12_sayPerson_49 : decode cX12_sayPerson 49 = .ok (.iload_n 1, 1) := by decide +kernel
theorem dX12_sayPerson_50 : decode cX12_sayPerson 50 = .ok (.iload_n 2, 1) := by decide +kernel
theorem dX12_sayPerson_51 : decode cX12_sayPerson 51 = .ok (.bipush 10, 2) := by decide +kernel
theorem dX12_sayPerson_53 : decode cX12_sayPerson 53 = .ok (.invokevirtual 253, 3) := by decide +kernel
theorem dX12_sayPerson_56 : decode cX12_sayPerson 56 = .ok (.i2l, 1) := by decide +kernel
theorem dX12_sayPerson_57 : decode cX12_sayPerson 57 = .ok (.invokevirtual 347, 3) := by decide +kernel
theorem dX12_sayPerson_60 : decode cX12_sayPerson 60 = .ok (.iinc 2 1, 3) := by decide +kernel
theorem dX12_sayPerson_63 : decode cX12_sayPerson 63 = .ok (.goto (-36), 3) := by decide +kernel
theorem dX12_sayPerson_66 : decode cX12_sayPerson 66 = .ok (.aload_n 0, 1) := by decide +kernel
theorem dX12_sayPerson_67 : decode cX12_sayPerson 67 = .ok (.aload_n 0, 1) := by decide +kernel
theorem dX12_sayPerson_68 : decode cX12_sayPerson 68 = .ok (.iload_n 1, 1) := by decide +kernel
theorem dX12_sayPerson_69 : decode cX12_sayPerson 69 = .ok (.iconst 2, 1) := by decide +kernel
theorem dX12_sayPerson_70 : decode cX12_sayPerson 70 = .ok (.iconst 0, 1) := by decide +kernel
theorem dX12_sayPerson_71 : decode cX12_sayPerson 71 = .ok (.invokevirtual 264, 3) := by decide +kernel
theorem dX12_sayPerson_74 : decode cX12_sayPerson 74 = .ok (.i2l, 1) := by decide +kernel
theorem dX12_sayPerson_75 : decode cX12_sayPerson 75 = .ok (.invokevirtual 347, 3) := by decide +kernel
theorem dX12_sayPerson_78 : decode cX12_sayPerson 78 = .ok (.aload_n 0, 1) := by decide +kernel
theorem dX12_sayPerson_79 : decode cX12_sayPerson 79 = .ok (.aload_n 0, 1) := by decide +kernel
theorem dX12_sayPerson_80 : decode cX12_sayPerson 80 = .ok (.iload_n 1, 1) := by decide +kernel
theorem dX12_sayPerson_81 : decode cX12_sayPerson 81 = .ok (.iconst 2, 1) := by decide +kernel
theorem dX12_sayPerson_82 : decode cX12_sayPerson 82 = .ok (.bipush 10, 2) := by decide +kernel
theorem dX12_sayPerson_84 : decode cX12_sayPerson 84 = .ok (.invokevirtual 264, 3) := by decide +kernel
theorem dX12_sayPerson_87 : decode cX12_sayPerson 87 = .ok (.i2l, 1) := by decide +kernel
theorem dX12_sayPerson_88 : decode cX12_sayPerson 88 = .ok (.invokevirtual 347, 3) := by decide +kernel
theorem dX12_sayPerson_91 : decode cX12_sayPerson 91 = .ok (.aload_n 0, 1) := by decide +kernel
theorem dX12_sayPerson_92 : decode cX12_sayPerson 92 = .ok (.aload_n 0, 1) := by decide +kernel
theorem dX12_sayPerson_93 : decode cX12_sayPerson 93 = .ok (.iload_n 1, 1) := by decide +kernel
theorem dX12_sayPerson_94 : decode cX12_sayPerson 94 = .ok (.iconst 2, 1) := by decide +kernel
theorem dX12_sayPerson_95 : decode cX12_sayPerson 95 = .ok (.bipush 11, 2) := by decide +kernel
theorem dX12_sayPerson_97 : decode cX12_sayPerson 97 = .ok (.invokevirtual 264, 3) := by decide +kernel
theorem dX12_sayPerson_100 : decode cX12_sayPerson 100 = .ok (.i2l, 1) := by decide +kernel
theorem dX12_sayPerson_101 : decode cX12_sayPerson 101 = .ok (.invokevirtual 347, 3) := by decide +kernel
theorem dX12_sayPerson_104 : decode cX12_sayPerson 104 = .ok (.return_, 1) := by decide +kernel
theorem dX12_sayThings_0 : decode cX12_sayThings 0 = .ok (.iconst 0, 1) := by decide +kernel
theorem dX12_sayThings_1 : decode cX12_sayThings 1 = .ok (.istore_n 1, 1) := by decide +kernel
theorem dX12_sayThings_2 : decode cX12_sayThings 2 = .ok (.iload_n 1, 1) := by decide +kernel
theorem dX12_sayThings_3 : decode cX12_sayThings 3 = .ok (.aload_n 0, 1) := by decide +kernel
theorem dX12_sayThings_4 : decode cX12_sayThings 4 = .ok (.getfield 156, 3) := by decide +kernel
theorem dX12_sayThings_7 : decode cX12_sayThings 7 = .ok (.if_icmp .ge 33, 3) := by decide +kernel
theorem dX12_sayThings_10 : decode cX12_sayThings 10 = .ok (.iconst 0, 1) := by decide +kernel
theorem dX12_sayThings_11 : decode cX12_sayThings 11 = .ok (.istore_n 2, 1) := by decide +kernel
theorem dX12_sayThings_12 : decode cX12_sayThings 12 = .ok (.iload_n 2, 1) := by decide +kernel
theorem dX12_sayThings_13 : decode cX12_sayThings 13 = .ok (.iconst 3, 1) := by decide +kernel
theorem dX12_sayThings_14 : decode cX12_sayThings 14 = .ok (.if_icmp .ge 20, 3) := by decide +kernel
theorem dX12_sayThings_17 : decode cX12_sayThings 17 = .ok (.aload_n 0, 1) := by decide +kernel
theorem dX12_sayThings_18 : decode cX12_sayThings 18 = .ok (.aload_n 0, 1) := by decide +kernel
theorem dX12_sayThings_19 : decode cX12_sayThings 19 = .ok (.iload_n 1, 1) := by decide +kernel
theorem dX12_sayThings_20 : decode cX12_sayThings 20 = .ok (.iload_n 2, 1) := by decide +kernel
theorem dX12_sayThings_21 : decode cX12_sayThings 21 = .ok (.invokevirtual 227, 3) := by decide +kernel
theorem dX12_sayThings_24 : decode cX12_sayThings 24 = .ok (.i2l, 1) := by decide +kernel
theorem dX12_sayThings_25 : decode cX12_sayThings 25 = .ok (.invokevirtual 347, 3) := by decide +kernel
theorem dX12_sayThings_28 : decode cX12_sayThings 28 = .ok (.iinc 2 1, 3) := by decide +kernel
theorem dX12_sayThings_31 : decode cX12_sayThings 31 = .ok (.goto (-19), 3) := by decide +kernel
theorem dX12_sayThings_34 : decode cX12_sayThings 34 = .ok (.iinc 1 1, 3) := by decide +kernel
theorem dX12_sayThings_37 : decode cX12_sayThings 37 = .ok (.goto (-35), 3) := by decide +kernel
theorem dX12_sayThings_40 : decode cX12_sayThings 40 = .ok (.iconst 0, 1) := by decide +kernel
theorem dX12_sayThings_41 : decode cX12_sayThings 41 = .ok (.istore_n 1, 1) := by decide +kernel
theorem dX12_sayThings_42 : decode cX12_sayThings 42 = .ok (.iload_n 1, 1) := by decide +kernel
theorem dX12_sayThings_43 : decode cX12_sayThings 43 = .ok (.aload_n 0, 1) := by decide +kernel
theorem dX12_sayThings_44 : decode cX12_sayThings 44 = .ok (.getfield 162, 3) := by decide +kernel
theorem dX12_sayThings_47 : decode cX12_sayThings 47 = .ok (.if_icmp .ge 34, 3) := by decide +kernel
theorem dX12_sayThings_50 : decode cX12_sayThings 50 = .ok (.iconst 0, 1) := by decide +kernel
theorem dX12_sayThings_51 : decode cX12_sayThings 51 = .ok (.istore_n 2, 1) := by decide +kernel
theorem dX12_sayThings_52 : decode cX12_sayThings 52 = .ok (.iload_n 2, 1) := by decide +kernel
theorem dX12_sayThings_53 : decode cX12_sayThings 53 = .ok (.bipush 6, 2) := by decide +kernel
theorem dX12_sayThings_55 : decode cX12_sayThings 55 = .ok (.if_icmp .ge 20, 3) := by decide +kernel
theorem dX12_sayThings_58 : decode cX12_sayThings 58 = .ok (.aload_n 0, 1) := by decide +kernel
theorem dX12_sayThings_59 : decode cX12_sayThings 59 = .ok (.aload_n 0, 1) := by decide +kernel
theorem dX12_sayThings_60 : decode cX12_sayThings 60 = .ok (.iload_n 1, 1) := by decide +kernel
theorem dX12_sayThings_61 : decode cX12_sayThings 61 = .ok (.iload_n 2, 1) := by decide +kernel
theorem dX12_sayThings_62 : decode cX12_sayThings 62 = .ok (.invokevirtual 233, 3) := by decide +kernel
theorem dX12_sayThings_65 : decode cX12_sayThings 65 = .ok (.i2l, 1) := by decide +kernel
theorem dX12_sayThings_66 : decode cX12_sayThings 66 = .ok (.invokevirtual 347, 3) := by decide +kernel
theorem dX12_sayThings_69 : decode cX12_sayThings 69 = .ok (.iinc 2 1, 3) := by decide +kernel
theorem dX12_sayThings_72 : decode cX12_sayThings 72 = .ok (.goto (-20), 3) := by decide +kernel
theorem dX12_sayThings_75 : decode cX12_sayThings 75 = .ok (.iinc 1 1, 3) := by decide +kernel
theorem dX12_sayThings_78 : decode cX12_sayThings 78 = .ok (.goto (-36), 3) := by decide +kernel
theorem dX12_sayThings_81 : decode cX12_sayThings 81 = .ok (.iconst 0, 1) := by decide +kernel
theorem dX12_sayThings_82 : decode cX12_sayThings 82 = .ok (.istore_n 1, 1) := by decide +kernel
theorem dX12_sayThings_83 : decode cX12_sayThings 83 = .ok (.iload_n 1, 1) := by decide +kernel
theorem dX12_sayThings_84 : decode cX12_sayThings 84 = .ok (.aload_n 0, 1) := by decide +kernel
theorem dX12_sayThings_85 : decode cX12_sayThings 85 = .ok (.getfield 153, 3) := by decide +kernel
theorem dX12_sayThings_88 : decode cX12_sayThings 88 = .ok (.if_icmp .ge 20, 3) := by decide +kernel
theorem dX12_sayThings_91 : decode cX12_sayThings 91 = .ok (.aload_n 0, 1) := by decide +kernel
theorem dX12_sayThings_92 : decode cX12_sayThings 92 = .ok (.aload_n 0, 1) := by decide +kernel
theorem dX12_sayThings_93 : decode cX12_sayThings 93 = .ok (.iload_n 1, 1) := by decide +kernel
theorem dX12_sayThings_94 : decode cX12_sayThings 94 = .ok (.iconst 0, 1) := by decide +kernel
theorem dX12_sayThings_95 : decode cX12_sayThings 95 = .ok (.invokevirtual 280, 3) := by decide +kernel
theorem dX12_sayThings_98 : decode cX12_sayThings 98 = .ok (.i2l, 1) := by decide +kernel
theorem dX12_sayThings_99 : decode cX12_sayThings 99 = .ok (.invokevirtual 347, 3) := by decide +kernel
theorem dX12_sayThings_102 : decode cX12_sayThings 102 = .ok (.iinc 1 1, 3) := by decide +kernel
theorem dX12_sayThings_105 : decode cX12_sayThings 105 = .ok (.goto (-22), 3) := by decide +kernel
theorem dX12_sayThings_108 : decode cX12_sayThings 108 = .ok (.return_, 1) := by decide +kernel
theorem dX12_digest_0 : decode cX12_digest 0 = .ok (.aload_n 0, 1) := by decide +kernel
theorem dX12_digest_1 : decode cX12_digest 1 = .ok (.ldc2_w 351, 3) := by decide +kernel
theorem dX12_digest_4 : decode cX12_digest 4 = .ok (.putfield 343, 3) := by decide +kernel
theorem dX12_digest_7 : decode cX12_digest 7 = .ok (.iconst 0, 1) := by decide +kernel
theorem dX12_digest_8 : decode cX12_digest 8 = .ok (.istore_n 1, 1) := by decide +kernel
theorem dX12_digest_9 : decode cX12_digest 9 = .ok (.iload_n 1, 1) := by decide +kernel
theorem dX12_digest_10 : decode cX12_digest 10 = .ok (.aload_n 0, 1) := by decide +kernel
theorem dX12_digest_11 : decode cX12_digest 11 = .ok (.getfield 159, 3) := by decide +kernel
theorem dX12_digest_14 : decode cX12_digest 14 = .ok (.if_icmp .ge 14, 3) := by decide +kernel
theorem dX12_digest_17 : decode cX12_digest 17 = .ok (.aload_n 0, 1) := by decide +kernel
theorem dX12_digest_18 : decode cX12_digest 18 = .ok (.iload_n 1, 1) := by decide +kernel
theorem dX12_digest_19 : decode cX12_digest 19 = .ok (.invokevirtual 353, 3) := by decide +kernel
theorem dX12_digest_22 : decode cX12_digest 22 = .ok (.iinc 1 1, 3) := by decide +kernel
theorem dX12_digest_25 : decode cX12_digest 25 = .ok (.goto (-16), 3) := by decide +kernel
theorem dX12_digest_28 : decode cX12_digest 28 = .ok (.aload_n 0, 1) := by decide +kernel
theorem dX12_digest_29 : decode cX12_digest 29 = .ok (.invokevirtual 356, 3) := by decide +kernel
theorem dX12_digest_32 : decode cX12_digest 32 = .ok (.aload_n 0, 1) := by decide +kernel
theorem dX12_digest_33 : decode cX12_digest 33 = .ok (.invokevirtual 286, 3) := by decide +kernel
theorem dX12_digest_36 : decode cX12_digest 36 = .ok (.ifCond .ne 38, 3) := by decide +kernel
theorem dX12_digest_39 : decode cX12_digest 39 = .ok (.aload_n 0, 1) := by decide +kernel
theorem dX12_digest_40 : decode cX12_digest 40 = .ok (.aload_n 0, 1) := by decide +kernel
theorem dX12_digest_41 : decode cX12_digest 41 = .ok (.invokevirtual 290, 3) := by decide +kernel
theorem dX12_digest_44 : decode cX12_digest 44 = .ok (.i2l, 1) := by decide +kernel
theorem dX12_digest_45 : decode cX12_digest 45 = .ok (.invokevirtual 347, 3) := by decide +kernel
theorem dX12_digest_48 : decode cX12_digest 48 = .ok (.aload_n 0, 1) := by decide +kernel
theorem dX12_digest_49 : decode cX12_digest 49 = .ok (.aload_n 0, 1) := by decide +kernel
theorem dX12_digest_50 : decode cX12_digest 50 = .ok (.iconst 0, 1) := by decide +kernel
theorem dX12_digest_51 : decode cX12_digest 51 = .ok (.iconst 1, 1) := by decide +kernel
theorem dX12_digest_52 : decode cX12_digest 52 = .ok (.iconst 2, 1) := by decide +kernel
theorem dX12_digest_53 : decode cX12_digest 53 = .ok (.iconst 0, 1) := by decide +kernel
theorem dX12_digest_54 : decode cX12_digest 54 = .ok (.invokevirtual 298, 3) := by decide +kernel
theorem dX12_digest_57 : decode cX12_digest 57 = .ok (.i2l, 1) := by decide +kernel
theorem dX12_digest_58 : decode cX12_digest 58 = .ok (.invokevirtual 347, 3) := by decide +kernel
theorem dX12_digest_61 : decode cX12_digest 61 = .ok (.aload_n 0, 1) := by decide +kernel
theorem dX12_digest_62 : decode cX12_digest 62 = .ok (.aload_n 0, 1) := by decide +kernel
theorem dX12_digest_63 : decode cX12_digest 63 = .ok (.iconst 0, 1) := by decide +kernel
theorem dX12_digest_64 : decode cX12_digest 64 = .ok (.iconst 1, 1) := by decide +kernel
theorem dX12_digest_65 : decode cX12_digest 65 = .ok (.iconst 2, 1) := by decide +kernel
theorem dX12_digest_66 : decode cX12_digest 66 = .ok (.iconst 1, 1) := by decide +kernel
theorem dX12_digest_67 : decode cX12_digest 67 = .ok (.invokevirtual 298, 3) := by decide +kernel
theorem dX12_digest_70 : decode cX12_digest 70 = .ok (.i2l, 1) := by decide +kernel
theorem dX12_digest_71 : decode cX12_digest 71 = .ok (.invokevirtual 347, 3) := by decide +kernel
theorem dX12_digest_74 : decode cX12_digest 74 = .ok (.iconst 0, 1) := by decide +kernel
theorem dX12_digest_75 : decode cX12_digest 75 = .ok (.istore_n 1, 1) := by decide +kernel
theorem dX12_digest_76 : decode cX12_digest 76 = .ok (.iload_n 1, 1) := by decide +kernel
theorem dX12_digest_77 : decode cX12_digest 77 = .ok (.aload_n 0, 1) := by decide +kernel
theorem dX12_digest_78 : decode cX12_digest 78 = .ok (.getfield 107, 3) := by decide +kernel
theorem dX12_digest_81 : decode cX12_digest 81 = .ok (.if_icmp .ge 20, 3) := by decide +kernel
theorem dX12_digest_84 : decode cX12_digest 84 = .ok (.aload_n 0, 1) := by decide +kernel
theorem dX12_digest_85 : decode cX12_digest 85 = .ok (.aload_n 0, 1) := by decide +kernel
theorem dX12_digest_86 : decode cX12_digest 86 = .ok (.getfield 7, 3) := by decide +kernel
theorem dX12_digest_89 : decode cX12_digest 89 = .ok (.iload_n 1, 1) := by decide +kernel
theorem dX12_digest_90 : decode cX12_digest 90 = .ok (.iaload, 1) := by decide +kernel
theorem dX12_digest_91 : decode cX12_digest 91 = .ok (.i2l, 1) := by decide +kernel
theorem dX12_digest_92 : decode cX12_digest 92 = .ok (.invokevirtual 347, 3) := by decide +kernel
theorem dX12_digest_95 : decode cX12_digest 95 = .ok (.iinc 1 1, 3) := by decide +kernel
theorem dX12_digest_98 : decode cX12_digest 98 = .ok (.goto (-22), 3) := by decide +kernel
theorem dX12_digest_101 : decode cX12_digest 101 = .ok (.iconst 0, 1) := by decide +kernel
theorem dX12_digest_102 : decode cX12_digest 102 = .ok (.istore_n 1, 1) := by decide +kernel
theorem dX12_digest_103 : decode cX12_digest 103 = .ok (.iload_n 1, 1) := by decide +kernel
theorem dX12_digest_104 : decode cX12_digest 104 = .ok (.bipush 13, 2) := by decide +kernel
theorem dX12_digest_106 : decode cX12_digest 106 = .ok (.if_icmp .ge 19, 3) := by decide +kernel
theorem dX12_digest_109 : decode cX12_digest 109 = .ok (.aload_n 0, 1) := by decide +kernel
theorem dX12_digest_110 : decode cX12_digest 110 = .ok (.aload_n 0, 1) := by decide +kernel
theorem dX12_digest_111 : decode cX12_digest 111 = .ok (.iload_n 1, 1) := by decide +kernel
theorem dX12_digest_112 : decode cX12_digest 112 = .ok (.invokevirtual 338, 3) := by decide +kernel
theorem dX12_digest_115 : decode cX12_digest 115 = .ok (.i2l, 1) := by decide +kernel
theorem dX12_digest_116 : decode cX12_digest 116 = .ok (.invokevirtual 347, 3) := by decide +kernel
theorem dX12_digest_119 : decode cX12_digest 119 = .ok (.iinc 1 1, 3) := by decide +kernel
theorem dX12_digest_122 : decode cX12_digest 122 = .ok (.goto (-19), 3) := by decide +kernel
theorem dX12_digest_125 : decode cX12_digest 125 = .ok (.aload_n 0, 1) := by decide +kernel
theorem dX12_digest_126 : decode cX12_digest 126 = .ok (.getfield 343, 3) := by decide +kernel
theorem dX12_digest_129 : decode cX12_digest 129 = .ok (.lreturn, 1) := by decide +kernel
