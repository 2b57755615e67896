theorem dX11_earn_48 : decode cX11_earn 48 = .ok (.getfield 106, 3) := by decide +kernel
theorem dX11_earn_51 : decode cX11_earn 51 = .ok (.iload_n 1, 1) := by decide +kernel
theorem dX11_earn_52 : decode cX11_earn 52 = .ok (.dup2, 1) := by decide +kernel
theorem dX11_earn_53 : decode cX11_earn 53 = .ok (.iaload, 1) := by decide +kernel
theorem dX11_earn_54 : decode cX11_earn 54 = .ok (.iload_n 2, 1) := by decide +kernel
theorem dX11_earn_55 : decode cX11_earn 55 = .ok (.iadd, 1) := by decide +kernel
theorem dX11_earn_56 : decode cX11_earn 56 = .ok (.iastore, 1) := by decide +kernel
theorem dX11_earn_57 : decode cX11_earn 57 = .ok (.aload_n 0, 1) := by decide +kernel
theorem dX11_earn_58 : decode cX11_earn 58 = .ok (.getfield 28, 3) := by decide +kernel
theorem dX11_earn_61 : decode cX11_earn 61 = .ok (.getfield 106, 3) := by decide +kernel
theorem dX11_earn_64 : decode cX11_earn 64 = .ok (.iload_n 1, 1) := by decide +kernel
theorem dX11_earn_65 : decode cX11_earn 65 = .ok (.iaload, 1) := by decide +kernel
theorem dX11_earn_66 : decode cX11_earn 66 = .ok (.ireturn, 1) := by decide +kernel
theorem dX11_owe_0 : decode cX11_owe 0 = .ok (.aload_n 0, 1) := by decide +kernel
theorem dX11_owe_1 : decode cX11_owe 1 = .ok (.iload_n 1, 1) := by decide +kernel
theorem dX11_owe_2 : decode cX11_owe 2 = .ok (.invokevirtual 148, 3) := by decide +kernel
theorem dX11_owe_5 : decode cX11_owe 5 = .ok (.ifCond .eq 6, 3) := by decide +kernel
theorem dX11_owe_8 : decode cX11_owe 8 = .ok (.bipush (-101), 2) := by decide +kernel
theorem dX11_owe_10 : decode cX11_owe 10 = .ok (.ireturn, 1) := by decide +kernel
theorem dX11_owe_11 : decode cX11_owe 11 = .ok (.iload_n 2, 1) := by decide +kernel
theorem dX11_owe_12 : decode cX11_owe 12 = .ok (.iconst 1, 1) := by decide +kernel
theorem dX11_owe_13 : decode cX11_owe 13 = .ok (.if_icmp .lt 9, 3) := by decide +kernel
theorem dX11_owe_16 : decode cX11_owe 16 = .ok (.iload_n 2, 1) := by decide +kernel
theorem dX11_owe_17 : decode cX11_owe 17 = .ok (.bipush 9, 2) := by decide +kernel
theorem dX11_owe_19 : decode cX11_owe 19 = .ok (.if_icmp .le 6, 3) := by decide +kernel
theorem dX11_owe_22 : decode cX11_owe 22 = .ok (.bipush (-102), 2) := by decide +kernel
theorem dX11_owe_24 : decode cX11_owe 24 = .ok (.ireturn, 1) := by decide +kernel
theorem dX11_owe_25 : decode cX11_owe 25 = .ok (.aload_n 0, 1) := by decide +kernel
theorem dX11_owe_26 : decode cX11_owe 26 = .ok (.getfield 28, 3) := by decide +kernel
theorem dX11_owe_29 : decode cX11_owe 29 = .ok (.getfield 160, 3) := by decide +kernel
theorem dX11_owe_32 : decode cX11_owe 32 = .ok (.iload_n 1, 1) := by decide +kernel
theorem dX11_owe_33 : decode cX11_owe 33 = .ok (.iaload, 1) := by decide +kernel
theorem dX11_owe_34 : decode cX11_owe 34 = .ok (.istore_n 3, 1) := by decide +kernel
theorem dX11_owe_35 : decode cX11_owe 35 = .ok (.aload_n 0, 1) := by decide +kernel
theorem dX11_owe_36 : decode cX11_owe 36 = .ok (.getfield 28, 3) := by decide +kernel
theorem dX11_owe_39 : decode cX11_owe 39 = .ok (.getfield 160, 3) := by decide +kernel
theorem dX11_owe_42 : decode cX11_owe 42 = .ok (.iload_n 1, 1) := by decide +kernel
theorem dX11_owe_43 : decode cX11_owe 43 = .ok (.iload_n 2, 1) := by decide +kernel
theorem dX11_owe_44 : decode cX11_owe 44 = .ok (.iastore, 1) := by decide +kernel
theorem dX11_owe_45 : decode cX11_owe 45 = .ok (.aload_n 0, 1) := by decide +kernel
theorem dX11_owe_46 : decode cX11_owe 46 = .ok (.getfield 28, 3) := by decide +kernel
theorem dX11_owe_49 : decode cX11_owe 49 = .ok (.getfield 166, 3) := by decide +kernel
theorem dX11_owe_52 : decode cX11_owe 52 = .ok (.iload_n 1, 1) := by decide +kernel
theorem dX11_owe_53 : decode cX11_owe 53 = .ok (.iconst 0, 1) := by decide +kernel
theorem dX11_owe_54 : decode cX11_owe 54 = .ok (.bastore, 1) := by decide +kernel
theorem dX11_owe_55 : decode cX11_owe 55 = .ok (.iload_n 3, 1) := by decide +kernel
theorem dX11_owe_56 : decode cX11_owe 56 = .ok (.ireturn, 1) := by decide +kernel
theorem dX11_isNoRoom_0 : decode cX11_isNoRoom 0 = .ok (.iload_n 1, 1) := by decide +kernel
theorem dX11_isNoRoom_1 : decode cX11_isNoRoom 1 = .ok (.ifCond .lt 14, 3) := by decide +kernel
theorem dX11_isNoRoom_4 : decode cX11_isNoRoom 4 = .ok (.iload_n 1, 1) := by decide +kernel
theorem dX11_isNoRoom_5 : decode cX11_isNoRoom 5 = .ok (.aload_n 0, 1) := by decide +kernel
theorem dX11_isNoRoom_6 : decode cX11_isNoRoom 6 = .ok (.getfield 19, 3) := by decide +kernel
theorem dX11_isNoRoom_9 : decode cX11_isNoRoom 9 = .ok (.getfield 255, 3) := by decide +kernel
theorem dX11_isNoRoom_12 : decode cX11_isNoRoom 12 = .ok (.if_icmp .lt 7, 3) := by decide +kernel
theorem dX11_isNoRoom_15 : decode cX11_isNoRoom 15 = .ok (.iconst 1, 1) := by decide +kernel
theorem dX11_isNoRoom_16 : decode cX11_isNoRoom 16 = .ok (.goto 4, 3) := by decide +kernel
theorem dX11_isNoRoom_19 : decode cX11_isNoRoom 19 = .ok (.iconst 0, 1) := by decide +kernel
theorem dX11_isNoRoom_20 : decode cX11_isNoRoom 20 = .ok (.ireturn, 1) := by decide +kernel
theorem dX10_shorten_0 : decode cX10_shorten 0 = .ok (.aload_n 0, 1) := by decide +kernel
theorem dX10_shorten_1 : decode cX10_shorten 1 = .ok (.getfield 9, 3) := by decide +kernel
theorem dX10_shorten_4 : decode cX10_shorten 4 = .ok (.iload_n 1, 1) := by decide +kernel
theorem dX10_shorten_5 : decode cX10_shorten 5 = .ok (.iaload, 1) := by decide +kernel
theorem dX10_shorten_6 : decode cX10_shorten 6 = .ok (.iconst (-1), 1) := by decide +kernel
theorem dX10_shorten_7 : decode cX10_shorten 7 = .ok (.if_icmp .eq 44, 3) := by decide +kernel
theorem dX10_shorten_10 : decode cX10_shorten 10 = .ok (.aload_n 0, 1) := by decide +kernel
theorem dX10_shorten_11 : decode cX10_shorten 11 = .ok (.getfield 9, 3) := by decide +kernel
theorem dX10_shorten_14 : decode cX10_shorten 14 = .ok (.iload_n 2, 1) := by decide +kernel
theorem dX10_shorten_15 : decode cX10_shorten 15 = .ok (.iaload, 1) := by decide +kernel
theorem dX10_shorten_16 : decode cX10_shorten 16 = .ok (.iconst (-1), 1) := by decide +kernel
theorem dX10_shorten_17 : decode cX10_shorten 17 = .ok (.if_icmp .eq 20, 3) := by decide +kernel
theorem dX10_shorten_20 : decode cX10_shorten 20 = .ok (.aload_n 0, 1) := by decide +kernel
theorem dX10_shorten_21 : decode cX10_shorten 21 = .ok (.getfield 9, 3) := by decide +kernel
theorem dX10_shorten_24 : decode cX10_shorten 24 = .ok (.iload_n 2, 1) := by decide +kernel
theorem dX10_shorten_25 : decode cX10_shorten 25 = .ok (.iaload, 1) := by decide +kernel
theorem dX10_shorten_26 : decode cX10_shorten 26 = .ok (.aload_n 0, 1) := by decide +kernel
theorem dX10_shorten_27 : decode cX10_shorten 27 = .ok (.getfield 9, 3) := by decide +kernel
theorem dX10_shorten_30 : decode cX10_shorten 30 = .ok (.iload_n 1, 1) := by decide +kernel
theorem dX10_shorten_31 : decode cX10_shorten 31 = .ok (.iaload, 1) := by decide +kernel
theorem dX10_shorten_32 : decode cX10_shorten 32 = .ok (.iconst 1, 1) := by decide +kernel
theorem dX10_shorten_33 : decode cX10_shorten 33 = .ok (.iadd, 1) := by decide +kernel
theorem dX10_shorten_34 : decode cX10_shorten 34 = .ok (.if_icmp .le 17, 3) := by decide +kernel
theorem dX10_shorten_37 : decode cX10_shorten 37 = .ok (.aload_n 0, 1) := by decide +kernel
theorem dX10_shorten_38 : decode cX10_shorten 38 = .ok (.getfield 9, 3) := by decide +kernel
theorem dX10_shorten_41 : decode cX10_shorten 41 = .ok (.iload_n 2, 1) := by decide +kernel
theorem dX10_shorten_42 : decode cX10_shorten 42 = .ok (.aload_n 0, 1) := by decide +kernel
theorem dX10_shorten_43 : decode cX10_shorten 43 = .ok (.getfield 9, 3) := by decide +kernel
theorem dX10_shorten_46 : decode cX10_shorten 46 = .ok (.iload_n 1, 1) := by decide +kernel
theorem dX10_shorten_47 : decode cX10_shorten 47 = .ok (.iaload, 1) := by decide +kernel
theorem dX10_shorten_48 : decode cX10_shorten 48 = .ok (.iconst 1, 1) := by decide +kernel
theorem dX10_shorten_49 : decode cX10_shorten 49 = .ok (.iadd, 1) := by decide +kernel
theorem dX10_shorten_50 : decode cX10_shorten 50 = .ok (.iastore, 1) := by decide +kernel
theorem dX10_shorten_51 : decode cX10_shorten 51 = .ok (.return_, 1) := by decide +kernel
theorem dX10_measure_0 : decode cX10_measure 0 = .ok (.iconst 0, 1) := by decide +kernel
theorem dX10_measure_1 : decode cX10_measure 1 = .ok (.istore 4, 2) := by decide +kernel
theorem dX10_measure_3 : decode cX10_measure 3 = .ok (.iload 4, 2) := by decide +kernel
theorem dX10_measure_5 : decode cX10_measure 5 = .ok (.bipush 6, 2) := by decide +kernel
theorem dX10_measure_7 : decode cX10_measure 7 = .ok (.if_icmp .ge 17, 3) := by decide +kernel
theorem dX10_measure_10 : decode cX10_measure 10 = .ok (.aload_n 0, 1) := by decide +kernel
theorem dX10_measure_11 : decode cX10_measure 11 = .ok (.getfield 9, 3) := by decide +kernel
theorem dX10_measure_14 : decode cX10_measure 14 = .ok (.iload 4, 2) := by decide +kernel
theorem dX10_measure_16 : decode cX10_measure 16 = .ok (.iconst (-1), 1) := by decide +kernel
theorem dX10_measure_17 : decode cX10_measure 17 = .ok (.iastore, 1) := by decide +kernel
theorem dX10_measure_18 : decode cX10_measure 18 = .ok (.iinc 4 1, 3) := by decide +kernel
theorem dX10_measure_21 : decode cX10_measure 21 = .ok (.goto (-18), 3) := by decide +kernel
theorem dX10_measure_24 : decode cX10_measure 24 = .ok (.aload_n 0, 1) := by decide +kernel
theorem dX10_measure_25 : decode cX10_measure 25 = .ok (.getfield 9, 3) := by decide +kernel
theorem dX10_measure_28 : decode cX10_measure 28 = .ok (.iload_n 3, 1) := by decide +kernel
theorem dX10_measure_29 : decode cX10_measure 29 = .ok (.iconst 0, 1) := by decide +kernel
theorem dX10_measure_30 : decode cX10_measure 30 = .ok (.iastore, 1) := by decide +kernel
theorem dX10_measure_31 : decode cX10_measure 31 = .ok (.iconst 1, 1) := by decide +kernel
theorem dX10_measure_32 : decode cX10_measure 32 = .ok (.istore 4, 2) := by decide +kernel
theorem dX10_measure_34 : decode cX10_measure 34 = .ok (.iload 4, 2) := by decide +kernel
theorem dX10_measure_36 : decode cX10_measure 36 = .ok (.aload_n 0, 1) := by decide +kernel
theorem dX10_measure_37 : decode cX10_measure 37 = .ok (.getfield 21, 3) := by decide +kernel
theorem dX10_measure_40 : decode cX10_measure 40 = .ok (.getfield 44, 3) := by decide +kernel
theorem dX10_measure_43 : decode cX10_measure 43 = .ok (.if_icmp .ge 88, 3) := by decide +kernel
theorem dX10_measure_46 : decode cX10_measure 46 = .ok (.iconst 0, 1) := by decide +kernel
theorem dX10_measure_47 : decode cX10_measure 47 = .ok (.istore 5, 2) := by decide +kernel
theorem dX10_measure_49 : decode cX10_measure 49 = .ok (.iload 5, 2) := by decide +kernel
theorem dX10_measure_51 : decode cX10_measure 51 = .ok (.aload_n 0, 1) := by decide +kernel
theorem dX10_measure_52 : decode cX10_measure 52 = .ok (.getfield 21, 3) := by decide +kernel
theorem dX10_measure_55 : decode cX10_measure 55 = .ok (.getfield 48, 3) := by decide +kernel
theorem dX10_measure_58 : decode cX10_measure 58 = .ok (.if_icmp .ge 67, 3) := by decide +kernel
theorem dX10_measure_61 : decode cX10_measure 61 = .ok (.aload_n 1, 1) := by decide +kernel
theorem dX10_measure_62 : decode cX10_measure 62 = .ok (.iload_n 2, 1) := by decide +kernel
theorem dX10_measure_63 : decode cX10_measure 63 = .ok (.iload 5, 2) := by decide +kernel
theorem dX10_measure_65 : decode cX10_measure 65 = .ok (.invokevirtual 51, 3) := by decide +kernel
theorem dX10_measure_68 : decode cX10_measure 68 = .ok (.ifCond .eq 51, 3) := by decide +kernel
theorem dX10_measure_71 : decode cX10_measure 71 = .ok (.aload_n 0, 1) := by decide +kernel
theorem dX10_measure_72 : decode cX10_measure 72 = .ok (.aload_n 0, 1) := by decide +kernel
theorem dX10_measure_73 : decode cX10_measure 73 = .ok (.getfield 21, 3) := by decide +kernel
theorem dX10_measure_76 : decode cX10_measure 76 = .ok (.getfield 55, 3) := by decide +kernel
theorem dX10_measure_79 : decode cX10_measure 79 = .ok (.iload 5, 2) := by decide +kernel
theorem dX10_measure_81 : decode cX10_measure 81 = .ok (.iaload, 1) := by decide +kernel
theorem dX10_measure_82 : decode cX10_measure 82 = .ok (.aload_n 0, 1) := by decide +kernel
theorem dX10_measure_83 : decode cX10_measure 83 = .ok (.getfield 21, 3) := by decide +kernel
theorem dX10_measure_86 : decode cX10_measure 86 = .ok (.getfield 58, 3) := by decide +kernel
theorem dX10_measure_89 : decode cX10_measure 89 = .ok (.iload 5, 2) := by decide +kernel
theorem dX10_measure_91 : decode cX10_measure 91 = .ok (.iaload, 1) := by decide +kernel
theorem dX10_measure_92 : decode cX10_measure 92 = .ok (.invokevirtual 61, 3) := by decide +kernel
theorem dX10_measure_95 : decode cX10_measure 95 = .ok (.aload_n 0, 1) := by decide +kernel
theorem dX10_measure_96 : decode cX10_measure 96 = .ok (.aload_n 0, 1) := by decide +kernel
theorem dX10_measure_97 : decode cX10_measure 97 = .ok (.getfield 21, 3) := by decide +kernel
theorem dX10_measure_100 : decode cX10_measure 100 = .ok (.getfield 58, 3) := by decide +kernel
theorem dX10_measure_103 : decode cX10_measure 103 = .ok (.iload 5, 2) := by decide +kernel
theorem dX10_measure_105 : decode cX10_measure 105 = .ok (.iaload, 1) := by decide +kernel
theorem dX10_measure_106 : decode cX10_measure 106 = .ok (.aload_n 0, 1) := by decide +kernel
theorem dX10_measure_107 : decode cX10_measure 107 = .ok (.getfield 21, 3) := by decide +kernel
theorem dX10_measure_110 : decode cX10_measure 110 = .ok (.getfield 55, 3) := by decide +kernel
theorem dX10_measure_113 : decode cX10_measure 113 = .ok (.iload 5, 2) := by decide +kernel
theorem dX10_measure_115 : decode cX10_measure 115 = .ok (.iaload, 1) := by decide +kernel
theorem dX10_measure_116 : decode cX10_measure 116 = .ok (.invokevirtual 61, 3) := by decide +kernel
theorem dX10_measure_119 : decode cX10_measure 119 = .ok (.iinc 5 1, 3) := by decide +kernel
theorem dX10_measure_122 : decode cX10_measure 122 = .ok (.goto (-73), 3) := by decide +kernel
theorem dX10_measure_125 : decode cX10_measure 125 = .ok (.iinc 4 1, 3) := by decide +kernel
theorem dX10_measure_128 : decode cX10_measure 128 = .ok (.goto (-94), 3) := by decide +kernel
theorem dX10_measure_131 : decode cX10_measure 131 = .ok (.return_, 1) := by decide +kernel
theorem dX10_wayLength_0 : decode cX10_wayLength 0 = .ok (.aload_n 0, 1) := by decide +kernel
theorem dX10_wayLength_1 : decode cX10_wayLength 1 = .ok (.aload_n 1, 1) := by decide +kernel
theorem dX10_wayLength_2 : decode cX10_wayLength 2 = .ok (.iload_n 2, 1) := by decide +kernel
theorem dX10_wayLength_3 : decode cX10_wayLength 3 = .ok (.iload_n 3, 1) := by decide +kernel
theorem dX10_wayLength_4 : decode cX10_wayLength 4 = .ok (.invokevirtual 25, 3) := by decide +kernel
theorem dX10_wayLength_7 : decode cX10_wayLength 7 = .ok (.aload_n 0, 1) := by decide +kernel
theorem dX10_wayLength_8 : decode cX10_wayLength 8 = .ok (.getfield 9, 3) := by decide +kernel
theorem dX10_wayLength_11 : decode cX10_wayLength 11 = .ok (.aload_n 1, 1) := by decide +kernel
theorem dX10_wayLength_12 : decode cX10_wayLength 12 = .ok (.getfield 29, 3) := by decide +kernel
theorem dX10_wayLength_15 : decode cX10_wayLength 15 = .ok (.iload_n 2, 1) := by decide +kernel
theorem dX10_wayLength_16 : decode cX10_wayLength 16 = .ok (.iaload, 1) := by decide +kernel
theorem dX10_wayLength_17 : decode cX10_wayLength 17 = .ok (.iaload, 1) := by decide +kernel
theorem dX10_wayLength_18 : decode cX10_wayLength 18 = .ok (.ireturn, 1) := by decide +kernel
theorem dX10_doorNearer_0 : decode cX10_doorNearer 0 = .ok (.aload_n 0, 1) := by decide +kernel
theorem dX10_doorNearer_1 : decode cX10_doorNearer 1 = .ok (.getfield 9, 3) := by decide +kernel
theorem dX10_doorNearer_4 : decode cX10_doorNearer 4 = .ok (.iload_n 3, 1) := by decide +kernel
theorem dX10_doorNearer_5 : decode cX10_doorNearer 5 = .ok (.iaload, 1) := by decide +kernel
theorem dX10_doorNearer_6 : decode cX10_doorNearer 6 = .ok (.ifCond .gt 5, 3) := by decide +kernel
theorem dX10_doorNearer_9 : decode cX10_doorNearer 9 = .ok (.iconst (-1), 1) := by decide +kernel
theorem dX10_doorNearer_10 : decode cX10_doorNearer 10 = .ok (.ireturn, 1) := by decide +kernel
theorem dX10_doorNearer_11 : decode cX10_doorNearer 11 = .ok (.iconst 0, 1) := by decide +kernel
theorem dX10_doorNearer_12 : decode cX10_doorNearer 12 = .ok (.istore 4, 2) := by decide +kernel
theorem dX10_doorNearer_14 : decode cX10_doorNearer 14 = .ok (.iload 4, 2) := by decide +kernel
theorem dX10_doorNearer_16 : decode cX10_doorNearer 16 = .ok (.aload_n 0, 1) := by decide +kernel
theorem dX10_doorNearer_17 : decode cX10_doorNearer 17 = .ok (.getfield 21, 3) := by decide +kernel
theorem dX10_doorNearer_20 : decode cX10_doorNearer 20 = .ok (.getfield 48, 3) := by decide +kernel
theorem dX10_doorNearer_23 : decode cX10_doorNearer 23 = .ok (.if_icmp .ge 61, 3) := by decide +kernel
theorem dX10_doorNearer_26 : decode cX10_doorNearer 26 = .ok (.aload_n 0, 1) := by decide +kernel
theorem dX10_doorNearer_27 : decode cX10_doorNearer 27 = .ok (.getfield 21, 3) := by decide +kernel
theorem dX10_doorNearer_30 : decode cX10_doorNearer 30 = .ok (.iload 4, 2) := by decide +kernel
theorem dX10_doorNearer_32 : decode cX10_doorNearer 32 = .ok (.iload_n 3, 1) := by decide +kernel
theorem dX10_doorNearer_33 : decode cX10_doorNearer 33 = .ok (.invokevirtual 65, 3) := by decide +kernel
theorem dX10_doorNearer_36 : decode cX10_doorNearer 36 = .ok (.ifCond .eq 42, 3) := by decide +kernel
theorem dX10_doorNearer_39 : decode cX10_doorNearer 39 = .ok (.aload_n 1, 1) := by decide +kernel
theorem dX10_doorNearer_40 : decode cX10_doorNearer 40 = .ok (.iload_n 2, 1) := by decide +kernel
theorem dX10_doorNearer_41 : decode cX10_doorNearer 41 = .ok (.iload 4, 2) := by decide +kernel
theorem dX10_doorNearer_43 : decode cX10_doorNearer 43 = .ok (.invokevirtual 51, 3) := by decide +kernel
theorem dX10_doorNearer_46 : decode cX10_doorNearer 46 = .ok (.ifCond .eq 32, 3) := by decide +kernel
theorem dX10_doorNearer_49 : decode cX10_doorNearer 49 = .ok (.aload_n 0, 1) := by decide +kernel
theorem dX10_doorNearer_50 : decode cX10_doorNearer 50 = .ok (.getfield 9, 3) := by decide +kernel
theorem dX10_doorNearer_53 : decode cX10_doorNearer 53 = .ok (.aload_n 0, 1) := by decide +kernel
theorem dX10_doorNearer_54 : decode cX10_doorNearer 54 = .ok (.getfield 21, 3) := by decide +kernel
theorem dX10_doorNearer_57 : decode cX10_doorNearer 57 = .ok (.iload 4, 2) := by decide +kernel
theorem dX10_doorNearer_59 : decode cX10_doorNearer 59 = .ok (.iload_n 3, 1) := by decide +kernel
theorem dX10_doorNearer_60 : decode cX10_doorNearer 60 = .ok (.invokevirtual 38, 3) := by decide +kernel
theorem dX10_doorNearer_63 : decode cX10_doorNearer 63 = .ok (.iaload, 1) := by decide +kernel
theorem dX10_doorNearer_64 : decode cX10_doorNearer 64 = .ok (.aload_n 0, 1) := by decide +kernel
theorem dX10_doorNearer_65 : decode cX10_doorNearer 65 = .ok (.getfield 9, 3) := by decide +kernel
theorem dX10_doorNearer_68 : decode cX10_doorNearer 68 = .ok (.iload_n 3, 1) := by decide +kernel
theorem dX10_doorNearer_69 : decode cX10_doorNearer 69 = .ok (.iaload, 1) := by decide +kernel
theorem dX10_doorNearer_70 : decode cX10_doorNearer 70 = .ok (.iconst 1, 1) := by decide +kernel
theorem dX10_doorNearer_71 : decode cX10_doorNearer 71 = .ok (.isub, 1) := by decide +kernel
theorem dX10_doorNearer_72 : decode cX10_doorNearer 72 = .ok (.if_icmp .ne 6, 3) := by decide +kernel
theorem dX10_doorNearer_75 : decode cX10_doorNearer 75 = .ok (.iload 4, 2) := by decide +kernel
theorem dX10_doorNearer_77 : decode cX10_doorNearer 77 = .ok (.ireturn, 1) := by decide +kernel
theorem dX10_doorNearer_78 : decode cX10_doorNearer 78 = .ok (.iinc 4 1, 3) := by decide +kernel
theorem dX10_doorNearer_81 : decode cX10_doorNearer 81 = .ok (.goto (-67), 3) := by decide +kernel
theorem dX10_doorNearer_84 : decode cX10_doorNearer 84 = .ok (.iconst (-1), 1) := by decide +kernel
theorem dX10_doorNearer_85 : decode cX10_doorNearer 85 = .ok (.ireturn, 1) := by decide +kernel
theorem dX10_wayDoor_0 : decode cX10_wayDoor 0 = .ok (.aload_n 0, 1) := by decide +kernel
theorem dX10_wayDoor_1 : decode cX10_wayDoor 1 = .ok (.aload_n 1, 1) := by decide +kernel
theorem dX10_wayDoor_2 : decode cX10_wayDoor 2 = .ok (.iload_n 2, 1) := by decide +kernel
theorem dX10_wayDoor_3 : decode cX10_wayDoor 3 = .ok (.iload_n 3, 1) := by decide +kernel
theorem dX10_wayDoor_4 : decode cX10_wayDoor 4 = .ok (.invokevirtual 25, 3) := by decide +kernel
theorem dX10_wayDoor_7 : decode cX10_wayDoor 7 = .ok (.aload_n 1, 1) := by decide +kernel
theorem dX10_wayDoor_8 : decode cX10_wayDoor 8 = .ok (.getfield 29, 3) := by decide +kernel
theorem dX10_wayDoor_11 : decode cX10_wayDoor 11 = .ok (.iload_n 2, 1) := by decide +kernel
theorem dX10_wayDoor_12 : decode cX10_wayDoor 12 = .ok (.iaload, 1) := by decide +kernel
theorem dX10_wayDoor_13 : decode cX10_wayDoor 13 = .ok (.istore 5, 2) := by decide +kernel
theorem dX10_wayDoor_15 : decode cX10_wayDoor 15 = .ok (.iconst (-1), 1) := by decide +kernel
theorem dX10_wayDoor_16 : decode cX10_wayDoor 16 = .ok (.istore 6, 2) := by decide +kernel
theorem dX10_wayDoor_18 : decode cX10_wayDoor 18 = .ok (.iconst 0, 1) := by decide +kernel
theorem dX10_wayDoor_19 : decode cX10_wayDoor 19 = .ok (.istore 7, 2) := by decide +kernel
theorem dX10_wayDoor_21 : decode cX10_wayDoor 21 = .ok (.iload 7, 2) := by decide +kernel
theorem dX10_wayDoor_23 : decode cX10_wayDoor 23 = .ok (.iload 4, 2) := by decide +kernel
theorem dX10_wayDoor_25 : decode cX10_wayDoor 25 = .ok (.if_icmp .gt 40, 3) := by decide +kernel
theorem dX10_wayDoor_28 : decode cX10_wayDoor 28 = .ok (.aload_n 0, 1) := by decide +kernel
theorem dX10_wayDoor_29 : decode cX10_wayDoor 29 = .ok (.aload_n 1, 1) := by decide +kernel
theorem dX10_wayDoor_30 : decode cX10_wayDoor 30 = .ok (.iload_n 2, 1) := by decide +kernel
theorem dX10_wayDoor_31 : decode cX10_wayDoor 31 = .ok (.iload 5, 2) := by decide +kernel
theorem dX10_wayDoor_33 : decode cX10_wayDoor 33 = .ok (.invokevirtual 34, 3) := by decide +kernel
theorem dX10_wayDoor_36 : decode cX10_wayDoor 36 = .ok (.istore 6, 2) := by decide +kernel
theorem dX10_wayDoor_38 : decode cX10_wayDoor 38 = .ok (.iload 6, 2) := by decide +kernel
theorem dX10_wayDoor_40 : decode cX10_wayDoor 40 = .ok (.iconst (-1), 1) := by decide +kernel
theorem dX10_wayDoor_41 : decode cX10_wayDoor 41 = .ok (.if_icmp .ne 5, 3) := by decide +kernel
theorem dX10_wayDoor_44 : decode cX10_wayDoor 44 = .ok (.iconst (-1), 1) := by decide +kernel
theorem dX10_wayDoor_45 : decode cX10_wayDoor 45 = .ok (.ireturn, 1) := by decide +kernel
theorem dX10_wayDoor_46 : decode cX10_wayDoor 46 = .ok (.aload_n 0, 1) := by decide +kernel
theorem dX10_wayDoor_47 : decode cX10_wayDoor 47 = .ok (.getfield 21, 3) := by decide +kernel
theorem dX10_wayDoor_50 : decode cX10_wayDoor 50 = .ok (.iload 6, 2) := by decide +kernel
theorem dX10_wayDoor_52 : decode cX10_wayDoor 52 = .ok (.iload 5, 2) := by decide +kernel
theorem dX10_wayDoor_54 : decode cX10_wayDoor 54 = .ok (.invokevirtual 38, 3) := by decide +kernel
theorem dX10_wayDoor_57 : decode cX10_wayDoor 57 = .ok (.istore 5, 2) := by decide +kernel
theorem dX10_wayDoor_59 : decode cX10_wayDoor 59 = .ok (.iinc 7 1, 3) := by decide +kernel
theorem dX10_wayDoor_62 : decode cX10_wayDoor 62 = .ok (.goto (-41), 3) := by decide +kernel
theorem dX10_wayDoor_65 : decode cX10_wayDoor 65 = .ok (.iload 6, 2) := by decide +kernel
theorem dX10_wayDoor_67 : decode cX10_wayDoor 67 = .ok (.ireturn, 1) := by decide +kernel
theorem dX11_way_0 : decode cX11_way 0 = .ok (.aload_n 0, 1) := by decide +kernel
theorem dX11_way_1 : decode cX11_way 1 = .ok (.iload_n 1, 1) := by decide +kernel
theorem dX11_way_2 : decode cX11_way 2 = .ok (.invokevirtual 93, 3) := by decide +kernel
theorem dX11_way_5 : decode cX11_way 5 = .ok (.ifCond .ne 11, 3) := by decide +kernel
theorem dX11_way_8 : decode cX11_way 8 = .ok (.aload_n 0, 1) := by decide +kernel
theorem dX11_way_9 : decode cX11_way 9 = .ok (.iload_n 2, 1) := by decide +kernel
theorem dX11_way_10 : decode cX11_way 10 = .ok (.invokevirtual 190, 3) := by decide +kernel
theorem dX11_way_13 : decode cX11_way 13 = .ok (.ifCond .eq 6, 3) := by decide +kernel
theorem dX11_way_16 : decode cX11_way 16 = .ok (.bipush (-101), 2) := by decide +kernel
theorem dX11_way_18 : decode cX11_way 18 = .ok (.ireturn, 1) := by decide +kernel
theorem dX11_way_19 : decode cX11_way 19 = .ok (.iload_n 3, 1) := by decide +kernel
theorem dX11_way_20 : decode cX11_way 20 = .ok (.ifCond .ne 17, 3) := by decide +kernel
theorem dX11_way_23 : decode cX11_way 23 = .ok (.aload_n 0, 1) := by decide +kernel
theorem dX11_way_24 : decode cX11_way 24 = .ok (.getfield 41, 3) := by decide +kernel
theorem dX11_way_27 : decode cX11_way 27 = .ok (.aload_n 0, 1) := by decide +kernel
theorem dX11_way_28 : decode cX11_way 28 = .ok (.getfield 28, 3) := by decide +kernel
theorem dX11_way_31 : decode cX11_way 31 = .ok (.iload_n 1, 1) := by decide +kernel
theorem dX11_way_32 : decode cX11_way 32 = .ok (.iload_n 2, 1) := by decide +kernel
theorem dX11_way_33 : decode cX11_way 33 = .ok (.invokevirtual 193, 3) := by decide +kernel
theorem dX11_way_36 : decode cX11_way 36 = .ok (.ireturn, 1) := by decide +kernel
theorem dX11_way_37 : decode cX11_way 37 = .ok (.iload_n 3, 1) := by decide +kernel
theorem dX11_way_38 : decode cX11_way 38 = .ok (.bipush 10, 2) := by decide +kernel
theorem dX11_way_40 : decode cX11_way 40 = .ok (.if_icmp .lt 9, 3) := by decide +kernel
theorem dX11_way_43 : decode cX11_way 43 = .ok (.iload_n 3, 1) := by decide +kernel
theorem dX11_way_44 : decode cX11_way 44 = .ok (.bipush 14, 2) := by decide +kernel
theorem dX11_way_46 : decode cX11_way 46 = .ok (.if_icmp .le 6, 3) := by decide +kernel
theorem dX11_way_49 : decode cX11_way 49 = .ok (.bipush (-102), 2) := by decide +kernel
theorem dX11_way_51 : decode cX11_way 51 = .ok (.ireturn, 1) := by decide +kernel
theorem dX11_way_52 : decode cX11_way 52 = .ok (.aload_n 0, 1) := by decide +kernel
theorem dX11_way_53 : decode cX11_way 53 = .ok (.getfield 41, 3) := by decide +kernel
theorem dX11_way_56 : decode cX11_way 56 = .ok (.aload_n 0, 1) := by decide +kernel
theorem dX11_way_57 : decode cX11_way 57 = .ok (.getfield 28, 3) := by decide +kernel
theorem dX11_way_60 : decode cX11_way 60 = .ok (.iload_n 1, 1) := by decide +kernel
theorem dX11_way_61 : decode cX11_way 61 = .ok (.iload_n 2, 1) := by decide +kernel
theorem dX11_way_62 : decode cX11_way 62 = .ok (.iload_n 3, 1) := by decide +kernel
theorem dX11_way_63 : decode cX11_way 63 = .ok (.bipush 10, 2) := by decide +kernel
theorem dX11_way_65 : decode cX11_way 65 = .ok (.isub, 1) := by decide +kernel
theorem dX11_way_66 : decode cX11_way 66 = .ok (.invokevirtual 197, 3) := by decide +kernel
theorem dX11_way_69 : decode cX11_way 69 = .ok (.ireturn, 1) := by decide +kernel
theorem dX0_takeOver_0 : decode cX0_takeOver 0 = .ok (.iconst 0, 1) := by decide +kernel
theorem dX0_takeOver_1 : decode cX0_takeOver 1 = .ok (.istore_n 2, 1) := by decide +kernel
theorem dX0_takeOver_2 : decode cX0_takeOver 2 = .ok (.iload_n 2, 1) := by decide +kernel
theorem dX0_takeOver_3 : decode cX0_takeOver 3 = .ok (.iconst 4, 1) := by decide +kernel
theorem dX0_takeOver_4 : decode cX0_takeOver 4 = .ok (.if_icmp .ge 33, 3) := by decide +kernel
theorem dX0_takeOver_7 : decode cX0_takeOver 7 = .ok (.aload_n 0, 1) := by decide +kernel
theorem dX0_takeOver_8 : decode cX0_takeOver 8 = .ok (.getfield 9, 3) := by decide +kernel
theorem dX0_takeOver_11 : decode cX0_takeOver 11 = .ok (.iload_n 2, 1) := by decide +kernel
theorem dX0_takeOver_12 : decode cX0_takeOver 12 = .ok (.aload_n 1, 1) := by decide +kernel
theorem dX0_takeOver_13 : decode cX0_takeOver 13 = .ok (.getfield 9, 3) := by decide +kernel
theorem dX0_takeOver_16 : decode cX0_takeOver 16 = .ok (.iload_n 2, 1) := by decide +kernel
theorem dX0_takeOver_17 : decode cX0_takeOver 17 = .ok (.iaload, 1) := by decide +kernel
theorem dX0_takeOver_18 : decode cX0_takeOver 18 = .ok (.iastore, 1) := by decide +kernel
theorem dX0_takeOver_19 : decode cX0_takeOver 19 = .ok (.aload_n 0, 1) := by decide +kernel
theorem dX0_takeOver_20 : decode cX0_takeOver 20 = .ok (.getfield 15, 3) := by decide +kernel
theorem dX0_takeOver_23 : decode cX0_takeOver 23 = .ok (.iload_n 2, 1) := by decide +kernel
theorem dX0_takeOver_24 : decode cX0_takeOver 24 = .ok (.aload_n 1, 1) := by decide +kernel
theorem dX0_takeOver_25 : decode cX0_takeOver 25 = .ok (.getfield 15, 3) := by decide +kernel
theorem dX0_takeOver_28 : decode cX0_takeOver 28 = .ok (.iload_n 2, 1) := by decide +kernel
theorem dX0_takeOver_29 : decode cX0_takeOver 29 = .ok (.iaload, 1) := by decide +kernel
theorem dX0_takeOver_30 : decode cX0_takeOver 30 = .ok (.iastore, 1) := by decide +kernel
theorem dX0_takeOver_31 : decode cX0_takeOver 31 = .ok (.iinc 2 1, 3) := by decide +kernel
theorem dX0_takeOver_34 : decode cX0_takeOver 34 = .ok (.goto (-32), 3) := by decide +kernel
theorem dX0_takeOver_37 : decode cX0_takeOver 37 = .ok (.iconst 0, 1) := by decide +kernel
theorem dX0_takeOver_38 : decode cX0_takeOver 38 = .ok (.istore_n 2, 1) := by decide +kernel
theorem dX0_takeOver_39 : decode cX0_takeOver 39 = .ok (.iload_n 2, 1) := by decide +kernel
theorem dX0_takeOver_40 : decode cX0_takeOver 40 = .ok (.iconst 2, 1) := by decide +kernel
theorem dX0_takeOver_41 : decode cX0_takeOver 41 = .ok (.if_icmp .ge 21, 3) := by decide +kernel
theorem dX0_takeOver_44 : decode cX0_takeOver 44 = .ok (.aload_n 0, 1) := by decide +kernel
theorem dX0_takeOver_45 : decode cX0_takeOver 45 = .ok (.getfield 18, 3) := by decide +kernel
theorem dX0_takeOver_48 : decode cX0_takeOver 48 = .ok (.iload_n 2, 1) := by decide +kernel
theorem dX0_takeOver_49 : decode cX0_takeOver 49 = .ok (.aload_n 1, 1) := by decide +kernel
theorem dX0_takeOver_50 : decode cX0_takeOver 50 = .ok (.getfield 18, 3) := by decide +kernel
theorem dX0_takeOver_53 : decode cX0_takeOver 53 = .ok (.iload_n 2, 1) := by decide +kernel
theorem dX0_takeOver_54 : decode cX0_takeOver 54 = .ok (.iaload, 1) := by decide +kernel
theorem dX0_takeOver_55 : decode cX0_takeOver 55 = .ok (.iastore, 1) := by decide +kernel
theorem dX0_takeOver_56 : decode cX0_takeOver 56 = .ok (.iinc 2 1, 3) := by decide +kernel
theorem dX0_takeOver_59 : decode cX0_takeOver 59 = .ok (.goto (-20), 3) := by decide +kernel
theorem dX0_takeOver_62 : decode cX0_takeOver 62 = .ok (.iconst 0, 1) := by decide +kernel
theorem dX0_takeOver_63 : decode cX0_takeOver 63 = .ok (.istore_n 2, 1) := by decide +kernel
theorem dX0_takeOver_64 : decode cX0_takeOver 64 = .ok (.iload_n 2, 1) := by decide +kernel
theorem dX0_takeOver_65 : decode cX0_takeOver 65 = .ok (.iconst 4, 1) := by decide +kernel
theorem dX0_takeOver_66 : decode cX0_takeOver 66 = .ok (.if_icmp .ge 33, 3) := by decide +kernel
theorem dX0_takeOver_69 : decode cX0_takeOver 69 = .ok (.aload_n 0, 1) := by decide +kernel
theorem dX0_takeOver_70 : decode cX0_takeOver 70 = .ok (.getfield 21, 3) := by decide +kernel
theorem dX0_takeOver_73 : decode cX0_takeOver 73 = .ok (.iload_n 2, 1) := by decide +kernel
theorem dX0_takeOver_74 : decode cX0_takeOver 74 = .ok (.aload_n 1, 1) := by decide +kernel
theorem dX0_takeOver_75 : decode cX0_takeOver 75 = .ok (.getfield 21, 3) := by decide +kernel
theorem dX0_takeOver_78 : decode cX0_takeOver 78 = .ok (.iload_n 2, 1) := by decide +kernel
theorem dX0_takeOver_79 : decode cX0_takeOver 79 = .ok (.iaload, 1) := by decide +kernel
theorem dX0_takeOver_80 : decode cX0_takeOver 80 = .ok (.iastore, 1) := by decide +kernel
theorem dX0_takeOver_81 : decode cX0_takeOver 81 = .ok (.aload_n 0, 1) := by decide +kernel
theorem dX0_takeOver_82 : decode cX0_takeOver 82 = .ok (.getfield 24, 3) := by decide +kernel
theorem dX0_takeOver_85 : decode cX0_takeOver 85 = .ok (.iload_n 2, 1) := by decide +kernel
theorem dX0_takeOver_86 : decode cX0_takeOver 86 = .ok (.aload_n 1, 1) := by decide +kernel
theorem dX0_takeOver_87 : decode cX0_takeOver 87 = .ok (.getfield 24, 3) := by decide +kernel
theorem dX0_takeOver_90 : decode cX0_takeOver 90 = .ok (.iload_n 2, 1) := by decide +kernel
theorem dX0_takeOver_91 : decode cX0_takeOver 91 = .ok (.baload, 1) := by decide +kernel
theorem dX0_takeOver_92 : decode cX0_takeOver 92 = .ok (.bastore, 1) := by decide +kernel
theorem dX0_takeOver_93 : decode cX0_takeOver 93 = .ok (.iinc 2 1, 3) := by decide +kernel
theorem dX0_takeOver_96 : decode cX0_takeOver 96 = .ok (.goto (-32), 3) := by decide +kernel
theorem dX0_takeOver_99 : decode cX0_takeOver 99 = .ok (.iconst 0, 1) := by decide +kernel
theorem dX0_takeOver_100 : decode cX0_takeOver 100 = .ok (.istore_n 2, 1) := by decide +kernel
theorem dX0_takeOver_101 : decode cX0_takeOver 101 = .ok (.iload_n 2, 1) := by decide +kernel
theorem dX0_takeOver_102 : decode cX0_takeOver 102 = .ok (.bipush 6, 2) := by decide +kernel
theorem dX0_takeOver_104 : decode cX0_takeOver 104 = .ok (.if_icmp .ge 33, 3) := by decide +kernel
theorem dX0_takeOver_107 : decode cX0_takeOver 107 = .ok (.aload_n 0, 1) := by decide +kernel
theorem dX0_takeOver_108 : decode cX0_takeOver 108 = .ok (.getfield 28, 3) := by decide +kernel
theorem dX0_takeOver_111 : decode cX0_takeOver 111 = .ok (.iload_n 2, 1) := by decide +kernel
theorem dX0_takeOver_112 : decode cX0_takeOver 112 = .ok (.aload_n 1, 1) := by decide +kernel
theorem dX0_takeOver_113 : decode cX0_takeOver 113 = .ok (.getfield 28, 3) := by decide +kernel
theorem dX0_takeOver_116 : decode cX0_takeOver 116 = .ok (.iload_n 2, 1) := by decide +kernel
theorem dX0_takeOver_117 : decode cX0_takeOver 117 = .ok (.iaload, 1) := by decide +kernel
theorem dX0_takeOver_118 : decode cX0_takeOver 118 = .ok (.iastore, 1) := by decide +kernel
theorem dX0_takeOver_119 : decode cX0_takeOver 119 = .ok (.aload_n 0, 1) := by decide +kernel
theorem dX0_takeOver_120 : decode cX0_takeOver 120 = .ok (.getfield 31, 3) := by decide +kernel
theorem dX0_takeOver_123 : decode cX0_takeOver 123 = .ok (.iload_n 2, 1) := by decide +kernel
theorem dX0_takeOver_124 : decode cX0_takeOver 124 = .ok (.aload_n 1, 1) := by decide +kernel
theorem dX0_takeOver_125 : decode cX0_takeOver 125 = .ok (.getfield 31, 3) := by decide +kernel
theorem dX0_takeOver_128 : decode cX0_takeOver 128 = .ok (.iload_n 2, 1) := by decide +kernel
theorem dX0_takeOver_129 : decode cX0_takeOver 129 = .ok (.baload, 1) := by decide +kernel
theorem dX0_takeOver_130 : decode cX0_takeOver 130 = .ok (.bastore, 1) := by decide +kernel
theorem dX0_takeOver_131 : decode cX0_takeOver 131 = .ok (.iinc 2 1, 3) := by decide +kernel
theorem dX0_takeOver_134 : decode cX0_takeOver 134 = .ok (.goto (-33), 3) := by decide +kernel
theorem dX0_takeOver_137 : decode cX0_takeOver 137 = .ok (.aload_n 0, 1) := by decide +kernel
theorem dX0_takeOver_138 : decode cX0_takeOver 138 = .ok (.aload_n 1, 1) := by decide +kernel
theorem dX0_takeOver_139 : decode cX0_takeOver 139 = .ok (.getfield 38, 3) := by decide +kernel
theorem dX0_takeOver_142 : decode cX0_takeOver 142 = .ok (.putfield 38, 3) := by decide +kernel
theorem dX0_takeOver_145 : decode cX0_takeOver 145 = .ok (.aload_n 0, 1) := by decide +kernel
theorem dX0_takeOver_146 : decode cX0_takeOver 146 = .ok (.aload_n 1, 1) := by decide +kernel
theorem dX0_takeOver_147 : decode cX0_takeOver 147 = .ok (.getfield 42, 3) := by decide +kernel
theorem dX0_takeOver_150 : decode cX0_takeOver 150 = .ok (.putfield 42, 3) := by decide +kernel
theorem dX0_takeOver_153 : decode cX0_takeOver 153 = .ok (.return_, 1) := by decide +kernel
theorem dX0_payAll_0 : decode cX0_payAll 0 = .ok (.iconst 0, 1) := by decide +kernel
theorem dX0_payAll_1 : decode cX0_payAll 1 = .ok (.istore_n 3, 1) := by decide +kernel
theorem dX0_payAll_2 : decode cX0_payAll 2 = .ok (.iconst 0, 1) := by decide +kernel
theorem dX0_payAll_3 : decode cX0_payAll 3 = .ok (.istore 4, 2) := by decide +kernel
theorem dX0_payAll_5 : decode cX0_payAll 5 = .ok (.iload 4, 2) := by decide +kernel
theorem dX0_payAll_7 : decode cX0_payAll 7 = .ok (.aload_n 0, 1) := by decide +kernel
theorem dX0_payAll_8 : decode cX0_payAll 8 = .ok (.getfield 34, 3) := by decide +kernel
theorem dX0_payAll_11 : decode cX0_payAll 11 = .ok (.getfield 95, 3) := by decide +kernel
theorem dX0_payAll_14 : decode cX0_payAll 14 = .ok (.if_icmp .ge 83, 3) := by decide +kernel
theorem dX0_payAll_17 : decode cX0_payAll 17 = .ok (.iload_n 2, 1) := by decide +kernel
theorem dX0_payAll_18 : decode cX0_payAll 18 = .ok (.ifCond .eq 22, 3) := by decide +kernel
theorem dX0_payAll_21 : decode cX0_payAll 21 = .ok (.aload_n 0, 1) := by decide +kernel
theorem dX0_payAll_22 : decode cX0_payAll 22 = .ok (.getfield 34, 3) := by decide +kernel
theorem dX0_payAll_25 : decode cX0_payAll 25 = .ok (.getfield 81, 3) := by decide +kernel
theorem dX0_payAll_28 : decode cX0_payAll 28 = .ok (.iload 4, 2) := by decide +kernel
theorem dX0_payAll_30 : decode cX0_payAll 30 = .ok (.iaload, 1) := by decide +kernel
theorem dX0_payAll_31 : decode cX0_payAll 31 = .ok (.aload_n 0, 1) := by decide +kernel
theorem dX0_payAll_32 : decode cX0_payAll 32 = .ok (.getfield 15, 3) := by decide +kernel
theorem dX0_payAll_35 : decode cX0_payAll 35 = .ok (.iload_n 1, 1) := by decide +kernel
theorem dX0_payAll_36 : decode cX0_payAll 36 = .ok (.iaload, 1) := by decide +kernel
theorem dX0_payAll_37 : decode cX0_payAll 37 = .ok (.if_icmp .ne 7, 3) := by decide +kernel
theorem dX0_payAll_40 : decode cX0_payAll 40 = .ok (.iconst 1, 1) := by decide +kernel
theorem dX0_payAll_41 : decode cX0_payAll 41 = .ok (.goto 4, 3) := by decide +kernel
theorem dX0_payAll_44 : decode cX0_payAll 44 = .ok (.iconst 0, 1) := by decide +kernel
theorem dX0_payAll_45 : decode cX0_payAll 45 = .ok (.istore 5, 2) := by decide +kernel
theorem dX0_payAll_47 : decode cX0_payAll 47 = .ok (.iload 5, 2) := by decide +kernel
theorem dX0_payAll_49 : decode cX0_payAll 49 = .ok (.ifCond .eq 42, 3) := by decide +kernel
theorem dX0_payAll_52 : decode cX0_payAll 52 = .ok (.aload_n 0, 1) := by decide +kernel
theorem dX0_payAll_53 : decode cX0_payAll 53 = .ok (.getfield 34, 3) := by decide +kernel
theorem dX0_payAll_56 : decode cX0_payAll 56 = .ok (.getfield 71, 3) := by decide +kernel
theorem dX0_payAll_59 : decode cX0_payAll 59 = .ok (.iload 4, 2) := by decide +kernel
theorem dX0_payAll_61 : decode cX0_payAll 61 = .ok (.iaload, 1) := by decide +kernel
theorem dX0_payAll_62 : decode cX0_payAll 62 = .ok (.iload_n 1, 1) := by decide +kernel
theorem dX0_payAll_63 : decode cX0_payAll 63 = .ok (.if_icmp .ne 28, 3) := by decide +kernel
theorem dX0_payAll_66 : decode cX0_payAll 66 = .ok (.aload_n 0, 1) := by decide +kernel
theorem dX0_payAll_67 : decode cX0_payAll 67 = .ok (.iload 4, 2) := by decide +kernel
theorem dX0_payAll_69 : decode cX0_payAll 69 = .ok (.invokevirtual 98, 3) := by decide +kernel
theorem dX0_payAll_72 : decode cX0_payAll 72 = .ok (.ifCond .eq 19, 3) := by decide +kernel
theorem dX0_payAll_75 : decode cX0_payAll 75 = .ok (.aload_n 0, 1) := by decide +kernel
theorem dX0_payAll_76 : decode cX0_payAll 76 = .ok (.iload 4, 2) := by decide +kernel
theorem dX0_payAll_78 : decode cX0_payAll 78 = .ok (.invokevirtual 102, 3) := by decide +kernel
theorem dX0_payAll_81 : decode cX0_payAll 81 = .ok (.iload_n 3, 1) := by decide +kernel
theorem dX0_payAll_82 : decode cX0_payAll 82 = .ok (.aload_n 0, 1) := by decide +kernel
theorem dX0_payAll_83 : decode cX0_payAll 83 = .ok (.getfield 21, 3) := by decide +kernel
theorem dX0_payAll_86 : decode cX0_payAll 86 = .ok (.iload 4, 2) := by decide +kernel
theorem dX0_payAll_88 : decode cX0_payAll 88 = .ok (.iaload, 1) := by decide +kernel
theorem dX0_payAll_89 : decode cX0_payAll 89 = .ok (.iadd, 1) := by decide +kernel
theorem dX0_payAll_90 : decode cX0_payAll 90 = .ok (.istore_n 3, 1) := by decide +kernel
theorem dX0_payAll_91 : decode cX0_payAll 91 = .ok (.iinc 4 1, 3) := by decide +kernel
theorem dX0_payAll_94 : decode cX0_payAll 94 = .ok (.goto (-89), 3) := by decide +kernel
theorem dX0_payAll_97 : decode cX0_payAll 97 = .ok (.iload_n 3, 1) := by decide +kernel
theorem dX0_payAll_98 : decode cX0_payAll 98 = .ok (.ireturn, 1) := by decide +kernel
theorem dX5_keepIfMore_0 : decode cX5_keepIfMore 0 = .ok (.iload_n 1, 1) := by decide +kernel
theorem dX5_keepIfMore_1 : decode cX5_keepIfMore 1 = .ok (.aload_n 0, 1) := by decide +kernel
theorem dX5_keepIfMore_2 : decode cX5_keepIfMore 2 = .ok (.getfield 31, 3) := by decide +kernel
theorem dX5_keepIfMore_5 : decode cX5_keepIfMore 5 = .ok (.if_icmp .le 33, 3) := by decide +kernel
theorem dX5_keepIfMore_8 : decode cX5_keepIfMore 8 = .ok (.aload_n 0, 1) := by decide +kernel
theorem dX5_keepIfMore_9 : decode cX5_keepIfMore 9 = .ok (.iload_n 1, 1) := by decide +kernel
theorem dX5_keepIfMore_10 : decode cX5_keepIfMore 10 = .ok (.putfield 31, 3) := by decide +kernel
theorem dX5_keepIfMore_13 : decode cX5_keepIfMore 13 = .ok (.iconst 0, 1) := by decide +kernel
theorem dX5_keepIfMore_14 : decode cX5_keepIfMore 14 = .ok (.istore_n 2, 1) := by decide +kernel
theorem dX5_keepIfMore_15 : decode cX5_keepIfMore 15 = .ok (.iload_n 2, 1) := by decide +kernel
theorem dX5_keepIfMore_16 : decode cX5_keepIfMore 16 = .ok (.iconst 4, 1) := by decide +kernel
theorem dX5_keepIfMore_17 : decode cX5_keepIfMore 17 = .ok (.if_icmp .ge 21, 3) := by decide +kernel
theorem dX5_keepIfMore_20 : decode cX5_keepIfMore 20 = .ok (.aload_n 0, 1) := by decide +kernel
theorem dX5_keepIfMore_21 : decode cX5_keepIfMore 21 = .ok (.getfield 21, 3) := by decide +kernel
theorem dX5_keepIfMore_24 : decode cX5_keepIfMore 24 = .ok (.iload_n 2, 1) := by decide +kernel
theorem dX5_keepIfMore_25 : decode cX5_keepIfMore 25 = .ok (.aload_n 0, 1) := by decide +kernel
theorem dX5_keepIfMore_26 : decode cX5_keepIfMore 26 = .ok (.getfield 17, 3) := by decide +kernel
theorem dX5_keepIfMore_29 : decode cX5_keepIfMore 29 = .ok (.iload_n 2, 1) := by decide +kernel
theorem dX5_keepIfMore_30 : decode cX5_keepIfMore 30 = .ok (.iaload, 1) := by decide +kernel
theorem dX5_keepIfMore_31 : decode cX5_keepIfMore 31 = .ok (.iastore, 1) := by decide +kernel
theorem dX5_keepIfMore_32 : decode cX5_keepIfMore 32 = .ok (.iinc 2 1, 3) := by decide +kernel
theorem dX5_keepIfMore_35 : decode cX5_keepIfMore 35 = .ok (.goto (-20), 3) := by decide +kernel
theorem dX5_keepIfMore_38 : decode cX5_keepIfMore 38 = .ok (.return_, 1) := by decide +kernel
theorem dX5_goOn_0 : decode cX5_goOn 0 = .ok (.iload_n 3, 1) := by decide +kernel
theorem dX5_goOn_1 : decode cX5_goOn 1 = .ok (.iconst 4, 1) := by decide +kernel
theorem dX5_goOn_2 : decode cX5_goOn 2 = .ok (.if_icmp .le 4, 3) := by decide +kernel
theorem dX5_goOn_5 : decode cX5_goOn 5 = .ok (.return_, 1) := by decide +kernel
theorem dX5_goOn_6 : decode cX5_goOn 6 = .ok (.aload_n 0, 1) := by decide +kernel
theorem dX5_goOn_7 : decode cX5_goOn 7 = .ok (.getfield 11, 3) := by decide +kernel
theorem dX5_goOn_10 : decode cX5_goOn 10 = .ok (.iload_n 3, 1) := by decide +kernel
theorem dX5_goOn_11 : decode cX5_goOn 11 = .ok (.aaload, 1) := by decide +kernel
theorem dX5_goOn_12 : decode cX5_goOn 12 = .ok (.astore 5, 2) := by decide +kernel
theorem dX5_goOn_14 : decode cX5_goOn 14 = .ok (.iload 4, 2) := by decide +kernel
theorem dX5_goOn_16 : decode cX5_goOn 16 = .ok (.aload 5, 2) := by decide +kernel
theorem dX5_goOn_18 : decode cX5_goOn 18 = .ok (.iload_n 1, 1) := by decide +kernel
theorem dX5_goOn_19 : decode cX5_goOn 19 = .ok (.iconst 1, 1) := by decide +kernel
theorem dX5_goOn_20 : decode cX5_goOn 20 = .ok (.invokevirtual 43, 3) := by decide +kernel
theorem dX5_goOn_23 : decode cX5_goOn 23 = .ok (.iadd, 1) := by decide +kernel
theorem dX5_goOn_24 : decode cX5_goOn 24 = .ok (.istore 6, 2) := by decide +kernel
theorem dX5_goOn_26 : decode cX5_goOn 26 = .ok (.iload_n 3, 1) := by decide +kernel
theorem dX5_goOn_27 : decode cX5_goOn 27 = .ok (.iload_n 2, 1) := by decide +kernel
theorem dX5_goOn_28 : decode cX5_goOn 28 = .ok (.if_icmp .ge 8, 3) := by decide +kernel
theorem dX5_goOn_31 : decode cX5_goOn 31 = .ok (.iload_n 3, 1) := by decide +kernel
theorem dX5_goOn_32 : decode cX5_goOn 32 = .ok (.iconst 4, 1) := by decide +kernel
theorem dX5_goOn_33 : decode cX5_goOn 33 = .ok (.if_icmp .lt 10, 3) := by decide +kernel
theorem dX5_goOn_36 : decode cX5_goOn 36 = .ok (.aload_n 0, 1) := by decide +kernel
theorem dX5_goOn_37 : decode cX5_goOn 37 = .ok (.iload 6, 2) := by decide +kernel
theorem dX5_goOn_39 : decode cX5_goOn 39 = .ok (.invokevirtual 47, 3) := by decide +kernel
theorem dX5_goOn_42 : decode cX5_goOn 42 = .ok (.return_, 1) := by decide +kernel
theorem dX5_goOn_43 : decode cX5_goOn 43 = .ok (.aload_n 0, 1) := by decide +kernel
theorem dX5_goOn_44 : decode cX5_goOn 44 = .ok (.getfield 11, 3) := by decide +kernel
theorem dX5_goOn_47 : decode cX5_goOn 47 = .ok (.iload_n 3, 1) := by decide +kernel
theorem dX5_goOn_48 : decode cX5_goOn 48 = .ok (.iconst 1, 1) := by decide +kernel
theorem dX5_goOn_49 : decode cX5_goOn 49 = .ok (.iadd, 1) := by decide +kernel
theorem dX5_goOn_50 : decode cX5_goOn 50 = .ok (.aaload, 1) := by decide +kernel
theorem dX5_goOn_51 : decode cX5_goOn 51 = .ok (.astore 7, 2) := by decide +kernel
theorem dX5_goOn_53 : decode cX5_goOn 53 = .ok (.iconst 0, 1) := by decide +kernel
theorem dX5_goOn_54 : decode cX5_goOn 54 = .ok (.istore 8, 2) := by decide +kernel
theorem dX5_goOn_56 : decode cX5_goOn 56 = .ok (.iload 8, 2) := by decide +kernel
theorem dX5_goOn_58 : decode cX5_goOn 58 = .ok (.aload_n 0, 1) := by decide +kernel
theorem dX5_goOn_59 : decode cX5_goOn 59 = .ok (.getfield 24, 3) := by decide +kernel
theorem dX5_goOn_62 : decode cX5_goOn 62 = .ok (.getfield 51, 3) := by decide +kernel
theorem dX5_goOn_65 : decode cX5_goOn 65 = .ok (.if_icmp .ge 54, 3) := by decide +kernel
theorem dX5_goOn_68 : decode cX5_goOn 68 = .ok (.aload 5, 2) := by decide +kernel
theorem dX5_goOn_70 : decode cX5_goOn 70 = .ok (.iload_n 1, 1) := by decide +kernel
theorem dX5_goOn_71 : decode cX5_goOn 71 = .ok (.iload 8, 2) := by decide +kernel
theorem dX5_goOn_73 : decode cX5_goOn 73 = .ok (.invokevirtual 56, 3) := by decide +kernel
theorem dX5_goOn_76 : decode cX5_goOn 76 = .ok (.ifCond .eq 37, 3) := by decide +kernel
theorem dX5_goOn_79 : decode cX5_goOn 79 = .ok (.aload_n 0, 1) := by decide +kernel
theorem dX5_goOn_80 : decode cX5_goOn 80 = .ok (.getfield 17, 3) := by decide +kernel
theorem dX5_goOn_83 : decode cX5_goOn 83 = .ok (.iload_n 3, 1) := by decide +kernel
theorem dX5_goOn_84 : decode cX5_goOn 84 = .ok (.iload 8, 2) := by decide +kernel
theorem dX5_goOn_86 : decode cX5_goOn 86 = .ok (.iastore, 1) := by decide +kernel
theorem dX5_goOn_87 : decode cX5_goOn 87 = .ok (.aload 7, 2) := by decide +kernel
theorem dX5_goOn_89 : decode cX5_goOn 89 = .ok (.aload 5, 2) := by decide +kernel
theorem dX5_goOn_91 : decode cX5_goOn 91 = .ok (.invokevirtual 35, 3) := by decide +kernel
theorem dX5_goOn_94 : decode cX5_goOn 94 = .ok (.aload 7, 2) := by decide +kernel
theorem dX5_goOn_96 : decode cX5_goOn 96 = .ok (.iload_n 1, 1) := by decide +kernel
theorem dX5_goOn_97 : decode cX5_goOn 97 = .ok (.iload 8, 2) := by decide +kernel
theorem dX5_goOn_99 : decode cX5_goOn 99 = .ok (.invokevirtual 60, 3) := by decide +kernel
theorem dX5_goOn_102 : decode cX5_goOn 102 = .ok (.aload_n 0, 1) := by decide +kernel
theorem dX5_goOn_103 : decode cX5_goOn 103 = .ok (.iload_n 1, 1) := by decide +kernel
theorem dX5_goOn_104 : decode cX5_goOn 104 = .ok (.iload_n 2, 1) := by decide +kernel
theorem dX5_goOn_105 : decode cX5_goOn 105 = .ok (.iload_n 3, 1) := by decide +kernel
theorem dX5_goOn_106 : decode cX5_goOn 106 = .ok (.iconst 1, 1) := by decide +kernel
theorem dX5_goOn_107 : decode cX5_goOn 107 = .ok (.iadd, 1) := by decide +kernel
theorem dX5_goOn_108 : decode cX5_goOn 108 = .ok (.iload 6, 2) := by decide +kernel
theorem dX5_goOn_110 : decode cX5_goOn 110 = .ok (.invokestatic 39, 3) := by decide +kernel
theorem dX5_goOn_113 : decode cX5_goOn 113 = .ok (.iinc 8 1, 3) := by decide +kernel
theorem dX5_goOn_116 : decode cX5_goOn 116 = .ok (.goto (-60), 3) := by decide +kernel
theorem dX5_goOn_119 : decode cX5_goOn 119 = .ok (.return_, 1) := by decide +kernel
theorem dX5_search_0 : decode cX5_search 0 = .ok (.aload_n 0, 1) := by decide +kernel
theorem dX5_search_1 : decode cX5_search 1 = .ok (.iconst (-1), 1) := by decide +kernel
theorem dX5_search_2 : decode cX5_search 2 = .ok (.putfield 31, 3) := by decide +kernel
theorem dX5_search_5 : decode cX5_search 5 = .ok (.aload_n 0, 1) := by decide +kernel
theorem dX5_search_6 : decode cX5_search 6 = .ok (.getfield 11, 3) := by decide +kernel
theorem dX5_search_9 : decode cX5_search 9 = .ok (.iconst 0, 1) := by decide +kernel
theorem dX5_search_10 : decode cX5_search 10 = .ok (.aaload, 1) := by decide +kernel
theorem dX5_search_11 : decode cX5_search 11 = .ok (.aload_n 1, 1) := by decide +kernel
theorem dX5_search_12 : decode cX5_search 12 = .ok (.invokevirtual 35, 3) := by decide +kernel
theorem dX5_search_15 : decode cX5_search 15 = .ok (.aload_n 0, 1) := by decide +kernel
theorem dX5_search_16 : decode cX5_search 16 = .ok (.iload_n 2, 1) := by decide +kernel
theorem dX5_search_17 : decode cX5_search 17 = .ok (.iload_n 3, 1) := by decide +kernel
theorem dX5_search_18 : decode cX5_search 18 = .ok (.iconst 0, 1) := by decide +kernel
theorem dX5_search_19 : decode cX5_search 19 = .ok (.iconst 0, 1) := by decide +kernel
theorem dX5_search_20 : decode cX5_search 20 = .ok (.invokestatic 39, 3) := by decide +kernel
theorem dX5_search_23 : decode cX5_search 23 = .ok (.return_, 1) := by decide +kernel
theorem dX5_doorAt_0 : decode cX5_doorAt 0 = .ok (.aload_n 0, 1) := by decide +kernel
theorem dX5_doorAt_1 : decode cX5_doorAt 1 = .ok (.getfield 31, 3) := by decide +kernel
theorem dX5_doorAt_4 : decode cX5_doorAt 4 = .ok (.iconst (-1), 1) := by decide +kernel
theorem dX5_doorAt_5 : decode cX5_doorAt 5 = .ok (.if_icmp .eq 13, 3) := by decide +kernel
theorem dX5_doorAt_8 : decode cX5_doorAt 8 = .ok (.iload_n 1, 1) := by decide +kernel
theorem dX5_doorAt_9 : decode cX5_doorAt 9 = .ok (.iload_n 2, 1) := by decide +kernel
theorem dX5_doorAt_10 : decode cX5_doorAt 10 = .ok (.if_icmp .ge 8, 3) := by decide +kernel
theorem dX5_doorAt_13 : decode cX5_doorAt 13 = .ok (.iload_n 1, 1) := by decide +kernel
theorem dX5_doorAt_14 : decode cX5_doorAt 14 = .ok (.iconst 4, 1) := by decide +kernel
theorem dX5_doorAt_15 : decode cX5_doorAt 15 = .ok (.if_icmp .lt 7, 3) := by decide +kernel
theorem dX5_doorAt_18 : decode cX5_doorAt 18 = .ok (.iconst (-1), 1) := by decide +kernel
theorem dX5_doorAt_19 : decode cX5_doorAt 19 = .ok (.goto 9, 3) := by decide +kernel
theorem dX5_doorAt_22 : decode cX5_doorAt 22 = .ok (.aload_n 0, 1) := by decide +kernel
theorem dX5_doorAt_23 : decode cX5_doorAt 23 = .ok (.getfield 21, 3) := by decide +kernel
theorem dX5_doorAt_26 : decode cX5_doorAt 26 = .ok (.iload_n 1, 1) := by decide +kernel
theorem dX5_doorAt_27 : decode cX5_doorAt 27 = .ok (.iaload, 1) := by decide +kernel
theorem dX5_doorAt_28 : decode cX5_doorAt 28 = .ok (.ireturn, 1) := by decide +kernel
theorem dX11_night_0 : decode cX11_night 0 = .ok (.aload_n 0, 1) := by decide +kernel
theorem dX11_night_1 : decode cX11_night 1 = .ok (.iload_n 1, 1) := by decide +kernel
theorem dX11_night_2 : decode cX11_night 2 = .ok (.invokevirtual 93, 3) := by decide +kernel
theorem dX11_night_5 : decode cX11_night 5 = .ok (.ifCond .eq 6, 3) := by decide +kernel
theorem dX11_night_8 : decode cX11_night 8 = .ok (.bipush (-101), 2) := by decide +kernel
theorem dX11_night_10 : decode cX11_night 10 = .ok (.ireturn, 1) := by decide +kernel
theorem dX11_night_11 : decode cX11_night 11 = .ok (.iload_n 2, 1) := by decide +kernel
theorem dX11_night_12 : decode cX11_night 12 = .ok (.ifCond .lt 24, 3) := by decide +kernel
theorem dX11_night_15 : decode cX11_night 15 = .ok (.iload_n 2, 1) := by decide +kernel
theorem dX11_night_16 : decode cX11_night 16 = .ok (.iconst 4, 1) := by decide +kernel
theorem dX11_night_17 : decode cX11_night 17 = .ok (.if_icmp .gt 19, 3) := by decide +kernel
theorem dX11_night_20 : decode cX11_night 20 = .ok (.iload_n 3, 1) := by decide +kernel
theorem dX11_night_21 : decode cX11_night 21 = .ok (.ifCond .eq 18, 3) := by decide +kernel
theorem dX11_night_24 : decode cX11_night 24 = .ok (.iload_n 3, 1) := by decide +kernel
theorem dX11_night_25 : decode cX11_night 25 = .ok (.bipush 10, 2) := by decide +kernel
theorem dX11_night_27 : decode cX11_night 27 = .ok (.if_icmp .lt 9, 3) := by decide +kernel
theorem dX11_night_30 : decode cX11_night 30 = .ok (.iload_n 3, 1) := by decide +kernel
theorem dX11_night_31 : decode cX11_night 31 = .ok (.bipush 13, 2) := by decide +kernel
theorem dX11_night_33 : decode cX11_night 33 = .ok (.if_icmp .le 6, 3) := by decide +kernel
theorem dX11_night_36 : decode cX11_night 36 = .ok (.bipush (-102), 2) := by decide +kernel
theorem dX11_night_38 : decode cX11_night 38 = .ok (.ireturn, 1) := by decide +kernel
theorem dX11_night_39 : decode cX11_night 39 = .ok (.aload_n 0, 1) := by decide +kernel
theorem dX11_night_40 : decode cX11_night 40 = .ok (.getfield 48, 3) := by decide +kernel
theorem dX11_night_43 : decode cX11_night 43 = .ok (.aload_n 0, 1) := by decide +kernel
theorem dX11_night_44 : decode cX11_night 44 = .ok (.getfield 28, 3) := by decide +kernel
theorem dX11_night_47 : decode cX11_night 47 = .ok (.iload_n 1, 1) := by decide +kernel
theorem dX11_night_48 : decode cX11_night 48 = .ok (.iload_n 2, 1) := by decide +kernel
theorem dX11_night_49 : decode cX11_night 49 = .ok (.invokevirtual 201, 3) := by decide +kernel
theorem dX11_night_52 : decode cX11_night 52 = .ok (.iload_n 3, 1) := by decide +kernel
theorem dX11_night_53 : decode cX11_night 53 = .ok (.ifCond .ne 13, 3) := by decide +kernel
theorem dX11_night_56 : decode cX11_night 56 = .ok (.aload_n 0, 1) := by decide +kernel
theorem dX11_night_57 : decode cX11_night 57 = .ok (.getfield 48, 3) := by decide +kernel
theorem dX11_night_60 : decode cX11_night 60 = .ok (.getfield 205, 3) := by decide +kernel
theorem dX11_night_63 : decode cX11_night 63 = .ok (.goto 15, 3) := by decide +kernel
theorem dX11_night_66 : decode cX11_night 66 = .ok (.aload_n 0, 1) := by decide +kernel
theorem dX11_night_67 : decode cX11_night 67 = .ok (.getfield 48, 3) := by decide +kernel
theorem dX11_night_70 : decode cX11_night 70 = .ok (.iload_n 3, 1) := by decide +kernel
theorem dX11_night_71 : decode cX11_night 71 = .ok (.bipush 10, 2) := by decide +kernel
theorem dX11_night_73 : decode cX11_night 73 = .ok (.isub, 1) := by decide +kernel
theorem dX11_night_74 : decode cX11_night 74 = .ok (.iload_n 2, 1) := by decide +kernel
theorem dX11_night_75 : decode cX11_night 75 = .ok (.invokevirtual 208, 3) := by decide +kernel
theorem dX11_night_78 : decode cX11_night 78 = .ok (.ireturn, 1) := by decide +kernel
theorem dX9_keepIfMore_0 : decode cX9_keepIfMore 0 = .ok (.iload_n 1, 1) := by decide +kernel
theorem dX9_keepIfMore_1 : decode cX9_keepIfMore 1 = .ok (.aload_n 0, 1) := by decide +kernel
theorem dX9_keepIfMore_2 : decode cX9_keepIfMore 2 = .ok (.getfield 55, 3) := by decide +kernel
theorem dX9_keepIfMore_5 : decode cX9_keepIfMore 5 = .ok (.if_icmp .le 33, 3) := by decide +kernel
theorem dX9_keepIfMore_8 : decode cX9_keepIfMore 8 = .ok (.aload_n 0, 1) := by decide +kernel
theorem dX9_keepIfMore_9 : decode cX9_keepIfMore 9 = .ok (.iload_n 1, 1) := by decide +kernel
theorem dX9_keepIfMore_10 : decode cX9_keepIfMore 10 = .ok (.putfield 55, 3) := by decide +kernel
theorem dX9_keepIfMore_13 : decode cX9_keepIfMore 13 = .ok (.iconst 0, 1) := by decide +kernel
theorem dX9_keepIfMore_14 : decode cX9_keepIfMore 14 = .ok (.istore_n 2, 1) := by decide +kernel
theorem dX9_keepIfMore_15 : decode cX9_keepIfMore 15 = .ok (.iload_n 2, 1) := by decide +kernel
theorem dX9_keepIfMore_16 : decode cX9_keepIfMore 16 = .ok (.iconst 4, 1) := by decide +kernel
theorem dX9_keepIfMore_17 : decode cX9_keepIfMore 17 = .ok (.if_icmp .ge 21, 3) := by decide +kernel
theorem dX9_keepIfMore_20 : decode cX9_keepIfMore 20 = .ok (.aload_n 0, 1) := by decide +kernel
theorem dX9_keepIfMore_21 : decode cX9_keepIfMore 21 = .ok (.getfield 18, 3) := by decide +kernel
theorem dX9_keepIfMore_24 : decode cX9_keepIfMore 24 = .ok (.iload_n 2, 1) := by decide +kernel
theorem dX9_keepIfMore_25 : decode cX9_keepIfMore 25 = .ok (.aload_n 0, 1) := by decide +kernel
theorem dX9_keepIfMore_26 : decode cX9_keepIfMore 26 = .ok (.getfield 15, 3) := by decide +kernel
theorem dX9_keepIfMore_29 : decode cX9_keepIfMore 29 = .ok (.iload_n 2, 1) := by decide +kernel
theorem dX9_keepIfMore_30 : decode cX9_keepIfMore 30 = .ok (.iaload, 1) := by decide +kernel
theorem dX9_keepIfMore_31 : decode cX9_keepIfMore 31 = .ok (.iastore, 1) := by decide +kernel
theorem dX9_keepIfMore_32 : decode cX9_keepIfMore 32 = .ok (.iinc 2 1, 3) := by decide +kernel
theorem dX9_keepIfMore_35 : decode cX9_keepIfMore 35 = .ok (.goto (-20), 3) := by decide +kernel
theorem dX9_keepIfMore_38 : decode cX9_keepIfMore 38 = .ok (.return_, 1) := by decide +kernel
theorem dX9_lessen_0 : decode cX9_lessen 0 = .ok (.iload_n 1, 1) := by decide +kernel
theorem dX9_lessen_1 : decode cX9_lessen 1 = .ok (.iconst 4, 1) := by decide +kernel
theorem dX9_lessen_2 : decode cX9_lessen 2 = .ok (.if_icmp .lt 9, 3) := by decide +kernel
theorem dX9_lessen_5 : decode cX9_lessen 5 = .ok (.aload_n 0, 1) := by decide +kernel
theorem dX9_lessen_6 : decode cX9_lessen 6 = .ok (.iload_n 2, 1) := by decide +kernel
theorem dX9_lessen_7 : decode cX9_lessen 7 = .ok (.invokevirtual 62, 3) := by decide +kernel
theorem dX9_lessen_10 : decode cX9_lessen 10 = .ok (.return_, 1) := by decide +kernel
theorem dX9_lessen_11 : decode cX9_lessen 11 = .ok (.aload_n 0, 1) := by decide +kernel
theorem dX9_lessen_12 : decode cX9_lessen 12 = .ok (.getfield 9, 3) := by decide +kernel
theorem dX9_lessen_15 : decode cX9_lessen 15 = .ok (.iload_n 1, 1) := by decide +kernel
theorem dX9_lessen_16 : decode cX9_lessen 16 = .ok (.iaload, 1) := by decide +kernel
theorem dX9_lessen_17 : decode cX9_lessen 17 = .ok (.iconst (-1), 1) := by decide +kernel
theorem dX9_lessen_18 : decode cX9_lessen 18 = .ok (.if_icmp .ne 12, 3) := by decide +kernel
theorem dX9_lessen_21 : decode cX9_lessen 21 = .ok (.aload_n 0, 1) := by decide +kernel
theorem dX9_lessen_22 : decode cX9_lessen 22 = .ok (.iload_n 1, 1) := by decide +kernel
theorem dX9_lessen_23 : decode cX9_lessen 23 = .ok (.iconst 1, 1) := by decide +kernel
theorem dX9_lessen_24 : decode cX9_lessen 24 = .ok (.iadd, 1) := by decide +kernel
theorem dX9_lessen_25 : decode cX9_lessen 25 = .ok (.iload_n 2, 1) := by decide +kernel
theorem dX9_lessen_26 : decode cX9_lessen 26 = .ok (.invokestatic 58, 3) := by decide +kernel
theorem dX9_lessen_29 : decode cX9_lessen 29 = .ok (.return_, 1) := by decide +kernel
theorem dX9_lessen_30 : decode cX9_lessen 30 = .ok (.aload_n 0, 1) := by decide +kernel
theorem dX9_lessen_31 : decode cX9_lessen 31 = .ok (.getfield 27, 3) := by decide +kernel
theorem dX9_lessen_34 : decode cX9_lessen 34 = .ok (.getfield 49, 3) := by decide +kernel
theorem dX9_lessen_37 : decode cX9_lessen 37 = .ok (.iload_n 1, 1) := by decide +kernel
theorem dX9_lessen_38 : decode cX9_lessen 38 = .ok (.iaload, 1) := by decide +kernel
theorem dX9_lessen_39 : decode cX9_lessen 39 = .ok (.istore_n 3, 1) := by decide +kernel
theorem dX9_lessen_40 : decode cX9_lessen 40 = .ok (.aload_n 0, 1) := by decide +kernel
theorem dX9_lessen_41 : decode cX9_lessen 41 = .ok (.getfield 27, 3) := by decide +kernel
theorem dX9_lessen_44 : decode cX9_lessen 44 = .ok (.getfield 52, 3) := by decide +kernel
theorem dX9_lessen_47 : decode cX9_lessen 47 = .ok (.iload_n 1, 1) := by decide +kernel
theorem dX9_lessen_48 : decode cX9_lessen 48 = .ok (.iaload, 1) := by decide +kernel
theorem dX9_lessen_49 : decode cX9_lessen 49 = .ok (.istore 4, 2) := by decide +kernel
theorem dX9_lessen_51 : decode cX9_lessen 51 = .ok (.iconst 0, 1) := by decide +kernel
theorem dX9_lessen_52 : decode cX9_lessen 52 = .ok (.istore 5, 2) := by decide +kernel
theorem dX9_lessen_54 : decode cX9_lessen 54 = .ok (.aload_n 0, 1) := by decide +kernel
theorem dX9_lessen_55 : decode cX9_lessen 55 = .ok (.getfield 9, 3) := by decide +kernel
theorem dX9_lessen_58 : decode cX9_lessen 58 = .ok (.iload_n 1, 1) := by decide +kernel
theorem dX9_lessen_59 : decode cX9_lessen 59 = .ok (.iaload, 1) := by decide +kernel
theorem dX9_lessen_60 : decode cX9_lessen 60 = .ok (.istore 6, 2) := by decide +kernel
theorem dX9_lessen_62 : decode cX9_lessen 62 = .ok (.aload_n 0, 1) := by decide +kernel
theorem dX9_lessen_63 : decode cX9_lessen 63 = .ok (.getfield 21, 3) := by decide +kernel
theorem dX9_lessen_66 : decode cX9_lessen 66 = .ok (.iload_n 3, 1) := by decide +kernel
theorem dX9_lessen_67 : decode cX9_lessen 67 = .ok (.iaload, 1) := by decide +kernel
theorem dX9_lessen_68 : decode cX9_lessen 68 = .ok (.iload_n 1, 1) := by decide +kernel
theorem dX9_lessen_69 : decode cX9_lessen 69 = .ok (.if_icmp .ne 31, 3) := by decide +kernel
theorem dX9_lessen_72 : decode cX9_lessen 72 = .ok (.iload 5, 2) := by decide +kernel
theorem dX9_lessen_74 : decode cX9_lessen 74 = .ok (.aload_n 0, 1) := by decide +kernel
theorem dX9_lessen_75 : decode cX9_lessen 75 = .ok (.getfield 24, 3) := by decide +kernel
theorem dX9_lessen_78 : decode cX9_lessen 78 = .ok (.iload_n 3, 1) := by decide +kernel
theorem dX9_lessen_79 : decode cX9_lessen 79 = .ok (.iaload, 1) := by decide +kernel
theorem dX9_lessen_80 : decode cX9_lessen 80 = .ok (.ineg, 1) := by decide +kernel
theorem dX9_lessen_81 : decode cX9_lessen 81 = .ok (.invokestatic 66, 3) := by decide +kernel
theorem dX9_lessen_84 : decode cX9_lessen 84 = .ok (.istore 5, 2) := by decide +kernel
theorem dX9_lessen_86 : decode cX9_lessen 86 = .ok (.iload 6, 2) := by decide +kernel
theorem dX9_lessen_88 : decode cX9_lessen 88 = .ok (.aload_n 0, 1) := by decide +kernel
theorem dX9_lessen_89 : decode cX9_lessen 89 = .ok (.getfield 24, 3) := by decide +kernel
theorem dX9_lessen_92 : decode cX9_lessen 92 = .ok (.iload_n 3, 1) := by decide +kernel
theorem dX9_lessen_93 : decode cX9_lessen 93 = .ok (.iaload, 1) := by decide +kernel
theorem dX9_lessen_94 : decode cX9_lessen 94 = .ok (.ineg, 1) := by decide +kernel
theorem dX9_lessen_95 : decode cX9_lessen 95 = .ok (.invokestatic 72, 3) := by decide +kernel
theorem dX9_lessen_98 : decode cX9_lessen 98 = .ok (.istore 6, 2) := by decide +kernel
theorem dX9_lessen_100 : decode cX9_lessen 100 = .ok (.aload_n 0, 1) := by decide +kernel
theorem dX9_lessen_101 : decode cX9_lessen 101 = .ok (.getfield 21, 3) := by decide +kernel
theorem dX9_lessen_104 : decode cX9_lessen 104 = .ok (.iload 4, 2) := by decide +kernel
theorem dX9_lessen_106 : decode cX9_lessen 106 = .ok (.iaload, 1) := by decide +kernel
theorem dX9_lessen_107 : decode cX9_lessen 107 = .ok (.iload_n 1, 1) := by decide +kernel
theorem dX9_lessen_108 : decode cX9_lessen 108 = .ok (.if_icmp .ne 31, 3) := by decide +kernel
theorem dX9_lessen_111 : decode cX9_lessen 111 = .ok (.iload 5, 2) := by decide +kernel
theorem dX9_lessen_113 : decode cX9_lessen 113 = .ok (.aload_n 0, 1) := by decide +kernel
theorem dX9_lessen_114 : decode cX9_lessen 114 = .ok (.getfield 24, 3) := by decide +kernel
theorem dX9_lessen_117 : decode cX9_lessen 117 = .ok (.iload 4, 2) := by decide +kernel
theorem dX9_lessen_119 : decode cX9_lessen 119 = .ok (.iaload, 1) := by decide +kernel
theorem dX9_lessen_120 : decode cX9_lessen 120 = .ok (.invokestatic 66, 3) := by decide +kernel
theorem dX9_lessen_123 : decode cX9_lessen 123 = .ok (.istore 5, 2) := by decide +kernel
theorem dX9_lessen_125 : decode cX9_lessen 125 = .ok (.iload 6, 2) := by decide +kernel
theorem dX9_lessen_127 : decode cX9_lessen 127 = .ok (.aload_n 0, 1) := by decide +kernel
theorem dX9_lessen_128 : decode cX9_lessen 128 = .ok (.getfield 24, 3) := by decide +kernel
theorem dX9_lessen_131 : decode cX9_lessen 131 = .ok (.iload 4, 2) := by decide +kernel
theorem dX9_lessen_133 : decode cX9_lessen 133 = .ok (.iaload, 1) := by decide +kernel
theorem dX9_lessen_134 : decode cX9_lessen 134 = .ok (.invokestatic 72, 3) := by decide +kernel
theorem dX9_lessen_137 : decode cX9_lessen 137 = .ok (.istore 6, 2) := by decide +kernel
theorem dX9_lessen_139 : decode cX9_lessen 139 = .ok (.iload 5, 2) := by decide +kernel
theorem dX9_lessen_141 : decode cX9_lessen 141 = .ok (.istore 7, 2) := by decide +kernel
theorem dX9_lessen_143 : decode cX9_lessen 143 = .ok (.iload 7, 2) := by decide +kernel
theorem dX9_lessen_145 : decode cX9_lessen 145 = .ok (.iload 6, 2) := by decide +kernel
theorem dX9_lessen_147 : decode cX9_lessen 147 = .ok (.if_icmp .gt 74, 3) := by decide +kernel
theorem dX9_lessen_150 : decode cX9_lessen 150 = .ok (.aload_n 0, 1) := by decide +kernel
theorem dX9_lessen_151 : decode cX9_lessen 151 = .ok (.getfield 15, 3) := by decide +kernel
theorem dX9_lessen_154 : decode cX9_lessen 154 = .ok (.iload_n 1, 1) := by decide +kernel
theorem dX9_lessen_155 : decode cX9_lessen 155 = .ok (.iload 7, 2) := by decide +kernel
theorem dX9_lessen_157 : decode cX9_lessen 157 = .ok (.iastore, 1) := by decide +kernel
theorem dX9_lessen_158 : decode cX9_lessen 158 = .ok (.aload_n 0, 1) := by decide +kernel
theorem dX9_lessen_159 : decode cX9_lessen 159 = .ok (.getfield 24, 3) := by decide +kernel
theorem dX9_lessen_162 : decode cX9_lessen 162 = .ok (.iload_n 3, 1) := by decide +kernel
theorem dX9_lessen_163 : decode cX9_lessen 163 = .ok (.dup2, 1) := by decide +kernel
theorem dX9_lessen_164 : decode cX9_lessen 164 = .ok (.iaload, 1) := by decide +kernel
theorem dX9_lessen_165 : decode cX9_lessen 165 = .ok (.iload 7, 2) := by decide +kernel
theorem dX9_lessen_167 : decode cX9_lessen 167 = .ok (.iadd, 1) := by decide +kernel
theorem dX9_lessen_168 : decode cX9_lessen 168 = .ok (.iastore, 1) := by decide +kernel
theorem dX9_lessen_169 : decode cX9_lessen 169 = .ok (.aload_n 0, 1) := by decide +kernel
theorem dX9_lessen_170 : decode cX9_lessen 170 = .ok (.getfield 24, 3) := by decide +kernel
theorem dX9_lessen_173 : decode cX9_lessen 173 = .ok (.iload 4, 2) := by decide +kernel
theorem dX9_lessen_175 : decode cX9_lessen 175 = .ok (.dup2, 1) := by decide +kernel
theorem dX9_lessen_176 : decode cX9_lessen 176 = .ok (.iaload, 1) := by decide +kernel
theorem dX9_lessen_177 : decode cX9_lessen 177 = .ok (.iload 7, 2) := by decide +kernel
theorem dX9_lessen_179 : decode cX9_lessen 179 = .ok (.isub, 1) := by decide +kernel
theorem dX9_lessen_180 : decode cX9_lessen 180 = .ok (.iastore, 1) := by decide +kernel
theorem dX9_lessen_181 : decode cX9_lessen 181 = .ok (.aload_n 0, 1) := by decide +kernel
theorem dX9_lessen_182 : decode cX9_lessen 182 = .ok (.iload_n 1, 1) := by decide +kernel
theorem dX9_lessen_183 : decode cX9_lessen 183 = .ok (.iconst 1, 1) := by decide +kernel
theorem dX9_lessen_184 : decode cX9_lessen 184 = .ok (.iadd, 1) := by decide +kernel
theorem dX9_lessen_185 : decode cX9_lessen 185 = .ok (.iload_n 2, 1) := by decide +kernel
theorem dX9_lessen_186 : decode cX9_lessen 186 = .ok (.iload 7, 2) := by decide +kernel
theorem dX9_lessen_188 : decode cX9_lessen 188 = .ok (.iadd, 1) := by decide +kernel
theorem dX9_lessen_189 : decode cX9_lessen 189 = .ok (.invokestatic 58, 3) := by decide +kernel
theorem dX9_lessen_192 : decode cX9_lessen 192 = .ok (.aload_n 0, 1) := by decide +kernel
theorem dX9_lessen_193 : decode cX9_lessen 193 = .ok (.getfield 24, 3) := by decide +kernel
theorem dX9_lessen_196 : decode cX9_lessen 196 = .ok (.iload_n 3, 1) := by decide +kernel
theorem dX9_lessen_197 : decode cX9_lessen 197 = .ok (.dup2, 1) := by decide +kernel
theorem dX9_lessen_198 : decode cX9_lessen 198 = .ok (.iaload, 1) := by decide +kernel
theorem dX9_lessen_199 : decode cX9_lessen 199 = .ok (.iload 7, 2) := by decide +kernel
theorem dX9_lessen_201 : decode cX9_lessen 201 = .ok (.isub, 1) := by decide +kernel
theorem dX9_lessen_202 : decode cX9_lessen 202 = .ok (.iastore, 1) := by decide +kernel
theorem dX9_lessen_203 : decode cX9_lessen 203 = .ok (.aload_n 0, 1) := by decide +kernel
theorem dX9_lessen_204 : decode cX9_lessen 204 = .ok (.getfield 24, 3) := by decide +kernel
theorem dX9_lessen_207 : decode cX9_lessen 207 = .ok (.iload 4, 2) := by decide +kernel
theorem dX9_lessen_209 : decode cX9_lessen 209 = .ok (.dup2, 1) := by decide +kernel
theorem dX9_lessen_210 : decode cX9_lessen 210 = .ok (.iaload, 1) := by decide +kernel
theorem dX9_lessen_211 : decode cX9_lessen 211 = .ok (.iload 7, 2) := by decide +kernel
theorem dX9_lessen_213 : decode cX9_lessen 213 = .ok (.iadd, 1) := by decide +kernel
theorem dX9_lessen_214 : decode cX9_lessen 214 = .ok (.iastore, 1) := by decide +kernel
theorem dX9_lessen_215 : decode cX9_lessen 215 = .ok (.iinc 7 1, 3) := by decide +kernel
theorem dX9_lessen_218 : decode cX9_lessen 218 = .ok (.goto (-75), 3) := by decide +kernel
theorem dX9_lessen_221 : decode cX9_lessen 221 = .ok (.return_, 1) := by decide +kernel
theorem dX9_search_0 : decode cX9_search 0 = .ok (.iconst 0, 1) := by decide +kernel
theorem dX9_search_1 : decode cX9_search 1 = .ok (.istore_n 3, 1) := by decide +kernel
theorem dX9_search_2 : decode cX9_search 2 = .ok (.iload_n 3, 1) := by decide +kernel
theorem dX9_search_3 : decode cX9_search 3 = .ok (.iconst 4, 1) := by decide +kernel
theorem dX9_search_4 : decode cX9_search 4 = .ok (.if_icmp .ge 23, 3) := by decide +kernel
theorem dX9_search_7 : decode cX9_search 7 = .ok (.aload_n 0, 1) := by decide +kernel
theorem dX9_search_8 : decode cX9_search 8 = .ok (.getfield 21, 3) := by decide +kernel
theorem dX9_search_11 : decode cX9_search 11 = .ok (.iload_n 3, 1) := by decide +kernel
theorem dX9_search_12 : decode cX9_search 12 = .ok (.iconst (-1), 1) := by decide +kernel
theorem dX9_search_13 : decode cX9_search 13 = .ok (.iastore, 1) := by decide +kernel
theorem dX9_search_14 : decode cX9_search 14 = .ok (.aload_n 0, 1) := by decide +kernel
theorem dX9_search_15 : decode cX9_search 15 = .ok (.getfield 24, 3) := by decide +kernel
theorem dX9_search_18 : decode cX9_search 18 = .ok (.iload_n 3, 1) := by decide +kernel
theorem dX9_search_19 : decode cX9_search 19 = .ok (.iconst 0, 1) := by decide +kernel
theorem dX9_search_20 : decode cX9_search 20 = .ok (.iastore, 1) := by decide +kernel
theorem dX9_search_21 : decode cX9_search 21 = .ok (.iinc 3 1, 3) := by decide +kernel
theorem dX9_search_24 : decode cX9_search 24 = .ok (.goto (-22), 3) := by decide +kernel
theorem dX9_search_27 : decode cX9_search 27 = .ok (.iconst 0, 1) := by decide +kernel
theorem dX9_search_28 : decode cX9_search 28 = .ok (.istore_n 3, 1) := by decide +kernel
theorem dX9_search_29 : decode cX9_search 29 = .ok (.iload_n 3, 1) := by decide +kernel
theorem dX9_search_30 : decode cX9_search 30 = .ok (.iconst 4, 1) := by decide +kernel
theorem dX9_search_31 : decode cX9_search 31 = .ok (.if_icmp .ge 98, 3) := by decide +kernel
theorem dX9_search_34 : decode cX9_search 34 = .ok (.aload_n 0, 1) := by decide +kernel
theorem dX9_search_35 : decode cX9_search 35 = .ok (.getfield 15, 3) := by decide +kernel
theorem dX9_search_38 : decode cX9_search 38 = .ok (.iload_n 3, 1) := by decide +kernel
theorem dX9_search_39 : decode cX9_search 39 = .ok (.iconst (-1), 1) := by decide +kernel
theorem dX9_search_40 : decode cX9_search 40 = .ok (.iastore, 1) := by decide +kernel
theorem dX9_search_41 : decode cX9_search 41 = .ok (.aload_n 0, 1) := by decide +kernel
theorem dX9_search_42 : decode cX9_search 42 = .ok (.getfield 9, 3) := by decide +kernel
theorem dX9_search_45 : decode cX9_search 45 = .ok (.iload_n 3, 1) := by decide +kernel
theorem dX9_search_46 : decode cX9_search 46 = .ok (.iconst (-1), 1) := by decide +kernel
theorem dX9_search_47 : decode cX9_search 47 = .ok (.iastore, 1) := by decide +kernel
theorem dX9_search_48 : decode cX9_search 48 = .ok (.iload_n 3, 1) := by decide +kernel
theorem dX9_search_49 : decode cX9_search 49 = .ok (.aload_n 0, 1) := by decide +kernel
theorem dX9_search_50 : decode cX9_search 50 = .ok (.getfield 27, 3) := by decide +kernel
theorem dX9_search_53 : decode cX9_search 53 = .ok (.getfield 31, 3) := by decide +kernel
theorem dX9_search_56 : decode cX9_search 56 = .ok (.if_icmp .ge 67, 3) := by decide +kernel
theorem dX9_search_59 : decode cX9_search 59 = .ok (.aload_n 0, 1) := by decide +kernel
theorem dX9_search_60 : decode cX9_search 60 = .ok (.getfield 27, 3) := by decide +kernel
theorem dX9_search_63 : decode cX9_search 63 = .ok (.getfield 37, 3) := by decide +kernel
theorem dX9_search_66 : decode cX9_search 66 = .ok (.iload_n 3, 1) := by decide +kernel
theorem dX9_search_67 : decode cX9_search 67 = .ok (.iaload, 1) := by decide +kernel
theorem dX9_search_68 : decode cX9_search 68 = .ok (.iload_n 2, 1) := by decide +kernel
theorem dX9_search_69 : decode cX9_search 69 = .ok (.if_icmp .ne 54, 3) := by decide +kernel
theorem dX9_search_72 : decode cX9_search 72 = .ok (.aload_n 1, 1) := by decide +kernel
theorem dX9_search_73 : decode cX9_search 73 = .ok (.getfield 40, 3) := by decide +kernel
theorem dX9_search_76 : decode cX9_search 76 = .ok (.iload_n 3, 1) := by decide +kernel
theorem dX9_search_77 : decode cX9_search 77 = .ok (.baload, 1) := by decide +kernel
theorem dX9_search_78 : decode cX9_search 78 = .ok (.ifCond .ne 45, 3) := by decide +kernel
theorem dX9_search_81 : decode cX9_search 81 = .ok (.aload_n 0, 1) := by decide +kernel
theorem dX9_search_82 : decode cX9_search 82 = .ok (.getfield 9, 3) := by decide +kernel
theorem dX9_search_85 : decode cX9_search 85 = .ok (.iload_n 3, 1) := by decide +kernel
theorem dX9_search_86 : decode cX9_search 86 = .ok (.aload_n 1, 1) := by decide +kernel
theorem dX9_search_87 : decode cX9_search 87 = .ok (.getfield 46, 3) := by decide +kernel
theorem dX9_search_90 : decode cX9_search 90 = .ok (.iload_n 3, 1) := by decide +kernel
theorem dX9_search_91 : decode cX9_search 91 = .ok (.iaload, 1) := by decide +kernel
theorem dX9_search_92 : decode cX9_search 92 = .ok (.iastore, 1) := by decide +kernel
theorem dX9_search_93 : decode cX9_search 93 = .ok (.aload_n 0, 1) := by decide +kernel
theorem dX9_search_94 : decode cX9_search 94 = .ok (.getfield 21, 3) := by decide +kernel
theorem dX9_search_97 : decode cX9_search 97 = .ok (.aload_n 0, 1) := by decide +kernel
theorem dX9_search_98 : decode cX9_search 98 = .ok (.getfield 27, 3) := by decide +kernel
theorem dX9_search_101 : decode cX9_search 101 = .ok (.getfield 49, 3) := by decide +kernel
theorem dX9_search_104 : decode cX9_search 104 = .ok (.iload_n 3, 1) := by decide +kernel
theorem dX9_search_105 : decode cX9_search 105 = .ok (.iaload, 1) := by decide +kernel
theorem dX9_search_106 : decode cX9_search 106 = .ok (.iload_n 3, 1) := by decide +kernel
theorem dX9_search_107 : decode cX9_search 107 = .ok (.iastore, 1) := by decide +kernel
theorem dX9_search_108 : decode cX9_search 108 = .ok (.aload_n 0, 1) := by decide +kernel
theorem dX9_search_109 : decode cX9_search 109 = .ok (.getfield 21, 3) := by decide +kernel
theorem dX9_search_112 : decode cX9_search 112 = .ok (.aload_n 0, 1) := by decide +kernel
theorem dX9_search_113 : decode cX9_search 113 = .ok (.getfield 27, 3) := by decide +kernel
theorem dX9_search_116 : decode cX9_search 116 = .ok (.getfield 52, 3) := by decide +kernel
theorem dX9_search_119 : decode cX9_search 119 = .ok (.iload_n 3, 1) := by decide +kernel
theorem dX9_search_120 : decode cX9_search 120 = .ok (.iaload, 1) := by decide +kernel
theorem dX9_search_121 : decode cX9_search 121 = .ok (.iload_n 3, 1) := by decide +kernel
theorem dX9_search_122 : decode cX9_search 122 = .ok (.iastore, 1) := by decide +kernel
theorem dX9_search_123 : decode cX9_search 123 = .ok (.iinc 3 1, 3) := by decide +kernel
theorem dX9_search_126 : decode cX9_search 126 = .ok (.goto (-97), 3) := by decide +kernel
theorem dX9_search_129 : decode cX9_search 129 = .ok (.aload_n 0, 1) := by decide +kernel
theorem dX9_search_130 : decode cX9_search 130 = .ok (.iconst (-1), 1) := by decide +kernel
theorem dX9_search_131 : decode cX9_search 131 = .ok (.putfield 55, 3) := by decide +kernel
theorem dX9_search_134 : decode cX9_search 134 = .ok (.aload_n 0, 1) := by decide +kernel
theorem dX9_search_135 : decode cX9_search 135 = .ok (.iconst 0, 1) := by decide +kernel
theorem dX9_search_136 : decode cX9_search 136 = .ok (.iconst 0, 1) := by decide +kernel
theorem dX9_search_137 : decode cX9_search 137 = .ok (.invokestatic 58, 3) := by decide +kernel
theorem dX9_search_140 : decode cX9_search 140 = .ok (.return_, 1) := by decide +kernel
theorem dX11_cancel_0 : decode cX11_cancel 0 = .ok (.aload_n 0, 1) := by decide +kernel
theorem dX11_cancel_1 : decode cX11_cancel 1 = .ok (.iload_n 1, 1) := by decide +kernel
theorem dX11_cancel_2 : decode cX11_cancel 2 = .ok (.invokevirtual 190, 3) := by decide +kernel
theorem dX11_cancel_5 : decode cX11_cancel 5 = .ok (.ifCond .eq 6, 3) := by decide +kernel
theorem dX11_cancel_8 : decode cX11_cancel 8 = .ok (.bipush (-101), 2) := by decide +kernel
theorem dX11_cancel_10 : decode cX11_cancel 10 = .ok (.ireturn, 1) := by decide +kernel
theorem dX11_cancel_11 : decode cX11_cancel 11 = .ok (.iload_n 2, 1) := by decide +kernel
theorem dX11_cancel_12 : decode cX11_cancel 12 = .ok (.ifCond .eq 18, 3) := by decide +kernel
theorem dX11_cancel_15 : decode cX11_cancel 15 = .ok (.iload_n 2, 1) := by decide +kernel
theorem dX11_cancel_16 : decode cX11_cancel 16 = .ok (.bipush 10, 2) := by decide +kernel
theorem dX11_cancel_18 : decode cX11_cancel 18 = .ok (.if_icmp .lt 9, 3) := by decide +kernel
theorem dX11_cancel_21 : decode cX11_cancel 21 = .ok (.iload_n 2, 1) := by decide +kernel
theorem dX11_cancel_22 : decode cX11_cancel 22 = .ok (.bipush 13, 2) := by decide +kernel
theorem dX11_cancel_24 : decode cX11_cancel 24 = .ok (.if_icmp .le 6, 3) := by decide +kernel
theorem dX11_cancel_27 : decode cX11_cancel 27 = .ok (.bipush (-102), 2) := by decide +kernel
theorem dX11_cancel_29 : decode cX11_cancel 29 = .ok (.ireturn, 1) := by decide +kernel
theorem dX11_cancel_30 : decode cX11_cancel 30 = .ok (.aload_n 0, 1) := by decide +kernel
theorem dX11_cancel_31 : decode cX11_cancel 31 = .ok (.getfield 55, 3) := by decide +kernel
theorem dX11_cancel_34 : decode cX11_cancel 34 = .ok (.aload_n 0, 1) := by decide +kernel
theorem dX11_cancel_35 : decode cX11_cancel 35 = .ok (.getfield 28, 3) := by decide +kernel
theorem dX11_cancel_38 : decode cX11_cancel 38 = .ok (.iload_n 1, 1) := by decide +kernel
theorem dX11_cancel_39 : decode cX11_cancel 39 = .ok (.invokevirtual 212, 3) := by decide +kernel
theorem dX11_cancel_42 : decode cX11_cancel 42 = .ok (.iload_n 2, 1) := by decide +kernel
theorem dX11_cancel_43 : decode cX11_cancel 43 = .ok (.ifCond .ne 13, 3) := by decide +kernel
theorem dX11_cancel_46 : decode cX11_cancel 46 = .ok (.aload_n 0, 1) := by decide +kernel
theorem dX11_cancel_47 : decode cX11_cancel 47 = .ok (.getfield 55, 3) := by decide +kernel
theorem dX11_cancel_50 : decode cX11_cancel 50 = .ok (.getfield 215, 3) := by decide +kernel
theorem dX11_cancel_53 : decode cX11_cancel 53 = .ok (.goto 15, 3) := by decide +kernel
theorem dX11_cancel_56 : decode cX11_cancel 56 = .ok (.aload_n 0, 1) := by decide +kernel
theorem dX11_cancel_57 : decode cX11_cancel 57 = .ok (.getfield 55, 3) := by decide +kernel
theorem dX11_cancel_60 : decode cX11_cancel 60 = .ok (.getfield 216, 3) := by decide +kernel
theorem dX11_cancel_63 : decode cX11_cancel 63 = .ok (.iload_n 2, 1) := by decide +kernel
theorem dX11_cancel_64 : decode cX11_cancel 64 = .ok (.bipush 10, 2) := by decide +kernel
theorem dX11_cancel_66 : decode cX11_cancel 66 = .ok (.isub, 1) := by decide +kernel
theorem dX11_cancel_67 : decode cX11_cancel 67 = .ok (.iaload, 1) := by decide +kernel
theorem dX11_cancel_68 : decode cX11_cancel 68 = .ok (.ireturn, 1) := by decide +kernel
theorem dX0_owesStill_0 : decode cX0_owesStill 0 = .ok (.aload_n 0, 1) := by decide +kernel
theorem dX0_owesStill_1 : decode cX0_owesStill 1 = .ok (.getfield 34, 3) := by decide +kernel
theorem dX0_owesStill_4 : decode cX0_owesStill 4 = .ok (.getfield 71, 3) := by decide +kernel
theorem dX0_owesStill_7 : decode cX0_owesStill 7 = .ok (.iload_n 2, 1) := by decide +kernel
theorem dX0_owesStill_8 : decode cX0_owesStill 8 = .ok (.iaload, 1) := by decide +kernel
theorem dX0_owesStill_9 : decode cX0_owesStill 9 = .ok (.iload_n 1, 1) := by decide +kernel
theorem dX0_owesStill_10 : decode cX0_owesStill 10 = .ok (.if_icmp .ne 16, 3) := by decide +kernel
theorem dX0_owesStill_13 : decode cX0_owesStill 13 = .ok (.aload_n 0, 1) := by decide +kernel
theorem dX0_owesStill_14 : decode cX0_owesStill 14 = .ok (.getfield 24, 3) := by decide +kernel
theorem dX0_owesStill_17 : decode cX0_owesStill 17 = .ok (.iload_n 2, 1) := by decide +kernel
theorem dX0_owesStill_18 : decode cX0_owesStill 18 = .ok (.baload, 1) := by decide +kernel
theorem dX0_owesStill_19 : decode cX0_owesStill 19 = .ok (.ifCond .ne 7, 3) := by decide +kernel
theorem dX0_owesStill_22 : decode cX0_owesStill 22 = .ok (.iconst 1, 1) := by decide +kernel
theorem dX0_owesStill_23 : decode cX0_owesStill 23 = .ok (.goto 4, 3) := by decide +kernel
theorem dX0_owesStill_26 : decode cX0_owesStill 26 = .ok (.iconst 0, 1) := by decide +kernel
theorem dX0_owesStill_27 : decode cX0_owesStill 27 = .ok (.ireturn, 1) := by decide +kernel
theorem dX0_costOfAll_0 : decode cX0_costOfAll 0 = .ok (.iconst 0, 1) := by decide +kernel
theorem dX0_costOfAll_1 : decode cX0_costOfAll 1 = .ok (.istore_n 2, 1) := by decide +kernel
theorem dX0_costOfAll_2 : decode cX0_costOfAll 2 = .ok (.iconst 0, 1) := by decide +kernel
theorem dX0_costOfAll_3 : decode cX0_costOfAll 3 = .ok (.istore_n 3, 1) := by decide +kernel
theorem dX0_costOfAll_4 : decode cX0_costOfAll 4 = .ok (.iload_n 3, 1) := by decide +kernel
theorem dX0_costOfAll_5 : decode cX0_costOfAll 5 = .ok (.aload_n 0, 1) := by decide +kernel
theorem dX0_costOfAll_6 : decode cX0_costOfAll 6 = .ok (.getfield 34, 3) := by decide +kernel
theorem dX0_costOfAll_9 : decode cX0_costOfAll 9 = .ok (.getfield 95, 3) := by decide +kernel
theorem dX0_costOfAll_12 : decode cX0_costOfAll 12 = .ok (.if_icmp .ge 26, 3) := by decide +kernel
theorem dX0_costOfAll_15 : decode cX0_costOfAll 15 = .ok (.aload_n 0, 1) := by decide +kernel
theorem dX0_costOfAll_16 : decode cX0_costOfAll 16 = .ok (.iload_n 1, 1) := by decide +kernel
theorem dX0_costOfAll_17 : decode cX0_costOfAll 17 = .ok (.iload_n 3, 1) := by decide +kernel
theorem dX0_costOfAll_18 : decode cX0_costOfAll 18 = .ok (.invokevirtual 106, 3) := by decide +kernel
theorem dX0_costOfAll_21 : decode cX0_costOfAll 21 = .ok (.ifCond .eq 11, 3) := by decide +kernel
theorem dX0_costOfAll_24 : decode cX0_costOfAll 24 = .ok (.iload_n 2, 1) := by decide +kernel
theorem dX0_costOfAll_25 : decode cX0_costOfAll 25 = .ok (.aload_n 0, 1) := by decide +kernel
theorem dX0_costOfAll_26 : decode cX0_costOfAll 26 = .ok (.iload_n 3, 1) := by decide +kernel
theorem dX0_costOfAll_27 : decode cX0_costOfAll 27 = .ok (.invokevirtual 78, 3) := by decide +kernel
theorem dX0_costOfAll_30 : decode cX0_costOfAll 30 = .ok (.iadd, 1) := by decide +kernel
theorem dX0_costOfAll_31 : decode cX0_costOfAll 31 = .ok (.istore_n 2, 1) := by decide +kernel
theorem dX0_costOfAll_32 : decode cX0_costOfAll 32 = .ok (.iinc 3 1, 3) := by decide +kernel
theorem dX0_costOfAll_35 : decode cX0_costOfAll 35 = .ok (.goto (-31), 3) := by decide +kernel
theorem dX0_costOfAll_38 : decode cX0_costOfAll 38 = .ok (.iload_n 2, 1) := by decide +kernel
theorem dX0_costOfAll_39 : decode cX0_costOfAll 39 = .ok (.ireturn, 1) := by decide +kernel
theorem dX0_settleAll_0 : decode cX0_settleAll 0 = .ok (.iconst 0, 1) := by decide +kernel
theorem dX0_settleAll_1 : decode cX0_settleAll 1 = .ok (.istore_n 2, 1) := by decide +kernel
theorem dX0_settleAll_2 : decode cX0_settleAll 2 = .ok (.iload_n 2, 1) := by decide +kernel
theorem dX0_settleAll_3 : decode cX0_settleAll 3 = .ok (.aload_n 0, 1) := by decide +kernel
theorem dX0_settleAll_4 : decode cX0_settleAll 4 = .ok (.getfield 34, 3) := by decide +kernel
theorem dX0_settleAll_7 : decode cX0_settleAll 7 = .ok (.getfield 95, 3) := by decide +kernel
theorem dX0_settleAll_10 : decode cX0_settleAll 10 = .ok (.if_icmp .ge 23, 3) := by decide +kernel
theorem dX0_settleAll_13 : decode cX0_settleAll 13 = .ok (.aload_n 0, 1) := by decide +kernel
theorem dX0_settleAll_14 : decode cX0_settleAll 14 = .ok (.iload_n 1, 1) := by decide +kernel
theorem dX0_settleAll_15 : decode cX0_settleAll 15 = .ok (.iload_n 2, 1) := by decide +kernel
theorem dX0_settleAll_16 : decode cX0_settleAll 16 = .ok (.invokevirtual 106, 3) := by decide +kernel
theorem dX0_settleAll_19 : decode cX0_settleAll 19 = .ok (.ifCond .eq 8, 3) := by decide +kernel
theorem dX0_settleAll_22 : decode cX0_settleAll 22 = .ok (.aload_n 0, 1) := by decide +kernel
theorem dX0_settleAll_23 : decode cX0_settleAll 23 = .ok (.iload_n 2, 1) := by decide +kernel
theorem dX0_settleAll_24 : decode cX0_settleAll 24 = .ok (.invokevirtual 102, 3) := by decide +kernel
theorem dX0_settleAll_27 : decode cX0_settleAll 27 = .ok (.iinc 2 1, 3) := by decide +kernel
theorem dX0_settleAll_30 : decode cX0_settleAll 30 = .ok (.goto (-28), 3) := by decide +kernel
theorem dX0_settleAll_33 : decode cX0_settleAll 33 = .ok (.return_, 1) := by decide +kernel
theorem dX0_payWhoCan_0 : decode cX0_payWhoCan 0 = .ok (.iconst 0, 1) := by decide +kernel
theorem dX0_payWhoCan_1 : decode cX0_payWhoCan 1 = .ok (.istore_n 1, 1) := by decide +kernel
theorem dX0_payWhoCan_2 : decode cX0_payWhoCan 2 = .ok (.iload_n 1, 1) := by decide +kernel
theorem dX0_payWhoCan_3 : decode cX0_payWhoCan 3 = .ok (.aload_n 0, 1) := by decide +kernel
theorem dX0_payWhoCan_4 : decode cX0_payWhoCan 4 = .ok (.getfield 34, 3) := by decide +kernel
theorem dX0_payWhoCan_7 : decode cX0_payWhoCan 7 = .ok (.getfield 109, 3) := by decide +kernel
theorem dX0_payWhoCan_10 : decode cX0_payWhoCan 10 = .ok (.if_icmp .ge 47, 3) := by decide +kernel
theorem dX0_payWhoCan_13 : decode cX0_payWhoCan 13 = .ok (.iconst 0, 1) := by decide +kernel
theorem dX0_payWhoCan_14 : decode cX0_payWhoCan 14 = .ok (.istore_n 2, 1) := by decide +kernel
theorem dX0_payWhoCan_15 : decode cX0_payWhoCan 15 = .ok (.iload_n 2, 1) := by decide +kernel
theorem dX0_payWhoCan_16 : decode cX0_payWhoCan 16 = .ok (.aload_n 0, 1) := by decide +kernel
theorem dX0_payWhoCan_17 : decode cX0_payWhoCan 17 = .ok (.getfield 34, 3) := by decide +kernel
theorem dX0_payWhoCan_20 : decode cX0_payWhoCan 20 = .ok (.getfield 109, 3) := by decide +kernel
theorem dX0_payWhoCan_23 : decode cX0_payWhoCan 23 = .ok (.if_icmp .ge 28, 3) := by decide +kernel
theorem dX0_payWhoCan_26 : decode cX0_payWhoCan 26 = .ok (.aload_n 0, 1) := by decide +kernel
theorem dX0_payWhoCan_27 : decode cX0_payWhoCan 27 = .ok (.getfield 9, 3) := by decide +kernel
theorem dX0_payWhoCan_30 : decode cX0_payWhoCan 30 = .ok (.iload_n 2, 1) := by decide +kernel
theorem dX0_payWhoCan_31 : decode cX0_payWhoCan 31 = .ok (.iaload, 1) := by decide +kernel
theorem dX0_payWhoCan_32 : decode cX0_payWhoCan 32 = .ok (.aload_n 0, 1) := by decide +kernel
theorem dX0_payWhoCan_33 : decode cX0_payWhoCan 33 = .ok (.iload_n 2, 1) := by decide +kernel
theorem dX0_payWhoCan_34 : decode cX0_payWhoCan 34 = .ok (.invokevirtual 112, 3) := by decide +kernel
theorem dX0_payWhoCan_37 : decode cX0_payWhoCan 37 = .ok (.if_icmp .lt 8, 3) := by decide +kernel
theorem dX0_payWhoCan_40 : decode cX0_payWhoCan 40 = .ok (.aload_n 0, 1) := by decide +kernel
theorem dX0_payWhoCan_41 : decode cX0_payWhoCan 41 = .ok (.iload_n 2, 1) := by decide +kernel
theorem dX0_payWhoCan_42 : decode cX0_payWhoCan 42 = .ok (.invokevirtual 115, 3) := by decide +kernel
theorem dX0_payWhoCan_45 : decode cX0_payWhoCan 45 = .ok (.iinc 2 1, 3) := by decide +kernel
theorem dX0_payWhoCan_48 : decode cX0_payWhoCan 48 = .ok (.goto (-33), 3) := by decide +kernel
theorem dX0_payWhoCan_51 : decode cX0_payWhoCan 51 = .ok (.iinc 1 1, 3) := by decide +kernel
theorem dX0_payWhoCan_54 : decode cX0_payWhoCan 54 = .ok (.goto (-52), 3) := by decide +kernel
theorem dX0_payWhoCan_57 : decode cX0_payWhoCan 57 = .ok (.iconst 0, 1) := by decide +kernel
theorem dX0_payWhoCan_58 : decode cX0_payWhoCan 58 = .ok (.istore_n 1, 1) := by decide +kernel
theorem dX0_payWhoCan_59 : decode cX0_payWhoCan 59 = .ok (.iconst 0, 1) := by decide +kernel
theorem dX0_payWhoCan_60 : decode cX0_payWhoCan 60 = .ok (.istore_n 2, 1) := by decide +kernel
theorem dX0_payWhoCan_61 : decode cX0_payWhoCan 61 = .ok (.iload_n 2, 1) := by decide +kernel
theorem dX0_payWhoCan_62 : decode cX0_payWhoCan 62 = .ok (.aload_n 0, 1) := by decide +kernel
theorem dX0_payWhoCan_63 : decode cX0_payWhoCan 63 = .ok (.getfield 34, 3) := by decide +kernel
theorem dX0_payWhoCan_66 : decode cX0_payWhoCan 66 = .ok (.getfield 109, 3) := by decide +kernel
theorem dX0_payWhoCan_69 : decode cX0_payWhoCan 69 = .ok (.if_icmp .ge 23, 3) := by decide +kernel
theorem dX0_payWhoCan_72 : decode cX0_payWhoCan 72 = .ok (.aload_n 0, 1) := by decide +kernel
theorem dX0_payWhoCan_73 : decode cX0_payWhoCan 73 = .ok (.iload_n 2, 1) := by decide +kernel
theorem dX0_payWhoCan_74 : decode cX0_payWhoCan 74 = .ok (.invokevirtual 112, 3) := by decide +kernel
theorem dX0_payWhoCan_77 : decode cX0_payWhoCan 77 = .ok (.ifCond .ne 9, 3) := by decide +kernel
theorem dX0_payWhoCan_80 : decode cX0_payWhoCan 80 = .ok (.iload_n 1, 1) := by decide +kernel
theorem dX0_payWhoCan_81 : decode cX0_payWhoCan 81 = .ok (.iconst 1, 1) := by decide +kernel
theorem dX0_payWhoCan_82 : decode cX0_payWhoCan 82 = .ok (.iload_n 2, 1) := by decide +kernel
theorem dX0_payWhoCan_83 : decode cX0_payWhoCan 83 = .ok (.ishl, 1) := by decide +kernel
theorem dX0_payWhoCan_84 : decode cX0_payWhoCan 84 = .ok (.ior, 1) := by decide +kernel
theorem dX0_payWhoCan_85 : decode cX0_payWhoCan 85 = .ok (.istore_n 1, 1) := by decide +kernel
theorem dX0_payWhoCan_86 : decode cX0_payWhoCan 86 = .ok (.iinc 2 1, 3) := by decide +kernel
theorem dX0_payWhoCan_89 : decode cX0_payWhoCan 89 = .ok (.goto (-28), 3) := by decide +kernel
theorem dX0_payWhoCan_92 : decode cX0_payWhoCan 92 = .ok (.iload_n 1, 1) := by decide +kernel
theorem dX0_payWhoCan_93 : decode cX0_payWhoCan 93 = .ok (.ireturn, 1) := by decide +kernel
theorem dX11_sound_0 : decode cX11_sound 0 = .ok (.aload_n 0, 1) := by decide +kernel
theorem dX11_sound_1 : decode cX11_sound 1 = .ok (.getfield 19, 3) := by decide +kernel
theorem dX11_sound_4 : decode cX11_sound 4 = .ok (.getfield 90, 3) := by decide +kernel
theorem dX11_sound_7 : decode cX11_sound 7 = .ok (.ifCond .ne 6, 3) := by decide +kernel
theorem dX11_sound_10 : decode cX11_sound 10 = .ok (.bipush (-103), 2) := by decide +kernel
theorem dX11_sound_12 : decode cX11_sound 12 = .ok (.ireturn, 1) := by decide +kernel
theorem dX11_sound_13 : decode cX11_sound 13 = .ok (.aload_n 0, 1) := by decide +kernel
theorem dX11_sound_14 : decode cX11_sound 14 = .ok (.getfield 35, 3) := by decide +kernel
theorem dX11_sound_17 : decode cX11_sound 17 = .ok (.aload_n 0, 1) := by decide +kernel
theorem dX11_sound_18 : decode cX11_sound 18 = .ok (.getfield 28, 3) := by decide +kernel
theorem dX11_sound_21 : decode cX11_sound 21 = .ok (.invokevirtual 219, 3) := by decide +kernel
theorem dX11_sound_24 : decode cX11_sound 24 = .ok (.aload_n 0, 1) := by decide +kernel
theorem dX11_sound_25 : decode cX11_sound 25 = .ok (.getfield 35, 3) := by decide +kernel
theorem dX11_sound_28 : decode cX11_sound 28 = .ok (.invokevirtual 222, 3) := by decide +kernel
theorem dX11_sound_31 : decode cX11_sound 31 = .ok (.ireturn, 1) := by decide +kernel
theorem dX10_spreadFrom_0 : decode cX10_spreadFrom 0 = .ok (.iconst 0, 1) := by decide +kernel
theorem dX10_spreadFrom_1 : decode cX10_spreadFrom 1 = .ok (.istore 4, 2) := by decide +kernel
theorem dX10_spreadFrom_3 : decode cX10_spreadFrom 3 = .ok (.iconst 0, 1) := by decide +kernel
theorem dX10_spreadFrom_4 : decode cX10_spreadFrom 4 = .ok (.istore 5, 2) := by decide +kernel
theorem dX10_spreadFrom_6 : decode cX10_spreadFrom 6 = .ok (.iload 5, 2) := by decide +kernel
theorem dX10_spreadFrom_8 : decode cX10_spreadFrom 8 = .ok (.aload_n 0, 1) := by decide +kernel
theorem dX10_spreadFrom_9 : decode cX10_spreadFrom 9 = .ok (.getfield 21, 3) := by decide +kernel
theorem dX10_spreadFrom_12 : decode cX10_spreadFrom 12 = .ok (.getfield 48, 3) := by decide +kernel
theorem dX10_spreadFrom_15 : decode cX10_spreadFrom 15 = .ok (.if_icmp .ge 35, 3) := by decide +kernel
theorem dX10_spreadFrom_18 : decode cX10_spreadFrom 18 = .ok (.aload_n 0, 1) := by decide +kernel
theorem dX10_spreadFrom_19 : decode cX10_spreadFrom 19 = .ok (.getfield 21, 3) := by decide +kernel
theorem dX10_spreadFrom_22 : decode cX10_spreadFrom 22 = .ok (.iload 5, 2) := by decide +kernel
theorem dX10_spreadFrom_24 : decode cX10_spreadFrom 24 = .ok (.iload_n 3, 1) := by decide +kernel
theorem dX10_spreadFrom_25 : decode cX10_spreadFrom 25 = .ok (.invokevirtual 65, 3) := by decide +kernel
theorem dX10_spreadFrom_28 : decode cX10_spreadFrom 28 = .ok (.ifCond .eq 16, 3) := by decide +kernel
theorem dX10_spreadFrom_31 : decode cX10_spreadFrom 31 = .ok (.aload_n 1, 1) := by decide +kernel
theorem dX10_spreadFrom_32 : decode cX10_spreadFrom 32 = .ok (.iload_n 2, 1) := by decide +kernel
theorem dX10_spreadFrom_33 : decode cX10_spreadFrom 33 = .ok (.iload 5, 2) := by decide +kernel
theorem dX10_spreadFrom_35 : decode cX10_spreadFrom 35 = .ok (.invokevirtual 51, 3) := by decide +kernel
theorem dX10_spreadFrom_38 : decode cX10_spreadFrom 38 = .ok (.ifCond .eq 6, 3) := by decide +kernel
theorem dX10_spreadFrom_41 : decode cX10_spreadFrom 41 = .ok (.iinc 4 1, 3) := by decide +kernel
theorem dX10_spreadFrom_44 : decode cX10_spreadFrom 44 = .ok (.iinc 5 1, 3) := by decide +kernel
theorem dX10_spreadFrom_47 : decode cX10_spreadFrom 47 = .ok (.goto (-41), 3) := by decide +kernel
theorem dX10_spreadFrom_50 : decode cX10_spreadFrom 50 = .ok (.iload 4, 2) := by decide +kernel
theorem dX10_spreadFrom_52 : decode cX10_spreadFrom 52 = .ok (.ifCond .ne 19, 3) := by decide +kernel
theorem dX10_spreadFrom_55 : decode cX10_spreadFrom 55 = .ok (.aload_n 0, 1) := by decide +kernel
theorem dX10_spreadFrom_56 : decode cX10_spreadFrom 56 = .ok (.getfield 18, 3) := by decide +kernel
theorem dX10_spreadFrom_59 : decode cX10_spreadFrom 59 = .ok (.iload_n 3, 1) := by decide +kernel
theorem dX10_spreadFrom_60 : decode cX10_spreadFrom 60 = .ok (.dup2, 1) := by decide +kernel
theorem dX10_spreadFrom_61 : decode cX10_spreadFrom 61 = .ok (.iaload, 1) := by decide +kernel
theorem dX10_spreadFrom_62 : decode cX10_spreadFrom 62 = .ok (.aload_n 0, 1) := by decide +kernel
theorem dX10_spreadFrom_63 : decode cX10_spreadFrom 63 = .ok (.getfield 15, 3) := by decide +kernel
theorem dX10_spreadFrom_66 : decode cX10_spreadFrom 66 = .ok (.iload_n 3, 1) := by decide +kernel
theorem dX10_spreadFrom_67 : decode cX10_spreadFrom 67 = .ok (.iaload, 1) := by decide +kernel
theorem dX10_spreadFrom_68 : decode cX10_spreadFrom 68 = .ok (.iadd, 1) := by decide +kernel
theorem dX10_spreadFrom_69 : decode cX10_spreadFrom 69 = .ok (.iastore, 1) := by decide +kernel
theorem dX10_spreadFrom_70 : decode cX10_spreadFrom 70 = .ok (.return_, 1) := by decide +kernel
theorem dX10_spreadFrom_71 : decode cX10_spreadFrom 71 = .ok (.iconst 0, 1) := by decide +kernel
theorem dX10_spreadFrom_72 : decode cX10_spreadFrom 72 = .ok (.istore 5, 2) := by decide +kernel
theorem dX10_spreadFrom_74 : decode cX10_spreadFrom 74 = .ok (.iload 5, 2) := by decide +kernel
theorem dX10_spreadFrom_76 : decode cX10_spreadFrom 76 = .ok (.aload_n 0, 1) := by decide +kernel
theorem dX10_spreadFrom_77 : decode cX10_spreadFrom 77 = .ok (.getfield 21, 3) := by decide +kernel
theorem dX10_spreadFrom_80 : decode cX10_spreadFrom 80 = .ok (.getfield 48, 3) := by decide +kernel
theorem dX10_spreadFrom_83 : decode cX10_spreadFrom 83 = .ok (.if_icmp .ge 59, 3) := by decide +kernel
theorem dX10_spreadFrom_86 : decode cX10_spreadFrom 86 = .ok (.aload_n 0, 1) := by decide +kernel
theorem dX10_spreadFrom_87 : decode cX10_spreadFrom 87 = .ok (.getfield 21, 3) := by decide +kernel
theorem dX10_spreadFrom_90 : decode cX10_spreadFrom 90 = .ok (.iload 5, 2) := by decide +kernel
theorem dX10_spreadFrom_92 : decode cX10_spreadFrom 92 = .ok (.iload_n 3, 1) := by decide +kernel
theorem dX10_spreadFrom_93 : decode cX10_spreadFrom 93 = .ok (.invokevirtual 65, 3) := by decide +kernel
theorem dX10_spreadFrom_96 : decode cX10_spreadFrom 96 = .ok (.ifCond .eq 40, 3) := by decide +kernel
theorem dX10_spreadFrom_99 : decode cX10_spreadFrom 99 = .ok (.aload_n 1, 1) := by decide +kernel
theorem dX10_spreadFrom_100 : decode cX10_spreadFrom 100 = .ok (.iload_n 2, 1) := by decide +kernel
theorem dX10_spreadFrom_101 : decode cX10_spreadFrom 101 = .ok (.iload 5, 2) := by decide +kernel
theorem dX10_spreadFrom_103 : decode cX10_spreadFrom 103 = .ok (.invokevirtual 51, 3) := by decide +kernel
theorem dX10_spreadFrom_106 : decode cX10_spreadFrom 106 = .ok (.ifCond .eq 30, 3) := by decide +kernel
theorem dX10_spreadFrom_109 : decode cX10_spreadFrom 109 = .ok (.aload_n 0, 1) := by decide +kernel
theorem dX10_spreadFrom_110 : decode cX10_spreadFrom 110 = .ok (.getfield 18, 3) := by decide +kernel
theorem dX10_spreadFrom_113 : decode cX10_spreadFrom 113 = .ok (.aload_n 0, 1) := by decide +kernel
theorem dX10_spreadFrom_114 : decode cX10_spreadFrom 114 = .ok (.getfield 21, 3) := by decide +kernel
theorem dX10_spreadFrom_117 : decode cX10_spreadFrom 117 = .ok (.iload 5, 2) := by decide +kernel
theorem dX10_spreadFrom_119 : decode cX10_spreadFrom 119 = .ok (.iload_n 3, 1) := by decide +kernel
theorem dX10_spreadFrom_120 : decode cX10_spreadFrom 120 = .ok (.invokevirtual 38, 3) := by decide +kernel
theorem dX10_spreadFrom_123 : decode cX10_spreadFrom 123 = .ok (.dup2, 1) := by decide +kernel
theorem dX10_spreadFrom_124 : decode cX10_spreadFrom 124 = .ok (.iaload, 1) := by decide +kernel
theorem dX10_spreadFrom_125 : decode cX10_spreadFrom 125 = .ok (.aload_n 0, 1) := by decide +kernel
theorem dX10_spreadFrom_126 : decode cX10_spreadFrom 126 = .ok (.getfield 15, 3) := by decide +kernel
theorem dX10_spreadFrom_129 : decode cX10_spreadFrom 129 = .ok (.iload_n 3, 1) := by decide +kernel
theorem dX10_spreadFrom_130 : decode cX10_spreadFrom 130 = .ok (.iaload, 1) := by decide +kernel
theorem dX10_spreadFrom_131 : decode cX10_spreadFrom 131 = .ok (.iload 4, 2) := by decide +kernel
theorem dX10_spreadFrom_133 : decode cX10_spreadFrom 133 = .ok (.idiv, 1) := by decide +kernel
theorem dX10_spreadFrom_134 : decode cX10_spreadFrom 134 = .ok (.iadd, 1) := by decide +kernel
theorem dX10_spreadFrom_135 : decode cX10_spreadFrom 135 = .ok (.iastore, 1) := by decide +kernel
theorem dX10_spreadFrom_136 : decode cX10_spreadFrom 136 = .ok (.iinc 5 1, 3) := by decide +kernel
theorem dX10_spreadFrom_139 : decode cX10_spreadFrom 139 = .ok (.goto (-65), 3) := by decide +kernel
theorem dX10_spreadFrom_142 : decode cX10_spreadFrom 142 = .ok (.return_, 1) := by decide +kernel
theorem dX10_spread_0 : decode cX10_spread 0 = .ok (.iconst 0, 1) := by decide +kernel
theorem dX10_spread_1 : decode cX10_spread 1 = .ok (.istore_n 3, 1) := by decide +kernel
theorem dX10_spread_2 : decode cX10_spread 2 = .ok (.iload_n 3, 1) := by decide +kernel
theorem dX10_spread_3 : decode cX10_spread 3 = .ok (.bipush 6, 2) := by decide +kernel
theorem dX10_spread_5 : decode cX10_spread 5 = .ok (.if_icmp .ge 16, 3) := by decide +kernel
theorem dX10_spread_8 : decode cX10_spread 8 = .ok (.aload_n 0, 1) := by decide +kernel
theorem dX10_spread_9 : decode cX10_spread 9 = .ok (.getfield 18, 3) := by decide +kernel
theorem dX10_spread_12 : decode cX10_spread 12 = .ok (.iload_n 3, 1) := by decide +kernel
theorem dX10_spread_13 : decode cX10_spread 13 = .ok (.iconst 0, 1) := by decide +kernel
theorem dX10_spread_14 : decode cX10_spread 14 = .ok (.iastore, 1) := by decide +kernel
theorem dX10_spread_15 : decode cX10_spread 15 = .ok (.iinc 3 1, 3) := by decide +kernel
theorem dX10_spread_18 : decode cX10_spread 18 = .ok (.goto (-16), 3) := by decide +kernel
theorem dX10_spread_21 : decode cX10_spread 21 = .ok (.iconst 0, 1) := by decide +kernel
theorem dX10_spread_22 : decode cX10_spread 22 = .ok (.istore_n 3, 1) := by decide +kernel
theorem dX10_spread_23 : decode cX10_spread 23 = .ok (.iload_n 3, 1) := by decide +kernel
theorem dX10_spread_24 : decode cX10_spread 24 = .ok (.aload_n 0, 1) := by decide +kernel
theorem dX10_spread_25 : decode cX10_spread 25 = .ok (.getfield 21, 3) := by decide +kernel
theorem dX10_spread_28 : decode cX10_spread 28 = .ok (.getfield 44, 3) := by decide +kernel
theorem dX10_spread_31 : decode cX10_spread 31 = .ok (.if_icmp .ge 25, 3) := by decide +kernel
theorem dX10_spread_34 : decode cX10_spread 34 = .ok (.aload_n 0, 1) := by decide +kernel
theorem dX10_spread_35 : decode cX10_spread 35 = .ok (.getfield 15, 3) := by decide +kernel
theorem dX10_spread_38 : decode cX10_spread 38 = .ok (.iload_n 3, 1) := by decide +kernel
theorem dX10_spread_39 : decode cX10_spread 39 = .ok (.iaload, 1) := by decide +kernel
theorem dX10_spread_40 : decode cX10_spread 40 = .ok (.ifCond .le 10, 3) := by decide +kernel
theorem dX10_spread_43 : decode cX10_spread 43 = .ok (.aload_n 0, 1) := by decide +kernel
theorem dX10_spread_44 : decode cX10_spread 44 = .ok (.aload_n 1, 1) := by decide +kernel
theorem dX10_spread_45 : decode cX10_spread 45 = .ok (.iload_n 2, 1) := by decide +kernel
theorem dX10_spread_46 : decode cX10_spread 46 = .ok (.iload_n 3, 1) := by decide +kernel
theorem dX10_spread_47 : decode cX10_spread 47 = .ok (.invokevirtual 73, 3) := by decide +kernel
theorem dX10_spread_50 : decode cX10_spread 50 = .ok (.iinc 3 1, 3) := by decide +kernel
theorem dX10_spread_53 : decode cX10_spread 53 = .ok (.goto (-30), 3) := by decide +kernel
theorem dX10_spread_56 : decode cX10_spread 56 = .ok (.iconst 0, 1) := by decide +kernel
theorem dX10_spread_57 : decode cX10_spread 57 = .ok (.istore_n 3, 1) := by decide +kernel
theorem dX10_spread_58 : decode cX10_spread 58 = .ok (.iload_n 3, 1) := by decide +kernel
theorem dX10_spread_59 : decode cX10_spread 59 = .ok (.bipush 6, 2) := by decide +kernel
theorem dX10_spread_61 : decode cX10_spread 61 = .ok (.if_icmp .ge 21, 3) := by decide +kernel
theorem dX10_spread_64 : decode cX10_spread 64 = .ok (.aload_n 0, 1) := by decide +kernel
theorem dX10_spread_65 : decode cX10_spread 65 = .ok (.getfield 15, 3) := by decide +kernel
theorem dX10_spread_68 : decode cX10_spread 68 = .ok (.iload_n 3, 1) := by decide +kernel
theorem dX10_spread_69 : decode cX10_spread 69 = .ok (.aload_n 0, 1) := by decide +kernel
theorem dX10_spread_70 : decode cX10_spread 70 = .ok (.getfield 18, 3) := by decide +kernel
theorem dX10_spread_73 : decode cX10_spread 73 = .ok (.iload_n 3, 1) := by decide +kernel
theorem dX10_spread_74 : decode cX10_spread 74 = .ok (.iaload, 1) := by decide +kernel
theorem dX10_spread_75 : decode cX10_spread 75 = .ok (.iastore, 1) := by decide +kernel
theorem dX10_spread_76 : decode cX10_spread 76 = .ok (.iinc 3 1, 3) := by decide +kernel
theorem dX10_spread_79 : decode cX10_spread 79 = .ok (.goto (-21), 3) := by decide +kernel
theorem dX10_spread_82 : decode cX10_spread 82 = .ok (.return_, 1) := by decide +kernel
theorem dX10_metParts_0 : decode cX10_metParts 0 = .ok (.aload_n 1, 1) := by decide +kernel
theorem dX10_metParts_1 : decode cX10_metParts 1 = .ok (.getfield 29, 3) := by decide +kernel
theorem dX10_metParts_4 : decode cX10_metParts 4 = .ok (.iload_n 2, 1) := by decide +kernel
theorem dX10_metParts_5 : decode cX10_metParts 5 = .ok (.iaload, 1) := by decide +kernel
theorem dX10_metParts_6 : decode cX10_metParts 6 = .ok (.istore 5, 2) := by decide +kernel
theorem dX10_metParts_8 : decode cX10_metParts 8 = .ok (.iload 5, 2) := by decide +kernel
theorem dX10_metParts_10 : decode cX10_metParts 10 = .ok (.iload_n 3, 1) := by decide +kernel
theorem dX10_metParts_11 : decode cX10_metParts 11 = .ok (.if_icmp .ne 6, 3) := by decide +kernel
theorem dX10_metParts_14 : decode cX10_metParts 14 = .ok (.ldc 68, 2) := by decide +kernel
theorem dX10_metParts_16 : decode cX10_metParts 16 = .ok (.ireturn, 1) := by decide +kernel
theorem dX10_metParts_17 : decode cX10_metParts 17 = .ok (.iconst 0, 1) := by decide +kernel
theorem dX10_metParts_18 : decode cX10_metParts 18 = .ok (.istore 6, 2) := by decide +kernel
theorem dX10_metParts_20 : decode cX10_metParts 20 = .ok (.iload 6, 2) := by decide +kernel
theorem dX10_metParts_22 : decode cX10_metParts 22 = .ok (.bipush 6, 2) := by decide +kernel
theorem dX10_metParts_24 : decode cX10_metParts 24 = .ok (.if_icmp .ge 17, 3) := by decide +kernel
theorem dX10_metParts_27 : decode cX10_metParts 27 = .ok (.aload_n 0, 1) := by decide +kernel
theorem dX10_metParts_28 : decode cX10_metParts 28 = .ok (.getfield 15, 3) := by decide +kernel
theorem dX10_metParts_31 : decode cX10_metParts 31 = .ok (.iload 6, 2) := by decide +kernel
theorem dX10_metParts_33 : decode cX10_metParts 33 = .ok (.iconst 0, 1) := by decide +kernel
theorem dX10_metParts_34 : decode cX10_metParts 34 = .ok (.iastore, 1) := by decide +kernel
theorem dX10_metParts_35 : decode cX10_metParts 35 = .ok (.iinc 6 1, 3) := by decide +kernel
theorem dX10_metParts_38 : decode cX10_metParts 38 = .ok (.goto (-18), 3) := by decide +kernel
theorem dX10_metParts_41 : decode cX10_metParts 41 = .ok (.aload_n 0, 1) := by decide +kernel
theorem dX10_metParts_42 : decode cX10_metParts 42 = .ok (.getfield 15, 3) := by decide +kernel
theorem dX10_metParts_45 : decode cX10_metParts 45 = .ok (.iload 5, 2) := by decide +kernel
theorem dX10_metParts_47 : decode cX10_metParts 47 = .ok (.ldc 68, 2) := by decide +kernel
theorem dX10_metParts_49 : decode cX10_metParts 49 = .ok (.iastore, 1) := by decide +kernel
theorem dX10_metParts_50 : decode cX10_metParts 50 = .ok (.iconst 0, 1) := by decide +kernel
theorem dX10_metParts_51 : decode cX10_metParts 51 = .ok (.istore 6, 2) := by decide +kernel
theorem dX10_metParts_53 : decode cX10_metParts 53 = .ok (.iconst 0, 1) := by decide +kernel
theorem dX10_metParts_54 : decode cX10_metParts 54 = .ok (.istore 7, 2) := by decide +kernel
theorem dX10_metParts_56 : decode cX10_metParts 56 = .ok (.iload 7, 2) := by decide +kernel
theorem dX10_metParts_58 : decode cX10_metParts 58 = .ok (.iload 4, 2) := by decide +kernel
theorem dX10_metParts_60 : decode cX10_metParts 60 = .ok (.if_icmp .ge 33, 3) := by decide +kernel
theorem dX10_metParts_63 : decode cX10_metParts 63 = .ok (.aload_n 0, 1) := by decide +kernel
theorem dX10_metParts_64 : decode cX10_metParts 64 = .ok (.aload_n 1, 1) := by decide +kernel
theorem dX10_metParts_65 : decode cX10_metParts 65 = .ok (.iload_n 2, 1) := by decide +kernel
theorem dX10_metParts_66 : decode cX10_metParts 66 = .ok (.invokevirtual 69, 3) := by decide +kernel
theorem dX10_metParts_69 : decode cX10_metParts 69 = .ok (.iload 6, 2) := by decide +kernel
theorem dX10_metParts_71 : decode cX10_metParts 71 = .ok (.aload_n 0, 1) := by decide +kernel
theorem dX10_metParts_72 : decode cX10_metParts 72 = .ok (.getfield 15, 3) := by decide +kernel
theorem dX10_metParts_75 : decode cX10_metParts 75 = .ok (.iload_n 3, 1) := by decide +kernel
theorem dX10_metParts_76 : decode cX10_metParts 76 = .ok (.iaload, 1) := by decide +kernel
theorem dX10_metParts_77 : decode cX10_metParts 77 = .ok (.iadd, 1) := by decide +kernel
theorem dX10_metParts_78 : decode cX10_metParts 78 = .ok (.istore 6, 2) := by decide +kernel
theorem dX10_metParts_80 : decode cX10_metParts 80 = .ok (.aload_n 0, 1) := by decide +kernel
theorem dX10_metParts_81 : decode cX10_metParts 81 = .ok (.getfield 15, 3) := by decide +kernel
theorem dX10_metParts_84 : decode cX10_metParts 84 = .ok (.iload_n 3, 1) := by decide +kernel
theorem dX10_metParts_85 : decode cX10_metParts 85 = .ok (.iconst 0, 1) := by decide +kernel
theorem dX10_metParts_86 : decode cX10_metParts 86 = .ok (.iastore, 1) := by decide +kernel
theorem dX10_metParts_87 : decode cX10_metParts 87 = .ok (.iinc 7 1, 3) := by decide +kernel
theorem dX10_metParts_90 : decode cX10_metParts 90 = .ok (.goto (-34), 3) := by decide +kernel
theorem dX10_metParts_93 : decode cX10_metParts 93 = .ok (.iload 6, 2) := by decide +kernel
theorem dX10_metParts_95 : decode cX10_metParts 95 = .ok (.ireturn, 1) := by decide +kernel
theorem dX11_commonDivisor_0 : decode cX11_commonDivisor 0 = .ok (.iload_n 1, 1) := by decide +kernel
theorem dX11_commonDivisor_1 : decode cX11_commonDivisor 1 = .ok (.istore_n 2, 1) := by decide +kernel
theorem dX11_commonDivisor_2 : decode cX11_commonDivisor 2 = .ok (.iload_n 0, 1) := by decide +kernel
theorem dX11_commonDivisor_3 : decode cX11_commonDivisor 3 = .ok (.istore_n 3, 1) := by decide +kernel
theorem dX11_commonDivisor_4 : decode cX11_commonDivisor 4 = .ok (.iconst 0, 1) := by decide +kernel
theorem dX11_commonDivisor_5 : decode cX11_commonDivisor 5 = .ok (.istore 4, 2) := by decide +kernel
theorem dX11_commonDivisor_7 : decode cX11_commonDivisor 7 = .ok (.iload 4, 2) := by decide +kernel
theorem dX11_commonDivisor_9 : decode cX11_commonDivisor 9 = .ok (.bipush 64, 2) := by decide +kernel
theorem dX11_commonDivisor_11 : decode cX11_commonDivisor 11 = .ok (.if_icmp .ge 23, 3) := by decide +kernel
theorem dX11_commonDivisor_14 : decode cX11_commonDivisor 14 = .ok (.iload_n 3, 1) := by decide +kernel
theorem dX11_commonDivisor_15 : decode cX11_commonDivisor 15 = .ok (.ifCond .le 19, 3) := by decide +kernel
theorem dX11_commonDivisor_18 : decode cX11_commonDivisor 18 = .ok (.iload_n 2, 1) := by decide +kernel
theorem dX11_commonDivisor_19 : decode cX11_commonDivisor 19 = .ok (.iload_n 3, 1) := by decide +kernel
theorem dX11_commonDivisor_20 : decode cX11_commonDivisor 20 = .ok (.irem, 1) := by decide +kernel
theorem dX11_commonDivisor_21 : decode cX11_commonDivisor 21 = .ok (.istore 5, 2) := by decide +kernel
theorem dX11_commonDivisor_23 : decode cX11_commonDivisor 23 = .ok (.iload_n 3, 1) := by decide +kernel
theorem dX11_commonDivisor_24 : decode cX11_commonDivisor 24 = .ok (.istore_n 2, 1) := by decide +kernel
theorem dX11_commonDivisor_25 : decode cX11_commonDivisor 25 = .ok (.iload 5, 2) := by decide +kernel
theorem dX11_commonDivisor_27 : decode cX11_commonDivisor 27 = .ok (.istore_n 3, 1) := by decide +kernel
theorem dX11_commonDivisor_28 : decode cX11_commonDivisor 28 = .ok (.iinc 4 1, 3) := by decide +kernel
theorem dX11_commonDivisor_31 : decode cX11_commonDivisor 31 = .ok (.goto (-24), 3) := by decide +kernel
theorem dX11_commonDivisor_34 : decode cX11_commonDivisor 34 = .ok (.iload_n 2, 1) := by decide +kernel
theorem dX11_commonDivisor_35 : decode cX11_commonDivisor 35 = .ok (.ifCond .le 7, 3) := by decide +kernel
theorem dX11_commonDivisor_38 : decode cX11_commonDivisor 38 = .ok (.iload_n 2, 1) := by decide +kernel
theorem dX11_commonDivisor_39 : decode cX11_commonDivisor 39 = .ok (.goto 4, 3) := by decide +kernel
theorem dX11_commonDivisor_42 : decode cX11_commonDivisor 42 = .ok (.iconst 1, 1) := by decide +kernel
theorem dX11_commonDivisor_43 : decode cX11_commonDivisor 43 = .ok (.ireturn, 1) := by decide +kernel
theorem dX11_met_0 : decode cX11_met 0 = .ok (.aload_n 0, 1) := by decide +kernel
theorem dX11_met_1 : decode cX11_met 1 = .ok (.iload_n 1, 1) := by decide +kernel
theorem dX11_met_2 : decode cX11_met 2 = .ok (.invokevirtual 93, 3) := by decide +kernel
theorem dX11_met_5 : decode cX11_met 5 = .ok (.ifCond .ne 16, 3) := by decide +kernel
theorem dX11_met_8 : decode cX11_met 8 = .ok (.aload_n 0, 1) := by decide +kernel
theorem dX11_met_9 : decode cX11_met 9 = .ok (.iload_n 2, 1) := by decide +kernel
theorem dX11_met_10 : decode cX11_met 10 = .ok (.invokevirtual 93, 3) := by decide +kernel
theorem dX11_met_13 : decode cX11_met 13 = .ok (.ifCond .ne 8, 3) := by decide +kernel
theorem dX11_met_16 : decode cX11_met 16 = .ok (.iload_n 1, 1) := by decide +kernel
theorem dX11_met_17 : decode cX11_met 17 = .ok (.iload_n 2, 1) := by decide +kernel
theorem dX11_met_18 : decode cX11_met 18 = .ok (.if_icmp .ne 6, 3) := by decide +kernel
theorem dX11_met_21 : decode cX11_met 21 = .ok (.bipush (-101), 2) := by decide +kernel
theorem dX11_met_23 : decode cX11_met 23 = .ok (.ireturn, 1) := by decide +kernel
theorem dX11_met_24 : decode cX11_met 24 = .ok (.iload_n 3, 1) := by decide +kernel
theorem dX11_met_25 : decode cX11_met 25 = .ok (.iconst 1, 1) := by decide +kernel
theorem dX11_met_26 : decode cX11_met 26 = .ok (.if_icmp .lt 19, 3) := by decide +kernel
theorem dX11_met_29 : decode cX11_met 29 = .ok (.iload_n 3, 1) := by decide +kernel
theorem dX11_met_30 : decode cX11_met 30 = .ok (.iconst 3, 1) := by decide +kernel
theorem dX11_met_31 : decode cX11_met 31 = .ok (.if_icmp .gt 14, 3) := by decide +kernel
theorem dX11_met_34 : decode cX11_met 34 = .ok (.iload 4, 2) := by decide +kernel
theorem dX11_met_36 : decode cX11_met 36 = .ok (.ifCond .lt 9, 3) := by decide +kernel
theorem dX11_met_39 : decode cX11_met 39 = .ok (.iload 4, 2) := by decide +kernel
theorem dX11_met_41 : decode cX11_met 41 = .ok (.iconst 1, 1) := by decide +kernel
theorem dX11_met_42 : decode cX11_met 42 = .ok (.if_icmp .le 6, 3) := by decide +kernel
theorem dX11_met_45 : decode cX11_met 45 = .ok (.bipush (-102), 2) := by decide +kernel
theorem dX11_met_47 : decode cX11_met 47 = .ok (.ireturn, 1) := by decide +kernel
theorem dX11_met_48 : decode cX11_met 48 = .ok (.aload_n 0, 1) := by decide +kernel
theorem dX11_met_49 : decode cX11_met 49 = .ok (.getfield 41, 3) := by decide +kernel
theorem dX11_met_52 : decode cX11_met 52 = .ok (.aload_n 0, 1) := by decide +kernel
theorem dX11_met_53 : decode cX11_met 53 = .ok (.getfield 28, 3) := by decide +kernel
theorem dX11_met_56 : decode cX11_met 56 = .ok (.iload_n 1, 1) := by decide +kernel
theorem dX11_met_57 : decode cX11_met 57 = .ok (.aload_n 0, 1) := by decide +kernel
theorem dX11_met_58 : decode cX11_met 58 = .ok (.getfield 28, 3) := by decide +kernel
theorem dX11_met_61 : decode cX11_met 61 = .ok (.getfield 110, 3) := by decide +kernel
theorem dX11_met_64 : decode cX11_met 64 = .ok (.iload_n 2, 1) := by decide +kernel
theorem dX11_met_65 : decode cX11_met 65 = .ok (.iaload, 1) := by decide +kernel
theorem dX11_met_66 : decode cX11_met 66 = .ok (.iload_n 3, 1) := by decide +kernel
theorem dX11_met_67 : decode cX11_met 67 = .ok (.invokevirtual 225, 3) := by decide +kernel
theorem dX11_met_70 : decode cX11_met 70 = .ok (.istore 5, 2) := by decide +kernel
theorem dX11_met_72 : decode cX11_met 72 = .ok (.iload 5, 2) := by decide +kernel
theorem dX11_met_74 : decode cX11_met 74 = .ok (.ldc 228, 2) := by decide +kernel
theorem dX11_met_76 : decode cX11_met 76 = .ok (.invokestatic 229, 3) := by decide +kernel
theorem dX11_met_79 : decode cX11_met 79 = .ok (.istore 6, 2) := by decide +kernel
theorem dX11_met_81 : decode cX11_met 81 = .ok (.iload 4, 2) := by decide +kernel
theorem dX11_met_83 : decode cX11_met 83 = .ok (.ifCond .ne 8, 3) := by decide +kernel
theorem dX11_met_86 : decode cX11_met 86 = .ok (.iload 5, 2) := by decide +kernel
theorem dX11_met_88 : decode cX11_met 88 = .ok (.goto 5, 3) := by decide +kernel
theorem dX11_met_91 : decode cX11_met 91 = .ok (.ldc 228, 2) := by decide +kernel
theorem dX11_met_93 : decode cX11_met 93 = .ok (.iload 6, 2) := by decide +kernel
theorem dX11_met_95 : decode cX11_met 95 = .ok (.idiv, 1) := by decide +kernel
theorem dX11_met_96 : decode cX11_met 96 = .ok (.ireturn, 1) := by decide +kernel
theorem dX11_see_0 : decode cX11_see 0 = .ok (.aload_n 0, 1) := by decide +kernel
theorem dX11_see_1 : decode cX11_see 1 = .ok (.iload_n 1, 1) := by decide +kernel
theorem dX11_see_2 : decode cX11_see 2 = .ok (.invokevirtual 148, 3) := by decide +kernel
theorem dX11_see_5 : decode cX11_see 5 = .ok (.ifCond .eq 6, 3) := by decide +kernel
theorem dX11_see_8 : decode cX11_see 8 = .ok (.bipush (-101), 2) := by decide +kernel
theorem dX11_see_10 : decode cX11_see 10 = .ok (.ireturn, 1) := by decide +kernel
theorem dX11_see_11 : decode cX11_see 11 = .ok (.aload_n 0, 1) := by decide +kernel
theorem dX11_see_12 : decode cX11_see 12 = .ok (.getfield 28, 3) := by decide +kernel
theorem dX11_see_15 : decode cX11_see 15 = .ok (.getfield 232, 3) := by decide +kernel
theorem dX11_see_18 : decode cX11_see 18 = .ok (.bipush 6, 2) := by decide +kernel
theorem dX11_see_20 : decode cX11_see 20 = .ok (.if_icmp .lt 6, 3) := by decide +kernel
theorem dX11_see_23 : decode cX11_see 23 = .ok (.bipush (-104), 2) := by decide +kernel
theorem dX11_see_25 : decode cX11_see 25 = .ok (.ireturn, 1) := by decide +kernel
theorem dX11_see_26 : decode cX11_see 26 = .ok (.aload_n 0, 1) := by decide +kernel
theorem dX11_see_27 : decode cX11_see 27 = .ok (.getfield 28, 3) := by decide +kernel
theorem dX11_see_30 : decode cX11_see 30 = .ok (.getfield 235, 3) := by decide +kernel
theorem dX11_see_33 : decode cX11_see 33 = .ok (.aload_n 0, 1) := by decide +kernel
theorem dX11_see_34 : decode cX11_see 34 = .ok (.getfield 28, 3) := by decide +kernel
theorem dX11_see_37 : decode cX11_see 37 = .ok (.getfield 232, 3) := by decide +kernel
theorem dX11_see_40 : decode cX11_see 40 = .ok (.iload_n 1, 1) := by decide +kernel
theorem dX11_see_41 : decode cX11_see 41 = .ok (.iastore, 1) := by decide +kernel
theorem dX11_see_42 : decode cX11_see 42 = .ok (.aload_n 0, 1) := by decide +kernel
theorem dX11_see_43 : decode cX11_see 43 = .ok (.getfield 28, 3) := by decide +kernel
theorem dX11_see_46 : decode cX11_see 46 = .ok (.getfield 238, 3) := by decide +kernel
theorem dX11_see_49 : decode cX11_see 49 = .ok (.aload_n 0, 1) := by decide +kernel
theorem dX11_see_50 : decode cX11_see 50 = .ok (.getfield 28, 3) := by decide +kernel
theorem dX11_see_53 : decode cX11_see 53 = .ok (.getfield 232, 3) := by decide +kernel
theorem dX11_see_56 : decode cX11_see 56 = .ok (.iload_n 2, 1) := by decide +kernel
theorem dX11_see_57 : decode cX11_see 57 = .ok (.bastore, 1) := by decide +kernel
theorem dX11_see_58 : decode cX11_see 58 = .ok (.aload_n 0, 1) := by decide +kernel
theorem dX11_see_59 : decode cX11_see 59 = .ok (.getfield 28, 3) := by decide +kernel
theorem dX11_see_62 : decode cX11_see 62 = .ok (.dup, 1) := by decide +kernel
theorem dX11_see_63 : decode cX11_see 63 = .ok (.getfield 232, 3) := by decide +kernel
theorem dX11_see_66 : decode cX11_see 66 = .ok (.iconst 1, 1) := by decide +kernel
theorem dX11_see_67 : decode cX11_see 67 = .ok (.iadd, 1) := by decide +kernel
theorem dX11_see_68 : decode cX11_see 68 = .ok (.putfield 232, 3) := by decide +kernel
theorem dX11_see_71 : decode cX11_see 71 = .ok (.aload_n 0, 1) := by decide +kernel
theorem dX11_see_72 : decode cX11_see 72 = .ok (.getfield 28, 3) := by decide +kernel
theorem dX11_see_75 : decode cX11_see 75 = .ok (.getfield 232, 3) := by decide +kernel
theorem dX11_see_78 : decode cX11_see 78 = .ok (.ireturn, 1) := by decide +kernel
theorem dX11_forget_0 : decode cX11_forget 0 = .ok (.aload_n 0, 1) := by decide +kernel
theorem dX11_forget_1 : decode cX11_forget 1 = .ok (.getfield 28, 3) := by decide +kernel
theorem dX11_forget_4 : decode cX11_forget 4 = .ok (.getfield 232, 3) := by decide +kernel
theorem dX11_forget_7 : decode cX11_forget 7 = .ok (.istore_n 1, 1) := by decide +kernel
theorem dX11_forget_8 : decode cX11_forget 8 = .ok (.aload_n 0, 1) := by decide +kernel
theorem dX11_forget_9 : decode cX11_forget 9 = .ok (.getfield 28, 3) := by decide +kernel
theorem dX11_forget_12 : decode cX11_forget 12 = .ok (.iconst 0, 1) := by decide +kernel
theorem dX11_forget_13 : decode cX11_forget 13 = .ok (.putfield 232, 3) := by decide +kernel
theorem dX11_forget_16 : decode cX11_forget 16 = .ok (.iload_n 1, 1) := by decide +kernel
theorem dX11_forget_17 : decode cX11_forget 17 = .ok (.ireturn, 1) := by decide +kernel
theorem dX11_nextSeed_0 : decode cX11_nextSeed 0 = .ok (.ldc2_w 307, 3) := by decide +kernel
theorem dX11_nextSeed_3 : decode cX11_nextSeed 3 = .ok (.iload_n 0, 1) := by decide +kernel
theorem dX11_nextSeed_4 : decode cX11_nextSeed 4 = .ok (.i2l, 1) := by decide +kernel
theorem dX11_nextSeed_5 : decode cX11_nextSeed 5 = .ok (.lmul, 1) := by decide +kernel
theorem dX11_nextSeed_6 : decode cX11_nextSeed 6 = .ok (.ldc2_w 309, 3) := by decide +kernel
theorem dX11_nextSeed_9 : decode cX11_nextSeed 9 = .ok (.ladd, 1) := by decide +kernel
theorem dX11_nextSeed_10 : decode cX11_nextSeed 10 = .ok (.ldc2_w 311, 3) := by decide +kernel
theorem dX11_nextSeed_13 : decode cX11_nextSeed 13 = .ok (.land, 1) := by decide +kernel
theorem dX11_nextSeed_14 : decode cX11_nextSeed 14 = .ok (.l2i, 1) := by decide +kernel
theorem dX11_nextSeed_15 : decode cX11_nextSeed 15 = .ok (.ireturn, 1) := by decide +kernel
theorem dX0_paidDebts_0 : decode cX0_paidDebts 0 = .ok (.iconst 0, 1) := by decide +kernel
theorem dX0_paidDebts_1 : decode cX0_paidDebts 1 = .ok (.istore_n 1, 1) := by decide +kernel
theorem dX0_paidDebts_2 : decode cX0_paidDebts 2 = .ok (.iconst 0, 1) := by decide +kernel
theorem dX0_paidDebts_3 : decode cX0_paidDebts 3 = .ok (.istore_n 2, 1) := by decide +kernel
theorem dX0_paidDebts_4 : decode cX0_paidDebts 4 = .ok (.iload_n 2, 1) := by decide +kernel
theorem dX0_paidDebts_5 : decode cX0_paidDebts 5 = .ok (.aload_n 0, 1) := by decide +kernel
theorem dX0_paidDebts_6 : decode cX0_paidDebts 6 = .ok (.getfield 34, 3) := by decide +kernel
theorem dX0_paidDebts_9 : decode cX0_paidDebts 9 = .ok (.getfield 95, 3) := by decide +kernel
theorem dX0_paidDebts_12 : decode cX0_paidDebts 12 = .ok (.if_icmp .ge 26, 3) := by decide +kernel
theorem dX0_paidDebts_15 : decode cX0_paidDebts 15 = .ok (.iload_n 1, 1) := by decide +kernel
theorem dX0_paidDebts_16 : decode cX0_paidDebts 16 = .ok (.aload_n 0, 1) := by decide +kernel
theorem dX0_paidDebts_17 : decode cX0_paidDebts 17 = .ok (.getfield 24, 3) := by decide +kernel
theorem dX0_paidDebts_20 : decode cX0_paidDebts 20 = .ok (.iload_n 2, 1) := by decide +kernel
theorem dX0_paidDebts_21 : decode cX0_paidDebts 21 = .ok (.baload, 1) := by decide +kernel
theorem dX0_paidDebts_22 : decode cX0_paidDebts 22 = .ok (.ifCond .eq 7, 3) := by decide +kernel
theorem dX0_paidDebts_25 : decode cX0_paidDebts 25 = .ok (.iconst 1, 1) := by decide +kernel
theorem dX0_paidDebts_26 : decode cX0_paidDebts 26 = .ok (.goto 4, 3) := by decide +kernel
theorem dX0_paidDebts_29 : decode cX0_paidDebts 29 = .ok (.iconst 0, 1) := by decide +kernel
theorem dX0_paidDebts_30 : decode cX0_paidDebts 30 = .ok (.iadd, 1) := by decide +kernel
theorem dX0_paidDebts_31 : decode cX0_paidDebts 31 = .ok (.istore_n 1, 1) := by decide +kernel
theorem dX0_paidDebts_32 : decode cX0_paidDebts 32 = .ok (.iinc 2 1, 3) := by decide +kernel
theorem dX0_paidDebts_35 : decode cX0_paidDebts 35 = .ok (.goto (-31), 3) := by decide +kernel
theorem dX0_paidDebts_38 : decode cX0_paidDebts 38 = .ok (.iload_n 1, 1) := by decide +kernel
theorem dX0_paidDebts_39 : decode cX0_paidDebts 39 = .ok (.ireturn, 1) := by decide +kernel
theorem dX11_winters_0 : decode cX11_winters 0 = .ok (.iload_n 1, 1) := by decide +kernel
theorem dX11_winters_1 : decode cX11_winters 1 = .ok (.iconst 1, 1) := by decide +kernel
theorem dX11_winters_2 : decode cX11_winters 2 = .ok (.if_icmp .lt 22, 3) := by decide +kernel
theorem dX11_winters_5 : decode cX11_winters 5 = .ok (.iload_n 1, 1) := by decide +kernel
theorem dX11_winters_6 : decode cX11_winters 6 = .ok (.bipush 60, 2) := by decide +kernel
theorem dX11_winters_8 : decode cX11_winters 8 = .ok (.if_icmp .gt 16, 3) := by decide +kernel
theorem dX11_winters_11 : decode cX11_winters 11 = .ok (.iload_n 2, 1) := by decide +kernel
theorem dX11_winters_12 : decode cX11_winters 12 = .ok (.ifCond .lt 12, 3) := by decide +kernel
theorem dX11_winters_15 : decode cX11_winters 15 = .ok (.iload_n 3, 1) := by decide +kernel
theorem dX11_winters_16 : decode cX11_winters 16 = .ok (.ifCond .lt 8, 3) := by decide +kernel
theorem dX11_winters_19 : decode cX11_winters 19 = .ok (.iload_n 3, 1) := by decide +kernel
theorem dX11_winters_20 : decode cX11_winters 20 = .ok (.iconst 2, 1) := by decide +kernel
theorem dX11_winters_21 : decode cX11_winters 21 = .ok (.if_icmp .le 6, 3) := by decide +kernel
theorem dX11_winters_24 : decode cX11_winters 24 = .ok (.bipush (-102), 2) := by decide +kernel
theorem dX11_winters_26 : decode cX11_winters 26 = .ok (.ireturn, 1) := by decide +kernel
theorem dX11_winters_27 : decode cX11_winters 27 = .ok (.aload_n 0, 1) := by decide +kernel
theorem dX11_winters_28 : decode cX11_winters 28 = .ok (.getfield 19, 3) := by decide +kernel
theorem dX11_winters_31 : decode cX11_winters 31 = .ok (.getfield 90, 3) := by decide +kernel
theorem dX11_winters_34 : decode cX11_winters 34 = .ok (.ifCond .eq 13, 3) := by decide +kernel
theorem dX11_winters_37 : decode cX11_winters 37 = .ok (.aload_n 0, 1) := by decide +kernel
theorem dX11_winters_38 : decode cX11_winters 38 = .ok (.getfield 19, 3) := by decide +kernel
theorem dX11_winters_41 : decode cX11_winters 41 = .ok (.getfield 241, 3) := by decide +kernel
theorem dX11_winters_44 : decode cX11_winters 44 = .ok (.ifCond .ne 6, 3) := by decide +kernel
theorem dX11_winters_47 : decode cX11_winters 47 = .ok (.bipush (-103), 2) := by decide +kernel
theorem dX11_winters_49 : decode cX11_winters 49 = .ok (.ireturn, 1) := by decide +kernel
theorem dX11_winters_50 : decode cX11_winters 50 = .ok (.aload_n 0, 1) := by decide +kernel
theorem dX11_winters_51 : decode cX11_winters 51 = .ok (.getfield 35, 3) := by decide +kernel
theorem dX11_winters_54 : decode cX11_winters 54 = .ok (.aload_n 0, 1) := by decide +kernel
theorem dX11_winters_55 : decode cX11_winters 55 = .ok (.getfield 28, 3) := by decide +kernel
theorem dX11_winters_58 : decode cX11_winters 58 = .ok (.invokevirtual 219, 3) := by decide +kernel
theorem dX11_winters_61 : decode cX11_winters 61 = .ok (.iload_n 2, 1) := by decide +kernel
theorem dX11_winters_62 : decode cX11_winters 62 = .ok (.istore 4, 2) := by decide +kernel
theorem dX11_winters_64 : decode cX11_winters 64 = .ok (.iconst 0, 1) := by decide +kernel
theorem dX11_winters_65 : decode cX11_winters 65 = .ok (.istore 5, 2) := by decide +kernel
theorem dX11_winters_67 : decode cX11_winters 67 = .ok (.iconst 0, 1) := by decide +kernel
theorem dX11_winters_68 : decode cX11_winters 68 = .ok (.istore 6, 2) := by decide +kernel
theorem dX11_winters_70 : decode cX11_winters 70 = .ok (.iload 6, 2) := by decide +kernel
theorem dX11_winters_72 : decode cX11_winters 72 = .ok (.iload_n 1, 1) := by decide +kernel
theorem dX11_winters_73 : decode cX11_winters 73 = .ok (.if_icmp .ge 93, 3) := by decide +kernel
theorem dX11_winters_76 : decode cX11_winters 76 = .ok (.iload 4, 2) := by decide +kernel
theorem dX11_winters_78 : decode cX11_winters 78 = .ok (.invokestatic 244, 3) := by decide +kernel
theorem dX11_winters_81 : decode cX11_winters 81 = .ok (.istore 4, 2) := by decide +kernel
theorem dX11_winters_83 : decode cX11_winters 83 = .ok (.iload 4, 2) := by decide +kernel
theorem dX11_winters_85 : decode cX11_winters 85 = .ok (.ldc 247, 2) := by decide +kernel
theorem dX11_winters_87 : decode cX11_winters 87 = .ok (.idiv, 1) := by decide +kernel
theorem dX11_winters_88 : decode cX11_winters 88 = .ok (.aload_n 0, 1) := by decide +kernel
theorem dX11_winters_89 : decode cX11_winters 89 = .ok (.getfield 19, 3) := by decide +kernel
theorem dX11_winters_92 : decode cX11_winters 92 = .ok (.getfield 90, 3) := by decide +kernel
theorem dX11_winters_95 : decode cX11_winters 95 = .ok (.irem, 1) := by decide +kernel
theorem dX11_winters_96 : decode cX11_winters 96 = .ok (.istore 7, 2) := by decide +kernel
theorem dX11_winters_98 : decode cX11_winters 98 = .ok (.iload 4, 2) := by decide +kernel
theorem dX11_winters_100 : decode cX11_winters 100 = .ok (.invokestatic 244, 3) := by decide +kernel
theorem dX11_winters_103 : decode cX11_winters 103 = .ok (.istore 4, 2) := by decide +kernel
theorem dX11_winters_105 : decode cX11_winters 105 = .ok (.iload 4, 2) := by decide +kernel
theorem dX11_winters_107 : decode cX11_winters 107 = .ok (.ldc 247, 2) := by decide +kernel
theorem dX11_winters_109 : decode cX11_winters 109 = .ok (.idiv, 1) := by decide +kernel
theorem dX11_winters_110 : decode cX11_winters 110 = .ok (.aload_n 0, 1) := by decide +kernel
theorem dX11_winters_111 : decode cX11_winters 111 = .ok (.getfield 19, 3) := by decide +kernel
theorem dX11_winters_114 : decode cX11_winters 114 = .ok (.getfield 241, 3) := by decide +kernel
theorem dX11_winters_117 : decode cX11_winters 117 = .ok (.irem, 1) := by decide +kernel
theorem dX11_winters_118 : decode cX11_winters 118 = .ok (.istore 8, 2) := by decide +kernel
theorem dX11_winters_120 : decode cX11_winters 120 = .ok (.aload_n 0, 1) := by decide +kernel
theorem dX11_winters_121 : decode cX11_winters 121 = .ok (.getfield 35, 3) := by decide +kernel
theorem dX11_winters_124 : decode cX11_winters 124 = .ok (.iload 7, 2) := by decide +kernel
theorem dX11_winters_126 : decode cX11_winters 126 = .ok (.iload 8, 2) := by decide +kernel
theorem dX11_winters_128 : decode cX11_winters 128 = .ok (.invokevirtual 170, 3) := by decide +kernel
theorem dX11_winters_131 : decode cX11_winters 131 = .ok (.ifCond .eq 14, 3) := by decide +kernel
theorem dX11_winters_134 : decode cX11_winters 134 = .ok (.aload_n 0, 1) := by decide +kernel
theorem dX11_winters_135 : decode cX11_winters 135 = .ok (.getfield 35, 3) := by decide +kernel
theorem dX11_winters_138 : decode cX11_winters 138 = .ok (.iload 7, 2) := by decide +kernel
theorem dX11_winters_140 : decode cX11_winters 140 = .ok (.iload 8, 2) := by decide +kernel
theorem dX11_winters_142 : decode cX11_winters 142 = .ok (.invokevirtual 176, 3) := by decide +kernel
theorem dX11_winters_145 : decode cX11_winters 145 = .ok (.iload 5, 2) := by decide +kernel
theorem dX11_winters_147 : decode cX11_winters 147 = .ok (.aload_n 0, 1) := by decide +kernel
theorem dX11_winters_148 : decode cX11_winters 148 = .ok (.getfield 35, 3) := by decide +kernel
theorem dX11_winters_151 : decode cX11_winters 151 = .ok (.iload 7, 2) := by decide +kernel
theorem dX11_winters_153 : decode cX11_winters 153 = .ok (.iconst 0, 1) := by decide +kernel
theorem dX11_winters_154 : decode cX11_winters 154 = .ok (.invokevirtual 248, 3) := by decide +kernel
theorem dX11_winters_157 : decode cX11_winters 157 = .ok (.iadd, 1) := by decide +kernel
theorem dX11_winters_158 : decode cX11_winters 158 = .ok (.istore 5, 2) := by decide +kernel
theorem dX11_winters_160 : decode cX11_winters 160 = .ok (.iinc 6 1, 3) := by decide +kernel
theorem dX11_winters_163 : decode cX11_winters 163 = .ok (.goto (-93), 3) := by decide +kernel
theorem dX11_winters_166 : decode cX11_winters 166 = .ok (.iload_n 3, 1) := by decide +kernel
theorem dX11_winters_167 : decode cX11_winters 167 = .ok (.ifCond .ne 6, 3) := by decide +kernel
theorem dX11_winters_170 : decode cX11_winters 170 = .ok (.iload 5, 2) := by decide +kernel
theorem dX11_winters_172 : decode cX11_winters 172 = .ok (.ireturn, 1) := by decide +kernel
theorem dX11_winters_173 : decode cX11_winters 173 = .ok (.iload_n 3, 1) := by decide +kernel
theorem dX11_winters_174 : decode cX11_winters 174 = .ok (.iconst 1, 1) := by decide +kernel
theorem dX11_winters_175 : decode cX11_winters 175 = .ok (.if_icmp .ne 13, 3) := by decide +kernel
theorem dX11_winters_178 : decode cX11_winters 178 = .ok (.aload_n 0, 1) := by decide +kernel
theorem dX11_winters_179 : decode cX11_winters 179 = .ok (.getfield 35, 3) := by decide +kernel
theorem dX11_winters_182 : decode cX11_winters 182 = .ok (.invokevirtual 252, 3) := by decide +kernel
theorem dX11_winters_185 : decode cX11_winters 185 = .ok (.goto 5, 3) := by decide +kernel
theorem dX11_winters_188 : decode cX11_winters 188 = .ok (.iload 4, 2) := by decide +kernel
theorem dX11_winters_190 : decode cX11_winters 190 = .ok (.ireturn, 1) := by decide +kernel
theorem dX11_image_0 : decode cX11_image 0 = .ok (.aload_n 0, 1) := by decide +kernel
theorem dX11_image_1 : decode cX11_image 1 = .ok (.getfield 19, 3) := by decide +kernel
theorem dX11_image_4 : decode cX11_image 4 = .ok (.getfield 90, 3) := by decide +kernel
theorem dX11_image_7 : decode cX11_image 7 = .ok (.ifCond .ne 6, 3) := by decide +kernel
theorem dX11_image_10 : decode cX11_image 10 = .ok (.bipush (-103), 2) := by decide +kernel
theorem dX11_image_12 : decode cX11_image 12 = .ok (.ireturn, 1) := by decide +kernel
theorem dX11_image_13 : decode cX11_image 13 = .ok (.aload_n 0, 1) := by decide +kernel
theorem dX11_image_14 : decode cX11_image 14 = .ok (.getfield 32, 3) := by decide +kernel
theorem dX11_image_17 : decode cX11_image 17 = .ok (.aload_n 0, 1) := by decide +kernel
theorem dX11_image_18 : decode cX11_image 18 = .ok (.getfield 28, 3) := by decide +kernel
theorem dX11_image_21 : decode cX11_image 21 = .ok (.invokevirtual 219, 3) := by decide +kernel
theorem dX11_image_24 : decode cX11_image 24 = .ok (.aload_n 0, 1) := by decide +kernel
theorem dX11_image_25 : decode cX11_image 25 = .ok (.iconst 1, 1) := by decide +kernel
theorem dX11_image_26 : decode cX11_image 26 = .ok (.putfield 59, 3) := by decide +kernel
theorem dX11_image_29 : decode cX11_image 29 = .ok (.aload_n 0, 1) := by decide +kernel
theorem dX11_image_30 : decode cX11_image 30 = .ok (.getfield 28, 3) := by decide +kernel
theorem dX11_image_33 : decode cX11_image 33 = .ok (.getfield 173, 3) := by decide +kernel
theorem dX11_image_36 : decode cX11_image 36 = .ok (.ireturn, 1) := by decide +kernel
theorem dX11_restore_0 : decode cX11_restore 0 = .ok (.aload_n 0, 1) := by decide +kernel
theorem dX11_restore_1 : decode cX11_restore 1 = .ok (.getfield 59, 3) := by decide +kernel
theorem dX11_restore_4 : decode cX11_restore 4 = .ok (.ifCond .ne 6, 3) := by decide +kernel
theorem dX11_restore_7 : decode cX11_restore 7 = .ok (.bipush (-103), 2) := by decide +kernel
theorem dX11_restore_9 : decode cX11_restore 9 = .ok (.ireturn, 1) := by decide +kernel
theorem dX11_restore_10 : decode cX11_restore 10 = .ok (.aload_n 0, 1) := by decide +kernel
theorem dX11_restore_11 : decode cX11_restore 11 = .ok (.getfield 28, 3) := by decide +kernel
theorem dX11_restore_14 : decode cX11_restore 14 = .ok (.aload_n 0, 1) := by decide +kernel
theorem dX11_restore_15 : decode cX11_restore 15 = .ok (.getfield 32, 3) := by decide +kernel
theorem dX11_restore_18 : decode cX11_restore 18 = .ok (.invokevirtual 219, 3) := by decide +kernel
theorem dX11_restore_21 : decode cX11_restore 21 = .ok (.aload_n 0, 1) := by decide +kernel
theorem dX11_restore_22 : decode cX11_restore 22 = .ok (.getfield 28, 3) := by decide +kernel
theorem dX11_restore_25 : decode cX11_restore 25 = .ok (.getfield 173, 3) := by decide +kernel
theorem dX11_restore_28 : decode cX11_restore 28 = .ok (.ireturn, 1) := by decide +kernel
theorem dX0_sumsNotPaid_0 : decode cX0_sumsNotPaid 0 = .ok (.iconst 0, 1) := by decide +kernel
theorem dX0_sumsNotPaid_1 : decode cX0_sumsNotPaid 1 = .ok (.istore_n 1, 1) := by decide +kernel
theorem dX0_sumsNotPaid_2 : decode cX0_sumsNotPaid 2 = .ok (.iconst 0, 1) := by decide +kernel
theorem dX0_sumsNotPaid_3 : decode cX0_sumsNotPaid 3 = .ok (.istore_n 2, 1) := by decide +kernel
theorem dX0_sumsNotPaid_4 : decode cX0_sumsNotPaid 4 = .ok (.iload_n 2, 1) := by decide +kernel
theorem dX0_sumsNotPaid_5 : decode cX0_sumsNotPaid 5 = .ok (.aload_n 0, 1) := by decide +kernel
theorem dX0_sumsNotPaid_6 : decode cX0_sumsNotPaid 6 = .ok (.getfield 34, 3) := by decide +kernel
theorem dX0_sumsNotPaid_9 : decode cX0_sumsNotPaid 9 = .ok (.getfield 95, 3) := by decide +kernel
theorem dX0_sumsNotPaid_12 : decode cX0_sumsNotPaid 12 = .ok (.if_icmp .ge 31, 3) := by decide +kernel
theorem dX0_sumsNotPaid_15 : decode cX0_sumsNotPaid 15 = .ok (.iload_n 1, 1) := by decide +kernel
theorem dX0_sumsNotPaid_16 : decode cX0_sumsNotPaid 16 = .ok (.aload_n 0, 1) := by decide +kernel
theorem dX0_sumsNotPaid_17 : decode cX0_sumsNotPaid 17 = .ok (.getfield 24, 3) := by decide +kernel
theorem dX0_sumsNotPaid_20 : decode cX0_sumsNotPaid 20 = .ok (.iload_n 2, 1) := by decide +kernel
theorem dX0_sumsNotPaid_21 : decode cX0_sumsNotPaid 21 = .ok (.baload, 1) := by decide +kernel
theorem dX0_sumsNotPaid_22 : decode cX0_sumsNotPaid 22 = .ok (.ifCond .eq 7, 3) := by decide +kernel
theorem dX0_sumsNotPaid_25 : decode cX0_sumsNotPaid 25 = .ok (.iconst 0, 1) := by decide +kernel
theorem dX0_sumsNotPaid_26 : decode cX0_sumsNotPaid 26 = .ok (.goto 9, 3) := by decide +kernel
theorem dX0_sumsNotPaid_29 : decode cX0_sumsNotPaid 29 = .ok (.aload_n 0, 1) := by decide +kernel
theorem dX0_sumsNotPaid_30 : decode cX0_sumsNotPaid 30 = .ok (.getfield 21, 3) := by decide +kernel
theorem dX0_sumsNotPaid_33 : decode cX0_sumsNotPaid 33 = .ok (.iload_n 2, 1) := by decide +kernel
theorem dX0_sumsNotPaid_34 : decode cX0_sumsNotPaid 34 = .ok (.iaload, 1) := by decide +kernel
theorem dX0_sumsNotPaid_35 : decode cX0_sumsNotPaid 35 = .ok (.iadd, 1) := by decide +kernel
theorem dX0_sumsNotPaid_36 : decode cX0_sumsNotPaid 36 = .ok (.istore_n 1, 1) := by decide +kernel
theorem dX0_sumsNotPaid_37 : decode cX0_sumsNotPaid 37 = .ok (.iinc 2 1, 3) := by decide +kernel
theorem dX0_sumsNotPaid_40 : decode cX0_sumsNotPaid 40 = .ok (.goto (-36), 3) := by decide +kernel
theorem dX0_sumsNotPaid_43 : decode cX0_sumsNotPaid 43 = .ok (.iload_n 1, 1) := by decide +kernel
theorem dX0_sumsNotPaid_44 : decode cX0_sumsNotPaid 44 = .ok (.ireturn, 1) := by decide +kernel
theorem dX0_allPurses_0 : decode cX0_allPurses 0 = .ok (.iconst 0, 1) := by decide +kernel
