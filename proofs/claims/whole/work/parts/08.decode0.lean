theorem dX6_append_0 : decode cX6_append 0 = .ok (.aload_n 0, 1) := by decide +kernel
theorem dX6_append_1 : decode cX6_append 1 = .ok (.getfield 15, 3) := by decide +kernel
theorem dX6_append_4 : decode cX6_append 4 = .ok (.bipush 64, 2) := by decide +kernel
theorem dX6_append_6 : decode cX6_append 6 = .ok (.if_icmp .lt 5, 3) := by decide +kernel
theorem dX6_append_9 : decode cX6_append 9 = .ok (.iconst 0, 1) := by decide +kernel
theorem dX6_append_10 : decode cX6_append 10 = .ok (.ireturn, 1) := by decide +kernel
theorem dX6_append_11 : decode cX6_append 11 = .ok (.aload_n 0, 1) := by decide +kernel
theorem dX6_append_12 : decode cX6_append 12 = .ok (.getfield 9, 3) := by decide +kernel
theorem dX6_append_15 : decode cX6_append 15 = .ok (.aload_n 0, 1) := by decide +kernel
theorem dX6_append_16 : decode cX6_append 16 = .ok (.getfield 15, 3) := by decide +kernel
theorem dX6_append_19 : decode cX6_append 19 = .ok (.iload_n 1, 1) := by decide +kernel
theorem dX6_append_20 : decode cX6_append 20 = .ok (.iastore, 1) := by decide +kernel
theorem dX6_append_21 : decode cX6_append 21 = .ok (.aload_n 0, 1) := by decide +kernel
theorem dX6_append_22 : decode cX6_append 22 = .ok (.dup, 1) := by decide +kernel
theorem dX6_append_23 : decode cX6_append 23 = .ok (.getfield 15, 3) := by decide +kernel
theorem dX6_append_26 : decode cX6_append 26 = .ok (.iconst 1, 1) := by decide +kernel
theorem dX6_append_27 : decode cX6_append 27 = .ok (.iadd, 1) := by decide +kernel
theorem dX6_append_28 : decode cX6_append 28 = .ok (.putfield 15, 3) := by decide +kernel
theorem dX6_append_31 : decode cX6_append 31 = .ok (.iconst 1, 1) := by decide +kernel
theorem dX6_append_32 : decode cX6_append 32 = .ok (.ireturn, 1) := by decide +kernel
theorem dX11_letter_0 : decode cX11_letter 0 = .ok (.iload_n 1, 1) := by decide +kernel
theorem dX11_letter_1 : decode cX11_letter 1 = .ok (.iconst 1, 1) := by decide +kernel
theorem dX11_letter_2 : decode cX11_letter 2 = .ok (.if_icmp .lt 9, 3) := by decide +kernel
theorem dX11_letter_5 : decode cX11_letter 5 = .ok (.iload_n 1, 1) := by decide +kernel
theorem dX11_letter_6 : decode cX11_letter 6 = .ok (.bipush 126, 2) := by decide +kernel
theorem dX11_letter_8 : decode cX11_letter 8 = .ok (.if_icmp .le 6, 3) := by decide +kernel
theorem dX11_letter_11 : decode cX11_letter 11 = .ok (.bipush (-102), 2) := by decide +kernel
theorem dX11_letter_13 : decode cX11_letter 13 = .ok (.ireturn, 1) := by decide +kernel
theorem dX11_letter_14 : decode cX11_letter 14 = .ok (.aload_n 0, 1) := by decide +kernel
theorem dX11_letter_15 : decode cX11_letter 15 = .ok (.getfield 10, 3) := by decide +kernel
theorem dX11_letter_18 : decode cX11_letter 18 = .ok (.iload_n 1, 1) := by decide +kernel
theorem dX11_letter_19 : decode cX11_letter 19 = .ok (.invokevirtual 67, 3) := by decide +kernel
theorem dX11_letter_22 : decode cX11_letter 22 = .ok (.ifCond .eq 13, 3) := by decide +kernel
theorem dX11_letter_25 : decode cX11_letter 25 = .ok (.aload_n 0, 1) := by decide +kernel
theorem dX11_letter_26 : decode cX11_letter 26 = .ok (.getfield 10, 3) := by decide +kernel
theorem dX11_letter_29 : decode cX11_letter 29 = .ok (.getfield 71, 3) := by decide +kernel
theorem dX11_letter_32 : decode cX11_letter 32 = .ok (.goto 5, 3) := by decide +kernel
theorem dX11_letter_35 : decode cX11_letter 35 = .ok (.bipush (-104), 2) := by decide +kernel
theorem dX11_letter_37 : decode cX11_letter 37 = .ok (.ireturn, 1) := by decide +kernel
theorem dX11_blank_0 : decode cX11_blank 0 = .ok (.aload_n 0, 1) := by decide +kernel
theorem dX11_blank_1 : decode cX11_blank 1 = .ok (.getfield 10, 3) := by decide +kernel
theorem dX11_blank_4 : decode cX11_blank 4 = .ok (.getfield 71, 3) := by decide +kernel
theorem dX11_blank_7 : decode cX11_blank 7 = .ok (.istore_n 1, 1) := by decide +kernel
theorem dX11_blank_8 : decode cX11_blank 8 = .ok (.aload_n 0, 1) := by decide +kernel
theorem dX11_blank_9 : decode cX11_blank 9 = .ok (.getfield 10, 3) := by decide +kernel
theorem dX11_blank_12 : decode cX11_blank 12 = .ok (.iconst 0, 1) := by decide +kernel
theorem dX11_blank_13 : decode cX11_blank 13 = .ok (.putfield 71, 3) := by decide +kernel
theorem dX11_blank_16 : decode cX11_blank 16 = .ok (.iload_n 1, 1) := by decide +kernel
theorem dX11_blank_17 : decode cX11_blank 17 = .ok (.ireturn, 1) := by decide +kernel
theorem dX6_takesIf_0 : decode cX6_takesIf 0 = .ok (.aload_n 0, 1) := by decide +kernel
theorem dX6_takesIf_1 : decode cX6_takesIf 1 = .ok (.dup, 1) := by decide +kernel
theorem dX6_takesIf_2 : decode cX6_takesIf 2 = .ok (.getfield 22, 3) := by decide +kernel
theorem dX6_takesIf_5 : decode cX6_takesIf 5 = .ok (.iconst 1, 1) := by decide +kernel
theorem dX6_takesIf_6 : decode cX6_takesIf 6 = .ok (.iadd, 1) := by decide +kernel
theorem dX6_takesIf_7 : decode cX6_takesIf 7 = .ok (.putfield 22, 3) := by decide +kernel
theorem dX6_takesIf_10 : decode cX6_takesIf 10 = .ok (.iload_n 1, 1) := by decide +kernel
theorem dX6_takesIf_11 : decode cX6_takesIf 11 = .ok (.ireturn, 1) := by decide +kernel
theorem dX6_opens_0 : decode cX6_opens 0 = .ok (.aload_n 0, 1) := by decide +kernel
theorem dX6_opens_1 : decode cX6_opens 1 = .ok (.iload_n 1, 1) := by decide +kernel
theorem dX6_opens_2 : decode cX6_opens 2 = .ok (.putfield 19, 3) := by decide +kernel
theorem dX6_opens_5 : decode cX6_opens 5 = .ok (.aload_n 0, 1) := by decide +kernel
theorem dX6_opens_6 : decode cX6_opens 6 = .ok (.iconst 0, 1) := by decide +kernel
theorem dX6_opens_7 : decode cX6_opens 7 = .ok (.putfield 22, 3) := by decide +kernel
theorem dX6_opens_10 : decode cX6_opens 10 = .ok (.iconst 1, 1) := by decide +kernel
theorem dX6_opens_11 : decode cX6_opens 11 = .ok (.ireturn, 1) := by decide +kernel
theorem dX6_takesInRooms_0 : decode cX6_takesInRooms 0 = .ok (.aload_n 0, 1) := by decide +kernel
theorem dX6_takesInRooms_1 : decode cX6_takesInRooms 1 = .ok (.getfield 22, 3) := by decide +kernel
theorem dX6_takesInRooms_4 : decode cX6_takesInRooms 4 = .ok (.ifCond .ne 38, 3) := by decide +kernel
theorem dX6_takesInRooms_7 : decode cX6_takesInRooms 7 = .ok (.aload_n 0, 1) := by decide +kernel
theorem dX6_takesInRooms_8 : decode cX6_takesInRooms 8 = .ok (.iload_n 1, 1) := by decide +kernel
theorem dX6_takesInRooms_9 : decode cX6_takesInRooms 9 = .ok (.bipush 48, 2) := by decide +kernel
theorem dX6_takesInRooms_11 : decode cX6_takesInRooms 11 = .ok (.isub, 1) := by decide +kernel
theorem dX6_takesInRooms_12 : decode cX6_takesInRooms 12 = .ok (.putfield 28, 3) := by decide +kernel
theorem dX6_takesInRooms_15 : decode cX6_takesInRooms 15 = .ok (.aload_n 0, 1) := by decide +kernel
theorem dX6_takesInRooms_16 : decode cX6_takesInRooms 16 = .ok (.aload_n 0, 1) := by decide +kernel
theorem dX6_takesInRooms_17 : decode cX6_takesInRooms 17 = .ok (.getfield 28, 3) := by decide +kernel
theorem dX6_takesInRooms_20 : decode cX6_takesInRooms 20 = .ok (.iconst 2, 1) := by decide +kernel
theorem dX6_takesInRooms_21 : decode cX6_takesInRooms 21 = .ok (.if_icmp .lt 16, 3) := by decide +kernel
theorem dX6_takesInRooms_24 : decode cX6_takesInRooms 24 = .ok (.aload_n 0, 1) := by decide +kernel
theorem dX6_takesInRooms_25 : decode cX6_takesInRooms 25 = .ok (.getfield 28, 3) := by decide +kernel
theorem dX6_takesInRooms_28 : decode cX6_takesInRooms 28 = .ok (.bipush 6, 2) := by decide +kernel
theorem dX6_takesInRooms_30 : decode cX6_takesInRooms 30 = .ok (.if_icmp .gt 7, 3) := by decide +kernel
theorem dX6_takesInRooms_33 : decode cX6_takesInRooms 33 = .ok (.iconst 1, 1) := by decide +kernel
theorem dX6_takesInRooms_34 : decode cX6_takesInRooms 34 = .ok (.goto 4, 3) := by decide +kernel
theorem dX6_takesInRooms_37 : decode cX6_takesInRooms 37 = .ok (.iconst 0, 1) := by decide +kernel
theorem dX6_takesInRooms_38 : decode cX6_takesInRooms 38 = .ok (.invokevirtual 63, 3) := by decide +kernel
theorem dX6_takesInRooms_41 : decode cX6_takesInRooms 41 = .ok (.ireturn, 1) := by decide +kernel
theorem dX6_takesInRooms_42 : decode cX6_takesInRooms 42 = .ok (.iload_n 1, 1) := by decide +kernel
theorem dX6_takesInRooms_43 : decode cX6_takesInRooms 43 = .ok (.bipush 59, 2) := by decide +kernel
theorem dX6_takesInRooms_45 : decode cX6_takesInRooms 45 = .ok (.if_icmp .ne 15, 3) := by decide +kernel
theorem dX6_takesInRooms_48 : decode cX6_takesInRooms 48 = .ok (.aload_n 0, 1) := by decide +kernel
theorem dX6_takesInRooms_49 : decode cX6_takesInRooms 49 = .ok (.iconst 1, 1) := by decide +kernel
theorem dX6_takesInRooms_50 : decode cX6_takesInRooms 50 = .ok (.invokevirtual 67, 3) := by decide +kernel
theorem dX6_takesInRooms_53 : decode cX6_takesInRooms 53 = .ok (.ifCond .eq 7, 3) := by decide +kernel
theorem dX6_takesInRooms_56 : decode cX6_takesInRooms 56 = .ok (.iconst 1, 1) := by decide +kernel
theorem dX6_takesInRooms_57 : decode cX6_takesInRooms 57 = .ok (.goto 4, 3) := by decide +kernel
theorem dX6_takesInRooms_60 : decode cX6_takesInRooms 60 = .ok (.iconst 0, 1) := by decide +kernel
theorem dX6_takesInRooms_61 : decode cX6_takesInRooms 61 = .ok (.ireturn, 1) := by decide +kernel
theorem dX6_isDigitBelow_0 : decode cX6_isDigitBelow 0 = .ok (.iload_n 0, 1) := by decide +kernel
theorem dX6_isDigitBelow_1 : decode cX6_isDigitBelow 1 = .ok (.bipush 48, 2) := by decide +kernel
theorem dX6_isDigitBelow_3 : decode cX6_isDigitBelow 3 = .ok (.if_icmp .lt 15, 3) := by decide +kernel
theorem dX6_isDigitBelow_6 : decode cX6_isDigitBelow 6 = .ok (.iload_n 0, 1) := by decide +kernel
theorem dX6_isDigitBelow_7 : decode cX6_isDigitBelow 7 = .ok (.bipush 48, 2) := by decide +kernel
theorem dX6_isDigitBelow_9 : decode cX6_isDigitBelow 9 = .ok (.isub, 1) := by decide +kernel
theorem dX6_isDigitBelow_10 : decode cX6_isDigitBelow 10 = .ok (.iload_n 1, 1) := by decide +kernel
theorem dX6_isDigitBelow_11 : decode cX6_isDigitBelow 11 = .ok (.if_icmp .ge 7, 3) := by decide +kernel
theorem dX6_isDigitBelow_14 : decode cX6_isDigitBelow 14 = .ok (.iconst 1, 1) := by decide +kernel
theorem dX6_isDigitBelow_15 : decode cX6_isDigitBelow 15 = .ok (.goto 4, 3) := by decide +kernel
theorem dX6_isDigitBelow_18 : decode cX6_isDigitBelow 18 = .ok (.iconst 0, 1) := by decide +kernel
theorem dX6_isDigitBelow_19 : decode cX6_isDigitBelow 19 = .ok (.ireturn, 1) := by decide +kernel
theorem dX6_takesFirst_0 : decode cX6_takesFirst 0 = .ok (.aload_n 0, 1) := by decide +kernel
theorem dX6_takesFirst_1 : decode cX6_takesFirst 1 = .ok (.iload_n 1, 1) := by decide +kernel
theorem dX6_takesFirst_2 : decode cX6_takesFirst 2 = .ok (.bipush 48, 2) := by decide +kernel
theorem dX6_takesFirst_4 : decode cX6_takesFirst 4 = .ok (.isub, 1) := by decide +kernel
theorem dX6_takesFirst_5 : decode cX6_takesFirst 5 = .ok (.putfield 25, 3) := by decide +kernel
theorem dX6_takesFirst_8 : decode cX6_takesFirst 8 = .ok (.aload_n 0, 1) := by decide +kernel
theorem dX6_takesFirst_9 : decode cX6_takesFirst 9 = .ok (.iload_n 1, 1) := by decide +kernel
theorem dX6_takesFirst_10 : decode cX6_takesFirst 10 = .ok (.iload_n 2, 1) := by decide +kernel
theorem dX6_takesFirst_11 : decode cX6_takesFirst 11 = .ok (.invokestatic 88, 3) := by decide +kernel
theorem dX6_takesFirst_14 : decode cX6_takesFirst 14 = .ok (.invokevirtual 63, 3) := by decide +kernel
theorem dX6_takesFirst_17 : decode cX6_takesFirst 17 = .ok (.ireturn, 1) := by decide +kernel
theorem dX6_takesOther_0 : decode cX6_takesOther 0 = .ok (.aload_n 0, 1) := by decide +kernel
theorem dX6_takesOther_1 : decode cX6_takesOther 1 = .ok (.iload_n 1, 1) := by decide +kernel
theorem dX6_takesOther_2 : decode cX6_takesOther 2 = .ok (.iload_n 2, 1) := by decide +kernel
theorem dX6_takesOther_3 : decode cX6_takesOther 3 = .ok (.invokestatic 88, 3) := by decide +kernel
theorem dX6_takesOther_6 : decode cX6_takesOther 6 = .ok (.ifCond .eq 18, 3) := by decide +kernel
theorem dX6_takesOther_9 : decode cX6_takesOther 9 = .ok (.iload_n 1, 1) := by decide +kernel
theorem dX6_takesOther_10 : decode cX6_takesOther 10 = .ok (.bipush 48, 2) := by decide +kernel
theorem dX6_takesOther_12 : decode cX6_takesOther 12 = .ok (.isub, 1) := by decide +kernel
theorem dX6_takesOther_13 : decode cX6_takesOther 13 = .ok (.aload_n 0, 1) := by decide +kernel
theorem dX6_takesOther_14 : decode cX6_takesOther 14 = .ok (.getfield 25, 3) := by decide +kernel
theorem dX6_takesOther_17 : decode cX6_takesOther 17 = .ok (.if_icmp .eq 7, 3) := by decide +kernel
theorem dX6_takesOther_20 : decode cX6_takesOther 20 = .ok (.iconst 1, 1) := by decide +kernel
theorem dX6_takesOther_21 : decode cX6_takesOther 21 = .ok (.goto 4, 3) := by decide +kernel
theorem dX6_takesOther_24 : decode cX6_takesOther 24 = .ok (.iconst 0, 1) := by decide +kernel
theorem dX6_takesOther_25 : decode cX6_takesOther 25 = .ok (.invokevirtual 63, 3) := by decide +kernel
theorem dX6_takesOther_28 : decode cX6_takesOther 28 = .ok (.ireturn, 1) := by decide +kernel
theorem dJ0_isLatin1_aae02_0 : decode cJ0_isLatin1_aae02 0 = .ok (.getstatic 38, 3) := by decide +kernel
theorem dJ0_isLatin1_aae02_3 : decode cJ0_isLatin1_aae02 3 = .ok (.ifCond .eq 14, 3) := by decide +kernel
theorem dJ0_isLatin1_aae02_6 : decode cJ0_isLatin1_aae02 6 = .ok (.aload_n 0, 1) := by decide +kernel
theorem dJ0_isLatin1_aae02_7 : decode cJ0_isLatin1_aae02 7 = .ok (.getfield 15, 3) := by decide +kernel
theorem dJ0_isLatin1_aae02_10 : decode cJ0_isLatin1_aae02 10 = .ok (.ifCond .ne 7, 3) := by decide +kernel
theorem dJ0_isLatin1_aae02_13 : decode cJ0_isLatin1_aae02 13 = .ok (.iconst 1, 1) := by decide +kernel
theorem dJ0_isLatin1_aae02_14 : decode cJ0_isLatin1_aae02 14 = .ok (.goto 4, 3) := by decide +kernel
theorem dJ0_isLatin1_aae02_17 : decode cJ0_isLatin1_aae02 17 = .ok (.iconst 0, 1) := by decide +kernel
theorem dJ0_isLatin1_aae02_18 : decode cJ0_isLatin1_aae02 18 = .ok (.ireturn, 1) := by decide +kernel
theorem dJ0_coder_7d493_0 : decode cJ0_coder_7d493 0 = .ok (.getstatic 38, 3) := by decide +kernel
theorem dJ0_coder_7d493_3 : decode cJ0_coder_7d493 3 = .ok (.ifCond .eq 10, 3) := by decide +kernel
theorem dJ0_coder_7d493_6 : decode cJ0_coder_7d493 6 = .ok (.aload_n 0, 1) := by decide +kernel
theorem dJ0_coder_7d493_7 : decode cJ0_coder_7d493 7 = .ok (.getfield 15, 3) := by decide +kernel
theorem dJ0_coder_7d493_10 : decode cJ0_coder_7d493 10 = .ok (.goto 4, 3) := by decide +kernel
theorem dJ0_coder_7d493_13 : decode cJ0_coder_7d493 13 = .ok (.iconst 1, 1) := by decide +kernel
theorem dJ0_coder_7d493_14 : decode cJ0_coder_7d493 14 = .ok (.ireturn, 1) := by decide +kernel
theorem dJ0_length_8abf5_0 : decode cJ0_length_8abf5 0 = .ok (.aload_n 0, 1) := by decide +kernel
theorem dJ0_length_8abf5_1 : decode cJ0_length_8abf5 1 = .ok (.getfield 9, 3) := by decide +kernel
theorem dJ0_length_8abf5_4 : decode cJ0_length_8abf5 4 = .ok (.arraylength, 1) := by decide +kernel
theorem dJ0_length_8abf5_5 : decode cJ0_length_8abf5 5 = .ok (.aload_n 0, 1) := by decide +kernel
theorem dJ0_length_8abf5_6 : decode cJ0_length_8abf5 6 = .ok (.invokevirtual 335, 3) := by decide +kernel
theorem dJ0_length_8abf5_9 : decode cJ0_length_8abf5 9 = .ok (.ishr, 1) := by decide +kernel
theorem dJ0_length_8abf5_10 : decode cJ0_length_8abf5 10 = .ok (.ireturn, 1) := by decide +kernel
theorem dJ1_canEncode_9a6ad_0 : decode cJ1_canEncode_9a6ad 0 = .ok (.iload_n 0, 1) := by decide +kernel
theorem dJ1_canEncode_9a6ad_1 : decode cJ1_canEncode_9a6ad 1 = .ok (.ifCond .lt 14, 3) := by decide +kernel
theorem dJ1_canEncode_9a6ad_4 : decode cJ1_canEncode_9a6ad 4 = .ok (.iload_n 0, 1) := by decide +kernel
theorem dJ1_canEncode_9a6ad_5 : decode cJ1_canEncode_9a6ad 5 = .ok (.sipush 255, 3) := by decide +kernel
theorem dJ1_canEncode_9a6ad_8 : decode cJ1_canEncode_9a6ad 8 = .ok (.if_icmp .gt 7, 3) := by decide +kernel
theorem dJ1_canEncode_9a6ad_11 : decode cJ1_canEncode_9a6ad 11 = .ok (.iconst 1, 1) := by decide +kernel
theorem dJ1_canEncode_9a6ad_12 : decode cJ1_canEncode_9a6ad 12 = .ok (.goto 4, 3) := by decide +kernel
theorem dJ1_canEncode_9a6ad_15 : decode cJ1_canEncode_9a6ad 15 = .ok (.iconst 0, 1) := by decide +kernel
theorem dJ1_canEncode_9a6ad_16 : decode cJ1_canEncode_9a6ad 16 = .ok (.ireturn, 1) := by decide +kernel
theorem dJ1_indexOfChar_4cfef_0 : decode cJ1_indexOfChar_4cfef 0 = .ok (.iload_n 1, 1) := by decide +kernel
theorem dJ1_indexOfChar_4cfef_1 : decode cJ1_indexOfChar_4cfef 1 = .ok (.i2b, 1) := by decide +kernel
theorem dJ1_indexOfChar_4cfef_2 : decode cJ1_indexOfChar_4cfef 2 = .ok (.istore 4, 2) := by decide +kernel
theorem dJ1_indexOfChar_4cfef_4 : decode cJ1_indexOfChar_4cfef 4 = .ok (.iload_n 2, 1) := by decide +kernel
theorem dJ1_indexOfChar_4cfef_5 : decode cJ1_indexOfChar_4cfef 5 = .ok (.istore 5, 2) := by decide +kernel
theorem dJ1_indexOfChar_4cfef_7 : decode cJ1_indexOfChar_4cfef 7 = .ok (.iload 5, 2) := by decide +kernel
theorem dJ1_indexOfChar_4cfef_9 : decode cJ1_indexOfChar_4cfef 9 = .ok (.iload_n 3, 1) := by decide +kernel
theorem dJ1_indexOfChar_4cfef_10 : decode cJ1_indexOfChar_4cfef 10 = .ok (.if_icmp .ge 21, 3) := by decide +kernel
theorem dJ1_indexOfChar_4cfef_13 : decode cJ1_indexOfChar_4cfef 13 = .ok (.aload_n 0, 1) := by decide +kernel
theorem dJ1_indexOfChar_4cfef_14 : decode cJ1_indexOfChar_4cfef 14 = .ok (.iload 5, 2) := by decide +kernel
theorem dJ1_indexOfChar_4cfef_16 : decode cJ1_indexOfChar_4cfef 16 = .ok (.baload, 1) := by decide +kernel
theorem dJ1_indexOfChar_4cfef_17 : decode cJ1_indexOfChar_4cfef 17 = .ok (.iload 4, 2) := by decide +kernel
theorem dJ1_indexOfChar_4cfef_19 : decode cJ1_indexOfChar_4cfef 19 = .ok (.if_icmp .ne 6, 3) := by decide +kernel
theorem dJ1_indexOfChar_4cfef_22 : decode cJ1_indexOfChar_4cfef 22 = .ok (.iload 5, 2) := by decide +kernel
theorem dJ1_indexOfChar_4cfef_24 : decode cJ1_indexOfChar_4cfef 24 = .ok (.ireturn, 1) := by decide +kernel
theorem dJ1_indexOfChar_4cfef_25 : decode cJ1_indexOfChar_4cfef 25 = .ok (.iinc 5 1, 3) := by decide +kernel
theorem dJ1_indexOfChar_4cfef_28 : decode cJ1_indexOfChar_4cfef 28 = .ok (.goto (-21), 3) := by decide +kernel
theorem dJ1_indexOfChar_4cfef_31 : decode cJ1_indexOfChar_4cfef 31 = .ok (.iconst (-1), 1) := by decide +kernel
theorem dJ1_indexOfChar_4cfef_32 : decode cJ1_indexOfChar_4cfef 32 = .ok (.ireturn, 1) := by decide +kernel
theorem dJ1_indexOf_4cfef_0 : decode cJ1_indexOf_4cfef 0 = .ok (.iload_n 1, 1) := by decide +kernel
theorem dJ1_indexOf_4cfef_1 : decode cJ1_indexOf_4cfef 1 = .ok (.invokestatic 88, 3) := by decide +kernel
theorem dJ1_indexOf_4cfef_4 : decode cJ1_indexOf_4cfef 4 = .ok (.ifCond .ne 5, 3) := by decide +kernel
theorem dJ1_indexOf_4cfef_7 : decode cJ1_indexOf_4cfef 7 = .ok (.iconst (-1), 1) := by decide +kernel
theorem dJ1_indexOf_4cfef_8 : decode cJ1_indexOf_4cfef 8 = .ok (.ireturn, 1) := by decide +kernel
theorem dJ1_indexOf_4cfef_9 : decode cJ1_indexOf_4cfef 9 = .ok (.iload_n 2, 1) := by decide +kernel
theorem dJ1_indexOf_4cfef_10 : decode cJ1_indexOf_4cfef 10 = .ok (.iconst 0, 1) := by decide +kernel
theorem dJ1_indexOf_4cfef_11 : decode cJ1_indexOf_4cfef 11 = .ok (.invokestatic 92, 3) := by decide +kernel
theorem dJ1_indexOf_4cfef_14 : decode cJ1_indexOf_4cfef 14 = .ok (.istore_n 2, 1) := by decide +kernel
theorem dJ1_indexOf_4cfef_15 : decode cJ1_indexOf_4cfef 15 = .ok (.iload_n 3, 1) := by decide +kernel
theorem dJ1_indexOf_4cfef_16 : decode cJ1_indexOf_4cfef 16 = .ok (.aload_n 0, 1) := by decide +kernel
theorem dJ1_indexOf_4cfef_17 : decode cJ1_indexOf_4cfef 17 = .ok (.arraylength, 1) := by decide +kernel
theorem dJ1_indexOf_4cfef_18 : decode cJ1_indexOf_4cfef 18 = .ok (.invokestatic 38, 3) := by decide +kernel
theorem dJ1_indexOf_4cfef_21 : decode cJ1_indexOf_4cfef 21 = .ok (.istore_n 3, 1) := by decide +kernel
theorem dJ1_indexOf_4cfef_22 : decode cJ1_indexOf_4cfef 22 = .ok (.iload_n 2, 1) := by decide +kernel
theorem dJ1_indexOf_4cfef_23 : decode cJ1_indexOf_4cfef 23 = .ok (.iload_n 3, 1) := by decide +kernel
theorem dJ1_indexOf_4cfef_24 : decode cJ1_indexOf_4cfef 24 = .ok (.if_icmp .lt 5, 3) := by decide +kernel
theorem dJ1_indexOf_4cfef_27 : decode cJ1_indexOf_4cfef 27 = .ok (.iconst (-1), 1) := by decide +kernel
theorem dJ1_indexOf_4cfef_28 : decode cJ1_indexOf_4cfef 28 = .ok (.ireturn, 1) := by decide +kernel
theorem dJ1_indexOf_4cfef_29 : decode cJ1_indexOf_4cfef 29 = .ok (.aload_n 0, 1) := by decide +kernel
theorem dJ1_indexOf_4cfef_30 : decode cJ1_indexOf_4cfef 30 = .ok (.iload_n 1, 1) := by decide +kernel
theorem dJ1_indexOf_4cfef_31 : decode cJ1_indexOf_4cfef 31 = .ok (.iload_n 2, 1) := by decide +kernel
theorem dJ1_indexOf_4cfef_32 : decode cJ1_indexOf_4cfef 32 = .ok (.iload_n 3, 1) := by decide +kernel
theorem dJ1_indexOf_4cfef_33 : decode cJ1_indexOf_4cfef 33 = .ok (.invokestatic 95, 3) := by decide +kernel
theorem dJ1_indexOf_4cfef_36 : decode cJ1_indexOf_4cfef 36 = .ok (.ireturn, 1) := by decide +kernel
theorem dJ0_indexOf_7cf53_0 : decode cJ0_indexOf_7cf53 0 = .ok (.aload_n 0, 1) := by decide +kernel
theorem dJ0_indexOf_7cf53_1 : decode cJ0_indexOf_7cf53 1 = .ok (.invokevirtual 492, 3) := by decide +kernel
theorem dJ0_indexOf_7cf53_4 : decode cJ0_indexOf_7cf53 4 = .ok (.ifCond .eq 19, 3) := by decide +kernel
theorem dJ0_indexOf_7cf53_7 : decode cJ0_indexOf_7cf53 7 = .ok (.aload_n 0, 1) := by decide +kernel
theorem dJ0_indexOf_7cf53_8 : decode cJ0_indexOf_7cf53 8 = .ok (.getfield 9, 3) := by decide +kernel
theorem dJ0_indexOf_7cf53_11 : decode cJ0_indexOf_7cf53 11 = .ok (.iload_n 1, 1) := by decide +kernel
theorem dJ0_indexOf_7cf53_12 : decode cJ0_indexOf_7cf53 12 = .ok (.iload_n 2, 1) := by decide +kernel
theorem dJ0_indexOf_7cf53_13 : decode cJ0_indexOf_7cf53 13 = .ok (.aload_n 0, 1) := by decide +kernel
theorem dJ0_indexOf_7cf53_14 : decode cJ0_indexOf_7cf53 14 = .ok (.invokevirtual 505, 3) := by decide +kernel
theorem dJ0_indexOf_7cf53_17 : decode cJ0_indexOf_7cf53 17 = .ok (.invokestatic 637, 3) := by decide +kernel
theorem dJ0_indexOf_7cf53_20 : decode cJ0_indexOf_7cf53 20 = .ok (.goto 16, 3) := by decide +kernel
theorem dJ0_indexOf_7cf53_23 : decode cJ0_indexOf_7cf53 23 = .ok (.aload_n 0, 1) := by decide +kernel
theorem dJ0_indexOf_7cf53_24 : decode cJ0_indexOf_7cf53 24 = .ok (.getfield 9, 3) := by decide +kernel
theorem dJ0_indexOf_7cf53_27 : decode cJ0_indexOf_7cf53 27 = .ok (.iload_n 1, 1) := by decide +kernel
theorem dJ0_indexOf_7cf53_28 : decode cJ0_indexOf_7cf53 28 = .ok (.iload_n 2, 1) := by decide +kernel
theorem dJ0_indexOf_7cf53_29 : decode cJ0_indexOf_7cf53 29 = .ok (.aload_n 0, 1) := by decide +kernel
theorem dJ0_indexOf_7cf53_30 : decode cJ0_indexOf_7cf53 30 = .ok (.invokevirtual 505, 3) := by decide +kernel
theorem dJ0_indexOf_7cf53_33 : decode cJ0_indexOf_7cf53 33 = .ok (.invokestatic 640, 3) := by decide +kernel
theorem dJ0_indexOf_7cf53_36 : decode cJ0_indexOf_7cf53 36 = .ok (.ireturn, 1) := by decide +kernel
theorem dJ0_indexOf_0f7a4_0 : decode cJ0_indexOf_0f7a4 0 = .ok (.aload_n 0, 1) := by decide +kernel
theorem dJ0_indexOf_0f7a4_1 : decode cJ0_indexOf_0f7a4 1 = .ok (.iload_n 1, 1) := by decide +kernel
theorem dJ0_indexOf_0f7a4_2 : decode cJ0_indexOf_0f7a4 2 = .ok (.iconst 0, 1) := by decide +kernel
theorem dJ0_indexOf_0f7a4_3 : decode cJ0_indexOf_0f7a4 3 = .ok (.invokevirtual 633, 3) := by decide +kernel
theorem dJ0_indexOf_0f7a4_6 : decode cJ0_indexOf_0f7a4 6 = .ok (.ireturn, 1) := by decide +kernel
theorem dX6_takesInDoors_0 : decode cX6_takesInDoors 0 = .ok (.aload_n 0, 1) := by decide +kernel
theorem dX6_takesInDoors_1 : decode cX6_takesInDoors 1 = .ok (.getfield 22, 3) := by decide +kernel
theorem dX6_takesInDoors_4 : decode cX6_takesInDoors 4 = .ok (.tableswitch 77 0 2 #[28, 38, 48], 28) := by decide +kernel
theorem dX6_takesInDoors_32 : decode cX6_takesInDoors 32 = .ok (.aload_n 0, 1) := by decide +kernel
theorem dX6_takesInDoors_33 : decode cX6_takesInDoors 33 = .ok (.iload_n 1, 1) := by decide +kernel
theorem dX6_takesInDoors_34 : decode cX6_takesInDoors 34 = .ok (.aload_n 0, 1) := by decide +kernel
theorem dX6_takesInDoors_35 : decode cX6_takesInDoors 35 = .ok (.getfield 28, 3) := by decide +kernel
theorem dX6_takesInDoors_38 : decode cX6_takesInDoors 38 = .ok (.invokevirtual 71, 3) := by decide +kernel
theorem dX6_takesInDoors_41 : decode cX6_takesInDoors 41 = .ok (.ireturn, 1) := by decide +kernel
theorem dX6_takesInDoors_42 : decode cX6_takesInDoors 42 = .ok (.aload_n 0, 1) := by decide +kernel
theorem dX6_takesInDoors_43 : decode cX6_takesInDoors 43 = .ok (.iload_n 1, 1) := by decide +kernel
theorem dX6_takesInDoors_44 : decode cX6_takesInDoors 44 = .ok (.aload_n 0, 1) := by decide +kernel
theorem dX6_takesInDoors_45 : decode cX6_takesInDoors 45 = .ok (.getfield 28, 3) := by decide +kernel
theorem dX6_takesInDoors_48 : decode cX6_takesInDoors 48 = .ok (.invokevirtual 75, 3) := by decide +kernel
theorem dX6_takesInDoors_51 : decode cX6_takesInDoors 51 = .ok (.ireturn, 1) := by decide +kernel
theorem dX6_takesInDoors_52 : decode cX6_takesInDoors 52 = .ok (.aload_n 0, 1) := by decide +kernel
theorem dX6_takesInDoors_53 : decode cX6_takesInDoors 53 = .ok (.dup, 1) := by decide +kernel
theorem dX6_takesInDoors_54 : decode cX6_takesInDoors 54 = .ok (.getfield 31, 3) := by decide +kernel
theorem dX6_takesInDoors_57 : decode cX6_takesInDoors 57 = .ok (.iconst 1, 1) := by decide +kernel
theorem dX6_takesInDoors_58 : decode cX6_takesInDoors 58 = .ok (.iadd, 1) := by decide +kernel
theorem dX6_takesInDoors_59 : decode cX6_takesInDoors 59 = .ok (.putfield 31, 3) := by decide +kernel
theorem dX6_takesInDoors_62 : decode cX6_takesInDoors 62 = .ok (.aload_n 0, 1) := by decide +kernel
theorem dX6_takesInDoors_63 : decode cX6_takesInDoors 63 = .ok (.ldc 78, 2) := by decide +kernel
theorem dX6_takesInDoors_65 : decode cX6_takesInDoors 65 = .ok (.iload_n 1, 1) := by decide +kernel
theorem dX6_takesInDoors_66 : decode cX6_takesInDoors 66 = .ok (.invokevirtual 80, 3) := by decide +kernel
theorem dX6_takesInDoors_69 : decode cX6_takesInDoors 69 = .ok (.ifCond .lt 7, 3) := by decide +kernel
theorem dX6_takesInDoors_72 : decode cX6_takesInDoors 72 = .ok (.iconst 1, 1) := by decide +kernel
theorem dX6_takesInDoors_73 : decode cX6_takesInDoors 73 = .ok (.goto 4, 3) := by decide +kernel
theorem dX6_takesInDoors_76 : decode cX6_takesInDoors 76 = .ok (.iconst 0, 1) := by decide +kernel
theorem dX6_takesInDoors_77 : decode cX6_takesInDoors 77 = .ok (.invokevirtual 63, 3) := by decide +kernel
theorem dX6_takesInDoors_80 : decode cX6_takesInDoors 80 = .ok (.ireturn, 1) := by decide +kernel
theorem dX6_takesInDoors_81 : decode cX6_takesInDoors 81 = .ok (.iload_n 1, 1) := by decide +kernel
theorem dX6_takesInDoors_82 : decode cX6_takesInDoors 82 = .ok (.bipush 44, 2) := by decide +kernel
theorem dX6_takesInDoors_84 : decode cX6_takesInDoors 84 = .ok (.if_icmp .ne 26, 3) := by decide +kernel
theorem dX6_takesInDoors_87 : decode cX6_takesInDoors 87 = .ok (.aload_n 0, 1) := by decide +kernel
theorem dX6_takesInDoors_88 : decode cX6_takesInDoors 88 = .ok (.getfield 31, 3) := by decide +kernel
theorem dX6_takesInDoors_91 : decode cX6_takesInDoors 91 = .ok (.bipush 6, 2) := by decide +kernel
theorem dX6_takesInDoors_93 : decode cX6_takesInDoors 93 = .ok (.if_icmp .ge 15, 3) := by decide +kernel
theorem dX6_takesInDoors_96 : decode cX6_takesInDoors 96 = .ok (.aload_n 0, 1) := by decide +kernel
theorem dX6_takesInDoors_97 : decode cX6_takesInDoors 97 = .ok (.iconst 1, 1) := by decide +kernel
theorem dX6_takesInDoors_98 : decode cX6_takesInDoors 98 = .ok (.invokevirtual 67, 3) := by decide +kernel
theorem dX6_takesInDoors_101 : decode cX6_takesInDoors 101 = .ok (.ifCond .eq 7, 3) := by decide +kernel
theorem dX6_takesInDoors_104 : decode cX6_takesInDoors 104 = .ok (.iconst 1, 1) := by decide +kernel
theorem dX6_takesInDoors_105 : decode cX6_takesInDoors 105 = .ok (.goto 4, 3) := by decide +kernel
theorem dX6_takesInDoors_108 : decode cX6_takesInDoors 108 = .ok (.iconst 0, 1) := by decide +kernel
theorem dX6_takesInDoors_109 : decode cX6_takesInDoors 109 = .ok (.ireturn, 1) := by decide +kernel
theorem dX6_takesInDoors_110 : decode cX6_takesInDoors 110 = .ok (.iload_n 1, 1) := by decide +kernel
theorem dX6_takesInDoors_111 : decode cX6_takesInDoors 111 = .ok (.bipush 59, 2) := by decide +kernel
theorem dX6_takesInDoors_113 : decode cX6_takesInDoors 113 = .ok (.if_icmp .ne 15, 3) := by decide +kernel
theorem dX6_takesInDoors_116 : decode cX6_takesInDoors 116 = .ok (.aload_n 0, 1) := by decide +kernel
theorem dX6_takesInDoors_117 : decode cX6_takesInDoors 117 = .ok (.iconst 2, 1) := by decide +kernel
theorem dX6_takesInDoors_118 : decode cX6_takesInDoors 118 = .ok (.invokevirtual 67, 3) := by decide +kernel
theorem dX6_takesInDoors_121 : decode cX6_takesInDoors 121 = .ok (.ifCond .eq 7, 3) := by decide +kernel
theorem dX6_takesInDoors_124 : decode cX6_takesInDoors 124 = .ok (.iconst 1, 1) := by decide +kernel
theorem dX6_takesInDoors_125 : decode cX6_takesInDoors 125 = .ok (.goto 4, 3) := by decide +kernel
theorem dX6_takesInDoors_128 : decode cX6_takesInDoors 128 = .ok (.iconst 0, 1) := by decide +kernel
theorem dX6_takesInDoors_129 : decode cX6_takesInDoors 129 = .ok (.ireturn, 1) := by decide +kernel
theorem dX6_takesInPeople_0 : decode cX6_takesInPeople 0 = .ok (.aload_n 0, 1) := by decide +kernel
theorem dX6_takesInPeople_1 : decode cX6_takesInPeople 1 = .ok (.getfield 22, 3) := by decide +kernel
theorem dX6_takesInPeople_4 : decode cX6_takesInPeople 4 = .ok (.tableswitch 81 0 2 #[28, 47, 58], 28) := by decide +kernel
theorem dX6_takesInPeople_32 : decode cX6_takesInPeople 32 = .ok (.aload_n 0, 1) := by decide +kernel
theorem dX6_takesInPeople_33 : decode cX6_takesInPeople 33 = .ok (.ldc 86, 2) := by decide +kernel
theorem dX6_takesInPeople_35 : decode cX6_takesInPeople 35 = .ok (.iload_n 1, 1) := by decide +kernel
theorem dX6_takesInPeople_36 : decode cX6_takesInPeople 36 = .ok (.invokevirtual 80, 3) := by decide +kernel
theorem dX6_takesInPeople_39 : decode cX6_takesInPeople 39 = .ok (.ifCond .lt 7, 3) := by decide +kernel
theorem dX6_takesInPeople_42 : decode cX6_takesInPeople 42 = .ok (.iconst 1, 1) := by decide +kernel
theorem dX6_takesInPeople_43 : decode cX6_takesInPeople 43 = .ok (.goto 4, 3) := by decide +kernel
theorem dX6_takesInPeople_46 : decode cX6_takesInPeople 46 = .ok (.iconst 0, 1) := by decide +kernel
theorem dX6_takesInPeople_47 : decode cX6_takesInPeople 47 = .ok (.invokevirtual 63, 3) := by decide +kernel
theorem dX6_takesInPeople_50 : decode cX6_takesInPeople 50 = .ok (.ireturn, 1) := by decide +kernel
theorem dX6_takesInPeople_51 : decode cX6_takesInPeople 51 = .ok (.aload_n 0, 1) := by decide +kernel
theorem dX6_takesInPeople_52 : decode cX6_takesInPeople 52 = .ok (.iload_n 1, 1) := by decide +kernel
theorem dX6_takesInPeople_53 : decode cX6_takesInPeople 53 = .ok (.bipush 10, 2) := by decide +kernel
theorem dX6_takesInPeople_55 : decode cX6_takesInPeople 55 = .ok (.invokestatic 88, 3) := by decide +kernel
theorem dX6_takesInPeople_58 : decode cX6_takesInPeople 58 = .ok (.invokevirtual 63, 3) := by decide +kernel
theorem dX6_takesInPeople_61 : decode cX6_takesInPeople 61 = .ok (.ireturn, 1) := by decide +kernel
theorem dX6_takesInPeople_62 : decode cX6_takesInPeople 62 = .ok (.aload_n 0, 1) := by decide +kernel
theorem dX6_takesInPeople_63 : decode cX6_takesInPeople 63 = .ok (.dup, 1) := by decide +kernel
theorem dX6_takesInPeople_64 : decode cX6_takesInPeople 64 = .ok (.getfield 34, 3) := by decide +kernel
theorem dX6_takesInPeople_67 : decode cX6_takesInPeople 67 = .ok (.iconst 1, 1) := by decide +kernel
theorem dX6_takesInPeople_68 : decode cX6_takesInPeople 68 = .ok (.iadd, 1) := by decide +kernel
theorem dX6_takesInPeople_69 : decode cX6_takesInPeople 69 = .ok (.putfield 34, 3) := by decide +kernel
theorem dX6_takesInPeople_72 : decode cX6_takesInPeople 72 = .ok (.aload_n 0, 1) := by decide +kernel
theorem dX6_takesInPeople_73 : decode cX6_takesInPeople 73 = .ok (.iload_n 1, 1) := by decide +kernel
theorem dX6_takesInPeople_74 : decode cX6_takesInPeople 74 = .ok (.aload_n 0, 1) := by decide +kernel
theorem dX6_takesInPeople_75 : decode cX6_takesInPeople 75 = .ok (.getfield 28, 3) := by decide +kernel
theorem dX6_takesInPeople_78 : decode cX6_takesInPeople 78 = .ok (.invokestatic 88, 3) := by decide +kernel
theorem dX6_takesInPeople_81 : decode cX6_takesInPeople 81 = .ok (.invokevirtual 63, 3) := by decide +kernel
theorem dX6_takesInPeople_84 : decode cX6_takesInPeople 84 = .ok (.ireturn, 1) := by decide +kernel
theorem dX6_takesInPeople_85 : decode cX6_takesInPeople 85 = .ok (.iload_n 1, 1) := by decide +kernel
theorem dX6_takesInPeople_86 : decode cX6_takesInPeople 86 = .ok (.bipush 44, 2) := by decide +kernel
theorem dX6_takesInPeople_88 : decode cX6_takesInPeople 88 = .ok (.if_icmp .ne 25, 3) := by decide +kernel
theorem dX6_takesInPeople_91 : decode cX6_takesInPeople 91 = .ok (.aload_n 0, 1) := by decide +kernel
theorem dX6_takesInPeople_92 : decode cX6_takesInPeople 92 = .ok (.getfield 34, 3) := by decide +kernel
theorem dX6_takesInPeople_95 : decode cX6_takesInPeople 95 = .ok (.iconst 4, 1) := by decide +kernel
theorem dX6_takesInPeople_96 : decode cX6_takesInPeople 96 = .ok (.if_icmp .ge 15, 3) := by decide +kernel
theorem dX6_takesInPeople_99 : decode cX6_takesInPeople 99 = .ok (.aload_n 0, 1) := by decide +kernel
theorem dX6_takesInPeople_100 : decode cX6_takesInPeople 100 = .ok (.iconst 2, 1) := by decide +kernel
theorem dX6_takesInPeople_101 : decode cX6_takesInPeople 101 = .ok (.invokevirtual 67, 3) := by decide +kernel
theorem dX6_takesInPeople_104 : decode cX6_takesInPeople 104 = .ok (.ifCond .eq 7, 3) := by decide +kernel
theorem dX6_takesInPeople_107 : decode cX6_takesInPeople 107 = .ok (.iconst 1, 1) := by decide +kernel
theorem dX6_takesInPeople_108 : decode cX6_takesInPeople 108 = .ok (.goto 4, 3) := by decide +kernel
theorem dX6_takesInPeople_111 : decode cX6_takesInPeople 111 = .ok (.iconst 0, 1) := by decide +kernel
theorem dX6_takesInPeople_112 : decode cX6_takesInPeople 112 = .ok (.ireturn, 1) := by decide +kernel
theorem dX6_takesInPeople_113 : decode cX6_takesInPeople 113 = .ok (.iload_n 1, 1) := by decide +kernel
theorem dX6_takesInPeople_114 : decode cX6_takesInPeople 114 = .ok (.bipush 59, 2) := by decide +kernel
theorem dX6_takesInPeople_116 : decode cX6_takesInPeople 116 = .ok (.if_icmp .ne 23, 3) := by decide +kernel
theorem dX6_takesInPeople_119 : decode cX6_takesInPeople 119 = .ok (.aload_n 0, 1) := by decide +kernel
theorem dX6_takesInPeople_120 : decode cX6_takesInPeople 120 = .ok (.getfield 34, 3) := by decide +kernel
theorem dX6_takesInPeople_123 : decode cX6_takesInPeople 123 = .ok (.iconst 2, 1) := by decide +kernel
theorem dX6_takesInPeople_124 : decode cX6_takesInPeople 124 = .ok (.if_icmp .lt 15, 3) := by decide +kernel
theorem dX6_takesInPeople_127 : decode cX6_takesInPeople 127 = .ok (.aload_n 0, 1) := by decide +kernel
theorem dX6_takesInPeople_128 : decode cX6_takesInPeople 128 = .ok (.iconst 3, 1) := by decide +kernel
theorem dX6_takesInPeople_129 : decode cX6_takesInPeople 129 = .ok (.invokevirtual 67, 3) := by decide +kernel
theorem dX6_takesInPeople_132 : decode cX6_takesInPeople 132 = .ok (.ifCond .eq 7, 3) := by decide +kernel
theorem dX6_takesInPeople_135 : decode cX6_takesInPeople 135 = .ok (.iconst 1, 1) := by decide +kernel
theorem dX6_takesInPeople_136 : decode cX6_takesInPeople 136 = .ok (.goto 4, 3) := by decide +kernel
theorem dX6_takesInPeople_139 : decode cX6_takesInPeople 139 = .ok (.iconst 0, 1) := by decide +kernel
theorem dX6_takesInPeople_140 : decode cX6_takesInPeople 140 = .ok (.ireturn, 1) := by decide +kernel
theorem dX6_takesInDebts_0 : decode cX6_takesInDebts 0 = .ok (.aload_n 0, 1) := by decide +kernel
theorem dX6_takesInDebts_1 : decode cX6_takesInDebts 1 = .ok (.getfield 22, 3) := by decide +kernel
theorem dX6_takesInDebts_4 : decode cX6_takesInDebts 4 = .ok (.tableswitch 100 0 3 #[32, 42, 52, 65], 32) := by decide +kernel
theorem dX6_takesInDebts_36 : decode cX6_takesInDebts 36 = .ok (.aload_n 0, 1) := by decide +kernel
theorem dX6_takesInDebts_37 : decode cX6_takesInDebts 37 = .ok (.iload_n 1, 1) := by decide +kernel
theorem dX6_takesInDebts_38 : decode cX6_takesInDebts 38 = .ok (.aload_n 0, 1) := by decide +kernel
theorem dX6_takesInDebts_39 : decode cX6_takesInDebts 39 = .ok (.getfield 34, 3) := by decide +kernel
theorem dX6_takesInDebts_42 : decode cX6_takesInDebts 42 = .ok (.invokevirtual 71, 3) := by decide +kernel
theorem dX6_takesInDebts_45 : decode cX6_takesInDebts 45 = .ok (.ireturn, 1) := by decide +kernel
theorem dX6_takesInDebts_46 : decode cX6_takesInDebts 46 = .ok (.aload_n 0, 1) := by decide +kernel
theorem dX6_takesInDebts_47 : decode cX6_takesInDebts 47 = .ok (.iload_n 1, 1) := by decide +kernel
theorem dX6_takesInDebts_48 : decode cX6_takesInDebts 48 = .ok (.aload_n 0, 1) := by decide +kernel
theorem dX6_takesInDebts_49 : decode cX6_takesInDebts 49 = .ok (.getfield 34, 3) := by decide +kernel
theorem dX6_takesInDebts_52 : decode cX6_takesInDebts 52 = .ok (.invokevirtual 75, 3) := by decide +kernel
theorem dX6_takesInDebts_55 : decode cX6_takesInDebts 55 = .ok (.ireturn, 1) := by decide +kernel
theorem dX6_takesInDebts_56 : decode cX6_takesInDebts 56 = .ok (.aload_n 0, 1) := by decide +kernel
theorem dX6_takesInDebts_57 : decode cX6_takesInDebts 57 = .ok (.iload_n 1, 1) := by decide +kernel
theorem dX6_takesInDebts_58 : decode cX6_takesInDebts 58 = .ok (.aload_n 0, 1) := by decide +kernel
theorem dX6_takesInDebts_59 : decode cX6_takesInDebts 59 = .ok (.getfield 28, 3) := by decide +kernel
theorem dX6_takesInDebts_62 : decode cX6_takesInDebts 62 = .ok (.invokestatic 88, 3) := by decide +kernel
theorem dX6_takesInDebts_65 : decode cX6_takesInDebts 65 = .ok (.invokevirtual 63, 3) := by decide +kernel
theorem dX6_takesInDebts_68 : decode cX6_takesInDebts 68 = .ok (.ireturn, 1) := by decide +kernel
theorem dX6_takesInDebts_69 : decode cX6_takesInDebts 69 = .ok (.aload_n 0, 1) := by decide +kernel
theorem dX6_takesInDebts_70 : decode cX6_takesInDebts 70 = .ok (.dup, 1) := by decide +kernel
theorem dX6_takesInDebts_71 : decode cX6_takesInDebts 71 = .ok (.getfield 37, 3) := by decide +kernel
theorem dX6_takesInDebts_74 : decode cX6_takesInDebts 74 = .ok (.iconst 1, 1) := by decide +kernel
theorem dX6_takesInDebts_75 : decode cX6_takesInDebts 75 = .ok (.iadd, 1) := by decide +kernel
theorem dX6_takesInDebts_76 : decode cX6_takesInDebts 76 = .ok (.putfield 37, 3) := by decide +kernel
theorem dX6_takesInDebts_79 : decode cX6_takesInDebts 79 = .ok (.aload_n 0, 1) := by decide +kernel
theorem dX6_takesInDebts_80 : decode cX6_takesInDebts 80 = .ok (.iload_n 1, 1) := by decide +kernel
theorem dX6_takesInDebts_81 : decode cX6_takesInDebts 81 = .ok (.bipush 48, 2) := by decide +kernel
theorem dX6_takesInDebts_83 : decode cX6_takesInDebts 83 = .ok (.if_icmp .eq 16, 3) := by decide +kernel
theorem dX6_takesInDebts_86 : decode cX6_takesInDebts 86 = .ok (.iload_n 1, 1) := by decide +kernel
theorem dX6_takesInDebts_87 : decode cX6_takesInDebts 87 = .ok (.bipush 10, 2) := by decide +kernel
theorem dX6_takesInDebts_89 : decode cX6_takesInDebts 89 = .ok (.invokestatic 88, 3) := by decide +kernel
theorem dX6_takesInDebts_92 : decode cX6_takesInDebts 92 = .ok (.ifCond .eq 7, 3) := by decide +kernel
theorem dX6_takesInDebts_95 : decode cX6_takesInDebts 95 = .ok (.iconst 1, 1) := by decide +kernel
theorem dX6_takesInDebts_96 : decode cX6_takesInDebts 96 = .ok (.goto 4, 3) := by decide +kernel
theorem dX6_takesInDebts_99 : decode cX6_takesInDebts 99 = .ok (.iconst 0, 1) := by decide +kernel
theorem dX6_takesInDebts_100 : decode cX6_takesInDebts 100 = .ok (.invokevirtual 63, 3) := by decide +kernel
theorem dX6_takesInDebts_103 : decode cX6_takesInDebts 103 = .ok (.ireturn, 1) := by decide +kernel
theorem dX6_takesInDebts_104 : decode cX6_takesInDebts 104 = .ok (.iload_n 1, 1) := by decide +kernel
theorem dX6_takesInDebts_105 : decode cX6_takesInDebts 105 = .ok (.bipush 44, 2) := by decide +kernel
theorem dX6_takesInDebts_107 : decode cX6_takesInDebts 107 = .ok (.if_icmp .ne 23, 3) := by decide +kernel
theorem dX6_takesInDebts_110 : decode cX6_takesInDebts 110 = .ok (.aload_n 0, 1) := by decide +kernel
theorem dX6_takesInDebts_111 : decode cX6_takesInDebts 111 = .ok (.getfield 37, 3) := by decide +kernel
theorem dX6_takesInDebts_114 : decode cX6_takesInDebts 114 = .ok (.iconst 4, 1) := by decide +kernel
theorem dX6_takesInDebts_115 : decode cX6_takesInDebts 115 = .ok (.if_icmp .ge 15, 3) := by decide +kernel
theorem dX6_takesInDebts_118 : decode cX6_takesInDebts 118 = .ok (.aload_n 0, 1) := by decide +kernel
theorem dX6_takesInDebts_119 : decode cX6_takesInDebts 119 = .ok (.iconst 3, 1) := by decide +kernel
theorem dX6_takesInDebts_120 : decode cX6_takesInDebts 120 = .ok (.invokevirtual 67, 3) := by decide +kernel
theorem dX6_takesInDebts_123 : decode cX6_takesInDebts 123 = .ok (.ifCond .eq 7, 3) := by decide +kernel
theorem dX6_takesInDebts_126 : decode cX6_takesInDebts 126 = .ok (.iconst 1, 1) := by decide +kernel
theorem dX6_takesInDebts_127 : decode cX6_takesInDebts 127 = .ok (.goto 4, 3) := by decide +kernel
theorem dX6_takesInDebts_130 : decode cX6_takesInDebts 130 = .ok (.iconst 0, 1) := by decide +kernel
theorem dX6_takesInDebts_131 : decode cX6_takesInDebts 131 = .ok (.ireturn, 1) := by decide +kernel
theorem dX6_takes_0 : decode cX6_takes 0 = .ok (.aload_n 0, 1) := by decide +kernel
theorem dX6_takes_1 : decode cX6_takes 1 = .ok (.getfield 19, 3) := by decide +kernel
theorem dX6_takes_4 : decode cX6_takes 4 = .ok (.tableswitch 46 0 2 #[28, 34, 40], 28) := by decide +kernel
theorem dX6_takes_32 : decode cX6_takes 32 = .ok (.aload_n 0, 1) := by decide +kernel
theorem dX6_takes_33 : decode cX6_takes 33 = .ok (.iload_n 1, 1) := by decide +kernel
theorem dX6_takes_34 : decode cX6_takes 34 = .ok (.invokevirtual 51, 3) := by decide +kernel
theorem dX6_takes_37 : decode cX6_takes 37 = .ok (.ireturn, 1) := by decide +kernel
theorem dX6_takes_38 : decode cX6_takes 38 = .ok (.aload_n 0, 1) := by decide +kernel
theorem dX6_takes_39 : decode cX6_takes 39 = .ok (.iload_n 1, 1) := by decide +kernel
theorem dX6_takes_40 : decode cX6_takes 40 = .ok (.invokevirtual 54, 3) := by decide +kernel
theorem dX6_takes_43 : decode cX6_takes 43 = .ok (.ireturn, 1) := by decide +kernel
theorem dX6_takes_44 : decode cX6_takes 44 = .ok (.aload_n 0, 1) := by decide +kernel
theorem dX6_takes_45 : decode cX6_takes 45 = .ok (.iload_n 1, 1) := by decide +kernel
theorem dX6_takes_46 : decode cX6_takes 46 = .ok (.invokevirtual 57, 3) := by decide +kernel
theorem dX6_takes_49 : decode cX6_takes 49 = .ok (.ireturn, 1) := by decide +kernel
theorem dX6_takes_50 : decode cX6_takes 50 = .ok (.aload_n 0, 1) := by decide +kernel
theorem dX6_takes_51 : decode cX6_takes 51 = .ok (.iload_n 1, 1) := by decide +kernel
theorem dX6_takes_52 : decode cX6_takes 52 = .ok (.invokevirtual 60, 3) := by decide +kernel
theorem dX6_takes_55 : decode cX6_takes 55 = .ok (.ireturn, 1) := by decide +kernel
theorem dX6_scan_0 : decode cX6_scan 0 = .ok (.aload_n 0, 1) := by decide +kernel
theorem dX6_scan_1 : decode cX6_scan 1 = .ok (.iconst 0, 1) := by decide +kernel
theorem dX6_scan_2 : decode cX6_scan 2 = .ok (.putfield 19, 3) := by decide +kernel
theorem dX6_scan_5 : decode cX6_scan 5 = .ok (.aload_n 0, 1) := by decide +kernel
theorem dX6_scan_6 : decode cX6_scan 6 = .ok (.iconst 0, 1) := by decide +kernel
theorem dX6_scan_7 : decode cX6_scan 7 = .ok (.putfield 22, 3) := by decide +kernel
theorem dX6_scan_10 : decode cX6_scan 10 = .ok (.aload_n 0, 1) := by decide +kernel
theorem dX6_scan_11 : decode cX6_scan 11 = .ok (.iconst 0, 1) := by decide +kernel
theorem dX6_scan_12 : decode cX6_scan 12 = .ok (.putfield 25, 3) := by decide +kernel
theorem dX6_scan_15 : decode cX6_scan 15 = .ok (.aload_n 0, 1) := by decide +kernel
theorem dX6_scan_16 : decode cX6_scan 16 = .ok (.iconst 0, 1) := by decide +kernel
theorem dX6_scan_17 : decode cX6_scan 17 = .ok (.putfield 28, 3) := by decide +kernel
theorem dX6_scan_20 : decode cX6_scan 20 = .ok (.aload_n 0, 1) := by decide +kernel
theorem dX6_scan_21 : decode cX6_scan 21 = .ok (.iconst 0, 1) := by decide +kernel
theorem dX6_scan_22 : decode cX6_scan 22 = .ok (.putfield 31, 3) := by decide +kernel
theorem dX6_scan_25 : decode cX6_scan 25 = .ok (.aload_n 0, 1) := by decide +kernel
theorem dX6_scan_26 : decode cX6_scan 26 = .ok (.iconst 0, 1) := by decide +kernel
theorem dX6_scan_27 : decode cX6_scan 27 = .ok (.putfield 34, 3) := by decide +kernel
theorem dX6_scan_30 : decode cX6_scan 30 = .ok (.aload_n 0, 1) := by decide +kernel
theorem dX6_scan_31 : decode cX6_scan 31 = .ok (.iconst 0, 1) := by decide +kernel
theorem dX6_scan_32 : decode cX6_scan 32 = .ok (.putfield 37, 3) := by decide +kernel
theorem dX6_scan_35 : decode cX6_scan 35 = .ok (.aload_n 0, 1) := by decide +kernel
theorem dX6_scan_36 : decode cX6_scan 36 = .ok (.iconst 0, 1) := by decide +kernel
theorem dX6_scan_37 : decode cX6_scan 37 = .ok (.putfield 40, 3) := by decide +kernel
theorem dX6_scan_40 : decode cX6_scan 40 = .ok (.iconst 0, 1) := by decide +kernel
theorem dX6_scan_41 : decode cX6_scan 41 = .ok (.istore_n 1, 1) := by decide +kernel
theorem dX6_scan_42 : decode cX6_scan 42 = .ok (.iload_n 1, 1) := by decide +kernel
theorem dX6_scan_43 : decode cX6_scan 43 = .ok (.aload_n 0, 1) := by decide +kernel
theorem dX6_scan_44 : decode cX6_scan 44 = .ok (.getfield 15, 3) := by decide +kernel
theorem dX6_scan_47 : decode cX6_scan 47 = .ok (.if_icmp .ge 29, 3) := by decide +kernel
theorem dX6_scan_50 : decode cX6_scan 50 = .ok (.aload_n 0, 1) := by decide +kernel
theorem dX6_scan_51 : decode cX6_scan 51 = .ok (.aload_n 0, 1) := by decide +kernel
theorem dX6_scan_52 : decode cX6_scan 52 = .ok (.getfield 9, 3) := by decide +kernel
theorem dX6_scan_55 : decode cX6_scan 55 = .ok (.iload_n 1, 1) := by decide +kernel
theorem dX6_scan_56 : decode cX6_scan 56 = .ok (.iaload, 1) := by decide +kernel
theorem dX6_scan_57 : decode cX6_scan 57 = .ok (.i2c, 1) := by decide +kernel
theorem dX6_scan_58 : decode cX6_scan 58 = .ok (.invokevirtual 44, 3) := by decide +kernel
theorem dX6_scan_61 : decode cX6_scan 61 = .ok (.ifCond .ne 9, 3) := by decide +kernel
theorem dX6_scan_64 : decode cX6_scan 64 = .ok (.aload_n 0, 1) := by decide +kernel
theorem dX6_scan_65 : decode cX6_scan 65 = .ok (.iload_n 1, 1) := by decide +kernel
theorem dX6_scan_66 : decode cX6_scan 66 = .ok (.putfield 48, 3) := by decide +kernel
theorem dX6_scan_69 : decode cX6_scan 69 = .ok (.return_, 1) := by decide +kernel
theorem dX6_scan_70 : decode cX6_scan 70 = .ok (.iinc 1 1, 3) := by decide +kernel
theorem dX6_scan_73 : decode cX6_scan 73 = .ok (.goto (-31), 3) := by decide +kernel
theorem dX6_scan_76 : decode cX6_scan 76 = .ok (.aload_n 0, 1) := by decide +kernel
theorem dX6_scan_77 : decode cX6_scan 77 = .ok (.aload_n 0, 1) := by decide +kernel
theorem dX6_scan_78 : decode cX6_scan 78 = .ok (.getfield 15, 3) := by decide +kernel
theorem dX6_scan_81 : decode cX6_scan 81 = .ok (.putfield 48, 3) := by decide +kernel
theorem dX6_scan_84 : decode cX6_scan 84 = .ok (.aload_n 0, 1) := by decide +kernel
theorem dX6_scan_85 : decode cX6_scan 85 = .ok (.aload_n 0, 1) := by decide +kernel
theorem dX6_scan_86 : decode cX6_scan 86 = .ok (.getfield 19, 3) := by decide +kernel
theorem dX6_scan_89 : decode cX6_scan 89 = .ok (.iconst 3, 1) := by decide +kernel
theorem dX6_scan_90 : decode cX6_scan 90 = .ok (.if_icmp .ne 15, 3) := by decide +kernel
theorem dX6_scan_93 : decode cX6_scan 93 = .ok (.aload_n 0, 1) := by decide +kernel
theorem dX6_scan_94 : decode cX6_scan 94 = .ok (.getfield 22, 3) := by decide +kernel
theorem dX6_scan_97 : decode cX6_scan 97 = .ok (.iconst 4, 1) := by decide +kernel
theorem dX6_scan_98 : decode cX6_scan 98 = .ok (.if_icmp .ne 7, 3) := by decide +kernel
theorem dX6_scan_101 : decode cX6_scan 101 = .ok (.iconst 1, 1) := by decide +kernel
theorem dX6_scan_102 : decode cX6_scan 102 = .ok (.goto 4, 3) := by decide +kernel
theorem dX6_scan_105 : decode cX6_scan 105 = .ok (.iconst 0, 1) := by decide +kernel
theorem dX6_scan_106 : decode cX6_scan 106 = .ok (.putfield 40, 3) := by decide +kernel
theorem dX6_scan_109 : decode cX6_scan 109 = .ok (.return_, 1) := by decide +kernel
theorem dX11_fault_0 : decode cX11_fault 0 = .ok (.aload_n 0, 1) := by decide +kernel
theorem dX11_fault_1 : decode cX11_fault 1 = .ok (.getfield 10, 3) := by decide +kernel
theorem dX11_fault_4 : decode cX11_fault 4 = .ok (.invokevirtual 74, 3) := by decide +kernel
theorem dX11_fault_7 : decode cX11_fault 7 = .ok (.aload_n 0, 1) := by decide +kernel
theorem dX11_fault_8 : decode cX11_fault 8 = .ok (.getfield 10, 3) := by decide +kernel
theorem dX11_fault_11 : decode cX11_fault 11 = .ok (.getfield 77, 3) := by decide +kernel
theorem dX11_fault_14 : decode cX11_fault 14 = .ok (.ireturn, 1) := by decide +kernel
theorem dX6_digitAt_0 : decode cX6_digitAt 0 = .ok (.iload_n 1, 1) := by decide +kernel
theorem dX6_digitAt_1 : decode cX6_digitAt 1 = .ok (.ifCond .lt 21, 3) := by decide +kernel
theorem dX6_digitAt_4 : decode cX6_digitAt 4 = .ok (.iload_n 1, 1) := by decide +kernel
theorem dX6_digitAt_5 : decode cX6_digitAt 5 = .ok (.bipush 64, 2) := by decide +kernel
theorem dX6_digitAt_7 : decode cX6_digitAt 7 = .ok (.if_icmp .ge 15, 3) := by decide +kernel
theorem dX6_digitAt_10 : decode cX6_digitAt 10 = .ok (.aload_n 0, 1) := by decide +kernel
theorem dX6_digitAt_11 : decode cX6_digitAt 11 = .ok (.getfield 9, 3) := by decide +kernel
theorem dX6_digitAt_14 : decode cX6_digitAt 14 = .ok (.iload_n 1, 1) := by decide +kernel
theorem dX6_digitAt_15 : decode cX6_digitAt 15 = .ok (.iaload, 1) := by decide +kernel
theorem dX6_digitAt_16 : decode cX6_digitAt 16 = .ok (.bipush 48, 2) := by decide +kernel
theorem dX6_digitAt_18 : decode cX6_digitAt 18 = .ok (.isub, 1) := by decide +kernel
theorem dX6_digitAt_19 : decode cX6_digitAt 19 = .ok (.goto 4, 3) := by decide +kernel
theorem dX6_digitAt_22 : decode cX6_digitAt 22 = .ok (.iconst 0, 1) := by decide +kernel
theorem dX6_digitAt_23 : decode cX6_digitAt 23 = .ok (.ireturn, 1) := by decide +kernel
theorem dX6_placeIn_0 : decode cX6_placeIn 0 = .ok (.iload_n 2, 1) := by decide +kernel
theorem dX6_placeIn_1 : decode cX6_placeIn 1 = .ok (.ifCond .lt 23, 3) := by decide +kernel
theorem dX6_placeIn_4 : decode cX6_placeIn 4 = .ok (.iload_n 2, 1) := by decide +kernel
theorem dX6_placeIn_5 : decode cX6_placeIn 5 = .ok (.bipush 64, 2) := by decide +kernel
theorem dX6_placeIn_7 : decode cX6_placeIn 7 = .ok (.if_icmp .ge 17, 3) := by decide +kernel
theorem dX6_placeIn_10 : decode cX6_placeIn 10 = .ok (.aload_n 1, 1) := by decide +kernel
theorem dX6_placeIn_11 : decode cX6_placeIn 11 = .ok (.aload_n 0, 1) := by decide +kernel
theorem dX6_placeIn_12 : decode cX6_placeIn 12 = .ok (.getfield 9, 3) := by decide +kernel
theorem dX6_placeIn_15 : decode cX6_placeIn 15 = .ok (.iload_n 2, 1) := by decide +kernel
theorem dX6_placeIn_16 : decode cX6_placeIn 16 = .ok (.iaload, 1) := by decide +kernel
theorem dX6_placeIn_17 : decode cX6_placeIn 17 = .ok (.i2c, 1) := by decide +kernel
theorem dX6_placeIn_18 : decode cX6_placeIn 18 = .ok (.invokevirtual 80, 3) := by decide +kernel
theorem dX6_placeIn_21 : decode cX6_placeIn 21 = .ok (.goto 4, 3) := by decide +kernel
theorem dX6_placeIn_24 : decode cX6_placeIn 24 = .ok (.iconst (-1), 1) := by decide +kernel
theorem dX6_placeIn_25 : decode cX6_placeIn 25 = .ok (.ireturn, 1) := by decide +kernel
theorem dX6_peopleAt_0 : decode cX6_peopleAt 0 = .ok (.iconst 2, 1) := by decide +kernel
theorem dX6_peopleAt_1 : decode cX6_peopleAt 1 = .ok (.iconst 4, 1) := by decide +kernel
theorem dX6_peopleAt_2 : decode cX6_peopleAt 2 = .ok (.aload_n 0, 1) := by decide +kernel
theorem dX6_peopleAt_3 : decode cX6_peopleAt 3 = .ok (.getfield 31, 3) := by decide +kernel
theorem dX6_peopleAt_6 : decode cX6_peopleAt 6 = .ok (.imul, 1) := by decide +kernel
theorem dX6_peopleAt_7 : decode cX6_peopleAt 7 = .ok (.iadd, 1) := by decide +kernel
theorem dX6_peopleAt_8 : decode cX6_peopleAt 8 = .ok (.ireturn, 1) := by decide +kernel
theorem dX6_debtsAt_0 : decode cX6_debtsAt 0 = .ok (.aload_n 0, 1) := by decide +kernel
theorem dX6_debtsAt_1 : decode cX6_debtsAt 1 = .ok (.invokevirtual 91, 3) := by decide +kernel
theorem dX6_debtsAt_4 : decode cX6_debtsAt 4 = .ok (.iconst 4, 1) := by decide +kernel
theorem dX6_debtsAt_5 : decode cX6_debtsAt 5 = .ok (.aload_n 0, 1) := by decide +kernel
theorem dX6_debtsAt_6 : decode cX6_debtsAt 6 = .ok (.getfield 34, 3) := by decide +kernel
theorem dX6_debtsAt_9 : decode cX6_debtsAt 9 = .ok (.imul, 1) := by decide +kernel
theorem dX6_debtsAt_10 : decode cX6_debtsAt 10 = .ok (.iadd, 1) := by decide +kernel
theorem dX6_debtsAt_11 : decode cX6_debtsAt 11 = .ok (.ireturn, 1) := by decide +kernel
theorem dX6_readAffairs_0 : decode cX6_readAffairs 0 = .ok (.iconst 0, 1) := by decide +kernel
theorem dX6_readAffairs_1 : decode cX6_readAffairs 1 = .ok (.istore_n 2, 1) := by decide +kernel
theorem dX6_readAffairs_2 : decode cX6_readAffairs 2 = .ok (.iload_n 2, 1) := by decide +kernel
theorem dX6_readAffairs_3 : decode cX6_readAffairs 3 = .ok (.aload_n 0, 1) := by decide +kernel
theorem dX6_readAffairs_4 : decode cX6_readAffairs 4 = .ok (.getfield 34, 3) := by decide +kernel
theorem dX6_readAffairs_7 : decode cX6_readAffairs 7 = .ok (.if_icmp .ge 44, 3) := by decide +kernel
theorem dX6_readAffairs_10 : decode cX6_readAffairs 10 = .ok (.aload_n 0, 1) := by decide +kernel
theorem dX6_readAffairs_11 : decode cX6_readAffairs 11 = .ok (.invokevirtual 91, 3) := by decide +kernel
theorem dX6_readAffairs_14 : decode cX6_readAffairs 14 = .ok (.iconst 4, 1) := by decide +kernel
theorem dX6_readAffairs_15 : decode cX6_readAffairs 15 = .ok (.iload_n 2, 1) := by decide +kernel
theorem dX6_readAffairs_16 : decode cX6_readAffairs 16 = .ok (.imul, 1) := by decide +kernel
theorem dX6_readAffairs_17 : decode cX6_readAffairs 17 = .ok (.iadd, 1) := by decide +kernel
theorem dX6_readAffairs_18 : decode cX6_readAffairs 18 = .ok (.istore_n 3, 1) := by decide +kernel
theorem dX6_readAffairs_19 : decode cX6_readAffairs 19 = .ok (.aload_n 1, 1) := by decide +kernel
theorem dX6_readAffairs_20 : decode cX6_readAffairs 20 = .ok (.getfield 137, 3) := by decide +kernel
theorem dX6_readAffairs_23 : decode cX6_readAffairs 23 = .ok (.iload_n 2, 1) := by decide +kernel
theorem dX6_readAffairs_24 : decode cX6_readAffairs 24 = .ok (.aload_n 0, 1) := by decide +kernel
theorem dX6_readAffairs_25 : decode cX6_readAffairs 25 = .ok (.iload_n 3, 1) := by decide +kernel
theorem dX6_readAffairs_26 : decode cX6_readAffairs 26 = .ok (.iconst 1, 1) := by decide +kernel
theorem dX6_readAffairs_27 : decode cX6_readAffairs 27 = .ok (.iadd, 1) := by decide +kernel
theorem dX6_readAffairs_28 : decode cX6_readAffairs 28 = .ok (.invokevirtual 104, 3) := by decide +kernel
theorem dX6_readAffairs_31 : decode cX6_readAffairs 31 = .ok (.iastore, 1) := by decide +kernel
theorem dX6_readAffairs_32 : decode cX6_readAffairs 32 = .ok (.aload_n 1, 1) := by decide +kernel
theorem dX6_readAffairs_33 : decode cX6_readAffairs 33 = .ok (.getfield 142, 3) := by decide +kernel
theorem dX6_readAffairs_36 : decode cX6_readAffairs 36 = .ok (.iload_n 2, 1) := by decide +kernel
theorem dX6_readAffairs_37 : decode cX6_readAffairs 37 = .ok (.aload_n 0, 1) := by decide +kernel
theorem dX6_readAffairs_38 : decode cX6_readAffairs 38 = .ok (.iload_n 3, 1) := by decide +kernel
theorem dX6_readAffairs_39 : decode cX6_readAffairs 39 = .ok (.iconst 2, 1) := by decide +kernel
theorem dX6_readAffairs_40 : decode cX6_readAffairs 40 = .ok (.iadd, 1) := by decide +kernel
theorem dX6_readAffairs_41 : decode cX6_readAffairs 41 = .ok (.invokevirtual 104, 3) := by decide +kernel
theorem dX6_readAffairs_44 : decode cX6_readAffairs 44 = .ok (.iastore, 1) := by decide +kernel
theorem dX6_readAffairs_45 : decode cX6_readAffairs 45 = .ok (.iinc 2 1, 3) := by decide +kernel
theorem dX6_readAffairs_48 : decode cX6_readAffairs 48 = .ok (.goto (-46), 3) := by decide +kernel
theorem dX6_readAffairs_51 : decode cX6_readAffairs 51 = .ok (.iconst 0, 1) := by decide +kernel
theorem dX6_readAffairs_52 : decode cX6_readAffairs 52 = .ok (.istore_n 2, 1) := by decide +kernel
theorem dX6_readAffairs_53 : decode cX6_readAffairs 53 = .ok (.iload_n 2, 1) := by decide +kernel
theorem dX6_readAffairs_54 : decode cX6_readAffairs 54 = .ok (.aload_n 0, 1) := by decide +kernel
theorem dX6_readAffairs_55 : decode cX6_readAffairs 55 = .ok (.getfield 37, 3) := by decide +kernel
theorem dX6_readAffairs_58 : decode cX6_readAffairs 58 = .ok (.if_icmp .ge 36, 3) := by decide +kernel
theorem dX6_readAffairs_61 : decode cX6_readAffairs 61 = .ok (.aload_n 1, 1) := by decide +kernel
theorem dX6_readAffairs_62 : decode cX6_readAffairs 62 = .ok (.getfield 145, 3) := by decide +kernel
theorem dX6_readAffairs_65 : decode cX6_readAffairs 65 = .ok (.iload_n 2, 1) := by decide +kernel
theorem dX6_readAffairs_66 : decode cX6_readAffairs 66 = .ok (.aload_n 0, 1) := by decide +kernel
theorem dX6_readAffairs_67 : decode cX6_readAffairs 67 = .ok (.aload_n 0, 1) := by decide +kernel
theorem dX6_readAffairs_68 : decode cX6_readAffairs 68 = .ok (.invokevirtual 125, 3) := by decide +kernel
theorem dX6_readAffairs_71 : decode cX6_readAffairs 71 = .ok (.iconst 5, 1) := by decide +kernel
theorem dX6_readAffairs_72 : decode cX6_readAffairs 72 = .ok (.iload_n 2, 1) := by decide +kernel
theorem dX6_readAffairs_73 : decode cX6_readAffairs 73 = .ok (.imul, 1) := by decide +kernel
theorem dX6_readAffairs_74 : decode cX6_readAffairs 74 = .ok (.iadd, 1) := by decide +kernel
theorem dX6_readAffairs_75 : decode cX6_readAffairs 75 = .ok (.iconst 3, 1) := by decide +kernel
theorem dX6_readAffairs_76 : decode cX6_readAffairs 76 = .ok (.iadd, 1) := by decide +kernel
theorem dX6_readAffairs_77 : decode cX6_readAffairs 77 = .ok (.invokevirtual 104, 3) := by decide +kernel
theorem dX6_readAffairs_80 : decode cX6_readAffairs 80 = .ok (.iastore, 1) := by decide +kernel
theorem dX6_readAffairs_81 : decode cX6_readAffairs 81 = .ok (.aload_n 1, 1) := by decide +kernel
theorem dX6_readAffairs_82 : decode cX6_readAffairs 82 = .ok (.getfield 148, 3) := by decide +kernel
theorem dX6_readAffairs_85 : decode cX6_readAffairs 85 = .ok (.iload_n 2, 1) := by decide +kernel
theorem dX6_readAffairs_86 : decode cX6_readAffairs 86 = .ok (.iconst 0, 1) := by decide +kernel
theorem dX6_readAffairs_87 : decode cX6_readAffairs 87 = .ok (.bastore, 1) := by decide +kernel
theorem dX6_readAffairs_88 : decode cX6_readAffairs 88 = .ok (.iinc 2 1, 3) := by decide +kernel
theorem dX6_readAffairs_91 : decode cX6_readAffairs 91 = .ok (.goto (-38), 3) := by decide +kernel
theorem dX6_readAffairs_94 : decode cX6_readAffairs 94 = .ok (.iconst 0, 1) := by decide +kernel
theorem dX6_readAffairs_95 : decode cX6_readAffairs 95 = .ok (.istore_n 2, 1) := by decide +kernel
theorem dX6_readAffairs_96 : decode cX6_readAffairs 96 = .ok (.iload_n 2, 1) := by decide +kernel
theorem dX6_readAffairs_97 : decode cX6_readAffairs 97 = .ok (.iconst 2, 1) := by decide +kernel
theorem dX6_readAffairs_98 : decode cX6_readAffairs 98 = .ok (.if_icmp .ge 16, 3) := by decide +kernel
theorem dX6_readAffairs_101 : decode cX6_readAffairs 101 = .ok (.aload_n 1, 1) := by decide +kernel
theorem dX6_readAffairs_102 : decode cX6_readAffairs 102 = .ok (.getfield 152, 3) := by decide +kernel
theorem dX6_readAffairs_105 : decode cX6_readAffairs 105 = .ok (.iload_n 2, 1) := by decide +kernel
theorem dX6_readAffairs_106 : decode cX6_readAffairs 106 = .ok (.iload_n 2, 1) := by decide +kernel
theorem dX6_readAffairs_107 : decode cX6_readAffairs 107 = .ok (.iastore, 1) := by decide +kernel
theorem dX6_readAffairs_108 : decode cX6_readAffairs 108 = .ok (.iinc 2 1, 3) := by decide +kernel
theorem dX6_readAffairs_111 : decode cX6_readAffairs 111 = .ok (.goto (-15), 3) := by decide +kernel
theorem dX6_readAffairs_114 : decode cX6_readAffairs 114 = .ok (.aload_n 1, 1) := by decide +kernel
theorem dX6_readAffairs_115 : decode cX6_readAffairs 115 = .ok (.iconst 0, 1) := by decide +kernel
theorem dX6_readAffairs_116 : decode cX6_readAffairs 116 = .ok (.putfield 155, 3) := by decide +kernel
theorem dX6_readAffairs_119 : decode cX6_readAffairs 119 = .ok (.aload_n 1, 1) := by decide +kernel
theorem dX6_readAffairs_120 : decode cX6_readAffairs 120 = .ok (.iconst 0, 1) := by decide +kernel
theorem dX6_readAffairs_121 : decode cX6_readAffairs 121 = .ok (.putfield 158, 3) := by decide +kernel
theorem dX6_readAffairs_124 : decode cX6_readAffairs 124 = .ok (.return_, 1) := by decide +kernel
theorem dX11_isNobody_0 : decode cX11_isNobody 0 = .ok (.iload_n 1, 1) := by decide +kernel
theorem dX11_isNobody_1 : decode cX11_isNobody 1 = .ok (.ifCond .lt 14, 3) := by decide +kernel
theorem dX11_isNobody_4 : decode cX11_isNobody 4 = .ok (.iload_n 1, 1) := by decide +kernel
theorem dX11_isNobody_5 : decode cX11_isNobody 5 = .ok (.aload_n 0, 1) := by decide +kernel
theorem dX11_isNobody_6 : decode cX11_isNobody 6 = .ok (.getfield 19, 3) := by decide +kernel
theorem dX11_isNobody_9 : decode cX11_isNobody 9 = .ok (.getfield 90, 3) := by decide +kernel
theorem dX11_isNobody_12 : decode cX11_isNobody 12 = .ok (.if_icmp .lt 7, 3) := by decide +kernel
theorem dX11_isNobody_15 : decode cX11_isNobody 15 = .ok (.iconst 1, 1) := by decide +kernel
theorem dX11_isNobody_16 : decode cX11_isNobody 16 = .ok (.goto 4, 3) := by decide +kernel
theorem dX11_isNobody_19 : decode cX11_isNobody 19 = .ok (.iconst 0, 1) := by decide +kernel
theorem dX11_isNobody_20 : decode cX11_isNobody 20 = .ok (.ireturn, 1) := by decide +kernel
theorem dX1_number_0 : decode cX1_number 0 = .ok (.iconst 2, 1) := by decide +kernel
theorem dX1_number_1 : decode cX1_number 1 = .ok (.ireturn, 1) := by decide +kernel
theorem dX2_number_0 : decode cX2_number 0 = .ok (.iconst 4, 1) := by decide +kernel
theorem dX2_number_1 : decode cX2_number 1 = .ok (.ireturn, 1) := by decide +kernel
theorem dX3_number_0 : decode cX3_number 0 = .ok (.iconst 3, 1) := by decide +kernel
theorem dX3_number_1 : decode cX3_number 1 = .ok (.ireturn, 1) := by decide +kernel
theorem dX7_number_0 : decode cX7_number 0 = .ok (.iconst 0, 1) := by decide +kernel
theorem dX7_number_1 : decode cX7_number 1 = .ok (.ireturn, 1) := by decide +kernel
theorem dX8_number_0 : decode cX8_number 0 = .ok (.iconst 1, 1) := by decide +kernel
theorem dX8_number_1 : decode cX8_number 1 = .ok (.ireturn, 1) := by decide +kernel
theorem dX0_keyBits_0 : decode cX0_keyBits 0 = .ok (.iconst 0, 1) := by decide +kernel
theorem dX0_keyBits_1 : decode cX0_keyBits 1 = .ok (.istore_n 2, 1) := by decide +kernel
theorem dX0_keyBits_2 : decode cX0_keyBits 2 = .ok (.iconst 0, 1) := by decide +kernel
theorem dX0_keyBits_3 : decode cX0_keyBits 3 = .ok (.istore_n 3, 1) := by decide +kernel
theorem dX0_keyBits_4 : decode cX0_keyBits 4 = .ok (.iload_n 3, 1) := by decide +kernel
theorem dX0_keyBits_5 : decode cX0_keyBits 5 = .ok (.iconst 2, 1) := by decide +kernel
theorem dX0_keyBits_6 : decode cX0_keyBits 6 = .ok (.if_icmp .ge 25, 3) := by decide +kernel
theorem dX0_keyBits_9 : decode cX0_keyBits 9 = .ok (.aload_n 0, 1) := by decide +kernel
theorem dX0_keyBits_10 : decode cX0_keyBits 10 = .ok (.getfield 18, 3) := by decide +kernel
theorem dX0_keyBits_13 : decode cX0_keyBits 13 = .ok (.iload_n 3, 1) := by decide +kernel
theorem dX0_keyBits_14 : decode cX0_keyBits 14 = .ok (.iaload, 1) := by decide +kernel
theorem dX0_keyBits_15 : decode cX0_keyBits 15 = .ok (.iload_n 1, 1) := by decide +kernel
theorem dX0_keyBits_16 : decode cX0_keyBits 16 = .ok (.if_icmp .ne 9, 3) := by decide +kernel
theorem dX0_keyBits_19 : decode cX0_keyBits 19 = .ok (.iload_n 2, 1) := by decide +kernel
theorem dX0_keyBits_20 : decode cX0_keyBits 20 = .ok (.iconst 1, 1) := by decide +kernel
theorem dX0_keyBits_21 : decode cX0_keyBits 21 = .ok (.iload_n 3, 1) := by decide +kernel
theorem dX0_keyBits_22 : decode cX0_keyBits 22 = .ok (.ishl, 1) := by decide +kernel
theorem dX0_keyBits_23 : decode cX0_keyBits 23 = .ok (.ior, 1) := by decide +kernel
theorem dX0_keyBits_24 : decode cX0_keyBits 24 = .ok (.istore_n 2, 1) := by decide +kernel
theorem dX0_keyBits_25 : decode cX0_keyBits 25 = .ok (.iinc 3 1, 3) := by decide +kernel
theorem dX0_keyBits_28 : decode cX0_keyBits 28 = .ok (.goto (-24), 3) := by decide +kernel
theorem dX0_keyBits_31 : decode cX0_keyBits 31 = .ok (.iload_n 2, 1) := by decide +kernel
theorem dX0_keyBits_32 : decode cX0_keyBits 32 = .ok (.ireturn, 1) := by decide +kernel
theorem dX4_doorEndsAt_0 : decode cX4_doorEndsAt 0 = .ok (.aload_n 0, 1) := by decide +kernel
theorem dX4_doorEndsAt_1 : decode cX4_doorEndsAt 1 = .ok (.getfield 9, 3) := by decide +kernel
theorem dX4_doorEndsAt_4 : decode cX4_doorEndsAt 4 = .ok (.iload_n 1, 1) := by decide +kernel
theorem dX4_doorEndsAt_5 : decode cX4_doorEndsAt 5 = .ok (.iaload, 1) := by decide +kernel
theorem dX4_doorEndsAt_6 : decode cX4_doorEndsAt 6 = .ok (.iload_n 2, 1) := by decide +kernel
theorem dX4_doorEndsAt_7 : decode cX4_doorEndsAt 7 = .ok (.if_icmp .eq 13, 3) := by decide +kernel
theorem dX4_doorEndsAt_10 : decode cX4_doorEndsAt 10 = .ok (.aload_n 0, 1) := by decide +kernel
theorem dX4_doorEndsAt_11 : decode cX4_doorEndsAt 11 = .ok (.getfield 15, 3) := by decide +kernel
theorem dX4_doorEndsAt_14 : decode cX4_doorEndsAt 14 = .ok (.iload_n 1, 1) := by decide +kernel
theorem dX4_doorEndsAt_15 : decode cX4_doorEndsAt 15 = .ok (.iaload, 1) := by decide +kernel
theorem dX4_doorEndsAt_16 : decode cX4_doorEndsAt 16 = .ok (.iload_n 2, 1) := by decide +kernel
theorem dX4_doorEndsAt_17 : decode cX4_doorEndsAt 17 = .ok (.if_icmp .ne 7, 3) := by decide +kernel
theorem dX4_doorEndsAt_20 : decode cX4_doorEndsAt 20 = .ok (.iconst 1, 1) := by decide +kernel
theorem dX4_doorEndsAt_21 : decode cX4_doorEndsAt 21 = .ok (.goto 4, 3) := by decide +kernel
theorem dX4_doorEndsAt_24 : decode cX4_doorEndsAt 24 = .ok (.iconst 0, 1) := by decide +kernel
theorem dX4_doorEndsAt_25 : decode cX4_doorEndsAt 25 = .ok (.ireturn, 1) := by decide +kernel
theorem dX1_passes_0 : decode cX1_passes 0 = .ok (.iconst 1, 1) := by decide +kernel
theorem dX1_passes_1 : decode cX1_passes 1 = .ok (.ireturn, 1) := by decide +kernel
theorem dX7_passes_0 : decode cX7_passes 0 = .ok (.iload_n 1, 1) := by decide +kernel
theorem dX7_passes_1 : decode cX7_passes 1 = .ok (.ifCond .eq 7, 3) := by decide +kernel
theorem dX7_passes_4 : decode cX7_passes 4 = .ok (.iload_n 2, 1) := by decide +kernel
theorem dX7_passes_5 : decode cX7_passes 5 = .ok (.ifCond .eq 7, 3) := by decide +kernel
theorem dX7_passes_8 : decode cX7_passes 8 = .ok (.iconst 1, 1) := by decide +kernel
theorem dX7_passes_9 : decode cX7_passes 9 = .ok (.goto 4, 3) := by decide +kernel
theorem dX7_passes_12 : decode cX7_passes 12 = .ok (.iconst 0, 1) := by decide +kernel
theorem dX7_passes_13 : decode cX7_passes 13 = .ok (.ireturn, 1) := by decide +kernel
theorem dX8_passes_0 : decode cX8_passes 0 = .ok (.iconst 0, 1) := by decide +kernel
theorem dX8_passes_1 : decode cX8_passes 1 = .ok (.ireturn, 1) := by decide +kernel
theorem dX0_mayPass_0 : decode cX0_mayPass 0 = .ok (.aload_n 0, 1) := by decide +kernel
theorem dX0_mayPass_1 : decode cX0_mayPass 1 = .ok (.getfield 34, 3) := by decide +kernel
theorem dX0_mayPass_4 : decode cX0_mayPass 4 = .ok (.getfield 45, 3) := by decide +kernel
theorem dX0_mayPass_7 : decode cX0_mayPass 7 = .ok (.iload_n 2, 1) := by decide +kernel
theorem dX0_mayPass_8 : decode cX0_mayPass 8 = .ok (.iaload, 1) := by decide +kernel
theorem dX0_mayPass_9 : decode cX0_mayPass 9 = .ok (.istore_n 3, 1) := by decide +kernel
theorem dX0_mayPass_10 : decode cX0_mayPass 10 = .ok (.iload_n 3, 1) := by decide +kernel
theorem dX0_mayPass_11 : decode cX0_mayPass 11 = .ok (.ifCond .lt 12, 3) := by decide +kernel
theorem dX0_mayPass_14 : decode cX0_mayPass 14 = .ok (.iload_n 3, 1) := by decide +kernel
theorem dX0_mayPass_15 : decode cX0_mayPass 15 = .ok (.iconst 2, 1) := by decide +kernel
theorem dX0_mayPass_16 : decode cX0_mayPass 16 = .ok (.if_icmp .ge 7, 3) := by decide +kernel
theorem dX0_mayPass_19 : decode cX0_mayPass 19 = .ok (.iconst 1, 1) := by decide +kernel
theorem dX0_mayPass_20 : decode cX0_mayPass 20 = .ok (.goto 4, 3) := by decide +kernel
theorem dX0_mayPass_23 : decode cX0_mayPass 23 = .ok (.iconst 0, 1) := by decide +kernel
theorem dX0_mayPass_24 : decode cX0_mayPass 24 = .ok (.istore 4, 2) := by decide +kernel
theorem dX0_mayPass_26 : decode cX0_mayPass 26 = .ok (.iload 4, 2) := by decide +kernel
theorem dX0_mayPass_28 : decode cX0_mayPass 28 = .ok (.ifCond .eq 17, 3) := by decide +kernel
theorem dX0_mayPass_31 : decode cX0_mayPass 31 = .ok (.aload_n 0, 1) := by decide +kernel
theorem dX0_mayPass_32 : decode cX0_mayPass 32 = .ok (.getfield 18, 3) := by decide +kernel
theorem dX0_mayPass_35 : decode cX0_mayPass 35 = .ok (.iload_n 3, 1) := by decide +kernel
theorem dX0_mayPass_36 : decode cX0_mayPass 36 = .ok (.iaload, 1) := by decide +kernel
theorem dX0_mayPass_37 : decode cX0_mayPass 37 = .ok (.iload_n 1, 1) := by decide +kernel
theorem dX0_mayPass_38 : decode cX0_mayPass 38 = .ok (.if_icmp .ne 7, 3) := by decide +kernel
theorem dX0_mayPass_41 : decode cX0_mayPass 41 = .ok (.iconst 1, 1) := by decide +kernel
theorem dX0_mayPass_42 : decode cX0_mayPass 42 = .ok (.goto 4, 3) := by decide +kernel
theorem dX0_mayPass_45 : decode cX0_mayPass 45 = .ok (.iconst 0, 1) := by decide +kernel
theorem dX0_mayPass_46 : decode cX0_mayPass 46 = .ok (.istore 5, 2) := by decide +kernel
theorem dX0_mayPass_48 : decode cX0_mayPass 48 = .ok (.aload_n 0, 1) := by decide +kernel
theorem dX0_mayPass_49 : decode cX0_mayPass 49 = .ok (.getfield 34, 3) := by decide +kernel
theorem dX0_mayPass_52 : decode cX0_mayPass 52 = .ok (.getfield 50, 3) := by decide +kernel
theorem dX0_mayPass_55 : decode cX0_mayPass 55 = .ok (.iload_n 1, 1) := by decide +kernel
theorem dX0_mayPass_56 : decode cX0_mayPass 56 = .ok (.aaload, 1) := by decide +kernel
theorem dX0_mayPass_57 : decode cX0_mayPass 57 = .ok (.iload 4, 2) := by decide +kernel
theorem dX0_mayPass_59 : decode cX0_mayPass 59 = .ok (.iload 5, 2) := by decide +kernel
theorem dX0_mayPass_61 : decode cX0_mayPass 61 = .ok (.invokevirtual 54, 3) := by decide +kernel
theorem dX0_mayPass_64 : decode cX0_mayPass 64 = .ok (.ireturn, 1) := by decide +kernel
theorem dX0_mayGo_0 : decode cX0_mayGo 0 = .ok (.aload_n 0, 1) := by decide +kernel
theorem dX0_mayGo_1 : decode cX0_mayGo 1 = .ok (.getfield 34, 3) := by decide +kernel
theorem dX0_mayGo_4 : decode cX0_mayGo 4 = .ok (.iload_n 2, 1) := by decide +kernel
theorem dX0_mayGo_5 : decode cX0_mayGo 5 = .ok (.aload_n 0, 1) := by decide +kernel
theorem dX0_mayGo_6 : decode cX0_mayGo 6 = .ok (.getfield 15, 3) := by decide +kernel
theorem dX0_mayGo_9 : decode cX0_mayGo 9 = .ok (.iload_n 1, 1) := by decide +kernel
theorem dX0_mayGo_10 : decode cX0_mayGo 10 = .ok (.iaload, 1) := by decide +kernel
theorem dX0_mayGo_11 : decode cX0_mayGo 11 = .ok (.invokevirtual 60, 3) := by decide +kernel
theorem dX0_mayGo_14 : decode cX0_mayGo 14 = .ok (.ifCond .eq 16, 3) := by decide +kernel
theorem dX0_mayGo_17 : decode cX0_mayGo 17 = .ok (.aload_n 0, 1) := by decide +kernel
theorem dX0_mayGo_18 : decode cX0_mayGo 18 = .ok (.iload_n 1, 1) := by decide +kernel
theorem dX0_mayGo_19 : decode cX0_mayGo 19 = .ok (.iload_n 2, 1) := by decide +kernel
theorem dX0_mayGo_20 : decode cX0_mayGo 20 = .ok (.invokevirtual 64, 3) := by decide +kernel
theorem dX0_mayGo_23 : decode cX0_mayGo 23 = .ok (.ifCond .eq 7, 3) := by decide +kernel
theorem dX0_mayGo_26 : decode cX0_mayGo 26 = .ok (.iconst 1, 1) := by decide +kernel
theorem dX0_mayGo_27 : decode cX0_mayGo 27 = .ok (.goto 4, 3) := by decide +kernel
theorem dX0_mayGo_30 : decode cX0_mayGo 30 = .ok (.iconst 0, 1) := by decide +kernel
theorem dX0_mayGo_31 : decode cX0_mayGo 31 = .ok (.ireturn, 1) := by decide +kernel
theorem dX0_doorBits_0 : decode cX0_doorBits 0 = .ok (.iconst 0, 1) := by decide +kernel
theorem dX0_doorBits_1 : decode cX0_doorBits 1 = .ok (.istore_n 2, 1) := by decide +kernel
theorem dX0_doorBits_2 : decode cX0_doorBits 2 = .ok (.iconst 0, 1) := by decide +kernel
theorem dX0_doorBits_3 : decode cX0_doorBits 3 = .ok (.istore_n 3, 1) := by decide +kernel
theorem dX0_doorBits_4 : decode cX0_doorBits 4 = .ok (.iload_n 3, 1) := by decide +kernel
theorem dX0_doorBits_5 : decode cX0_doorBits 5 = .ok (.aload_n 0, 1) := by decide +kernel
theorem dX0_doorBits_6 : decode cX0_doorBits 6 = .ok (.getfield 34, 3) := by decide +kernel
theorem dX0_doorBits_9 : decode cX0_doorBits 9 = .ok (.getfield 118, 3) := by decide +kernel
theorem dX0_doorBits_12 : decode cX0_doorBits 12 = .ok (.if_icmp .ge 24, 3) := by decide +kernel
theorem dX0_doorBits_15 : decode cX0_doorBits 15 = .ok (.aload_n 0, 1) := by decide +kernel
theorem dX0_doorBits_16 : decode cX0_doorBits 16 = .ok (.iload_n 1, 1) := by decide +kernel
theorem dX0_doorBits_17 : decode cX0_doorBits 17 = .ok (.iload_n 3, 1) := by decide +kernel
theorem dX0_doorBits_18 : decode cX0_doorBits 18 = .ok (.invokevirtual 121, 3) := by decide +kernel
theorem dX0_doorBits_21 : decode cX0_doorBits 21 = .ok (.ifCond .eq 9, 3) := by decide +kernel
theorem dX0_doorBits_24 : decode cX0_doorBits 24 = .ok (.iload_n 2, 1) := by decide +kernel
theorem dX0_doorBits_25 : decode cX0_doorBits 25 = .ok (.iconst 1, 1) := by decide +kernel
theorem dX0_doorBits_26 : decode cX0_doorBits 26 = .ok (.iload_n 3, 1) := by decide +kernel
theorem dX0_doorBits_27 : decode cX0_doorBits 27 = .ok (.ishl, 1) := by decide +kernel
theorem dX0_doorBits_28 : decode cX0_doorBits 28 = .ok (.ior, 1) := by decide +kernel
theorem dX0_doorBits_29 : decode cX0_doorBits 29 = .ok (.istore_n 2, 1) := by decide +kernel
theorem dX0_doorBits_30 : decode cX0_doorBits 30 = .ok (.iinc 3 1, 3) := by decide +kernel
theorem dX0_doorBits_33 : decode cX0_doorBits 33 = .ok (.goto (-29), 3) := by decide +kernel
theorem dX0_doorBits_36 : decode cX0_doorBits 36 = .ok (.iload_n 2, 1) := by decide +kernel
theorem dX0_doorBits_37 : decode cX0_doorBits 37 = .ok (.ireturn, 1) := by decide +kernel
theorem dX2_costOfSum_0 : decode cX2_costOfSum 0 = .ok (.iload_n 1, 1) := by decide +kernel
theorem dX2_costOfSum_1 : decode cX2_costOfSum 1 = .ok (.ireturn, 1) := by decide +kernel
theorem dX7_costOfSum_0 : decode cX7_costOfSum 0 = .ok (.iload_n 1, 1) := by decide +kernel
theorem dX7_costOfSum_1 : decode cX7_costOfSum 1 = .ok (.ireturn, 1) := by decide +kernel
theorem dX8_costOfSum_0 : decode cX8_costOfSum 0 = .ok (.iload_n 1, 1) := by decide +kernel
theorem dX8_costOfSum_1 : decode cX8_costOfSum 1 = .ok (.iconst 1, 1) := by decide +kernel
theorem dX8_costOfSum_2 : decode cX8_costOfSum 2 = .ok (.iadd, 1) := by decide +kernel
theorem dX8_costOfSum_3 : decode cX8_costOfSum 3 = .ok (.ireturn, 1) := by decide +kernel
theorem dX0_costOf_0 : decode cX0_costOf 0 = .ok (.aload_n 0, 1) := by decide +kernel
theorem dX0_costOf_1 : decode cX0_costOf 1 = .ok (.getfield 34, 3) := by decide +kernel
theorem dX0_costOf_4 : decode cX0_costOf 4 = .ok (.getfield 50, 3) := by decide +kernel
theorem dX0_costOf_7 : decode cX0_costOf 7 = .ok (.aload_n 0, 1) := by decide +kernel
theorem dX0_costOf_8 : decode cX0_costOf 8 = .ok (.getfield 34, 3) := by decide +kernel
theorem dX0_costOf_11 : decode cX0_costOf 11 = .ok (.getfield 71, 3) := by decide +kernel
theorem dX0_costOf_14 : decode cX0_costOf 14 = .ok (.iload_n 1, 1) := by decide +kernel
theorem dX0_costOf_15 : decode cX0_costOf 15 = .ok (.iaload, 1) := by decide +kernel
theorem dX0_costOf_16 : decode cX0_costOf 16 = .ok (.aaload, 1) := by decide +kernel
theorem dX0_costOf_17 : decode cX0_costOf 17 = .ok (.aload_n 0, 1) := by decide +kernel
theorem dX0_costOf_18 : decode cX0_costOf 18 = .ok (.getfield 21, 3) := by decide +kernel
theorem dX0_costOf_21 : decode cX0_costOf 21 = .ok (.iload_n 1, 1) := by decide +kernel
theorem dX0_costOf_22 : decode cX0_costOf 22 = .ok (.iaload, 1) := by decide +kernel
theorem dX0_costOf_23 : decode cX0_costOf 23 = .ok (.invokevirtual 74, 3) := by decide +kernel
theorem dX0_costOf_26 : decode cX0_costOf 26 = .ok (.ireturn, 1) := by decide +kernel
theorem dX3_mayPayFrom_0 : decode cX3_mayPayFrom 0 = .ok (.iload_n 1, 1) := by decide +kernel
theorem dX3_mayPayFrom_1 : decode cX3_mayPayFrom 1 = .ok (.ireturn, 1) := by decide +kernel
theorem dX7_mayPayFrom_0 : decode cX7_mayPayFrom 0 = .ok (.iload_n 1, 1) := by decide +kernel
theorem dX7_mayPayFrom_1 : decode cX7_mayPayFrom 1 = .ok (.ifCond .eq 11, 3) := by decide +kernel
theorem dX7_mayPayFrom_4 : decode cX7_mayPayFrom 4 = .ok (.iload_n 2, 1) := by decide +kernel
theorem dX7_mayPayFrom_5 : decode cX7_mayPayFrom 5 = .ok (.ifCond .eq 7, 3) := by decide +kernel
theorem dX7_mayPayFrom_8 : decode cX7_mayPayFrom 8 = .ok (.iconst 1, 1) := by decide +kernel
theorem dX7_mayPayFrom_9 : decode cX7_mayPayFrom 9 = .ok (.goto 4, 3) := by decide +kernel
theorem dX7_mayPayFrom_12 : decode cX7_mayPayFrom 12 = .ok (.iconst 0, 1) := by decide +kernel
theorem dX7_mayPayFrom_13 : decode cX7_mayPayFrom 13 = .ok (.ireturn, 1) := by decide +kernel
theorem dX8_mayPayFrom_0 : decode cX8_mayPayFrom 0 = .ok (.iconst 1, 1) := by decide +kernel
theorem dX8_mayPayFrom_1 : decode cX8_mayPayFrom 1 = .ok (.ireturn, 1) := by decide +kernel
theorem dX0_mayPay_0 : decode cX0_mayPay 0 = .ok (.aload_n 0, 1) := by decide +kernel
theorem dX0_mayPay_1 : decode cX0_mayPay 1 = .ok (.getfield 34, 3) := by decide +kernel
theorem dX0_mayPay_4 : decode cX0_mayPay 4 = .ok (.getfield 71, 3) := by decide +kernel
theorem dX0_mayPay_7 : decode cX0_mayPay 7 = .ok (.iload_n 1, 1) := by decide +kernel
theorem dX0_mayPay_8 : decode cX0_mayPay 8 = .ok (.iaload, 1) := by decide +kernel
theorem dX0_mayPay_9 : decode cX0_mayPay 9 = .ok (.istore_n 2, 1) := by decide +kernel
theorem dX0_mayPay_10 : decode cX0_mayPay 10 = .ok (.aload_n 0, 1) := by decide +kernel
theorem dX0_mayPay_11 : decode cX0_mayPay 11 = .ok (.getfield 24, 3) := by decide +kernel
theorem dX0_mayPay_14 : decode cX0_mayPay 14 = .ok (.iload_n 1, 1) := by decide +kernel
theorem dX0_mayPay_15 : decode cX0_mayPay 15 = .ok (.baload, 1) := by decide +kernel
theorem dX0_mayPay_16 : decode cX0_mayPay 16 = .ok (.ifCond .ne 17, 3) := by decide +kernel
theorem dX0_mayPay_19 : decode cX0_mayPay 19 = .ok (.aload_n 0, 1) := by decide +kernel
theorem dX0_mayPay_20 : decode cX0_mayPay 20 = .ok (.getfield 9, 3) := by decide +kernel
theorem dX0_mayPay_23 : decode cX0_mayPay 23 = .ok (.iload_n 2, 1) := by decide +kernel
theorem dX0_mayPay_24 : decode cX0_mayPay 24 = .ok (.iaload, 1) := by decide +kernel
theorem dX0_mayPay_25 : decode cX0_mayPay 25 = .ok (.aload_n 0, 1) := by decide +kernel
theorem dX0_mayPay_26 : decode cX0_mayPay 26 = .ok (.iload_n 1, 1) := by decide +kernel
theorem dX0_mayPay_27 : decode cX0_mayPay 27 = .ok (.invokevirtual 78, 3) := by decide +kernel
theorem dX0_mayPay_30 : decode cX0_mayPay 30 = .ok (.if_icmp .ge 5, 3) := by decide +kernel
theorem dX0_mayPay_33 : decode cX0_mayPay 33 = .ok (.iconst 0, 1) := by decide +kernel
theorem dX0_mayPay_34 : decode cX0_mayPay 34 = .ok (.ireturn, 1) := by decide +kernel
theorem dX0_mayPay_35 : decode cX0_mayPay 35 = .ok (.aload_n 0, 1) := by decide +kernel
theorem dX0_mayPay_36 : decode cX0_mayPay 36 = .ok (.getfield 34, 3) := by decide +kernel
theorem dX0_mayPay_39 : decode cX0_mayPay 39 = .ok (.getfield 81, 3) := by decide +kernel
theorem dX0_mayPay_42 : decode cX0_mayPay 42 = .ok (.iload_n 1, 1) := by decide +kernel
theorem dX0_mayPay_43 : decode cX0_mayPay 43 = .ok (.iaload, 1) := by decide +kernel
theorem dX0_mayPay_44 : decode cX0_mayPay 44 = .ok (.istore_n 3, 1) := by decide +kernel
theorem dX0_mayPay_45 : decode cX0_mayPay 45 = .ok (.aload_n 0, 1) := by decide +kernel
theorem dX0_mayPay_46 : decode cX0_mayPay 46 = .ok (.getfield 34, 3) := by decide +kernel
theorem dX0_mayPay_49 : decode cX0_mayPay 49 = .ok (.getfield 50, 3) := by decide +kernel
theorem dX0_mayPay_52 : decode cX0_mayPay 52 = .ok (.iload_n 2, 1) := by decide +kernel
theorem dX0_mayPay_53 : decode cX0_mayPay 53 = .ok (.aaload, 1) := by decide +kernel
theorem dX0_mayPay_54 : decode cX0_mayPay 54 = .ok (.aload_n 0, 1) := by decide +kernel
theorem dX0_mayPay_55 : decode cX0_mayPay 55 = .ok (.getfield 15, 3) := by decide +kernel
theorem dX0_mayPay_58 : decode cX0_mayPay 58 = .ok (.iload_n 2, 1) := by decide +kernel
theorem dX0_mayPay_59 : decode cX0_mayPay 59 = .ok (.iaload, 1) := by decide +kernel
theorem dX0_mayPay_60 : decode cX0_mayPay 60 = .ok (.iload_n 3, 1) := by decide +kernel
theorem dX0_mayPay_61 : decode cX0_mayPay 61 = .ok (.if_icmp .ne 7, 3) := by decide +kernel
theorem dX0_mayPay_64 : decode cX0_mayPay 64 = .ok (.iconst 1, 1) := by decide +kernel
theorem dX0_mayPay_65 : decode cX0_mayPay 65 = .ok (.goto 4, 3) := by decide +kernel
theorem dX0_mayPay_68 : decode cX0_mayPay 68 = .ok (.iconst 0, 1) := by decide +kernel
theorem dX0_mayPay_69 : decode cX0_mayPay 69 = .ok (.aload_n 0, 1) := by decide +kernel
theorem dX0_mayPay_70 : decode cX0_mayPay 70 = .ok (.getfield 15, 3) := by decide +kernel
theorem dX0_mayPay_73 : decode cX0_mayPay 73 = .ok (.aload_n 0, 1) := by decide +kernel
theorem dX0_mayPay_74 : decode cX0_mayPay 74 = .ok (.getfield 34, 3) := by decide +kernel
theorem dX0_mayPay_77 : decode cX0_mayPay 77 = .ok (.getfield 84, 3) := by decide +kernel
theorem dX0_mayPay_80 : decode cX0_mayPay 80 = .ok (.iload_n 1, 1) := by decide +kernel
theorem dX0_mayPay_81 : decode cX0_mayPay 81 = .ok (.iaload, 1) := by decide +kernel
theorem dX0_mayPay_82 : decode cX0_mayPay 82 = .ok (.iaload, 1) := by decide +kernel
theorem dX0_mayPay_83 : decode cX0_mayPay 83 = .ok (.iload_n 3, 1) := by decide +kernel
theorem dX0_mayPay_84 : decode cX0_mayPay 84 = .ok (.if_icmp .ne 7, 3) := by decide +kernel
theorem dX0_mayPay_87 : decode cX0_mayPay 87 = .ok (.iconst 1, 1) := by decide +kernel
theorem dX0_mayPay_88 : decode cX0_mayPay 88 = .ok (.goto 4, 3) := by decide +kernel
theorem dX0_mayPay_91 : decode cX0_mayPay 91 = .ok (.iconst 0, 1) := by decide +kernel
theorem dX0_mayPay_92 : decode cX0_mayPay 92 = .ok (.invokevirtual 87, 3) := by decide +kernel
theorem dX0_mayPay_95 : decode cX0_mayPay 95 = .ok (.ireturn, 1) := by decide +kernel
theorem dX0_payableBits_0 : decode cX0_payableBits 0 = .ok (.iconst 0, 1) := by decide +kernel
theorem dX0_payableBits_1 : decode cX0_payableBits 1 = .ok (.istore_n 2, 1) := by decide +kernel
theorem dX0_payableBits_2 : decode cX0_payableBits 2 = .ok (.iconst 0, 1) := by decide +kernel
theorem dX0_payableBits_3 : decode cX0_payableBits 3 = .ok (.istore_n 3, 1) := by decide +kernel
theorem dX0_payableBits_4 : decode cX0_payableBits 4 = .ok (.iload_n 3, 1) := by decide +kernel
theorem dX0_payableBits_5 : decode cX0_payableBits 5 = .ok (.aload_n 0, 1) := by decide +kernel
theorem dX0_payableBits_6 : decode cX0_payableBits 6 = .ok (.getfield 34, 3) := by decide +kernel
theorem dX0_payableBits_9 : decode cX0_payableBits 9 = .ok (.getfield 95, 3) := by decide +kernel
theorem dX0_payableBits_12 : decode cX0_payableBits 12 = .ok (.if_icmp .ge 36, 3) := by decide +kernel
theorem dX0_payableBits_15 : decode cX0_payableBits 15 = .ok (.aload_n 0, 1) := by decide +kernel
theorem dX0_payableBits_16 : decode cX0_payableBits 16 = .ok (.getfield 34, 3) := by decide +kernel
theorem dX0_payableBits_19 : decode cX0_payableBits 19 = .ok (.getfield 71, 3) := by decide +kernel
theorem dX0_payableBits_22 : decode cX0_payableBits 22 = .ok (.iload_n 3, 1) := by decide +kernel
theorem dX0_payableBits_23 : decode cX0_payableBits 23 = .ok (.iaload, 1) := by decide +kernel
theorem dX0_payableBits_24 : decode cX0_payableBits 24 = .ok (.iload_n 1, 1) := by decide +kernel
theorem dX0_payableBits_25 : decode cX0_payableBits 25 = .ok (.if_icmp .ne 17, 3) := by decide +kernel
theorem dX0_payableBits_28 : decode cX0_payableBits 28 = .ok (.aload_n 0, 1) := by decide +kernel
theorem dX0_payableBits_29 : decode cX0_payableBits 29 = .ok (.iload_n 3, 1) := by decide +kernel
theorem dX0_payableBits_30 : decode cX0_payableBits 30 = .ok (.invokevirtual 98, 3) := by decide +kernel
theorem dX0_payableBits_33 : decode cX0_payableBits 33 = .ok (.ifCond .eq 9, 3) := by decide +kernel
theorem dX0_payableBits_36 : decode cX0_payableBits 36 = .ok (.iload_n 2, 1) := by decide +kernel
theorem dX0_payableBits_37 : decode cX0_payableBits 37 = .ok (.iconst 1, 1) := by decide +kernel
theorem dX0_payableBits_38 : decode cX0_payableBits 38 = .ok (.iload_n 3, 1) := by decide +kernel
theorem dX0_payableBits_39 : decode cX0_payableBits 39 = .ok (.ishl, 1) := by decide +kernel
theorem dX0_payableBits_40 : decode cX0_payableBits 40 = .ok (.ior, 1) := by decide +kernel
theorem dX0_payableBits_41 : decode cX0_payableBits 41 = .ok (.istore_n 2, 1) := by decide +kernel
theorem dX0_payableBits_42 : decode cX0_payableBits 42 = .ok (.iinc 3 1, 3) := by decide +kernel
theorem dX0_payableBits_45 : decode cX0_payableBits 45 = .ok (.goto (-41), 3) := by decide +kernel
theorem dX0_payableBits_48 : decode cX0_payableBits 48 = .ok (.iload_n 2, 1) := by decide +kernel
theorem dX0_payableBits_49 : decode cX0_payableBits 49 = .ok (.ireturn, 1) := by decide +kernel
theorem dX0_standing_0 : decode cX0_standing 0 = .ok (.bipush 100, 2) := by decide +kernel
theorem dX0_standing_2 : decode cX0_standing 2 = .ok (.aload_n 0, 1) := by decide +kernel
theorem dX0_standing_3 : decode cX0_standing 3 = .ok (.getfield 9, 3) := by decide +kernel
theorem dX0_standing_6 : decode cX0_standing 6 = .ok (.iload_n 1, 1) := by decide +kernel
theorem dX0_standing_7 : decode cX0_standing 7 = .ok (.iaload, 1) := by decide +kernel
theorem dX0_standing_8 : decode cX0_standing 8 = .ok (.iadd, 1) := by decide +kernel
theorem dX0_standing_9 : decode cX0_standing 9 = .ok (.istore_n 2, 1) := by decide +kernel
theorem dX0_standing_10 : decode cX0_standing 10 = .ok (.iconst 0, 1) := by decide +kernel
theorem dX0_standing_11 : decode cX0_standing 11 = .ok (.istore_n 3, 1) := by decide +kernel
theorem dX0_standing_12 : decode cX0_standing 12 = .ok (.iload_n 3, 1) := by decide +kernel
theorem dX0_standing_13 : decode cX0_standing 13 = .ok (.aload_n 0, 1) := by decide +kernel
theorem dX0_standing_14 : decode cX0_standing 14 = .ok (.getfield 34, 3) := by decide +kernel
theorem dX0_standing_17 : decode cX0_standing 17 = .ok (.getfield 95, 3) := by decide +kernel
theorem dX0_standing_20 : decode cX0_standing 20 = .ok (.if_icmp .ge 68, 3) := by decide +kernel
theorem dX0_standing_23 : decode cX0_standing 23 = .ok (.aload_n 0, 1) := by decide +kernel
theorem dX0_standing_24 : decode cX0_standing 24 = .ok (.getfield 24, 3) := by decide +kernel
theorem dX0_standing_27 : decode cX0_standing 27 = .ok (.iload_n 3, 1) := by decide +kernel
theorem dX0_standing_28 : decode cX0_standing 28 = .ok (.baload, 1) := by decide +kernel
theorem dX0_standing_29 : decode cX0_standing 29 = .ok (.ifCond .eq 6, 3) := by decide +kernel
theorem dX0_standing_32 : decode cX0_standing 32 = .ok (.goto 50, 3) := by decide +kernel
theorem dX0_standing_35 : decode cX0_standing 35 = .ok (.aload_n 0, 1) := by decide +kernel
theorem dX0_standing_36 : decode cX0_standing 36 = .ok (.getfield 34, 3) := by decide +kernel
theorem dX0_standing_39 : decode cX0_standing 39 = .ok (.getfield 84, 3) := by decide +kernel
theorem dX0_standing_42 : decode cX0_standing 42 = .ok (.iload_n 3, 1) := by decide +kernel
theorem dX0_standing_43 : decode cX0_standing 43 = .ok (.iaload, 1) := by decide +kernel
theorem dX0_standing_44 : decode cX0_standing 44 = .ok (.iload_n 1, 1) := by decide +kernel
theorem dX0_standing_45 : decode cX0_standing 45 = .ok (.if_icmp .ne 15, 3) := by decide +kernel
theorem dX0_standing_48 : decode cX0_standing 48 = .ok (.iload_n 2, 1) := by decide +kernel
theorem dX0_standing_49 : decode cX0_standing 49 = .ok (.aload_n 0, 1) := by decide +kernel
theorem dX0_standing_50 : decode cX0_standing 50 = .ok (.getfield 21, 3) := by decide +kernel
theorem dX0_standing_53 : decode cX0_standing 53 = .ok (.iload_n 3, 1) := by decide +kernel
theorem dX0_standing_54 : decode cX0_standing 54 = .ok (.iaload, 1) := by decide +kernel
theorem dX0_standing_55 : decode cX0_standing 55 = .ok (.iadd, 1) := by decide +kernel
theorem dX0_standing_56 : decode cX0_standing 56 = .ok (.istore_n 2, 1) := by decide +kernel
theorem dX0_standing_57 : decode cX0_standing 57 = .ok (.goto 25, 3) := by decide +kernel
theorem dX0_standing_60 : decode cX0_standing 60 = .ok (.aload_n 0, 1) := by decide +kernel
theorem dX0_standing_61 : decode cX0_standing 61 = .ok (.getfield 34, 3) := by decide +kernel
theorem dX0_standing_64 : decode cX0_standing 64 = .ok (.getfield 71, 3) := by decide +kernel
theorem dX0_standing_67 : decode cX0_standing 67 = .ok (.iload_n 3, 1) := by decide +kernel
theorem dX0_standing_68 : decode cX0_standing 68 = .ok (.iaload, 1) := by decide +kernel
theorem dX0_standing_69 : decode cX0_standing 69 = .ok (.iload_n 1, 1) := by decide +kernel
theorem dX0_standing_70 : decode cX0_standing 70 = .ok (.if_icmp .ne 12, 3) := by decide +kernel
theorem dX0_standing_73 : decode cX0_standing 73 = .ok (.iload_n 2, 1) := by decide +kernel
theorem dX0_standing_74 : decode cX0_standing 74 = .ok (.aload_n 0, 1) := by decide +kernel
theorem dX0_standing_75 : decode cX0_standing 75 = .ok (.getfield 21, 3) := by decide +kernel
theorem dX0_standing_78 : decode cX0_standing 78 = .ok (.iload_n 3, 1) := by decide +kernel
theorem dX0_standing_79 : decode cX0_standing 79 = .ok (.iaload, 1) := by decide +kernel
theorem dX0_standing_80 : decode cX0_standing 80 = .ok (.isub, 1) := by decide +kernel
theorem dX0_standing_81 : decode cX0_standing 81 = .ok (.istore_n 2, 1) := by decide +kernel
theorem dX0_standing_82 : decode cX0_standing 82 = .ok (.iinc 3 1, 3) := by decide +kernel
theorem dX0_standing_85 : decode cX0_standing 85 = .ok (.goto (-73), 3) := by decide +kernel
theorem dX0_standing_88 : decode cX0_standing 88 = .ok (.iload_n 2, 1) := by decide +kernel
theorem dX0_standing_89 : decode cX0_standing 89 = .ok (.ireturn, 1) := by decide +kernel
theorem dX0_tooPoorBits_0 : decode cX0_tooPoorBits 0 = .ok (.iconst 1, 1) := by decide +kernel
theorem dX0_tooPoorBits_1 : decode cX0_tooPoorBits 1 = .ok (.aload_n 0, 1) := by decide +kernel
theorem dX0_tooPoorBits_2 : decode cX0_tooPoorBits 2 = .ok (.iload_n 1, 1) := by decide +kernel
theorem dX0_tooPoorBits_3 : decode cX0_tooPoorBits 3 = .ok (.invokevirtual 78, 3) := by decide +kernel
theorem dX0_tooPoorBits_6 : decode cX0_tooPoorBits 6 = .ok (.ishl, 1) := by decide +kernel
theorem dX0_tooPoorBits_7 : decode cX0_tooPoorBits 7 = .ok (.iconst 1, 1) := by decide +kernel
theorem dX0_tooPoorBits_8 : decode cX0_tooPoorBits 8 = .ok (.isub, 1) := by decide +kernel
theorem dX0_tooPoorBits_9 : decode cX0_tooPoorBits 9 = .ok (.ireturn, 1) := by decide +kernel
theorem dX0_purseBits_0 : decode cX0_purseBits 0 = .ok (.sipush 1023, 3) := by decide +kernel
theorem dX0_purseBits_3 : decode cX0_purseBits 3 = .ok (.istore_n 2, 1) := by decide +kernel
theorem dX0_purseBits_4 : decode cX0_purseBits 4 = .ok (.iconst 0, 1) := by decide +kernel
theorem dX0_purseBits_5 : decode cX0_purseBits 5 = .ok (.istore_n 3, 1) := by decide +kernel
theorem dX0_purseBits_6 : decode cX0_purseBits 6 = .ok (.iload_n 3, 1) := by decide +kernel
theorem dX0_purseBits_7 : decode cX0_purseBits 7 = .ok (.aload_n 0, 1) := by decide +kernel
theorem dX0_purseBits_8 : decode cX0_purseBits 8 = .ok (.getfield 38, 3) := by decide +kernel
theorem dX0_purseBits_11 : decode cX0_purseBits 11 = .ok (.if_icmp .ge 66, 3) := by decide +kernel
theorem dX0_purseBits_14 : decode cX0_purseBits 14 = .ok (.iload_n 3, 1) := by decide +kernel
theorem dX0_purseBits_15 : decode cX0_purseBits 15 = .ok (.bipush 6, 2) := by decide +kernel
theorem dX0_purseBits_17 : decode cX0_purseBits 17 = .ok (.if_icmp .ge 60, 3) := by decide +kernel
theorem dX0_purseBits_20 : decode cX0_purseBits 20 = .ok (.aload_n 0, 1) := by decide +kernel
theorem dX0_purseBits_21 : decode cX0_purseBits 21 = .ok (.getfield 28, 3) := by decide +kernel
theorem dX0_purseBits_24 : decode cX0_purseBits 24 = .ok (.iload_n 3, 1) := by decide +kernel
theorem dX0_purseBits_25 : decode cX0_purseBits 25 = .ok (.iaload, 1) := by decide +kernel
theorem dX0_purseBits_26 : decode cX0_purseBits 26 = .ok (.istore 4, 2) := by decide +kernel
theorem dX0_purseBits_28 : decode cX0_purseBits 28 = .ok (.aload_n 0, 1) := by decide +kernel
theorem dX0_purseBits_29 : decode cX0_purseBits 29 = .ok (.getfield 34, 3) := by decide +kernel
theorem dX0_purseBits_32 : decode cX0_purseBits 32 = .ok (.getfield 71, 3) := by decide +kernel
theorem dX0_purseBits_35 : decode cX0_purseBits 35 = .ok (.iload 4, 2) := by decide +kernel
theorem dX0_purseBits_37 : decode cX0_purseBits 37 = .ok (.iaload, 1) := by decide +kernel
theorem dX0_purseBits_38 : decode cX0_purseBits 38 = .ok (.iload_n 1, 1) := by decide +kernel
theorem dX0_purseBits_39 : decode cX0_purseBits 39 = .ok (.if_icmp .ne 32, 3) := by decide +kernel
theorem dX0_purseBits_42 : decode cX0_purseBits 42 = .ok (.iload_n 2, 1) := by decide +kernel
theorem dX0_purseBits_43 : decode cX0_purseBits 43 = .ok (.aload_n 0, 1) := by decide +kernel
theorem dX0_purseBits_44 : decode cX0_purseBits 44 = .ok (.getfield 31, 3) := by decide +kernel
theorem dX0_purseBits_47 : decode cX0_purseBits 47 = .ok (.iload_n 3, 1) := by decide +kernel
theorem dX0_purseBits_48 : decode cX0_purseBits 48 = .ok (.baload, 1) := by decide +kernel
theorem dX0_purseBits_49 : decode cX0_purseBits 49 = .ok (.ifCond .eq 14, 3) := by decide +kernel
theorem dX0_purseBits_52 : decode cX0_purseBits 52 = .ok (.aload_n 0, 1) := by decide +kernel
theorem dX0_purseBits_53 : decode cX0_purseBits 53 = .ok (.iload 4, 2) := by decide +kernel
theorem dX0_purseBits_55 : decode cX0_purseBits 55 = .ok (.invokevirtual 124, 3) := by decide +kernel
theorem dX0_purseBits_58 : decode cX0_purseBits 58 = .ok (.iconst (-1), 1) := by decide +kernel
theorem dX0_purseBits_59 : decode cX0_purseBits 59 = .ok (.ixor, 1) := by decide +kernel
theorem dX0_purseBits_60 : decode cX0_purseBits 60 = .ok (.goto 9, 3) := by decide +kernel
theorem dX0_purseBits_63 : decode cX0_purseBits 63 = .ok (.aload_n 0, 1) := by decide +kernel
theorem dX0_purseBits_64 : decode cX0_purseBits 64 = .ok (.iload 4, 2) := by decide +kernel
theorem dX0_purseBits_66 : decode cX0_purseBits 66 = .ok (.invokevirtual 124, 3) := by decide +kernel
theorem dX0_purseBits_69 : decode cX0_purseBits 69 = .ok (.iand, 1) := by decide +kernel
theorem dX0_purseBits_70 : decode cX0_purseBits 70 = .ok (.istore_n 2, 1) := by decide +kernel
theorem dX0_purseBits_71 : decode cX0_purseBits 71 = .ok (.iinc 3 1, 3) := by decide +kernel
theorem dX0_purseBits_74 : decode cX0_purseBits 74 = .ok (.goto (-68), 3) := by decide +kernel
theorem dX0_purseBits_77 : decode cX0_purseBits 77 = .ok (.iload_n 2, 1) := by decide +kernel
theorem dX0_purseBits_78 : decode cX0_purseBits 78 = .ok (.ireturn, 1) := by decide +kernel
theorem dJ6_bitCount_0f7a4_0 : decode cJ6_bitCount_0f7a4 0 = .ok (.iload_n 0, 1) := by decide +kernel
theorem dJ6_bitCount_0f7a4_1 : decode cJ6_bitCount_0f7a4 1 = .ok (.iload_n 0, 1) := by decide +kernel
theorem dJ6_bitCount_0f7a4_2 : decode cJ6_bitCount_0f7a4 2 = .ok (.iconst 1, 1) := by decide +kernel
theorem dJ6_bitCount_0f7a4_3 : decode cJ6_bitCount_0f7a4 3 = .ok (.iushr, 1) := by decide +kernel
theorem dJ6_bitCount_0f7a4_4 : decode cJ6_bitCount_0f7a4 4 = .ok (.ldc_w 265, 3) := by decide +kernel
theorem dJ6_bitCount_0f7a4_7 : decode cJ6_bitCount_0f7a4 7 = .ok (.iand, 1) := by decide +kernel
theorem dJ6_bitCount_0f7a4_8 : decode cJ6_bitCount_0f7a4 8 = .ok (.isub, 1) := by decide +kernel
theorem dJ6_bitCount_0f7a4_9 : decode cJ6_bitCount_0f7a4 9 = .ok (.istore_n 0, 1) := by decide +kernel
theorem dJ6_bitCount_0f7a4_10 : decode cJ6_bitCount_0f7a4 10 = .ok (.iload_n 0, 1) := by decide +kernel
theorem dJ6_bitCount_0f7a4_11 : decode cJ6_bitCount_0f7a4 11 = .ok (.ldc_w 266, 3) := by decide +kernel
theorem dJ6_bitCount_0f7a4_14 : decode cJ6_bitCount_0f7a4 14 = .ok (.iand, 1) := by decide +kernel
theorem dJ6_bitCount_0f7a4_15 : decode cJ6_bitCount_0f7a4 15 = .ok (.iload_n 0, 1) := by decide +kernel
theorem dJ6_bitCount_0f7a4_16 : decode cJ6_bitCount_0f7a4 16 = .ok (.iconst 2, 1) := by decide +kernel
theorem dJ6_bitCount_0f7a4_17 : decode cJ6_bitCount_0f7a4 17 = .ok (.iushr, 1) := by decide +kernel
theorem dJ6_bitCount_0f7a4_18 : decode cJ6_bitCount_0f7a4 18 = .ok (.ldc_w 266, 3) := by decide +kernel
theorem dJ6_bitCount_0f7a4_21 : decode cJ6_bitCount_0f7a4 21 = .ok (.iand, 1) := by decide +kernel
theorem dJ6_bitCount_0f7a4_22 : decode cJ6_bitCount_0f7a4 22 = .ok (.iadd, 1) := by decide +kernel
theorem dJ6_bitCount_0f7a4_23 : decode cJ6_bitCount_0f7a4 23 = .ok (.istore_n 0, 1) := by decide +kernel
theorem dJ6_bitCount_0f7a4_24 : decode cJ6_bitCount_0f7a4 24 = .ok (.iload_n 0, 1) := by decide +kernel
theorem dJ6_bitCount_0f7a4_25 : decode cJ6_bitCount_0f7a4 25 = .ok (.iload_n 0, 1) := by decide +kernel
theorem dJ6_bitCount_0f7a4_26 : decode cJ6_bitCount_0f7a4 26 = .ok (.iconst 4, 1) := by decide +kernel
theorem dJ6_bitCount_0f7a4_27 : decode cJ6_bitCount_0f7a4 27 = .ok (.iushr, 1) := by decide +kernel
theorem dJ6_bitCount_0f7a4_28 : decode cJ6_bitCount_0f7a4 28 = .ok (.iadd, 1) := by decide +kernel
theorem dJ6_bitCount_0f7a4_29 : decode cJ6_bitCount_0f7a4 29 = .ok (.ldc_w 267, 3) := by decide +kernel
theorem dJ6_bitCount_0f7a4_32 : decode cJ6_bitCount_0f7a4 32 = .ok (.iand, 1) := by decide +kernel
theorem dJ6_bitCount_0f7a4_33 : decode cJ6_bitCount_0f7a4 33 = .ok (.istore_n 0, 1) := by decide +kernel
theorem dJ6_bitCount_0f7a4_34 : decode cJ6_bitCount_0f7a4 34 = .ok (.iload_n 0, 1) := by decide +kernel
theorem dJ6_bitCount_0f7a4_35 : decode cJ6_bitCount_0f7a4 35 = .ok (.iload_n 0, 1) := by decide +kernel
theorem dJ6_bitCount_0f7a4_36 : decode cJ6_bitCount_0f7a4 36 = .ok (.bipush 8, 2) := by decide +kernel
theorem dJ6_bitCount_0f7a4_38 : decode cJ6_bitCount_0f7a4 38 = .ok (.iushr, 1) := by decide +kernel
theorem dJ6_bitCount_0f7a4_39 : decode cJ6_bitCount_0f7a4 39 = .ok (.iadd, 1) := by decide +kernel
theorem dJ6_bitCount_0f7a4_40 : decode cJ6_bitCount_0f7a4 40 = .ok (.istore_n 0, 1) := by decide +kernel
theorem dJ6_bitCount_0f7a4_41 : decode cJ6_bitCount_0f7a4 41 = .ok (.iload_n 0, 1) := by decide +kernel
theorem dJ6_bitCount_0f7a4_42 : decode cJ6_bitCount_0f7a4 42 = .ok (.iload_n 0, 1) := by decide +kernel
theorem dJ6_bitCount_0f7a4_43 : decode cJ6_bitCount_0f7a4 43 = .ok (.bipush 16, 2) := by decide +kernel
theorem dJ6_bitCount_0f7a4_45 : decode cJ6_bitCount_0f7a4 45 = .ok (.iushr, 1) := by decide +kernel
theorem dJ6_bitCount_0f7a4_46 : decode cJ6_bitCount_0f7a4 46 = .ok (.iadd, 1) := by decide +kernel
theorem dJ6_bitCount_0f7a4_47 : decode cJ6_bitCount_0f7a4 47 = .ok (.istore_n 0, 1) := by decide +kernel
theorem dJ6_bitCount_0f7a4_48 : decode cJ6_bitCount_0f7a4 48 = .ok (.iload_n 0, 1) := by decide +kernel
theorem dJ6_bitCount_0f7a4_49 : decode cJ6_bitCount_0f7a4 49 = .ok (.bipush 63, 2) := by decide +kernel
theorem dJ6_bitCount_0f7a4_51 : decode cJ6_bitCount_0f7a4 51 = .ok (.iand, 1) := by decide +kernel
theorem dJ6_bitCount_0f7a4_52 : decode cJ6_bitCount_0f7a4 52 = .ok (.ireturn, 1) := by decide +kernel
theorem dX0_debtToPress_0 : decode cX0_debtToPress 0 = .ok (.aload_n 0, 1) := by decide +kernel
theorem dX0_debtToPress_1 : decode cX0_debtToPress 1 = .ok (.iload_n 1, 1) := by decide +kernel
theorem dX0_debtToPress_2 : decode cX0_debtToPress 2 = .ok (.invokevirtual 127, 3) := by decide +kernel
theorem dX0_debtToPress_5 : decode cX0_debtToPress 5 = .ok (.istore_n 2, 1) := by decide +kernel
theorem dX0_debtToPress_6 : decode cX0_debtToPress 6 = .ok (.iconst (-1), 1) := by decide +kernel
theorem dX0_debtToPress_7 : decode cX0_debtToPress 7 = .ok (.istore_n 3, 1) := by decide +kernel
theorem dX0_debtToPress_8 : decode cX0_debtToPress 8 = .ok (.bipush 11, 2) := by decide +kernel
theorem dX0_debtToPress_10 : decode cX0_debtToPress 10 = .ok (.istore 4, 2) := by decide +kernel
theorem dX0_debtToPress_12 : decode cX0_debtToPress 12 = .ok (.iconst 0, 1) := by decide +kernel
theorem dX0_debtToPress_13 : decode cX0_debtToPress 13 = .ok (.istore 5, 2) := by decide +kernel
theorem dX0_debtToPress_15 : decode cX0_debtToPress 15 = .ok (.iload 5, 2) := by decide +kernel
theorem dX0_debtToPress_17 : decode cX0_debtToPress 17 = .ok (.aload_n 0, 1) := by decide +kernel
theorem dX0_debtToPress_18 : decode cX0_debtToPress 18 = .ok (.getfield 34, 3) := by decide +kernel
theorem dX0_debtToPress_21 : decode cX0_debtToPress 21 = .ok (.getfield 95, 3) := by decide +kernel
theorem dX0_debtToPress_24 : decode cX0_debtToPress 24 = .ok (.if_icmp .ge 71, 3) := by decide +kernel
theorem dX0_debtToPress_27 : decode cX0_debtToPress 27 = .ok (.iload_n 2, 1) := by decide +kernel
theorem dX0_debtToPress_28 : decode cX0_debtToPress 28 = .ok (.ifCond .eq 67, 3) := by decide +kernel
theorem dX0_debtToPress_31 : decode cX0_debtToPress 31 = .ok (.aload_n 0, 1) := by decide +kernel
theorem dX0_debtToPress_32 : decode cX0_debtToPress 32 = .ok (.getfield 34, 3) := by decide +kernel
theorem dX0_debtToPress_35 : decode cX0_debtToPress 35 = .ok (.getfield 71, 3) := by decide +kernel
theorem dX0_debtToPress_38 : decode cX0_debtToPress 38 = .ok (.iload 5, 2) := by decide +kernel
theorem dX0_debtToPress_40 : decode cX0_debtToPress 40 = .ok (.iaload, 1) := by decide +kernel
theorem dX0_debtToPress_41 : decode cX0_debtToPress 41 = .ok (.iload_n 1, 1) := by decide +kernel
theorem dX0_debtToPress_42 : decode cX0_debtToPress 42 = .ok (.if_icmp .eq 6, 3) := by decide +kernel
theorem dX0_debtToPress_45 : decode cX0_debtToPress 45 = .ok (.goto 44, 3) := by decide +kernel
theorem dX0_debtToPress_48 : decode cX0_debtToPress 48 = .ok (.iload_n 2, 1) := by decide +kernel
theorem dX0_debtToPress_49 : decode cX0_debtToPress 49 = .ok (.aload_n 0, 1) := by decide +kernel
theorem dX0_debtToPress_50 : decode cX0_debtToPress 50 = .ok (.iload 5, 2) := by decide +kernel
theorem dX0_debtToPress_52 : decode cX0_debtToPress 52 = .ok (.invokevirtual 124, 3) := by decide +kernel
theorem dX0_debtToPress_55 : decode cX0_debtToPress 55 = .ok (.iand, 1) := by decide +kernel
theorem dX0_debtToPress_56 : decode cX0_debtToPress 56 = .ok (.invokestatic 130, 3) := by decide +kernel
theorem dX0_debtToPress_59 : decode cX0_debtToPress 59 = .ok (.istore 6, 2) := by decide +kernel
theorem dX0_debtToPress_61 : decode cX0_debtToPress 61 = .ok (.iload 6, 2) := by decide +kernel
theorem dX0_debtToPress_63 : decode cX0_debtToPress 63 = .ok (.iload_n 2, 1) := by decide +kernel
theorem dX0_debtToPress_64 : decode cX0_debtToPress 64 = .ok (.invokestatic 130, 3) := by decide +kernel
theorem dX0_debtToPress_67 : decode cX0_debtToPress 67 = .ok (.iload 6, 2) := by decide +kernel
theorem dX0_debtToPress_69 : decode cX0_debtToPress 69 = .ok (.isub, 1) := by decide +kernel
theorem dX0_debtToPress_70 : decode cX0_debtToPress 70 = .ok (.invokestatic 135, 3) := by decide +kernel
theorem dX0_debtToPress_73 : decode cX0_debtToPress 73 = .ok (.istore 7, 2) := by decide +kernel
theorem dX0_debtToPress_75 : decode cX0_debtToPress 75 = .ok (.iload 7, 2) := by decide +kernel
theorem dX0_debtToPress_77 : decode cX0_debtToPress 77 = .ok (.iload 4, 2) := by decide +kernel
theorem dX0_debtToPress_79 : decode cX0_debtToPress 79 = .ok (.if_icmp .ge 10, 3) := by decide +kernel
theorem dX0_debtToPress_82 : decode cX0_debtToPress 82 = .ok (.iload 7, 2) := by decide +kernel
theorem dX0_debtToPress_84 : decode cX0_debtToPress 84 = .ok (.istore 4, 2) := by decide +kernel
theorem dX0_debtToPress_86 : decode cX0_debtToPress 86 = .ok (.iload 5, 2) := by decide +kernel
theorem dX0_debtToPress_88 : decode cX0_debtToPress 88 = .ok (.istore_n 3, 1) := by decide +kernel
theorem dX0_debtToPress_89 : decode cX0_debtToPress 89 = .ok (.iinc 5 1, 3) := by decide +kernel
theorem dX0_debtToPress_92 : decode cX0_debtToPress 92 = .ok (.goto (-77), 3) := by decide +kernel
theorem dX0_debtToPress_95 : decode cX0_debtToPress 95 = .ok (.iload_n 3, 1) := by decide +kernel
theorem dX0_debtToPress_96 : decode cX0_debtToPress 96 = .ok (.ireturn, 1) := by decide +kernel
theorem dX11_person_0 : decode cX11_person 0 = .ok (.aload_n 0, 1) := by decide +kernel
theorem dX11_person_1 : decode cX11_person 1 = .ok (.iload_n 1, 1) := by decide +kernel
theorem dX11_person_2 : decode cX11_person 2 = .ok (.invokevirtual 93, 3) := by decide +kernel
theorem dX11_person_5 : decode cX11_person 5 = .ok (.ifCond .eq 6, 3) := by decide +kernel
theorem dX11_person_8 : decode cX11_person 8 = .ok (.bipush (-101), 2) := by decide +kernel
theorem dX11_person_10 : decode cX11_person 10 = .ok (.ireturn, 1) := by decide +kernel
theorem dX11_person_11 : decode cX11_person 11 = .ok (.iload_n 2, 1) := by decide +kernel
theorem dX11_person_12 : decode cX11_person 12 = .ok (.tableswitch 139 0 8 #[52, 65, 75, 85, 94, 103, 112, 121, 130], 52) := by decide +kernel
theorem dX11_person_64 : decode cX11_person 64 = .ok (.aload_n 0, 1) := by decide +kernel
theorem dX11_person_65 : decode cX11_person 65 = .ok (.getfield 19, 3) := by decide +kernel
theorem dX11_person_68 : decode cX11_person 68 = .ok (.getfield 96, 3) := by decide +kernel
theorem dX11_person_71 : decode cX11_person 71 = .ok (.iload_n 1, 1) := by decide +kernel
theorem dX11_person_72 : decode cX11_person 72 = .ok (.aaload, 1) := by decide +kernel
theorem dX11_person_73 : decode cX11_person 73 = .ok (.invokevirtual 100, 3) := by decide +kernel
theorem dX11_person_76 : decode cX11_person 76 = .ok (.ireturn, 1) := by decide +kernel
theorem dX11_person_77 : decode cX11_person 77 = .ok (.aload_n 0, 1) := by decide +kernel
theorem dX11_person_78 : decode cX11_person 78 = .ok (.getfield 28, 3) := by decide +kernel
theorem dX11_person_81 : decode cX11_person 81 = .ok (.getfield 106, 3) := by decide +kernel
theorem dX11_person_84 : decode cX11_person 84 = .ok (.iload_n 1, 1) := by decide +kernel
theorem dX11_person_85 : decode cX11_person 85 = .ok (.iaload, 1) := by decide +kernel
theorem dX11_person_86 : decode cX11_person 86 = .ok (.ireturn, 1) := by decide +kernel
theorem dX11_person_87 : decode cX11_person 87 = .ok (.aload_n 0, 1) := by decide +kernel
theorem dX11_person_88 : decode cX11_person 88 = .ok (.getfield 28, 3) := by decide +kernel
theorem dX11_person_91 : decode cX11_person 91 = .ok (.getfield 110, 3) := by decide +kernel
theorem dX11_person_94 : decode cX11_person 94 = .ok (.iload_n 1, 1) := by decide +kernel
theorem dX11_person_95 : decode cX11_person 95 = .ok (.iaload, 1) := by decide +kernel
theorem dX11_person_96 : decode cX11_person 96 = .ok (.ireturn, 1) := by decide +kernel
theorem dX11_person_97 : decode cX11_person 97 = .ok (.aload_n 0, 1) := by decide +kernel
theorem dX11_person_98 : decode cX11_person 98 = .ok (.getfield 28, 3) := by decide +kernel
theorem dX11_person_101 : decode cX11_person 101 = .ok (.iload_n 1, 1) := by decide +kernel
theorem dX11_person_102 : decode cX11_person 102 = .ok (.invokevirtual 113, 3) := by decide +kernel
theorem dX11_person_105 : decode cX11_person 105 = .ok (.ireturn, 1) := by decide +kernel
theorem dX11_person_106 : decode cX11_person 106 = .ok (.aload_n 0, 1) := by decide +kernel
theorem dX11_person_107 : decode cX11_person 107 = .ok (.getfield 28, 3) := by decide +kernel
theorem dX11_person_110 : decode cX11_person 110 = .ok (.iload_n 1, 1) := by decide +kernel
theorem dX11_person_111 : decode cX11_person 111 = .ok (.invokevirtual 117, 3) := by decide +kernel
theorem dX11_person_114 : decode cX11_person 114 = .ok (.ireturn, 1) := by decide +kernel
theorem dX11_person_115 : decode cX11_person 115 = .ok (.aload_n 0, 1) := by decide +kernel
theorem dX11_person_116 : decode cX11_person 116 = .ok (.getfield 28, 3) := by decide +kernel
theorem dX11_person_119 : decode cX11_person 119 = .ok (.iload_n 1, 1) := by decide +kernel
theorem dX11_person_120 : decode cX11_person 120 = .ok (.invokevirtual 120, 3) := by decide +kernel
theorem dX11_person_123 : decode cX11_person 123 = .ok (.ireturn, 1) := by decide +kernel
theorem dX11_person_124 : decode cX11_person 124 = .ok (.aload_n 0, 1) := by decide +kernel
theorem dX11_person_125 : decode cX11_person 125 = .ok (.getfield 28, 3) := by decide +kernel
theorem dX11_person_128 : decode cX11_person 128 = .ok (.iload_n 1, 1) := by decide +kernel
theorem dX11_person_129 : decode cX11_person 129 = .ok (.invokevirtual 123, 3) := by decide +kernel
theorem dX11_person_132 : decode cX11_person 132 = .ok (.ireturn, 1) := by decide +kernel
theorem dX11_person_133 : decode cX11_person 133 = .ok (.aload_n 0, 1) := by decide +kernel
theorem dX11_person_134 : decode cX11_person 134 = .ok (.getfield 28, 3) := by decide +kernel
theorem dX11_person_137 : decode cX11_person 137 = .ok (.iload_n 1, 1) := by decide +kernel
theorem dX11_person_138 : decode cX11_person 138 = .ok (.invokevirtual 126, 3) := by decide +kernel
theorem dX11_person_141 : decode cX11_person 141 = .ok (.ireturn, 1) := by decide +kernel
theorem dX11_person_142 : decode cX11_person 142 = .ok (.aload_n 0, 1) := by decide +kernel
theorem dX11_person_143 : decode cX11_person 143 = .ok (.getfield 28, 3) := by decide +kernel
theorem dX11_person_146 : decode cX11_person 146 = .ok (.iload_n 1, 1) := by decide +kernel
theorem dX11_person_147 : decode cX11_person 147 = .ok (.invokevirtual 129, 3) := by decide +kernel
theorem dX11_person_150 : decode cX11_person 150 = .ok (.ireturn, 1) := by decide +kernel
theorem dX11_person_151 : decode cX11_person 151 = .ok (.bipush (-102), 2) := by decide +kernel
theorem dX11_person_153 : decode cX11_person 153 = .ok (.ireturn, 1) := by decide +kernel
theorem dX4_isOfKind_0 : decode cX4_isOfKind 0 = .ok (.aload_n 0, 1) := by decide +kernel
theorem dX4_isOfKind_1 : decode cX4_isOfKind 1 = .ok (.getfield 23, 3) := by decide +kernel
theorem dX4_isOfKind_4 : decode cX4_isOfKind 4 = .ok (.iload_n 1, 1) := by decide +kernel
theorem dX4_isOfKind_5 : decode cX4_isOfKind 5 = .ok (.aaload, 1) := by decide +kernel
theorem dX4_isOfKind_6 : decode cX4_isOfKind 6 = .ok (.astore_n 3, 1) := by decide +kernel
theorem dX4_isOfKind_7 : decode cX4_isOfKind 7 = .ok (.iload_n 2, 1) := by decide +kernel
theorem dX4_isOfKind_8 : decode cX4_isOfKind 8 = .ok (.tableswitch 49 0 3 #[32, 34, 39, 44], 32) := by decide +kernel
theorem dX4_isOfKind_40 : decode cX4_isOfKind 40 = .ok (.iconst 1, 1) := by decide +kernel
theorem dX4_isOfKind_41 : decode cX4_isOfKind 41 = .ok (.ireturn, 1) := by decide +kernel
theorem dX4_isOfKind_42 : decode cX4_isOfKind 42 = .ok (.aload_n 3, 1) := by decide +kernel
theorem dX4_isOfKind_43 : decode cX4_isOfKind 43 = .ok (.instanceof 37, 3) := by decide +kernel
theorem dX4_isOfKind_46 : decode cX4_isOfKind 46 = .ok (.ireturn, 1) := by decide +kernel
theorem dX4_isOfKind_47 : decode cX4_isOfKind 47 = .ok (.aload_n 3, 1) := by decide +kernel
theorem dX4_isOfKind_48 : decode cX4_isOfKind 48 = .ok (.instanceof 40, 3) := by decide +kernel
theorem dX4_isOfKind_51 : decode cX4_isOfKind 51 = .ok (.ireturn, 1) := by decide +kernel
theorem dX4_isOfKind_52 : decode cX4_isOfKind 52 = .ok (.aload_n 3, 1) := by decide +kernel
theorem dX4_isOfKind_53 : decode cX4_isOfKind 53 = .ok (.instanceof 43, 3) := by decide +kernel
theorem dX4_isOfKind_56 : decode cX4_isOfKind 56 = .ok (.ireturn, 1) := by decide +kernel
theorem dX4_isOfKind_57 : decode cX4_isOfKind 57 = .ok (.aload_n 3, 1) := by decide +kernel
theorem dX4_isOfKind_58 : decode cX4_isOfKind 58 = .ok (.instanceof 46, 3) := by decide +kernel
theorem dX4_isOfKind_61 : decode cX4_isOfKind 61 = .ok (.ireturn, 1) := by decide +kernel
theorem dX11_as_0 : decode cX11_as 0 = .ok (.aload_n 0, 1) := by decide +kernel
theorem dX11_as_1 : decode cX11_as 1 = .ok (.iload_n 1, 1) := by decide +kernel
theorem dX11_as_2 : decode cX11_as 2 = .ok (.invokevirtual 93, 3) := by decide +kernel
theorem dX11_as_5 : decode cX11_as 5 = .ok (.ifCond .eq 6, 3) := by decide +kernel
theorem dX11_as_8 : decode cX11_as 8 = .ok (.bipush (-101), 2) := by decide +kernel
theorem dX11_as_10 : decode cX11_as 10 = .ok (.ireturn, 1) := by decide +kernel
theorem dX11_as_11 : decode cX11_as 11 = .ok (.iload_n 2, 1) := by decide +kernel
theorem dX11_as_12 : decode cX11_as 12 = .ok (.ifCond .lt 8, 3) := by decide +kernel
theorem dX11_as_15 : decode cX11_as 15 = .ok (.iload_n 2, 1) := by decide +kernel
theorem dX11_as_16 : decode cX11_as 16 = .ok (.iconst 4, 1) := by decide +kernel
theorem dX11_as_17 : decode cX11_as 17 = .ok (.if_icmp .le 6, 3) := by decide +kernel
theorem dX11_as_20 : decode cX11_as 20 = .ok (.bipush (-102), 2) := by decide +kernel
theorem dX11_as_22 : decode cX11_as 22 = .ok (.ireturn, 1) := by decide +kernel
theorem dX11_as_23 : decode cX11_as 23 = .ok (.aload_n 0, 1) := by decide +kernel
theorem dX11_as_24 : decode cX11_as 24 = .ok (.getfield 19, 3) := by decide +kernel
theorem dX11_as_27 : decode cX11_as 27 = .ok (.iload_n 1, 1) := by decide +kernel
theorem dX11_as_28 : decode cX11_as 28 = .ok (.iload_n 2, 1) := by decide +kernel
theorem dX11_as_29 : decode cX11_as 29 = .ok (.invokevirtual 132, 3) := by decide +kernel
theorem dX11_as_32 : decode cX11_as 32 = .ok (.ifCond .eq 7, 3) := by decide +kernel
theorem dX11_as_35 : decode cX11_as 35 = .ok (.iload_n 1, 1) := by decide +kernel
theorem dX11_as_36 : decode cX11_as 36 = .ok (.goto 4, 3) := by decide +kernel
theorem dX11_as_39 : decode cX11_as 39 = .ok (.iconst (-1), 1) := by decide +kernel
theorem dX11_as_40 : decode cX11_as 40 = .ok (.ireturn, 1) := by decide +kernel
theorem dX11_isNoDoor_0 : decode cX11_isNoDoor 0 = .ok (.iload_n 1, 1) := by decide +kernel
theorem dX11_isNoDoor_1 : decode cX11_isNoDoor 1 = .ok (.ifCond .lt 14, 3) := by decide +kernel
theorem dX11_isNoDoor_4 : decode cX11_isNoDoor 4 = .ok (.iload_n 1, 1) := by decide +kernel
theorem dX11_isNoDoor_5 : decode cX11_isNoDoor 5 = .ok (.aload_n 0, 1) := by decide +kernel
theorem dX11_isNoDoor_6 : decode cX11_isNoDoor 6 = .ok (.getfield 19, 3) := by decide +kernel
theorem dX11_isNoDoor_9 : decode cX11_isNoDoor 9 = .ok (.getfield 241, 3) := by decide +kernel
theorem dX11_isNoDoor_12 : decode cX11_isNoDoor 12 = .ok (.if_icmp .lt 7, 3) := by decide +kernel
theorem dX11_isNoDoor_15 : decode cX11_isNoDoor 15 = .ok (.iconst 1, 1) := by decide +kernel
theorem dX11_isNoDoor_16 : decode cX11_isNoDoor 16 = .ok (.goto 4, 3) := by decide +kernel
theorem dX11_isNoDoor_19 : decode cX11_isNoDoor 19 = .ok (.iconst 0, 1) := by decide +kernel
theorem dX11_isNoDoor_20 : decode cX11_isNoDoor 20 = .ok (.ireturn, 1) := by decide +kernel
theorem dX11_door_0 : decode cX11_door 0 = .ok (.aload_n 0, 1) := by decide +kernel
theorem dX11_door_1 : decode cX11_door 1 = .ok (.iload_n 1, 1) := by decide +kernel
theorem dX11_door_2 : decode cX11_door 2 = .ok (.invokevirtual 136, 3) := by decide +kernel
theorem dX11_door_5 : decode cX11_door 5 = .ok (.ifCond .eq 6, 3) := by decide +kernel
theorem dX11_door_8 : decode cX11_door 8 = .ok (.bipush (-101), 2) := by decide +kernel
theorem dX11_door_10 : decode cX11_door 10 = .ok (.ireturn, 1) := by decide +kernel
theorem dX11_door_11 : decode cX11_door 11 = .ok (.iload_n 2, 1) := by decide +kernel
theorem dX11_door_12 : decode cX11_door 12 = .ok (.tableswitch 58 0 2 #[28, 38, 48], 28) := by decide +kernel
theorem dX11_door_40 : decode cX11_door 40 = .ok (.aload_n 0, 1) := by decide +kernel
theorem dX11_door_41 : decode cX11_door 41 = .ok (.getfield 19, 3) := by decide +kernel
theorem dX11_door_44 : decode cX11_door 44 = .ok (.getfield 139, 3) := by decide +kernel
theorem dX11_door_47 : decode cX11_door 47 = .ok (.iload_n 1, 1) := by decide +kernel
theorem dX11_door_48 : decode cX11_door 48 = .ok (.iaload, 1) := by decide +kernel
theorem dX11_door_49 : decode cX11_door 49 = .ok (.ireturn, 1) := by decide +kernel
theorem dX11_door_50 : decode cX11_door 50 = .ok (.aload_n 0, 1) := by decide +kernel
theorem dX11_door_51 : decode cX11_door 51 = .ok (.getfield 19, 3) := by decide +kernel
theorem dX11_door_54 : decode cX11_door 54 = .ok (.getfield 142, 3) := by decide +kernel
theorem dX11_door_57 : decode cX11_door 57 = .ok (.iload_n 1, 1) := by decide +kernel
theorem dX11_door_58 : decode cX11_door 58 = .ok (.iaload, 1) := by decide +kernel
theorem dX11_door_59 : decode cX11_door 59 = .ok (.ireturn, 1) := by decide +kernel
theorem dX11_door_60 : decode cX11_door 60 = .ok (.aload_n 0, 1) := by decide +kernel
theorem dX11_door_61 : decode cX11_door 61 = .ok (.getfield 19, 3) := by decide +kernel
theorem dX11_door_64 : decode cX11_door 64 = .ok (.getfield 145, 3) := by decide +kernel
theorem dX11_door_67 : decode cX11_door 67 = .ok (.iload_n 1, 1) := by decide +kernel
theorem dX11_door_68 : decode cX11_door 68 = .ok (.iaload, 1) := by decide +kernel
theorem dX11_door_69 : decode cX11_door 69 = .ok (.ireturn, 1) := by decide +kernel
theorem dX11_door_70 : decode cX11_door 70 = .ok (.bipush (-102), 2) := by decide +kernel
theorem dX11_door_72 : decode cX11_door 72 = .ok (.ireturn, 1) := by decide +kernel
theorem dX11_isNoDebt_0 : decode cX11_isNoDebt 0 = .ok (.iload_n 1, 1) := by decide +kernel
theorem dX11_isNoDebt_1 : decode cX11_isNoDebt 1 = .ok (.ifCond .lt 14, 3) := by decide +kernel
theorem dX11_isNoDebt_4 : decode cX11_isNoDebt 4 = .ok (.iload_n 1, 1) := by decide +kernel
theorem dX11_isNoDebt_5 : decode cX11_isNoDebt 5 = .ok (.aload_n 0, 1) := by decide +kernel
theorem dX11_isNoDebt_6 : decode cX11_isNoDebt 6 = .ok (.getfield 19, 3) := by decide +kernel
theorem dX11_isNoDebt_9 : decode cX11_isNoDebt 9 = .ok (.getfield 258, 3) := by decide +kernel
theorem dX11_isNoDebt_12 : decode cX11_isNoDebt 12 = .ok (.if_icmp .lt 7, 3) := by decide +kernel
theorem dX11_isNoDebt_15 : decode cX11_isNoDebt 15 = .ok (.iconst 1, 1) := by decide +kernel
theorem dX11_isNoDebt_16 : decode cX11_isNoDebt 16 = .ok (.goto 4, 3) := by decide +kernel
theorem dX11_isNoDebt_19 : decode cX11_isNoDebt 19 = .ok (.iconst 0, 1) := by decide +kernel
theorem dX11_isNoDebt_20 : decode cX11_isNoDebt 20 = .ok (.ireturn, 1) := by decide +kernel
theorem dX11_debt_0 : decode cX11_debt 0 = .ok (.aload_n 0, 1) := by decide +kernel
theorem dX11_debt_1 : decode cX11_debt 1 = .ok (.iload_n 1, 1) := by decide +kernel
theorem dX11_debt_2 : decode cX11_debt 2 = .ok (.invokevirtual 148, 3) := by decide +kernel
theorem dX11_debt_5 : decode cX11_debt 5 = .ok (.ifCond .eq 6, 3) := by decide +kernel
theorem dX11_debt_8 : decode cX11_debt 8 = .ok (.bipush (-101), 2) := by decide +kernel
theorem dX11_debt_10 : decode cX11_debt 10 = .ok (.ireturn, 1) := by decide +kernel
theorem dX11_debt_11 : decode cX11_debt 11 = .ok (.iload_n 2, 1) := by decide +kernel
theorem dX11_debt_12 : decode cX11_debt 12 = .ok (.tableswitch 107 0 5 #[40, 50, 60, 70, 80, 89], 40) := by decide +kernel
theorem dX11_debt_52 : decode cX11_debt 52 = .ok (.aload_n 0, 1) := by decide +kernel
theorem dX11_debt_53 : decode cX11_debt 53 = .ok (.getfield 19, 3) := by decide +kernel
theorem dX11_debt_56 : decode cX11_debt 56 = .ok (.getfield 151, 3) := by decide +kernel
theorem dX11_debt_59 : decode cX11_debt 59 = .ok (.iload_n 1, 1) := by decide +kernel
theorem dX11_debt_60 : decode cX11_debt 60 = .ok (.iaload, 1) := by decide +kernel
theorem dX11_debt_61 : decode cX11_debt 61 = .ok (.ireturn, 1) := by decide +kernel
theorem dX11_debt_62 : decode cX11_debt 62 = .ok (.aload_n 0, 1) := by decide +kernel
theorem dX11_debt_63 : decode cX11_debt 63 = .ok (.getfield 19, 3) := by decide +kernel
theorem dX11_debt_66 : decode cX11_debt 66 = .ok (.getfield 154, 3) := by decide +kernel
theorem dX11_debt_69 : decode cX11_debt 69 = .ok (.iload_n 1, 1) := by decide +kernel
theorem dX11_debt_70 : decode cX11_debt 70 = .ok (.iaload, 1) := by decide +kernel
theorem dX11_debt_71 : decode cX11_debt 71 = .ok (.ireturn, 1) := by decide +kernel
theorem dX11_debt_72 : decode cX11_debt 72 = .ok (.aload_n 0, 1) := by decide +kernel
theorem dX11_debt_73 : decode cX11_debt 73 = .ok (.getfield 19, 3) := by decide +kernel
theorem dX11_debt_76 : decode cX11_debt 76 = .ok (.getfield 157, 3) := by decide +kernel
theorem dX11_debt_79 : decode cX11_debt 79 = .ok (.iload_n 1, 1) := by decide +kernel
theorem dX11_debt_80 : decode cX11_debt 80 = .ok (.iaload, 1) := by decide +kernel
theorem dX11_debt_81 : decode cX11_debt 81 = .ok (.ireturn, 1) := by decide +kernel
theorem dX11_debt_82 : decode cX11_debt 82 = .ok (.aload_n 0, 1) := by decide +kernel
theorem dX11_debt_83 : decode cX11_debt 83 = .ok (.getfield 28, 3) := by decide +kernel
theorem dX11_debt_86 : decode cX11_debt 86 = .ok (.getfield 160, 3) := by decide +kernel
theorem dX11_debt_89 : decode cX11_debt 89 = .ok (.iload_n 1, 1) := by decide +kernel
theorem dX11_debt_90 : decode cX11_debt 90 = .ok (.iaload, 1) := by decide +kernel
theorem dX11_debt_91 : decode cX11_debt 91 = .ok (.ireturn, 1) := by decide +kernel
theorem dX11_debt_92 : decode cX11_debt 92 = .ok (.aload_n 0, 1) := by decide +kernel
theorem dX11_debt_93 : decode cX11_debt 93 = .ok (.getfield 28, 3) := by decide +kernel
theorem dX11_debt_96 : decode cX11_debt 96 = .ok (.iload_n 1, 1) := by decide +kernel
theorem dX11_debt_97 : decode cX11_debt 97 = .ok (.invokevirtual 163, 3) := by decide +kernel
theorem dX11_debt_100 : decode cX11_debt 100 = .ok (.ireturn, 1) := by decide +kernel
theorem dX11_debt_101 : decode cX11_debt 101 = .ok (.aload_n 0, 1) := by decide +kernel
theorem dX11_debt_102 : decode cX11_debt 102 = .ok (.getfield 28, 3) := by decide +kernel
theorem dX11_debt_105 : decode cX11_debt 105 = .ok (.getfield 166, 3) := by decide +kernel
theorem dX11_debt_108 : decode cX11_debt 108 = .ok (.iload_n 1, 1) := by decide +kernel
theorem dX11_debt_109 : decode cX11_debt 109 = .ok (.baload, 1) := by decide +kernel
theorem dX11_debt_110 : decode cX11_debt 110 = .ok (.ifCond .eq 7, 3) := by decide +kernel
theorem dX11_debt_113 : decode cX11_debt 113 = .ok (.iconst 1, 1) := by decide +kernel
theorem dX11_debt_114 : decode cX11_debt 114 = .ok (.goto 4, 3) := by decide +kernel
theorem dX11_debt_117 : decode cX11_debt 117 = .ok (.iconst 0, 1) := by decide +kernel
theorem dX11_debt_118 : decode cX11_debt 118 = .ok (.ireturn, 1) := by decide +kernel
theorem dX11_debt_119 : decode cX11_debt 119 = .ok (.bipush (-102), 2) := by decide +kernel
theorem dX11_debt_121 : decode cX11_debt 121 = .ok (.ireturn, 1) := by decide +kernel
theorem dX4_roomBeyond_0 : decode cX4_roomBeyond 0 = .ok (.aload_n 0, 1) := by decide +kernel
theorem dX4_roomBeyond_1 : decode cX4_roomBeyond 1 = .ok (.getfield 9, 3) := by decide +kernel
theorem dX4_roomBeyond_4 : decode cX4_roomBeyond 4 = .ok (.iload_n 1, 1) := by decide +kernel
theorem dX4_roomBeyond_5 : decode cX4_roomBeyond 5 = .ok (.iaload, 1) := by decide +kernel
theorem dX4_roomBeyond_6 : decode cX4_roomBeyond 6 = .ok (.iload_n 2, 1) := by decide +kernel
theorem dX4_roomBeyond_7 : decode cX4_roomBeyond 7 = .ok (.if_icmp .ne 12, 3) := by decide +kernel
theorem dX4_roomBeyond_10 : decode cX4_roomBeyond 10 = .ok (.aload_n 0, 1) := by decide +kernel
theorem dX4_roomBeyond_11 : decode cX4_roomBeyond 11 = .ok (.getfield 15, 3) := by decide +kernel
theorem dX4_roomBeyond_14 : decode cX4_roomBeyond 14 = .ok (.iload_n 1, 1) := by decide +kernel
theorem dX4_roomBeyond_15 : decode cX4_roomBeyond 15 = .ok (.iaload, 1) := by decide +kernel
theorem dX4_roomBeyond_16 : decode cX4_roomBeyond 16 = .ok (.goto 9, 3) := by decide +kernel
theorem dX4_roomBeyond_19 : decode cX4_roomBeyond 19 = .ok (.aload_n 0, 1) := by decide +kernel
theorem dX4_roomBeyond_20 : decode cX4_roomBeyond 20 = .ok (.getfield 9, 3) := by decide +kernel
theorem dX4_roomBeyond_23 : decode cX4_roomBeyond 23 = .ok (.iload_n 1, 1) := by decide +kernel
theorem dX4_roomBeyond_24 : decode cX4_roomBeyond 24 = .ok (.iaload, 1) := by decide +kernel
theorem dX4_roomBeyond_25 : decode cX4_roomBeyond 25 = .ok (.ireturn, 1) := by decide +kernel
theorem dX0_goThrough_0 : decode cX0_goThrough 0 = .ok (.aload_n 0, 1) := by decide +kernel
theorem dX0_goThrough_1 : decode cX0_goThrough 1 = .ok (.getfield 15, 3) := by decide +kernel
theorem dX0_goThrough_4 : decode cX0_goThrough 4 = .ok (.iload_n 1, 1) := by decide +kernel
theorem dX0_goThrough_5 : decode cX0_goThrough 5 = .ok (.aload_n 0, 1) := by decide +kernel
theorem dX0_goThrough_6 : decode cX0_goThrough 6 = .ok (.getfield 34, 3) := by decide +kernel
theorem dX0_goThrough_9 : decode cX0_goThrough 9 = .ok (.iload_n 2, 1) := by decide +kernel
theorem dX0_goThrough_10 : decode cX0_goThrough 10 = .ok (.aload_n 0, 1) := by decide +kernel
theorem dX0_goThrough_11 : decode cX0_goThrough 11 = .ok (.getfield 15, 3) := by decide +kernel
theorem dX0_goThrough_14 : decode cX0_goThrough 14 = .ok (.iload_n 1, 1) := by decide +kernel
theorem dX0_goThrough_15 : decode cX0_goThrough 15 = .ok (.iaload, 1) := by decide +kernel
theorem dX0_goThrough_16 : decode cX0_goThrough 16 = .ok (.invokevirtual 67, 3) := by decide +kernel
theorem dX0_goThrough_19 : decode cX0_goThrough 19 = .ok (.iastore, 1) := by decide +kernel
theorem dX0_goThrough_20 : decode cX0_goThrough 20 = .ok (.aload_n 0, 1) := by decide +kernel
theorem dX0_goThrough_21 : decode cX0_goThrough 21 = .ok (.dup, 1) := by decide +kernel
theorem dX0_goThrough_22 : decode cX0_goThrough 22 = .ok (.getfield 42, 3) := by decide +kernel
theorem dX0_goThrough_25 : decode cX0_goThrough 25 = .ok (.iconst 1, 1) := by decide +kernel
theorem dX0_goThrough_26 : decode cX0_goThrough 26 = .ok (.iadd, 1) := by decide +kernel
theorem dX0_goThrough_27 : decode cX0_goThrough 27 = .ok (.putfield 42, 3) := by decide +kernel
theorem dX0_goThrough_30 : decode cX0_goThrough 30 = .ok (.return_, 1) := by decide +kernel
theorem dX11_go_0 : decode cX11_go 0 = .ok (.aload_n 0, 1) := by decide +kernel
theorem dX11_go_1 : decode cX11_go 1 = .ok (.iload_n 1, 1) := by decide +kernel
theorem dX11_go_2 : decode cX11_go 2 = .ok (.invokevirtual 93, 3) := by decide +kernel
theorem dX11_go_5 : decode cX11_go 5 = .ok (.ifCond .ne 11, 3) := by decide +kernel
theorem dX11_go_8 : decode cX11_go 8 = .ok (.aload_n 0, 1) := by decide +kernel
theorem dX11_go_9 : decode cX11_go 9 = .ok (.iload_n 2, 1) := by decide +kernel
theorem dX11_go_10 : decode cX11_go 10 = .ok (.invokevirtual 136, 3) := by decide +kernel
theorem dX11_go_13 : decode cX11_go 13 = .ok (.ifCond .eq 6, 3) := by decide +kernel
theorem dX11_go_16 : decode cX11_go 16 = .ok (.bipush (-101), 2) := by decide +kernel
theorem dX11_go_18 : decode cX11_go 18 = .ok (.ireturn, 1) := by decide +kernel
theorem dX11_go_19 : decode cX11_go 19 = .ok (.aload_n 0, 1) := by decide +kernel
theorem dX11_go_20 : decode cX11_go 20 = .ok (.getfield 28, 3) := by decide +kernel
theorem dX11_go_23 : decode cX11_go 23 = .ok (.iload_n 1, 1) := by decide +kernel
theorem dX11_go_24 : decode cX11_go 24 = .ok (.iload_n 2, 1) := by decide +kernel
theorem dX11_go_25 : decode cX11_go 25 = .ok (.invokevirtual 170, 3) := by decide +kernel
theorem dX11_go_28 : decode cX11_go 28 = .ok (.ifCond .ne 6, 3) := by decide +kernel
theorem dX11_go_31 : decode cX11_go 31 = .ok (.bipush (-103), 2) := by decide +kernel
theorem dX11_go_33 : decode cX11_go 33 = .ok (.ireturn, 1) := by decide +kernel
theorem dX11_go_34 : decode cX11_go 34 = .ok (.aload_n 0, 1) := by decide +kernel
theorem dX11_go_35 : decode cX11_go 35 = .ok (.getfield 28, 3) := by decide +kernel
theorem dX11_go_38 : decode cX11_go 38 = .ok (.getfield 173, 3) := by decide +kernel
theorem dX11_go_41 : decode cX11_go 41 = .ok (.sipush 999, 3) := by decide +kernel
theorem dX11_go_44 : decode cX11_go 44 = .ok (.if_icmp .lt 6, 3) := by decide +kernel
theorem dX11_go_47 : decode cX11_go 47 = .ok (.bipush (-104), 2) := by decide +kernel
theorem dX11_go_49 : decode cX11_go 49 = .ok (.ireturn, 1) := by decide +kernel
theorem dX11_go_50 : decode cX11_go 50 = .ok (.aload_n 0, 1) := by decide +kernel
theorem dX11_go_51 : decode cX11_go 51 = .ok (.getfield 28, 3) := by decide +kernel
theorem dX11_go_54 : decode cX11_go 54 = .ok (.iload_n 1, 1) := by decide +kernel
theorem dX11_go_55 : decode cX11_go 55 = .ok (.iload_n 2, 1) := by decide +kernel
theorem dX11_go_56 : decode cX11_go 56 = .ok (.invokevirtual 176, 3) := by decide +kernel
theorem dX11_go_59 : decode cX11_go 59 = .ok (.aload_n 0, 1) := by decide +kernel
theorem dX11_go_60 : decode cX11_go 60 = .ok (.getfield 28, 3) := by decide +kernel
theorem dX11_go_63 : decode cX11_go 63 = .ok (.getfield 110, 3) := by decide +kernel
theorem dX11_go_66 : decode cX11_go 66 = .ok (.iload_n 1, 1) := by decide +kernel
theorem dX11_go_67 : decode cX11_go 67 = .ok (.iaload, 1) := by decide +kernel
theorem dX11_go_68 : decode cX11_go 68 = .ok (.ireturn, 1) := by decide +kernel
theorem dX11_give_0 : decode cX11_give 0 = .ok (.iload_n 1, 1) := by decide +kernel
theorem dX11_give_1 : decode cX11_give 1 = .ok (.ifCond .lt 16, 3) := by decide +kernel
theorem dX11_give_4 : decode cX11_give 4 = .ok (.iload_n 1, 1) := by decide +kernel
theorem dX11_give_5 : decode cX11_give 5 = .ok (.iconst 2, 1) := by decide +kernel
theorem dX11_give_6 : decode cX11_give 6 = .ok (.if_icmp .ge 11, 3) := by decide +kernel
theorem dX11_give_9 : decode cX11_give 9 = .ok (.aload_n 0, 1) := by decide +kernel
theorem dX11_give_10 : decode cX11_give 10 = .ok (.iload_n 2, 1) := by decide +kernel
theorem dX11_give_11 : decode cX11_give 11 = .ok (.invokevirtual 93, 3) := by decide +kernel
theorem dX11_give_14 : decode cX11_give 14 = .ok (.ifCond .eq 6, 3) := by decide +kernel
theorem dX11_give_17 : decode cX11_give 17 = .ok (.bipush (-101), 2) := by decide +kernel
theorem dX11_give_19 : decode cX11_give 19 = .ok (.ireturn, 1) := by decide +kernel
theorem dX11_give_20 : decode cX11_give 20 = .ok (.aload_n 0, 1) := by decide +kernel
theorem dX11_give_21 : decode cX11_give 21 = .ok (.getfield 28, 3) := by decide +kernel
theorem dX11_give_24 : decode cX11_give 24 = .ok (.getfield 180, 3) := by decide +kernel
theorem dX11_give_27 : decode cX11_give 27 = .ok (.iload_n 1, 1) := by decide +kernel
theorem dX11_give_28 : decode cX11_give 28 = .ok (.iaload, 1) := by decide +kernel
theorem dX11_give_29 : decode cX11_give 29 = .ok (.istore_n 3, 1) := by decide +kernel
theorem dX11_give_30 : decode cX11_give 30 = .ok (.iload_n 3, 1) := by decide +kernel
theorem dX11_give_31 : decode cX11_give 31 = .ok (.iload_n 2, 1) := by decide +kernel
theorem dX11_give_32 : decode cX11_give 32 = .ok (.if_icmp .eq 24, 3) := by decide +kernel
theorem dX11_give_35 : decode cX11_give 35 = .ok (.aload_n 0, 1) := by decide +kernel
theorem dX11_give_36 : decode cX11_give 36 = .ok (.getfield 28, 3) := by decide +kernel
theorem dX11_give_39 : decode cX11_give 39 = .ok (.getfield 110, 3) := by decide +kernel
theorem dX11_give_42 : decode cX11_give 42 = .ok (.iload_n 3, 1) := by decide +kernel
theorem dX11_give_43 : decode cX11_give 43 = .ok (.iaload, 1) := by decide +kernel
theorem dX11_give_44 : decode cX11_give 44 = .ok (.aload_n 0, 1) := by decide +kernel
theorem dX11_give_45 : decode cX11_give 45 = .ok (.getfield 28, 3) := by decide +kernel
theorem dX11_give_48 : decode cX11_give 48 = .ok (.getfield 110, 3) := by decide +kernel
theorem dX11_give_51 : decode cX11_give 51 = .ok (.iload_n 2, 1) := by decide +kernel
theorem dX11_give_52 : decode cX11_give 52 = .ok (.iaload, 1) := by decide +kernel
theorem dX11_give_53 : decode cX11_give 53 = .ok (.if_icmp .eq 6, 3) := by decide +kernel
theorem dX11_give_56 : decode cX11_give 56 = .ok (.bipush (-103), 2) := by decide +kernel
theorem dX11_give_58 : decode cX11_give 58 = .ok (.ireturn, 1) := by decide +kernel
theorem dX11_give_59 : decode cX11_give 59 = .ok (.aload_n 0, 1) := by decide +kernel
theorem dX11_give_60 : decode cX11_give 60 = .ok (.getfield 28, 3) := by decide +kernel
theorem dX11_give_63 : decode cX11_give 63 = .ok (.getfield 180, 3) := by decide +kernel
theorem dX11_give_66 : decode cX11_give 66 = .ok (.iload_n 1, 1) := by decide +kernel
theorem dX11_give_67 : decode cX11_give 67 = .ok (.iload_n 2, 1) := by decide +kernel
theorem dX11_give_68 : decode cX11_give 68 = .ok (.iastore, 1) := by decide +kernel
theorem dX11_give_69 : decode cX11_give 69 = .ok (.iload_n 3, 1) := by decide +kernel
theorem dX11_give_70 : decode cX11_give 70 = .ok (.ireturn, 1) := by decide +kernel
theorem dX0_settle_0 : decode cX0_settle 0 = .ok (.aload_n 0, 1) := by decide +kernel
theorem dX0_settle_1 : decode cX0_settle 1 = .ok (.getfield 34, 3) := by decide +kernel
theorem dX0_settle_4 : decode cX0_settle 4 = .ok (.getfield 84, 3) := by decide +kernel
theorem dX0_settle_7 : decode cX0_settle 7 = .ok (.iload_n 1, 1) := by decide +kernel
theorem dX0_settle_8 : decode cX0_settle 8 = .ok (.iaload, 1) := by decide +kernel
theorem dX0_settle_9 : decode cX0_settle 9 = .ok (.istore_n 2, 1) := by decide +kernel
theorem dX0_settle_10 : decode cX0_settle 10 = .ok (.aload_n 0, 1) := by decide +kernel
theorem dX0_settle_11 : decode cX0_settle 11 = .ok (.getfield 9, 3) := by decide +kernel
theorem dX0_settle_14 : decode cX0_settle 14 = .ok (.aload_n 0, 1) := by decide +kernel
theorem dX0_settle_15 : decode cX0_settle 15 = .ok (.getfield 34, 3) := by decide +kernel
theorem dX0_settle_18 : decode cX0_settle 18 = .ok (.getfield 71, 3) := by decide +kernel
theorem dX0_settle_21 : decode cX0_settle 21 = .ok (.iload_n 1, 1) := by decide +kernel
theorem dX0_settle_22 : decode cX0_settle 22 = .ok (.iaload, 1) := by decide +kernel
theorem dX0_settle_23 : decode cX0_settle 23 = .ok (.dup2, 1) := by decide +kernel
theorem dX0_settle_24 : decode cX0_settle 24 = .ok (.iaload, 1) := by decide +kernel
theorem dX0_settle_25 : decode cX0_settle 25 = .ok (.aload_n 0, 1) := by decide +kernel
theorem dX0_settle_26 : decode cX0_settle 26 = .ok (.iload_n 1, 1) := by decide +kernel
theorem dX0_settle_27 : decode cX0_settle 27 = .ok (.invokevirtual 78, 3) := by decide +kernel
theorem dX0_settle_30 : decode cX0_settle 30 = .ok (.isub, 1) := by decide +kernel
theorem dX0_settle_31 : decode cX0_settle 31 = .ok (.iastore, 1) := by decide +kernel
theorem dX0_settle_32 : decode cX0_settle 32 = .ok (.aload_n 0, 1) := by decide +kernel
theorem dX0_settle_33 : decode cX0_settle 33 = .ok (.getfield 9, 3) := by decide +kernel
theorem dX0_settle_36 : decode cX0_settle 36 = .ok (.iload_n 2, 1) := by decide +kernel
theorem dX0_settle_37 : decode cX0_settle 37 = .ok (.bipush 99, 2) := by decide +kernel
theorem dX0_settle_39 : decode cX0_settle 39 = .ok (.aload_n 0, 1) := by decide +kernel
theorem dX0_settle_40 : decode cX0_settle 40 = .ok (.getfield 9, 3) := by decide +kernel
theorem dX0_settle_43 : decode cX0_settle 43 = .ok (.iload_n 2, 1) := by decide +kernel
theorem dX0_settle_44 : decode cX0_settle 44 = .ok (.iaload, 1) := by decide +kernel
theorem dX0_settle_45 : decode cX0_settle 45 = .ok (.aload_n 0, 1) := by decide +kernel
theorem dX0_settle_46 : decode cX0_settle 46 = .ok (.getfield 21, 3) := by decide +kernel
theorem dX0_settle_49 : decode cX0_settle 49 = .ok (.iload_n 1, 1) := by decide +kernel
theorem dX0_settle_50 : decode cX0_settle 50 = .ok (.iaload, 1) := by decide +kernel
theorem dX0_settle_51 : decode cX0_settle 51 = .ok (.iadd, 1) := by decide +kernel
theorem dX0_settle_52 : decode cX0_settle 52 = .ok (.invokestatic 90, 3) := by decide +kernel
theorem dX0_settle_55 : decode cX0_settle 55 = .ok (.iastore, 1) := by decide +kernel
theorem dX0_settle_56 : decode cX0_settle 56 = .ok (.aload_n 0, 1) := by decide +kernel
theorem dX0_settle_57 : decode cX0_settle 57 = .ok (.getfield 24, 3) := by decide +kernel
theorem dX0_settle_60 : decode cX0_settle 60 = .ok (.iload_n 1, 1) := by decide +kernel
theorem dX0_settle_61 : decode cX0_settle 61 = .ok (.iconst 1, 1) := by decide +kernel
theorem dX0_settle_62 : decode cX0_settle 62 = .ok (.bastore, 1) := by decide +kernel
theorem dX0_settle_63 : decode cX0_settle 63 = .ok (.return_, 1) := by decide +kernel
theorem dX11_pay_0 : decode cX11_pay 0 = .ok (.aload_n 0, 1) := by decide +kernel
theorem dX11_pay_1 : decode cX11_pay 1 = .ok (.iload_n 1, 1) := by decide +kernel
theorem dX11_pay_2 : decode cX11_pay 2 = .ok (.invokevirtual 148, 3) := by decide +kernel
theorem dX11_pay_5 : decode cX11_pay 5 = .ok (.ifCond .eq 6, 3) := by decide +kernel
theorem dX11_pay_8 : decode cX11_pay 8 = .ok (.bipush (-101), 2) := by decide +kernel
theorem dX11_pay_10 : decode cX11_pay 10 = .ok (.ireturn, 1) := by decide +kernel
theorem dX11_pay_11 : decode cX11_pay 11 = .ok (.aload_n 0, 1) := by decide +kernel
theorem dX11_pay_12 : decode cX11_pay 12 = .ok (.getfield 28, 3) := by decide +kernel
theorem dX11_pay_15 : decode cX11_pay 15 = .ok (.iload_n 1, 1) := by decide +kernel
theorem dX11_pay_16 : decode cX11_pay 16 = .ok (.invokevirtual 183, 3) := by decide +kernel
theorem dX11_pay_19 : decode cX11_pay 19 = .ok (.ifCond .ne 6, 3) := by decide +kernel
theorem dX11_pay_22 : decode cX11_pay 22 = .ok (.bipush (-103), 2) := by decide +kernel
theorem dX11_pay_24 : decode cX11_pay 24 = .ok (.ireturn, 1) := by decide +kernel
theorem dX11_pay_25 : decode cX11_pay 25 = .ok (.aload_n 0, 1) := by decide +kernel
theorem dX11_pay_26 : decode cX11_pay 26 = .ok (.getfield 28, 3) := by decide +kernel
theorem dX11_pay_29 : decode cX11_pay 29 = .ok (.iload_n 1, 1) := by decide +kernel
theorem dX11_pay_30 : decode cX11_pay 30 = .ok (.invokevirtual 186, 3) := by decide +kernel
theorem dX11_pay_33 : decode cX11_pay 33 = .ok (.aload_n 0, 1) := by decide +kernel
theorem dX11_pay_34 : decode cX11_pay 34 = .ok (.getfield 28, 3) := by decide +kernel
theorem dX11_pay_37 : decode cX11_pay 37 = .ok (.getfield 106, 3) := by decide +kernel
theorem dX11_pay_40 : decode cX11_pay 40 = .ok (.aload_n 0, 1) := by decide +kernel
theorem dX11_pay_41 : decode cX11_pay 41 = .ok (.getfield 19, 3) := by decide +kernel
theorem dX11_pay_44 : decode cX11_pay 44 = .ok (.getfield 151, 3) := by decide +kernel
theorem dX11_pay_47 : decode cX11_pay 47 = .ok (.iload_n 1, 1) := by decide +kernel
theorem dX11_pay_48 : decode cX11_pay 48 = .ok (.iaload, 1) := by decide +kernel
theorem dX11_pay_49 : decode cX11_pay 49 = .ok (.iaload, 1) := by decide +kernel
theorem dX11_pay_50 : decode cX11_pay 50 = .ok (.ireturn, 1) := by decide +kernel
theorem dX11_earn_0 : decode cX11_earn 0 = .ok (.aload_n 0, 1) := by decide +kernel
theorem dX11_earn_1 : decode cX11_earn 1 = .ok (.iload_n 1, 1) := by decide +kernel
theorem dX11_earn_2 : decode cX11_earn 2 = .ok (.invokevirtual 93, 3) := by decide +kernel
theorem dX11_earn_5 : decode cX11_earn 5 = .ok (.ifCond .eq 6, 3) := by decide +kernel
theorem dX11_earn_8 : decode cX11_earn 8 = .ok (.bipush (-101), 2) := by decide +kernel
theorem dX11_earn_10 : decode cX11_earn 10 = .ok (.ireturn, 1) := by decide +kernel
theorem dX11_earn_11 : decode cX11_earn 11 = .ok (.iload_n 2, 1) := by decide +kernel
theorem dX11_earn_12 : decode cX11_earn 12 = .ok (.iconst 1, 1) := by decide +kernel
theorem dX11_earn_13 : decode cX11_earn 13 = .ok (.if_icmp .lt 9, 3) := by decide +kernel
theorem dX11_earn_16 : decode cX11_earn 16 = .ok (.iload_n 2, 1) := by decide +kernel
theorem dX11_earn_17 : decode cX11_earn 17 = .ok (.bipush 9, 2) := by decide +kernel
theorem dX11_earn_19 : decode cX11_earn 19 = .ok (.if_icmp .le 6, 3) := by decide +kernel
theorem dX11_earn_22 : decode cX11_earn 22 = .ok (.bipush (-102), 2) := by decide +kernel
theorem dX11_earn_24 : decode cX11_earn 24 = .ok (.ireturn, 1) := by decide +kernel
theorem dX11_earn_25 : decode cX11_earn 25 = .ok (.aload_n 0, 1) := by decide +kernel
theorem dX11_earn_26 : decode cX11_earn 26 = .ok (.getfield 28, 3) := by decide +kernel
theorem dX11_earn_29 : decode cX11_earn 29 = .ok (.getfield 106, 3) := by decide +kernel
theorem dX11_earn_32 : decode cX11_earn 32 = .ok (.iload_n 1, 1) := by decide +kernel
theorem dX11_earn_33 : decode cX11_earn 33 = .ok (.iaload, 1) := by decide +kernel
theorem dX11_earn_34 : decode cX11_earn 34 = .ok (.iload_n 2, 1) := by decide +kernel
theorem dX11_earn_35 : decode cX11_earn 35 = .ok (.iadd, 1) := by decide +kernel
theorem dX11_earn_36 : decode cX11_earn 36 = .ok (.bipush 99, 2) := by decide +kernel
theorem dX11_earn_38 : decode cX11_earn 38 = .ok (.if_icmp .le 6, 3) := by decide +kernel
theorem dX11_earn_41 : decode cX11_earn 41 = .ok (.bipush (-104), 2) := by decide +kernel
theorem dX11_earn_43 : decode cX11_earn 43 = .ok (.ireturn, 1) := by decide +kernel
theorem dX11_earn_44 : decode cX11_earn 44 = .ok (.aload_n 0, 1) := by decide +kernel
theorem dX11_earn_45 : decode cX11_earn 45 = .ok (.getfield 28, 3) := by decide +kernel
