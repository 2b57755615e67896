theorem dX12_as_0 : decode cX12_as 0 = .ok (.aload_n 0, 1) := by decide +kernel
theorem dX12_as_1 : decode cX12_as 1 = .ok (.iload_n 1, 1) := by decide +kernel
theorem dX12_as_2 : decode cX12_as 2 = .ok (.invokevirtual 215, 3) := by decide +kernel
theorem dX12_as_5 : decode cX12_as 5 = .ok (.ifCond .ne 6, 3) := by decide +kernel
theorem dX12_as_8 : decode cX12_as 8 = .ok (.bipush (-101), 2) := by decide +kernel
theorem dX12_as_10 : decode cX12_as 10 = .ok (.ireturn, 1) := by decide +kernel
theorem dX12_as_11 : decode cX12_as 11 = .ok (.iload_n 2, 1) := by decide +kernel
theorem dX12_as_12 : decode cX12_as 12 = .ok (.i2l, 1) := by decide +kernel
theorem dX12_as_13 : decode cX12_as 13 = .ok (.lconst 0, 1) := by decide +kernel
theorem dX12_as_14 : decode cX12_as 14 = .ok (.ldc2_w 222, 3) := by decide +kernel
theorem dX12_as_17 : decode cX12_as 17 = .ok (.invokestatic 103, 3) := by decide +kernel
theorem dX12_as_20 : decode cX12_as 20 = .ok (.ifCond .ne 6, 3) := by decide +kernel
theorem dX12_as_23 : decode cX12_as 23 = .ok (.bipush (-102), 2) := by decide +kernel
theorem dX12_as_25 : decode cX12_as 25 = .ok (.ireturn, 1) := by decide +kernel
theorem dX12_as_26 : decode cX12_as 26 = .ok (.iload_n 2, 1) := by decide +kernel
theorem dX12_as_27 : decode cX12_as 27 = .ok (.ifCond .eq 28, 3) := by decide +kernel
theorem dX12_as_30 : decode cX12_as 30 = .ok (.iload_n 2, 1) := by decide +kernel
theorem dX12_as_31 : decode cX12_as 31 = .ok (.aload_n 0, 1) := by decide +kernel
theorem dX12_as_32 : decode cX12_as 32 = .ok (.getfield 22, 3) := by decide +kernel
theorem dX12_as_35 : decode cX12_as 35 = .ok (.iload_n 1, 1) := by decide +kernel
theorem dX12_as_36 : decode cX12_as 36 = .ok (.iaload, 1) := by decide +kernel
theorem dX12_as_37 : decode cX12_as 37 = .ok (.if_icmp .eq 18, 3) := by decide +kernel
theorem dX12_as_40 : decode cX12_as 40 = .ok (.iload_n 2, 1) := by decide +kernel
theorem dX12_as_41 : decode cX12_as 41 = .ok (.iconst 1, 1) := by decide +kernel
theorem dX12_as_42 : decode cX12_as 42 = .ok (.if_icmp .ne 17, 3) := by decide +kernel
theorem dX12_as_45 : decode cX12_as 45 = .ok (.aload_n 0, 1) := by decide +kernel
theorem dX12_as_46 : decode cX12_as 46 = .ok (.getfield 22, 3) := by decide +kernel
theorem dX12_as_49 : decode cX12_as 49 = .ok (.iload_n 1, 1) := by decide +kernel
theorem dX12_as_50 : decode cX12_as 50 = .ok (.iaload, 1) := by decide +kernel
theorem dX12_as_51 : decode cX12_as 51 = .ok (.iconst 4, 1) := by decide +kernel
theorem dX12_as_52 : decode cX12_as 52 = .ok (.if_icmp .ne 7, 3) := by decide +kernel
theorem dX12_as_55 : decode cX12_as 55 = .ok (.iconst 1, 1) := by decide +kernel
theorem dX12_as_56 : decode cX12_as 56 = .ok (.goto 4, 3) := by decide +kernel
theorem dX12_as_59 : decode cX12_as 59 = .ok (.iconst 0, 1) := by decide +kernel
theorem dX12_as_60 : decode cX12_as 60 = .ok (.istore_n 3, 1) := by decide +kernel
theorem dX12_as_61 : decode cX12_as 61 = .ok (.iload_n 3, 1) := by decide +kernel
theorem dX12_as_62 : decode cX12_as 62 = .ok (.ifCond .eq 7, 3) := by decide +kernel
theorem dX12_as_65 : decode cX12_as 65 = .ok (.iload_n 1, 1) := by decide +kernel
theorem dX12_as_66 : decode cX12_as 66 = .ok (.goto 4, 3) := by decide +kernel
theorem dX12_as_69 : decode cX12_as 69 = .ok (.iconst (-1), 1) := by decide +kernel
theorem dX12_as_70 : decode cX12_as 70 = .ok (.ireturn, 1) := by decide +kernel
theorem dX12_tellDoor_0 : decode cX12_tellDoor 0 = .ok (.iload_n 2, 1) := by decide +kernel
theorem dX12_tellDoor_1 : decode cX12_tellDoor 1 = .ok (.tableswitch 48 0 2 #[27, 34, 41], 27) := by decide +kernel
theorem dX12_tellDoor_28 : decode cX12_tellDoor 28 = .ok (.aload_n 0, 1) := by decide +kernel
theorem dX12_tellDoor_29 : decode cX12_tellDoor 29 = .ok (.getfield 13, 3) := by decide +kernel
theorem dX12_tellDoor_32 : decode cX12_tellDoor 32 = .ok (.iload_n 1, 1) := by decide +kernel
theorem dX12_tellDoor_33 : decode cX12_tellDoor 33 = .ok (.iaload, 1) := by decide +kernel
theorem dX12_tellDoor_34 : decode cX12_tellDoor 34 = .ok (.ireturn, 1) := by decide +kernel
theorem dX12_tellDoor_35 : decode cX12_tellDoor 35 = .ok (.aload_n 0, 1) := by decide +kernel
theorem dX12_tellDoor_36 : decode cX12_tellDoor 36 = .ok (.getfield 16, 3) := by decide +kernel
theorem dX12_tellDoor_39 : decode cX12_tellDoor 39 = .ok (.iload_n 1, 1) := by decide +kernel
theorem dX12_tellDoor_40 : decode cX12_tellDoor 40 = .ok (.iaload, 1) := by decide +kernel
theorem dX12_tellDoor_41 : decode cX12_tellDoor 41 = .ok (.ireturn, 1) := by decide +kernel
theorem dX12_tellDoor_42 : decode cX12_tellDoor 42 = .ok (.aload_n 0, 1) := by decide +kernel
theorem dX12_tellDoor_43 : decode cX12_tellDoor 43 = .ok (.getfield 19, 3) := by decide +kernel
theorem dX12_tellDoor_46 : decode cX12_tellDoor 46 = .ok (.iload_n 1, 1) := by decide +kernel
theorem dX12_tellDoor_47 : decode cX12_tellDoor 47 = .ok (.iaload, 1) := by decide +kernel
theorem dX12_tellDoor_48 : decode cX12_tellDoor 48 = .ok (.ireturn, 1) := by decide +kernel
theorem dX12_tellDoor_49 : decode cX12_tellDoor 49 = .ok (.bipush (-102), 2) := by decide +kernel
theorem dX12_tellDoor_51 : decode cX12_tellDoor 51 = .ok (.ireturn, 1) := by decide +kernel
theorem dX12_door_0 : decode cX12_door 0 = .ok (.aload_n 0, 1) := by decide +kernel
theorem dX12_door_1 : decode cX12_door 1 = .ok (.iload_n 1, 1) := by decide +kernel
theorem dX12_door_2 : decode cX12_door 2 = .ok (.invokevirtual 224, 3) := by decide +kernel
theorem dX12_door_5 : decode cX12_door 5 = .ok (.ifCond .eq 12, 3) := by decide +kernel
theorem dX12_door_8 : decode cX12_door 8 = .ok (.aload_n 0, 1) := by decide +kernel
theorem dX12_door_9 : decode cX12_door 9 = .ok (.iload_n 1, 1) := by decide +kernel
theorem dX12_door_10 : decode cX12_door 10 = .ok (.iload_n 2, 1) := by decide +kernel
theorem dX12_door_11 : decode cX12_door 11 = .ok (.invokevirtual 227, 3) := by decide +kernel
theorem dX12_door_14 : decode cX12_door 14 = .ok (.goto 5, 3) := by decide +kernel
theorem dX12_door_17 : decode cX12_door 17 = .ok (.bipush (-101), 2) := by decide +kernel
theorem dX12_door_19 : decode cX12_door 19 = .ok (.ireturn, 1) := by decide +kernel
theorem dX12_tellDebt_0 : decode cX12_tellDebt 0 = .ok (.iload_n 2, 1) := by decide +kernel
theorem dX12_tellDebt_1 : decode cX12_tellDebt 1 = .ok (.tableswitch 80 0 5 #[39, 46, 53, 60, 67, 73], 39) := by decide +kernel
theorem dX12_tellDebt_40 : decode cX12_tellDebt 40 = .ok (.aload_n 0, 1) := by decide +kernel
theorem dX12_tellDebt_41 : decode cX12_tellDebt 41 = .ok (.getfield 34, 3) := by decide +kernel
theorem dX12_tellDebt_44 : decode cX12_tellDebt 44 = .ok (.iload_n 1, 1) := by decide +kernel
theorem dX12_tellDebt_45 : decode cX12_tellDebt 45 = .ok (.iaload, 1) := by decide +kernel
theorem dX12_tellDebt_46 : decode cX12_tellDebt 46 = .ok (.ireturn, 1) := by decide +kernel
theorem dX12_tellDebt_47 : decode cX12_tellDebt 47 = .ok (.aload_n 0, 1) := by decide +kernel
theorem dX12_tellDebt_48 : decode cX12_tellDebt 48 = .ok (.getfield 37, 3) := by decide +kernel
theorem dX12_tellDebt_51 : decode cX12_tellDebt 51 = .ok (.iload_n 1, 1) := by decide +kernel
theorem dX12_tellDebt_52 : decode cX12_tellDebt 52 = .ok (.iaload, 1) := by decide +kernel
theorem dX12_tellDebt_53 : decode cX12_tellDebt 53 = .ok (.ireturn, 1) := by decide +kernel
theorem dX12_tellDebt_54 : decode cX12_tellDebt 54 = .ok (.aload_n 0, 1) := by decide +kernel
theorem dX12_tellDebt_55 : decode cX12_tellDebt 55 = .ok (.getfield 40, 3) := by decide +kernel
theorem dX12_tellDebt_58 : decode cX12_tellDebt 58 = .ok (.iload_n 1, 1) := by decide +kernel
theorem dX12_tellDebt_59 : decode cX12_tellDebt 59 = .ok (.iaload, 1) := by decide +kernel
theorem dX12_tellDebt_60 : decode cX12_tellDebt 60 = .ok (.ireturn, 1) := by decide +kernel
theorem dX12_tellDebt_61 : decode cX12_tellDebt 61 = .ok (.aload_n 0, 1) := by decide +kernel
theorem dX12_tellDebt_62 : decode cX12_tellDebt 62 = .ok (.getfield 43, 3) := by decide +kernel
theorem dX12_tellDebt_65 : decode cX12_tellDebt 65 = .ok (.iload_n 1, 1) := by decide +kernel
theorem dX12_tellDebt_66 : decode cX12_tellDebt 66 = .ok (.iaload, 1) := by decide +kernel
theorem dX12_tellDebt_67 : decode cX12_tellDebt 67 = .ok (.ireturn, 1) := by decide +kernel
theorem dX12_tellDebt_68 : decode cX12_tellDebt 68 = .ok (.aload_n 0, 1) := by decide +kernel
theorem dX12_tellDebt_69 : decode cX12_tellDebt 69 = .ok (.iload_n 1, 1) := by decide +kernel
theorem dX12_tellDebt_70 : decode cX12_tellDebt 70 = .ok (.invokevirtual 184, 3) := by decide +kernel
theorem dX12_tellDebt_73 : decode cX12_tellDebt 73 = .ok (.ireturn, 1) := by decide +kernel
theorem dX12_tellDebt_74 : decode cX12_tellDebt 74 = .ok (.aload_n 0, 1) := by decide +kernel
theorem dX12_tellDebt_75 : decode cX12_tellDebt 75 = .ok (.getfield 46, 3) := by decide +kernel
theorem dX12_tellDebt_78 : decode cX12_tellDebt 78 = .ok (.iload_n 1, 1) := by decide +kernel
theorem dX12_tellDebt_79 : decode cX12_tellDebt 79 = .ok (.iaload, 1) := by decide +kernel
theorem dX12_tellDebt_80 : decode cX12_tellDebt 80 = .ok (.ireturn, 1) := by decide +kernel
theorem dX12_tellDebt_81 : decode cX12_tellDebt 81 = .ok (.bipush (-102), 2) := by decide +kernel
theorem dX12_tellDebt_83 : decode cX12_tellDebt 83 = .ok (.ireturn, 1) := by decide +kernel
theorem dX12_debt_0 : decode cX12_debt 0 = .ok (.aload_n 0, 1) := by decide +kernel
theorem dX12_debt_1 : decode cX12_debt 1 = .ok (.iload_n 1, 1) := by decide +kernel
theorem dX12_debt_2 : decode cX12_debt 2 = .ok (.invokevirtual 230, 3) := by decide +kernel
theorem dX12_debt_5 : decode cX12_debt 5 = .ok (.ifCond .eq 12, 3) := by decide +kernel
theorem dX12_debt_8 : decode cX12_debt 8 = .ok (.aload_n 0, 1) := by decide +kernel
theorem dX12_debt_9 : decode cX12_debt 9 = .ok (.iload_n 1, 1) := by decide +kernel
theorem dX12_debt_10 : decode cX12_debt 10 = .ok (.iload_n 2, 1) := by decide +kernel
theorem dX12_debt_11 : decode cX12_debt 11 = .ok (.invokevirtual 233, 3) := by decide +kernel
theorem dX12_debt_14 : decode cX12_debt 14 = .ok (.goto 5, 3) := by decide +kernel
theorem dX12_debt_17 : decode cX12_debt 17 = .ok (.bipush (-101), 2) := by decide +kernel
theorem dX12_debt_19 : decode cX12_debt 19 = .ok (.ireturn, 1) := by decide +kernel
theorem dX12_go_0 : decode cX12_go 0 = .ok (.aload_n 0, 1) := by decide +kernel
theorem dX12_go_1 : decode cX12_go 1 = .ok (.iload_n 1, 1) := by decide +kernel
theorem dX12_go_2 : decode cX12_go 2 = .ok (.invokevirtual 215, 3) := by decide +kernel
theorem dX12_go_5 : decode cX12_go 5 = .ok (.ifCond .eq 11, 3) := by decide +kernel
theorem dX12_go_8 : decode cX12_go 8 = .ok (.aload_n 0, 1) := by decide +kernel
theorem dX12_go_9 : decode cX12_go 9 = .ok (.iload_n 2, 1) := by decide +kernel
theorem dX12_go_10 : decode cX12_go 10 = .ok (.invokevirtual 224, 3) := by decide +kernel
theorem dX12_go_13 : decode cX12_go 13 = .ok (.ifCond .ne 6, 3) := by decide +kernel
theorem dX12_go_16 : decode cX12_go 16 = .ok (.bipush (-101), 2) := by decide +kernel
theorem dX12_go_18 : decode cX12_go 18 = .ok (.ireturn, 1) := by decide +kernel
theorem dX12_go_19 : decode cX12_go 19 = .ok (.aload_n 0, 1) := by decide +kernel
theorem dX12_go_20 : decode cX12_go 20 = .ok (.iload_n 1, 1) := by decide +kernel
theorem dX12_go_21 : decode cX12_go 21 = .ok (.iload_n 2, 1) := by decide +kernel
theorem dX12_go_22 : decode cX12_go 22 = .ok (.aload_n 0, 1) := by decide +kernel
theorem dX12_go_23 : decode cX12_go 23 = .ok (.getfield 28, 3) := by decide +kernel
theorem dX12_go_26 : decode cX12_go 26 = .ok (.iload_n 1, 1) := by decide +kernel
theorem dX12_go_27 : decode cX12_go 27 = .ok (.iaload, 1) := by decide +kernel
theorem dX12_go_28 : decode cX12_go 28 = .ok (.invokevirtual 187, 3) := by decide +kernel
theorem dX12_go_31 : decode cX12_go 31 = .ok (.istore_n 3, 1) := by decide +kernel
theorem dX12_go_32 : decode cX12_go 32 = .ok (.iload_n 3, 1) := by decide +kernel
theorem dX12_go_33 : decode cX12_go 33 = .ok (.iconst (-1), 1) := by decide +kernel
theorem dX12_go_34 : decode cX12_go 34 = .ok (.if_icmp .ne 6, 3) := by decide +kernel
theorem dX12_go_37 : decode cX12_go 37 = .ok (.bipush (-103), 2) := by decide +kernel
theorem dX12_go_39 : decode cX12_go 39 = .ok (.ireturn, 1) := by decide +kernel
theorem dX12_go_40 : decode cX12_go 40 = .ok (.aload_n 0, 1) := by decide +kernel
theorem dX12_go_41 : decode cX12_go 41 = .ok (.getfield 168, 3) := by decide +kernel
theorem dX12_go_44 : decode cX12_go 44 = .ok (.sipush 999, 3) := by decide +kernel
theorem dX12_go_47 : decode cX12_go 47 = .ok (.if_icmp .ne 6, 3) := by decide +kernel
theorem dX12_go_50 : decode cX12_go 50 = .ok (.bipush (-104), 2) := by decide +kernel
theorem dX12_go_52 : decode cX12_go 52 = .ok (.ireturn, 1) := by decide +kernel
theorem dX12_go_53 : decode cX12_go 53 = .ok (.aload_n 0, 1) := by decide +kernel
theorem dX12_go_54 : decode cX12_go 54 = .ok (.getfield 28, 3) := by decide +kernel
theorem dX12_go_57 : decode cX12_go 57 = .ok (.iload_n 1, 1) := by decide +kernel
theorem dX12_go_58 : decode cX12_go 58 = .ok (.iload_n 3, 1) := by decide +kernel
theorem dX12_go_59 : decode cX12_go 59 = .ok (.iastore, 1) := by decide +kernel
theorem dX12_go_60 : decode cX12_go 60 = .ok (.aload_n 0, 1) := by decide +kernel
theorem dX12_go_61 : decode cX12_go 61 = .ok (.dup, 1) := by decide +kernel
theorem dX12_go_62 : decode cX12_go 62 = .ok (.getfield 168, 3) := by decide +kernel
theorem dX12_go_65 : decode cX12_go 65 = .ok (.iconst 1, 1) := by decide +kernel
theorem dX12_go_66 : decode cX12_go 66 = .ok (.iadd, 1) := by decide +kernel
theorem dX12_go_67 : decode cX12_go 67 = .ok (.putfield 168, 3) := by decide +kernel
theorem dX12_go_70 : decode cX12_go 70 = .ok (.iload_n 3, 1) := by decide +kernel
theorem dX12_go_71 : decode cX12_go 71 = .ok (.ireturn, 1) := by decide +kernel
theorem dX12_give_0 : decode cX12_give 0 = .ok (.iload_n 1, 1) := by decide +kernel
theorem dX12_give_1 : decode cX12_give 1 = .ok (.i2l, 1) := by decide +kernel
theorem dX12_give_2 : decode cX12_give 2 = .ok (.lconst 0, 1) := by decide +kernel
theorem dX12_give_3 : decode cX12_give 3 = .ok (.lconst 1, 1) := by decide +kernel
theorem dX12_give_4 : decode cX12_give 4 = .ok (.invokestatic 103, 3) := by decide +kernel
theorem dX12_give_7 : decode cX12_give 7 = .ok (.ifCond .eq 11, 3) := by decide +kernel
theorem dX12_give_10 : decode cX12_give 10 = .ok (.aload_n 0, 1) := by decide +kernel
theorem dX12_give_11 : decode cX12_give 11 = .ok (.iload_n 2, 1) := by decide +kernel
theorem dX12_give_12 : decode cX12_give 12 = .ok (.invokevirtual 215, 3) := by decide +kernel
theorem dX12_give_15 : decode cX12_give 15 = .ok (.ifCond .ne 6, 3) := by decide +kernel
theorem dX12_give_18 : decode cX12_give 18 = .ok (.bipush (-101), 2) := by decide +kernel
theorem dX12_give_20 : decode cX12_give 20 = .ok (.ireturn, 1) := by decide +kernel
theorem dX12_give_21 : decode cX12_give 21 = .ok (.aload_n 0, 1) := by decide +kernel
theorem dX12_give_22 : decode cX12_give 22 = .ok (.getfield 31, 3) := by decide +kernel
theorem dX12_give_25 : decode cX12_give 25 = .ok (.iload_n 1, 1) := by decide +kernel
theorem dX12_give_26 : decode cX12_give 26 = .ok (.iaload, 1) := by decide +kernel
theorem dX12_give_27 : decode cX12_give 27 = .ok (.istore_n 3, 1) := by decide +kernel
theorem dX12_give_28 : decode cX12_give 28 = .ok (.iload_n 3, 1) := by decide +kernel
theorem dX12_give_29 : decode cX12_give 29 = .ok (.iload_n 2, 1) := by decide +kernel
theorem dX12_give_30 : decode cX12_give 30 = .ok (.if_icmp .eq 18, 3) := by decide +kernel
theorem dX12_give_33 : decode cX12_give 33 = .ok (.aload_n 0, 1) := by decide +kernel
theorem dX12_give_34 : decode cX12_give 34 = .ok (.getfield 28, 3) := by decide +kernel
theorem dX12_give_37 : decode cX12_give 37 = .ok (.iload_n 3, 1) := by decide +kernel
theorem dX12_give_38 : decode cX12_give 38 = .ok (.iaload, 1) := by decide +kernel
theorem dX12_give_39 : decode cX12_give 39 = .ok (.aload_n 0, 1) := by decide +kernel
theorem dX12_give_40 : decode cX12_give 40 = .ok (.getfield 28, 3) := by decide +kernel
theorem dX12_give_43 : decode cX12_give 43 = .ok (.iload_n 2, 1) := by decide +kernel
theorem dX12_give_44 : decode cX12_give 44 = .ok (.iaload, 1) := by decide +kernel
theorem dX12_give_45 : decode cX12_give 45 = .ok (.if_icmp .eq 6, 3) := by decide +kernel
theorem dX12_give_48 : decode cX12_give 48 = .ok (.bipush (-103), 2) := by decide +kernel
theorem dX12_give_50 : decode cX12_give 50 = .ok (.ireturn, 1) := by decide +kernel
theorem dX12_give_51 : decode cX12_give 51 = .ok (.aload_n 0, 1) := by decide +kernel
theorem dX12_give_52 : decode cX12_give 52 = .ok (.getfield 31, 3) := by decide +kernel
theorem dX12_give_55 : decode cX12_give 55 = .ok (.iload_n 1, 1) := by decide +kernel
theorem dX12_give_56 : decode cX12_give 56 = .ok (.iload_n 2, 1) := by decide +kernel
theorem dX12_give_57 : decode cX12_give 57 = .ok (.iastore, 1) := by decide +kernel
theorem dX12_give_58 : decode cX12_give 58 = .ok (.iload_n 3, 1) := by decide +kernel
theorem dX12_give_59 : decode cX12_give 59 = .ok (.ireturn, 1) := by decide +kernel
theorem dX12_pay_0 : decode cX12_pay 0 = .ok (.aload_n 0, 1) := by decide +kernel
theorem dX12_pay_1 : decode cX12_pay 1 = .ok (.iload_n 1, 1) := by decide +kernel
theorem dX12_pay_2 : decode cX12_pay 2 = .ok (.invokevirtual 230, 3) := by decide +kernel
theorem dX12_pay_5 : decode cX12_pay 5 = .ok (.ifCond .ne 6, 3) := by decide +kernel
theorem dX12_pay_8 : decode cX12_pay 8 = .ok (.bipush (-101), 2) := by decide +kernel
theorem dX12_pay_10 : decode cX12_pay 10 = .ok (.ireturn, 1) := by decide +kernel
theorem dX12_pay_11 : decode cX12_pay 11 = .ok (.aload_n 0, 1) := by decide +kernel
theorem dX12_pay_12 : decode cX12_pay 12 = .ok (.invokevirtual 191, 3) := by decide +kernel
theorem dX12_pay_15 : decode cX12_pay 15 = .ok (.aload_n 0, 1) := by decide +kernel
theorem dX12_pay_16 : decode cX12_pay 16 = .ok (.iload_n 1, 1) := by decide +kernel
theorem dX12_pay_17 : decode cX12_pay 17 = .ok (.invokevirtual 194, 3) := by decide +kernel
theorem dX12_pay_20 : decode cX12_pay 20 = .ok (.ifCond .ne 6, 3) := by decide +kernel
theorem dX12_pay_23 : decode cX12_pay 23 = .ok (.bipush (-103), 2) := by decide +kernel
theorem dX12_pay_25 : decode cX12_pay 25 = .ok (.ireturn, 1) := by decide +kernel
theorem dX12_pay_26 : decode cX12_pay 26 = .ok (.aload_n 0, 1) := by decide +kernel
theorem dX12_pay_27 : decode cX12_pay 27 = .ok (.iload_n 1, 1) := by decide +kernel
theorem dX12_pay_28 : decode cX12_pay 28 = .ok (.invokevirtual 236, 3) := by decide +kernel
theorem dX12_pay_31 : decode cX12_pay 31 = .ok (.aload_n 0, 1) := by decide +kernel
theorem dX12_pay_32 : decode cX12_pay 32 = .ok (.getfield 49, 3) := by decide +kernel
theorem dX12_pay_35 : decode cX12_pay 35 = .ok (.aload_n 0, 1) := by decide +kernel
theorem dX12_pay_36 : decode cX12_pay 36 = .ok (.getfield 25, 3) := by decide +kernel
theorem dX12_pay_39 : decode cX12_pay 39 = .ok (.invokestatic 177, 3) := by decide +kernel
theorem dX12_pay_42 : decode cX12_pay 42 = .ok (.aload_n 0, 1) := by decide +kernel
theorem dX12_pay_43 : decode cX12_pay 43 = .ok (.getfield 55, 3) := by decide +kernel
theorem dX12_pay_46 : decode cX12_pay 46 = .ok (.aload_n 0, 1) := by decide +kernel
theorem dX12_pay_47 : decode cX12_pay 47 = .ok (.getfield 46, 3) := by decide +kernel
theorem dX12_pay_50 : decode cX12_pay 50 = .ok (.invokestatic 177, 3) := by decide +kernel
theorem dX12_pay_53 : decode cX12_pay 53 = .ok (.aload_n 0, 1) := by decide +kernel
theorem dX12_pay_54 : decode cX12_pay 54 = .ok (.getfield 25, 3) := by decide +kernel
theorem dX12_pay_57 : decode cX12_pay 57 = .ok (.aload_n 0, 1) := by decide +kernel
theorem dX12_pay_58 : decode cX12_pay 58 = .ok (.getfield 34, 3) := by decide +kernel
theorem dX12_pay_61 : decode cX12_pay 61 = .ok (.iload_n 1, 1) := by decide +kernel
theorem dX12_pay_62 : decode cX12_pay 62 = .ok (.iaload, 1) := by decide +kernel
theorem dX12_pay_63 : decode cX12_pay 63 = .ok (.iaload, 1) := by decide +kernel
theorem dX12_pay_64 : decode cX12_pay 64 = .ok (.ireturn, 1) := by decide +kernel
theorem dX12_earn_0 : decode cX12_earn 0 = .ok (.aload_n 0, 1) := by decide +kernel
theorem dX12_earn_1 : decode cX12_earn 1 = .ok (.iload_n 1, 1) := by decide +kernel
theorem dX12_earn_2 : decode cX12_earn 2 = .ok (.invokevirtual 215, 3) := by decide +kernel
theorem dX12_earn_5 : decode cX12_earn 5 = .ok (.ifCond .ne 6, 3) := by decide +kernel
theorem dX12_earn_8 : decode cX12_earn 8 = .ok (.bipush (-101), 2) := by decide +kernel
theorem dX12_earn_10 : decode cX12_earn 10 = .ok (.ireturn, 1) := by decide +kernel
theorem dX12_earn_11 : decode cX12_earn 11 = .ok (.iload_n 2, 1) := by decide +kernel
theorem dX12_earn_12 : decode cX12_earn 12 = .ok (.i2l, 1) := by decide +kernel
theorem dX12_earn_13 : decode cX12_earn 13 = .ok (.lconst 1, 1) := by decide +kernel
theorem dX12_earn_14 : decode cX12_earn 14 = .ok (.ldc2_w 240, 3) := by decide +kernel
theorem dX12_earn_17 : decode cX12_earn 17 = .ok (.invokestatic 103, 3) := by decide +kernel
theorem dX12_earn_20 : decode cX12_earn 20 = .ok (.ifCond .ne 6, 3) := by decide +kernel
theorem dX12_earn_23 : decode cX12_earn 23 = .ok (.bipush (-102), 2) := by decide +kernel
theorem dX12_earn_25 : decode cX12_earn 25 = .ok (.ireturn, 1) := by decide +kernel
theorem dX12_earn_26 : decode cX12_earn 26 = .ok (.aload_n 0, 1) := by decide +kernel
theorem dX12_earn_27 : decode cX12_earn 27 = .ok (.getfield 25, 3) := by decide +kernel
theorem dX12_earn_30 : decode cX12_earn 30 = .ok (.iload_n 1, 1) := by decide +kernel
theorem dX12_earn_31 : decode cX12_earn 31 = .ok (.iaload, 1) := by decide +kernel
theorem dX12_earn_32 : decode cX12_earn 32 = .ok (.iload_n 2, 1) := by decide +kernel
theorem dX12_earn_33 : decode cX12_earn 33 = .ok (.iadd, 1) := by decide +kernel
theorem dX12_earn_34 : decode cX12_earn 34 = .ok (.bipush 99, 2) := by decide +kernel
theorem dX12_earn_36 : decode cX12_earn 36 = .ok (.if_icmp .le 6, 3) := by decide +kernel
theorem dX12_earn_39 : decode cX12_earn 39 = .ok (.bipush (-104), 2) := by decide +kernel
theorem dX12_earn_41 : decode cX12_earn 41 = .ok (.ireturn, 1) := by decide +kernel
theorem dX12_earn_42 : decode cX12_earn 42 = .ok (.aload_n 0, 1) := by decide +kernel
theorem dX12_earn_43 : decode cX12_earn 43 = .ok (.getfield 25, 3) := by decide +kernel
theorem dX12_earn_46 : decode cX12_earn 46 = .ok (.iload_n 1, 1) := by decide +kernel
theorem dX12_earn_47 : decode cX12_earn 47 = .ok (.dup2, 1) := by decide +kernel
theorem dX12_earn_48 : decode cX12_earn 48 = .ok (.iaload, 1) := by decide +kernel
theorem dX12_earn_49 : decode cX12_earn 49 = .ok (.iload_n 2, 1) := by decide +kernel
theorem dX12_earn_50 : decode cX12_earn 50 = .ok (.iadd, 1) := by decide +kernel
theorem dX12_earn_51 : decode cX12_earn 51 = .ok (.iastore, 1) := by decide +kernel
theorem dX12_earn_52 : decode cX12_earn 52 = .ok (.aload_n 0, 1) := by decide +kernel
theorem dX12_earn_53 : decode cX12_earn 53 = .ok (.getfield 25, 3) := by decide +kernel
theorem dX12_earn_56 : decode cX12_earn 56 = .ok (.iload_n 1, 1) := by decide +kernel
theorem dX12_earn_57 : decode cX12_earn 57 = .ok (.iaload, 1) := by decide +kernel
theorem dX12_earn_58 : decode cX12_earn 58 = .ok (.ireturn, 1) := by decide +kernel
theorem dX12_owe_0 : decode cX12_owe 0 = .ok (.aload_n 0, 1) := by decide +kernel
theorem dX12_owe_1 : decode cX12_owe 1 = .ok (.iload_n 1, 1) := by decide +kernel
theorem dX12_owe_2 : decode cX12_owe 2 = .ok (.invokevirtual 230, 3) := by decide +kernel
theorem dX12_owe_5 : decode cX12_owe 5 = .ok (.ifCond .ne 6, 3) := by decide +kernel
theorem dX12_owe_8 : decode cX12_owe 8 = .ok (.bipush (-101), 2) := by decide +kernel
theorem dX12_owe_10 : decode cX12_owe 10 = .ok (.ireturn, 1) := by decide +kernel
theorem dX12_owe_11 : decode cX12_owe 11 = .ok (.iload_n 2, 1) := by decide +kernel
theorem dX12_owe_12 : decode cX12_owe 12 = .ok (.i2l, 1) := by decide +kernel
theorem dX12_owe_13 : decode cX12_owe 13 = .ok (.lconst 1, 1) := by decide +kernel
theorem dX12_owe_14 : decode cX12_owe 14 = .ok (.ldc2_w 240, 3) := by decide +kernel
theorem dX12_owe_17 : decode cX12_owe 17 = .ok (.invokestatic 103, 3) := by decide +kernel
theorem dX12_owe_20 : decode cX12_owe 20 = .ok (.ifCond .ne 6, 3) := by decide +kernel
theorem dX12_owe_23 : decode cX12_owe 23 = .ok (.bipush (-102), 2) := by decide +kernel
theorem dX12_owe_25 : decode cX12_owe 25 = .ok (.ireturn, 1) := by decide +kernel
theorem dX12_owe_26 : decode cX12_owe 26 = .ok (.aload_n 0, 1) := by decide +kernel
theorem dX12_owe_27 : decode cX12_owe 27 = .ok (.getfield 43, 3) := by decide +kernel
theorem dX12_owe_30 : decode cX12_owe 30 = .ok (.iload_n 1, 1) := by decide +kernel
theorem dX12_owe_31 : decode cX12_owe 31 = .ok (.iaload, 1) := by decide +kernel
theorem dX12_owe_32 : decode cX12_owe 32 = .ok (.istore_n 3, 1) := by decide +kernel
theorem dX12_owe_33 : decode cX12_owe 33 = .ok (.aload_n 0, 1) := by decide +kernel
theorem dX12_owe_34 : decode cX12_owe 34 = .ok (.getfield 43, 3) := by decide +kernel
theorem dX12_owe_37 : decode cX12_owe 37 = .ok (.iload_n 1, 1) := by decide +kernel
theorem dX12_owe_38 : decode cX12_owe 38 = .ok (.iload_n 2, 1) := by decide +kernel
theorem dX12_owe_39 : decode cX12_owe 39 = .ok (.iastore, 1) := by decide +kernel
theorem dX12_owe_40 : decode cX12_owe 40 = .ok (.aload_n 0, 1) := by decide +kernel
theorem dX12_owe_41 : decode cX12_owe 41 = .ok (.getfield 46, 3) := by decide +kernel
theorem dX12_owe_44 : decode cX12_owe 44 = .ok (.iload_n 1, 1) := by decide +kernel
theorem dX12_owe_45 : decode cX12_owe 45 = .ok (.iconst 0, 1) := by decide +kernel
theorem dX12_owe_46 : decode cX12_owe 46 = .ok (.iastore, 1) := by decide +kernel
theorem dX12_owe_47 : decode cX12_owe 47 = .ok (.iload_n 3, 1) := by decide +kernel
theorem dX12_owe_48 : decode cX12_owe 48 = .ok (.ireturn, 1) := by decide +kernel
theorem dX12_layFar_0 : decode cX12_layFar 0 = .ok (.iconst 0, 1) := by decide +kernel
theorem dX12_layFar_1 : decode cX12_layFar 1 = .ok (.istore_n 3, 1) := by decide +kernel
theorem dX12_layFar_2 : decode cX12_layFar 2 = .ok (.iload_n 3, 1) := by decide +kernel
theorem dX12_layFar_3 : decode cX12_layFar 3 = .ok (.bipush 6, 2) := by decide +kernel
theorem dX12_layFar_5 : decode cX12_layFar 5 = .ok (.if_icmp .ge 26, 3) := by decide +kernel
theorem dX12_layFar_8 : decode cX12_layFar 8 = .ok (.aload_n 0, 1) := by decide +kernel
theorem dX12_layFar_9 : decode cX12_layFar 9 = .ok (.getfield 58, 3) := by decide +kernel
theorem dX12_layFar_12 : decode cX12_layFar 12 = .ok (.iload_n 3, 1) := by decide +kernel
theorem dX12_layFar_13 : decode cX12_layFar 13 = .ok (.iload_n 3, 1) := by decide +kernel
theorem dX12_layFar_14 : decode cX12_layFar 14 = .ok (.iload_n 2, 1) := by decide +kernel
theorem dX12_layFar_15 : decode cX12_layFar 15 = .ok (.if_icmp .ne 7, 3) := by decide +kernel
theorem dX12_layFar_18 : decode cX12_layFar 18 = .ok (.iconst 0, 1) := by decide +kernel
theorem dX12_layFar_19 : decode cX12_layFar 19 = .ok (.goto 5, 3) := by decide +kernel
theorem dX12_layFar_22 : decode cX12_layFar 22 = .ok (.bipush 99, 2) := by decide +kernel
theorem dX12_layFar_24 : decode cX12_layFar 24 = .ok (.iastore, 1) := by decide +kernel
theorem dX12_layFar_25 : decode cX12_layFar 25 = .ok (.iinc 3 1, 3) := by decide +kernel
theorem dX12_layFar_28 : decode cX12_layFar 28 = .ok (.goto (-26), 3) := by decide +kernel
theorem dX12_layFar_31 : decode cX12_layFar 31 = .ok (.iconst 0, 1) := by decide +kernel
theorem dX12_layFar_32 : decode cX12_layFar 32 = .ok (.istore_n 3, 1) := by decide +kernel
theorem dX12_layFar_33 : decode cX12_layFar 33 = .ok (.iload_n 3, 1) := by decide +kernel
theorem dX12_layFar_34 : decode cX12_layFar 34 = .ok (.aload_n 0, 1) := by decide +kernel
theorem dX12_layFar_35 : decode cX12_layFar 35 = .ok (.getfield 153, 3) := by decide +kernel
theorem dX12_layFar_38 : decode cX12_layFar 38 = .ok (.if_icmp .ge 107, 3) := by decide +kernel
theorem dX12_layFar_41 : decode cX12_layFar 41 = .ok (.iconst 0, 1) := by decide +kernel
theorem dX12_layFar_42 : decode cX12_layFar 42 = .ok (.istore 4, 2) := by decide +kernel
theorem dX12_layFar_44 : decode cX12_layFar 44 = .ok (.iload 4, 2) := by decide +kernel
theorem dX12_layFar_46 : decode cX12_layFar 46 = .ok (.aload_n 0, 1) := by decide +kernel
theorem dX12_layFar_47 : decode cX12_layFar 47 = .ok (.getfield 153, 3) := by decide +kernel
theorem dX12_layFar_50 : decode cX12_layFar 50 = .ok (.if_icmp .ge 89, 3) := by decide +kernel
theorem dX12_layFar_53 : decode cX12_layFar 53 = .ok (.iconst 0, 1) := by decide +kernel
theorem dX12_layFar_54 : decode cX12_layFar 54 = .ok (.istore 5, 2) := by decide +kernel
theorem dX12_layFar_56 : decode cX12_layFar 56 = .ok (.iload 5, 2) := by decide +kernel
theorem dX12_layFar_58 : decode cX12_layFar 58 = .ok (.aload_n 0, 1) := by decide +kernel
theorem dX12_layFar_59 : decode cX12_layFar 59 = .ok (.getfield 156, 3) := by decide +kernel
theorem dX12_layFar_62 : decode cX12_layFar 62 = .ok (.if_icmp .ge 71, 3) := by decide +kernel
theorem dX12_layFar_65 : decode cX12_layFar 65 = .ok (.aload_n 0, 1) := by decide +kernel
theorem dX12_layFar_66 : decode cX12_layFar 66 = .ok (.iload_n 1, 1) := by decide +kernel
theorem dX12_layFar_67 : decode cX12_layFar 67 = .ok (.iload 5, 2) := by decide +kernel
theorem dX12_layFar_69 : decode cX12_layFar 69 = .ok (.iload 4, 2) := by decide +kernel
theorem dX12_layFar_71 : decode cX12_layFar 71 = .ok (.invokevirtual 187, 3) := by decide +kernel
theorem dX12_layFar_74 : decode cX12_layFar 74 = .ok (.istore 6, 2) := by decide +kernel
theorem dX12_layFar_76 : decode cX12_layFar 76 = .ok (.aload_n 0, 1) := by decide +kernel
theorem dX12_layFar_77 : decode cX12_layFar 77 = .ok (.getfield 58, 3) := by decide +kernel
theorem dX12_layFar_80 : decode cX12_layFar 80 = .ok (.iload 4, 2) := by decide +kernel
theorem dX12_layFar_82 : decode cX12_layFar 82 = .ok (.iload 6, 2) := by decide +kernel
theorem dX12_layFar_84 : decode cX12_layFar 84 = .ok (.iconst (-1), 1) := by decide +kernel
theorem dX12_layFar_85 : decode cX12_layFar 85 = .ok (.if_icmp .eq 34, 3) := by decide +kernel
theorem dX12_layFar_88 : decode cX12_layFar 88 = .ok (.aload_n 0, 1) := by decide +kernel
theorem dX12_layFar_89 : decode cX12_layFar 89 = .ok (.getfield 58, 3) := by decide +kernel
theorem dX12_layFar_92 : decode cX12_layFar 92 = .ok (.iload 6, 2) := by decide +kernel
theorem dX12_layFar_94 : decode cX12_layFar 94 = .ok (.iaload, 1) := by decide +kernel
theorem dX12_layFar_95 : decode cX12_layFar 95 = .ok (.iconst 1, 1) := by decide +kernel
theorem dX12_layFar_96 : decode cX12_layFar 96 = .ok (.iadd, 1) := by decide +kernel
theorem dX12_layFar_97 : decode cX12_layFar 97 = .ok (.aload_n 0, 1) := by decide +kernel
theorem dX12_layFar_98 : decode cX12_layFar 98 = .ok (.getfield 58, 3) := by decide +kernel
theorem dX12_layFar_101 : decode cX12_layFar 101 = .ok (.iload 4, 2) := by decide +kernel
theorem dX12_layFar_103 : decode cX12_layFar 103 = .ok (.iaload, 1) := by decide +kernel
theorem dX12_layFar_104 : decode cX12_layFar 104 = .ok (.if_icmp .ge 15, 3) := by decide +kernel
theorem dX12_layFar_107 : decode cX12_layFar 107 = .ok (.aload_n 0, 1) := by decide +kernel
theorem dX12_layFar_108 : decode cX12_layFar 108 = .ok (.getfield 58, 3) := by decide +kernel
theorem dX12_layFar_111 : decode cX12_layFar 111 = .ok (.iload 6, 2) := by decide +kernel
theorem dX12_layFar_113 : decode cX12_layFar 113 = .ok (.iaload, 1) := by decide +kernel
theorem dX12_layFar_114 : decode cX12_layFar 114 = .ok (.iconst 1, 1) := by decide +kernel
theorem dX12_layFar_115 : decode cX12_layFar 115 = .ok (.iadd, 1) := by decide +kernel
theorem dX12_layFar_116 : decode cX12_layFar 116 = .ok (.goto 10, 3) := by decide +kernel
theorem dX12_layFar_119 : decode cX12_layFar 119 = .ok (.aload_n 0, 1) := by decide +kernel
theorem dX12_layFar_120 : decode cX12_layFar 120 = .ok (.getfield 58, 3) := by decide +kernel
theorem dX12_layFar_123 : decode cX12_layFar 123 = .ok (.iload 4, 2) := by decide +kernel
theorem dX12_layFar_125 : decode cX12_layFar 125 = .ok (.iaload, 1) := by decide +kernel
theorem dX12_layFar_126 : decode cX12_layFar 126 = .ok (.iastore, 1) := by decide +kernel
theorem dX12_layFar_127 : decode cX12_layFar 127 = .ok (.iinc 5 1, 3) := by decide +kernel
theorem dX12_layFar_130 : decode cX12_layFar 130 = .ok (.goto (-74), 3) := by decide +kernel
theorem dX12_layFar_133 : decode cX12_layFar 133 = .ok (.iinc 4 1, 3) := by decide +kernel
theorem dX12_layFar_136 : decode cX12_layFar 136 = .ok (.goto (-92), 3) := by decide +kernel
theorem dX12_layFar_139 : decode cX12_layFar 139 = .ok (.iinc 3 1, 3) := by decide +kernel
theorem dX12_layFar_142 : decode cX12_layFar 142 = .ok (.goto (-109), 3) := by decide +kernel
theorem dX12_layFar_145 : decode cX12_layFar 145 = .ok (.return_, 1) := by decide +kernel
theorem dX12_wayOf_0 : decode cX12_wayOf 0 = .ok (.aload_n 0, 1) := by decide +kernel
theorem dX12_wayOf_1 : decode cX12_wayOf 1 = .ok (.iload_n 1, 1) := by decide +kernel
theorem dX12_wayOf_2 : decode cX12_wayOf 2 = .ok (.iload_n 2, 1) := by decide +kernel
theorem dX12_wayOf_3 : decode cX12_wayOf 3 = .ok (.invokevirtual 242, 3) := by decide +kernel
theorem dX12_wayOf_6 : decode cX12_wayOf 6 = .ok (.aload_n 0, 1) := by decide +kernel
theorem dX12_wayOf_7 : decode cX12_wayOf 7 = .ok (.getfield 28, 3) := by decide +kernel
theorem dX12_wayOf_10 : decode cX12_wayOf 10 = .ok (.iload_n 1, 1) := by decide +kernel
theorem dX12_wayOf_11 : decode cX12_wayOf 11 = .ok (.iaload, 1) := by decide +kernel
theorem dX12_wayOf_12 : decode cX12_wayOf 12 = .ok (.istore 4, 2) := by decide +kernel
theorem dX12_wayOf_14 : decode cX12_wayOf 14 = .ok (.aload_n 0, 1) := by decide +kernel
theorem dX12_wayOf_15 : decode cX12_wayOf 15 = .ok (.getfield 58, 3) := by decide +kernel
theorem dX12_wayOf_18 : decode cX12_wayOf 18 = .ok (.iload 4, 2) := by decide +kernel
theorem dX12_wayOf_20 : decode cX12_wayOf 20 = .ok (.iaload, 1) := by decide +kernel
theorem dX12_wayOf_21 : decode cX12_wayOf 21 = .ok (.bipush 99, 2) := by decide +kernel
theorem dX12_wayOf_23 : decode cX12_wayOf 23 = .ok (.if_icmp .ne 5, 3) := by decide +kernel
theorem dX12_wayOf_26 : decode cX12_wayOf 26 = .ok (.iconst (-1), 1) := by decide +kernel
theorem dX12_wayOf_27 : decode cX12_wayOf 27 = .ok (.ireturn, 1) := by decide +kernel
theorem dX12_wayOf_28 : decode cX12_wayOf 28 = .ok (.iload_n 3, 1) := by decide +kernel
theorem dX12_wayOf_29 : decode cX12_wayOf 29 = .ok (.ifCond .ne 11, 3) := by decide +kernel
theorem dX12_wayOf_32 : decode cX12_wayOf 32 = .ok (.aload_n 0, 1) := by decide +kernel
theorem dX12_wayOf_33 : decode cX12_wayOf 33 = .ok (.getfield 58, 3) := by decide +kernel
theorem dX12_wayOf_36 : decode cX12_wayOf 36 = .ok (.iload 4, 2) := by decide +kernel
theorem dX12_wayOf_38 : decode cX12_wayOf 38 = .ok (.iaload, 1) := by decide +kernel
theorem dX12_wayOf_39 : decode cX12_wayOf 39 = .ok (.ireturn, 1) := by decide +kernel
theorem dX12_wayOf_40 : decode cX12_wayOf 40 = .ok (.iconst (-1), 1) := by decide +kernel
theorem dX12_wayOf_41 : decode cX12_wayOf 41 = .ok (.istore 5, 2) := by decide +kernel
theorem dX12_wayOf_43 : decode cX12_wayOf 43 = .ok (.bipush 10, 2) := by decide +kernel
theorem dX12_wayOf_45 : decode cX12_wayOf 45 = .ok (.istore 6, 2) := by decide +kernel
theorem dX12_wayOf_47 : decode cX12_wayOf 47 = .ok (.iload 6, 2) := by decide +kernel
theorem dX12_wayOf_49 : decode cX12_wayOf 49 = .ok (.iload_n 3, 1) := by decide +kernel
theorem dX12_wayOf_50 : decode cX12_wayOf 50 = .ok (.if_icmp .gt 83, 3) := by decide +kernel
theorem dX12_wayOf_53 : decode cX12_wayOf 53 = .ok (.iconst (-1), 1) := by decide +kernel
theorem dX12_wayOf_54 : decode cX12_wayOf 54 = .ok (.istore 5, 2) := by decide +kernel
theorem dX12_wayOf_56 : decode cX12_wayOf 56 = .ok (.iload 4, 2) := by decide +kernel
theorem dX12_wayOf_58 : decode cX12_wayOf 58 = .ok (.istore 7, 2) := by decide +kernel
theorem dX12_wayOf_60 : decode cX12_wayOf 60 = .ok (.aload_n 0, 1) := by decide +kernel
theorem dX12_wayOf_61 : decode cX12_wayOf 61 = .ok (.getfield 156, 3) := by decide +kernel
theorem dX12_wayOf_64 : decode cX12_wayOf 64 = .ok (.iconst 1, 1) := by decide +kernel
theorem dX12_wayOf_65 : decode cX12_wayOf 65 = .ok (.isub, 1) := by decide +kernel
theorem dX12_wayOf_66 : decode cX12_wayOf 66 = .ok (.istore 8, 2) := by decide +kernel
theorem dX12_wayOf_68 : decode cX12_wayOf 68 = .ok (.iload 8, 2) := by decide +kernel
theorem dX12_wayOf_70 : decode cX12_wayOf 70 = .ok (.ifCond .lt 53, 3) := by decide +kernel
theorem dX12_wayOf_73 : decode cX12_wayOf 73 = .ok (.aload_n 0, 1) := by decide +kernel
theorem dX12_wayOf_74 : decode cX12_wayOf 74 = .ok (.iload_n 1, 1) := by decide +kernel
theorem dX12_wayOf_75 : decode cX12_wayOf 75 = .ok (.iload 8, 2) := by decide +kernel
theorem dX12_wayOf_77 : decode cX12_wayOf 77 = .ok (.iload 4, 2) := by decide +kernel
theorem dX12_wayOf_79 : decode cX12_wayOf 79 = .ok (.invokevirtual 187, 3) := by decide +kernel
theorem dX12_wayOf_82 : decode cX12_wayOf 82 = .ok (.istore 9, 2) := by decide +kernel
theorem dX12_wayOf_84 : decode cX12_wayOf 84 = .ok (.iload 9, 2) := by decide +kernel
theorem dX12_wayOf_86 : decode cX12_wayOf 86 = .ok (.iconst (-1), 1) := by decide +kernel
theorem dX12_wayOf_87 : decode cX12_wayOf 87 = .ok (.if_icmp .eq 30, 3) := by decide +kernel
theorem dX12_wayOf_90 : decode cX12_wayOf 90 = .ok (.aload_n 0, 1) := by decide +kernel
theorem dX12_wayOf_91 : decode cX12_wayOf 91 = .ok (.getfield 58, 3) := by decide +kernel
theorem dX12_wayOf_94 : decode cX12_wayOf 94 = .ok (.iload 9, 2) := by decide +kernel
theorem dX12_wayOf_96 : decode cX12_wayOf 96 = .ok (.iaload, 1) := by decide +kernel
theorem dX12_wayOf_97 : decode cX12_wayOf 97 = .ok (.aload_n 0, 1) := by decide +kernel
theorem dX12_wayOf_98 : decode cX12_wayOf 98 = .ok (.getfield 58, 3) := by decide +kernel
theorem dX12_wayOf_101 : decode cX12_wayOf 101 = .ok (.iload 4, 2) := by decide +kernel
theorem dX12_wayOf_103 : decode cX12_wayOf 103 = .ok (.iaload, 1) := by decide +kernel
theorem dX12_wayOf_104 : decode cX12_wayOf 104 = .ok (.iconst 1, 1) := by decide +kernel
theorem dX12_wayOf_105 : decode cX12_wayOf 105 = .ok (.isub, 1) := by decide +kernel
theorem dX12_wayOf_106 : decode cX12_wayOf 106 = .ok (.if_icmp .ne 11, 3) := by decide +kernel
theorem dX12_wayOf_109 : decode cX12_wayOf 109 = .ok (.iload 8, 2) := by decide +kernel
theorem dX12_wayOf_111 : decode cX12_wayOf 111 = .ok (.istore 5, 2) := by decide +kernel
theorem dX12_wayOf_113 : decode cX12_wayOf 113 = .ok (.iload 9, 2) := by decide +kernel
theorem dX12_wayOf_115 : decode cX12_wayOf 115 = .ok (.istore 7, 2) := by decide +kernel
theorem dX12_wayOf_117 : decode cX12_wayOf 117 = .ok (.iinc 8 (-1), 3) := by decide +kernel
theorem dX12_wayOf_120 : decode cX12_wayOf 120 = .ok (.goto (-52), 3) := by decide +kernel
theorem dX12_wayOf_123 : decode cX12_wayOf 123 = .ok (.iload 7, 2) := by decide +kernel
theorem dX12_wayOf_125 : decode cX12_wayOf 125 = .ok (.istore 4, 2) := by decide +kernel
theorem dX12_wayOf_127 : decode cX12_wayOf 127 = .ok (.iinc 6 1, 3) := by decide +kernel
theorem dX12_wayOf_130 : decode cX12_wayOf 130 = .ok (.goto (-83), 3) := by decide +kernel
theorem dX12_wayOf_133 : decode cX12_wayOf 133 = .ok (.iload 5, 2) := by decide +kernel
theorem dX12_wayOf_135 : decode cX12_wayOf 135 = .ok (.ireturn, 1) := by decide +kernel
theorem dX12_way_0 : decode cX12_way 0 = .ok (.aload_n 0, 1) := by decide +kernel
theorem dX12_way_1 : decode cX12_way 1 = .ok (.iload_n 1, 1) := by decide +kernel
theorem dX12_way_2 : decode cX12_way 2 = .ok (.invokevirtual 215, 3) := by decide +kernel
theorem dX12_way_5 : decode cX12_way 5 = .ok (.ifCond .eq 11, 3) := by decide +kernel
theorem dX12_way_8 : decode cX12_way 8 = .ok (.aload_n 0, 1) := by decide +kernel
theorem dX12_way_9 : decode cX12_way 9 = .ok (.iload_n 2, 1) := by decide +kernel
theorem dX12_way_10 : decode cX12_way 10 = .ok (.invokevirtual 246, 3) := by decide +kernel
theorem dX12_way_13 : decode cX12_way 13 = .ok (.ifCond .ne 6, 3) := by decide +kernel
theorem dX12_way_16 : decode cX12_way 16 = .ok (.bipush (-101), 2) := by decide +kernel
theorem dX12_way_18 : decode cX12_way 18 = .ok (.ireturn, 1) := by decide +kernel
theorem dX12_way_19 : decode cX12_way 19 = .ok (.iload_n 3, 1) := by decide +kernel
theorem dX12_way_20 : decode cX12_way 20 = .ok (.ifCond .eq 17, 3) := by decide +kernel
theorem dX12_way_23 : decode cX12_way 23 = .ok (.iload_n 3, 1) := by decide +kernel
theorem dX12_way_24 : decode cX12_way 24 = .ok (.i2l, 1) := by decide +kernel
theorem dX12_way_25 : decode cX12_way 25 = .ok (.ldc2_w 249, 3) := by decide +kernel
theorem dX12_way_28 : decode cX12_way 28 = .ok (.ldc2_w 251, 3) := by decide +kernel
theorem dX12_way_31 : decode cX12_way 31 = .ok (.invokestatic 103, 3) := by decide +kernel
theorem dX12_way_34 : decode cX12_way 34 = .ok (.ifCond .eq 13, 3) := by decide +kernel
theorem dX12_way_37 : decode cX12_way 37 = .ok (.aload_n 0, 1) := by decide +kernel
theorem dX12_way_38 : decode cX12_way 38 = .ok (.iload_n 1, 1) := by decide +kernel
theorem dX12_way_39 : decode cX12_way 39 = .ok (.iload_n 2, 1) := by decide +kernel
theorem dX12_way_40 : decode cX12_way 40 = .ok (.iload_n 3, 1) := by decide +kernel
theorem dX12_way_41 : decode cX12_way 41 = .ok (.invokevirtual 253, 3) := by decide +kernel
theorem dX12_way_44 : decode cX12_way 44 = .ok (.goto 5, 3) := by decide +kernel
theorem dX12_way_47 : decode cX12_way 47 = .ok (.bipush (-102), 2) := by decide +kernel
theorem dX12_way_49 : decode cX12_way 49 = .ok (.ireturn, 1) := by decide +kernel
theorem dX12_payHere_0 : decode cX12_payHere 0 = .ok (.iconst 0, 1) := by decide +kernel
theorem dX12_payHere_1 : decode cX12_payHere 1 = .ok (.istore_n 2, 1) := by decide +kernel
theorem dX12_payHere_2 : decode cX12_payHere 2 = .ok (.iconst 0, 1) := by decide +kernel
theorem dX12_payHere_3 : decode cX12_payHere 3 = .ok (.istore_n 3, 1) := by decide +kernel
theorem dX12_payHere_4 : decode cX12_payHere 4 = .ok (.iload_n 3, 1) := by decide +kernel
theorem dX12_payHere_5 : decode cX12_payHere 5 = .ok (.aload_n 0, 1) := by decide +kernel
theorem dX12_payHere_6 : decode cX12_payHere 6 = .ok (.getfield 162, 3) := by decide +kernel
theorem dX12_payHere_9 : decode cX12_payHere 9 = .ok (.if_icmp .ge 56, 3) := by decide +kernel
theorem dX12_payHere_12 : decode cX12_payHere 12 = .ok (.aload_n 0, 1) := by decide +kernel
theorem dX12_payHere_13 : decode cX12_payHere 13 = .ok (.getfield 34, 3) := by decide +kernel
theorem dX12_payHere_16 : decode cX12_payHere 16 = .ok (.iload_n 3, 1) := by decide +kernel
theorem dX12_payHere_17 : decode cX12_payHere 17 = .ok (.iaload, 1) := by decide +kernel
theorem dX12_payHere_18 : decode cX12_payHere 18 = .ok (.iload_n 1, 1) := by decide +kernel
theorem dX12_payHere_19 : decode cX12_payHere 19 = .ok (.if_icmp .ne 40, 3) := by decide +kernel
theorem dX12_payHere_22 : decode cX12_payHere 22 = .ok (.aload_n 0, 1) := by decide +kernel
theorem dX12_payHere_23 : decode cX12_payHere 23 = .ok (.getfield 40, 3) := by decide +kernel
theorem dX12_payHere_26 : decode cX12_payHere 26 = .ok (.iload_n 3, 1) := by decide +kernel
theorem dX12_payHere_27 : decode cX12_payHere 27 = .ok (.iaload, 1) := by decide +kernel
theorem dX12_payHere_28 : decode cX12_payHere 28 = .ok (.aload_n 0, 1) := by decide +kernel
theorem dX12_payHere_29 : decode cX12_payHere 29 = .ok (.getfield 52, 3) := by decide +kernel
theorem dX12_payHere_32 : decode cX12_payHere 32 = .ok (.iload_n 1, 1) := by decide +kernel
theorem dX12_payHere_33 : decode cX12_payHere 33 = .ok (.iaload, 1) := by decide +kernel
theorem dX12_payHere_34 : decode cX12_payHere 34 = .ok (.if_icmp .ne 25, 3) := by decide +kernel
theorem dX12_payHere_37 : decode cX12_payHere 37 = .ok (.aload_n 0, 1) := by decide +kernel
theorem dX12_payHere_38 : decode cX12_payHere 38 = .ok (.iload_n 3, 1) := by decide +kernel
theorem dX12_payHere_39 : decode cX12_payHere 39 = .ok (.invokevirtual 194, 3) := by decide +kernel
theorem dX12_payHere_42 : decode cX12_payHere 42 = .ok (.ifCond .eq 17, 3) := by decide +kernel
theorem dX12_payHere_45 : decode cX12_payHere 45 = .ok (.aload_n 0, 1) := by decide +kernel
theorem dX12_payHere_46 : decode cX12_payHere 46 = .ok (.iload_n 3, 1) := by decide +kernel
theorem dX12_payHere_47 : decode cX12_payHere 47 = .ok (.invokevirtual 236, 3) := by decide +kernel
theorem dX12_payHere_50 : decode cX12_payHere 50 = .ok (.iload_n 2, 1) := by decide +kernel
theorem dX12_payHere_51 : decode cX12_payHere 51 = .ok (.aload_n 0, 1) := by decide +kernel
theorem dX12_payHere_52 : decode cX12_payHere 52 = .ok (.getfield 43, 3) := by decide +kernel
theorem dX12_payHere_55 : decode cX12_payHere 55 = .ok (.iload_n 3, 1) := by decide +kernel
theorem dX12_payHere_56 : decode cX12_payHere 56 = .ok (.iaload, 1) := by decide +kernel
theorem dX12_payHere_57 : decode cX12_payHere 57 = .ok (.iadd, 1) := by decide +kernel
theorem dX12_payHere_58 : decode cX12_payHere 58 = .ok (.istore_n 2, 1) := by decide +kernel
theorem dX12_payHere_59 : decode cX12_payHere 59 = .ok (.iinc 3 1, 3) := by decide +kernel
theorem dX12_payHere_62 : decode cX12_payHere 62 = .ok (.goto (-58), 3) := by decide +kernel
theorem dX12_payHere_65 : decode cX12_payHere 65 = .ok (.iload_n 2, 1) := by decide +kernel
theorem dX12_payHere_66 : decode cX12_payHere 66 = .ok (.ireturn, 1) := by decide +kernel
theorem dX12_paysBy_0 : decode cX12_paysBy 0 = .ok (.aload_n 0, 1) := by decide +kernel
theorem dX12_paysBy_1 : decode cX12_paysBy 1 = .ok (.invokevirtual 191, 3) := by decide +kernel
theorem dX12_paysBy_4 : decode cX12_paysBy 4 = .ok (.iconst 1, 1) := by decide +kernel
theorem dX12_paysBy_5 : decode cX12_paysBy 5 = .ok (.istore 4, 2) := by decide +kernel
theorem dX12_paysBy_7 : decode cX12_paysBy 7 = .ok (.iconst 1, 1) := by decide +kernel
theorem dX12_paysBy_8 : decode cX12_paysBy 8 = .ok (.istore 5, 2) := by decide +kernel
theorem dX12_paysBy_10 : decode cX12_paysBy 10 = .ok (.iload 5, 2) := by decide +kernel
theorem dX12_paysBy_12 : decode cX12_paysBy 12 = .ok (.iload_n 3, 1) := by decide +kernel
theorem dX12_paysBy_13 : decode cX12_paysBy 13 = .ok (.if_icmp .ge 16, 3) := by decide +kernel
theorem dX12_paysBy_16 : decode cX12_paysBy 16 = .ok (.iload 4, 2) := by decide +kernel
theorem dX12_paysBy_18 : decode cX12_paysBy 18 = .ok (.bipush 6, 2) := by decide +kernel
theorem dX12_paysBy_20 : decode cX12_paysBy 20 = .ok (.imul, 1) := by decide +kernel
theorem dX12_paysBy_21 : decode cX12_paysBy 21 = .ok (.istore 4, 2) := by decide +kernel
theorem dX12_paysBy_23 : decode cX12_paysBy 23 = .ok (.iinc 5 1, 3) := by decide +kernel
theorem dX12_paysBy_26 : decode cX12_paysBy 26 = .ok (.goto (-16), 3) := by decide +kernel
theorem dX12_paysBy_29 : decode cX12_paysBy 29 = .ok (.aload_n 0, 1) := by decide +kernel
theorem dX12_paysBy_30 : decode cX12_paysBy 30 = .ok (.iload_n 1, 1) := by decide +kernel
theorem dX12_paysBy_31 : decode cX12_paysBy 31 = .ok (.invokevirtual 256, 3) := by decide +kernel
theorem dX12_paysBy_34 : decode cX12_paysBy 34 = .ok (.istore 5, 2) := by decide +kernel
theorem dX12_paysBy_36 : decode cX12_paysBy 36 = .ok (.iconst 0, 1) := by decide +kernel
theorem dX12_paysBy_37 : decode cX12_paysBy 37 = .ok (.istore 6, 2) := by decide +kernel
theorem dX12_paysBy_39 : decode cX12_paysBy 39 = .ok (.iload 6, 2) := by decide +kernel
theorem dX12_paysBy_41 : decode cX12_paysBy 41 = .ok (.iload_n 3, 1) := by decide +kernel
theorem dX12_paysBy_42 : decode cX12_paysBy 42 = .ok (.if_icmp .ge 89, 3) := by decide +kernel
theorem dX12_paysBy_45 : decode cX12_paysBy 45 = .ok (.iload_n 2, 1) := by decide +kernel
theorem dX12_paysBy_46 : decode cX12_paysBy 46 = .ok (.iload 4, 2) := by decide +kernel
theorem dX12_paysBy_48 : decode cX12_paysBy 48 = .ok (.idiv, 1) := by decide +kernel
theorem dX12_paysBy_49 : decode cX12_paysBy 49 = .ok (.bipush 6, 2) := by decide +kernel
theorem dX12_paysBy_51 : decode cX12_paysBy 51 = .ok (.irem, 1) := by decide +kernel
theorem dX12_paysBy_52 : decode cX12_paysBy 52 = .ok (.istore 7, 2) := by decide +kernel
theorem dX12_paysBy_54 : decode cX12_paysBy 54 = .ok (.iload 4, 2) := by decide +kernel
theorem dX12_paysBy_56 : decode cX12_paysBy 56 = .ok (.iconst 1, 1) := by decide +kernel
theorem dX12_paysBy_57 : decode cX12_paysBy 57 = .ok (.if_icmp .le 11, 3) := by decide +kernel
theorem dX12_paysBy_60 : decode cX12_paysBy 60 = .ok (.iload 4, 2) := by decide +kernel
theorem dX12_paysBy_62 : decode cX12_paysBy 62 = .ok (.bipush 6, 2) := by decide +kernel
theorem dX12_paysBy_64 : decode cX12_paysBy 64 = .ok (.idiv, 1) := by decide +kernel
theorem dX12_paysBy_65 : decode cX12_paysBy 65 = .ok (.goto 4, 3) := by decide +kernel
theorem dX12_paysBy_68 : decode cX12_paysBy 68 = .ok (.iconst 1, 1) := by decide +kernel
theorem dX12_paysBy_69 : decode cX12_paysBy 69 = .ok (.istore 4, 2) := by decide +kernel
theorem dX12_paysBy_71 : decode cX12_paysBy 71 = .ok (.iload 7, 2) := by decide +kernel
theorem dX12_paysBy_73 : decode cX12_paysBy 73 = .ok (.aload_n 0, 1) := by decide +kernel
theorem dX12_paysBy_74 : decode cX12_paysBy 74 = .ok (.getfield 156, 3) := by decide +kernel
theorem dX12_paysBy_77 : decode cX12_paysBy 77 = .ok (.if_icmp .ge 19, 3) := by decide +kernel
theorem dX12_paysBy_80 : decode cX12_paysBy 80 = .ok (.aload_n 0, 1) := by decide +kernel
theorem dX12_paysBy_81 : decode cX12_paysBy 81 = .ok (.iload_n 1, 1) := by decide +kernel
theorem dX12_paysBy_82 : decode cX12_paysBy 82 = .ok (.iload 7, 2) := by decide +kernel
theorem dX12_paysBy_84 : decode cX12_paysBy 84 = .ok (.aload_n 0, 1) := by decide +kernel
theorem dX12_paysBy_85 : decode cX12_paysBy 85 = .ok (.getfield 52, 3) := by decide +kernel
theorem dX12_paysBy_88 : decode cX12_paysBy 88 = .ok (.iload_n 1, 1) := by decide +kernel
theorem dX12_paysBy_89 : decode cX12_paysBy 89 = .ok (.iaload, 1) := by decide +kernel
theorem dX12_paysBy_90 : decode cX12_paysBy 90 = .ok (.invokevirtual 187, 3) := by decide +kernel
theorem dX12_paysBy_93 : decode cX12_paysBy 93 = .ok (.goto 4, 3) := by decide +kernel
theorem dX12_paysBy_96 : decode cX12_paysBy 96 = .ok (.iconst (-1), 1) := by decide +kernel
theorem dX12_paysBy_97 : decode cX12_paysBy 97 = .ok (.istore 8, 2) := by decide +kernel
theorem dX12_paysBy_99 : decode cX12_paysBy 99 = .ok (.iload 8, 2) := by decide +kernel
theorem dX12_paysBy_101 : decode cX12_paysBy 101 = .ok (.iconst (-1), 1) := by decide +kernel
theorem dX12_paysBy_102 : decode cX12_paysBy 102 = .ok (.if_icmp .ne 5, 3) := by decide +kernel
theorem dX12_paysBy_105 : decode cX12_paysBy 105 = .ok (.iconst (-1), 1) := by decide +kernel
theorem dX12_paysBy_106 : decode cX12_paysBy 106 = .ok (.ireturn, 1) := by decide +kernel
theorem dX12_paysBy_107 : decode cX12_paysBy 107 = .ok (.aload_n 0, 1) := by decide +kernel
theorem dX12_paysBy_108 : decode cX12_paysBy 108 = .ok (.getfield 52, 3) := by decide +kernel
theorem dX12_paysBy_111 : decode cX12_paysBy 111 = .ok (.iload_n 1, 1) := by decide +kernel
theorem dX12_paysBy_112 : decode cX12_paysBy 112 = .ok (.iload 8, 2) := by decide +kernel
theorem dX12_paysBy_114 : decode cX12_paysBy 114 = .ok (.iastore, 1) := by decide +kernel
theorem dX12_paysBy_115 : decode cX12_paysBy 115 = .ok (.iload 5, 2) := by decide +kernel
theorem dX12_paysBy_117 : decode cX12_paysBy 117 = .ok (.aload_n 0, 1) := by decide +kernel
theorem dX12_paysBy_118 : decode cX12_paysBy 118 = .ok (.iload_n 1, 1) := by decide +kernel
theorem dX12_paysBy_119 : decode cX12_paysBy 119 = .ok (.invokevirtual 256, 3) := by decide +kernel
theorem dX12_paysBy_122 : decode cX12_paysBy 122 = .ok (.iadd, 1) := by decide +kernel
theorem dX12_paysBy_123 : decode cX12_paysBy 123 = .ok (.istore 5, 2) := by decide +kernel
theorem dX12_paysBy_125 : decode cX12_paysBy 125 = .ok (.iinc 6 1, 3) := by decide +kernel
theorem dX12_paysBy_128 : decode cX12_paysBy 128 = .ok (.goto (-89), 3) := by decide +kernel
theorem dX12_paysBy_131 : decode cX12_paysBy 131 = .ok (.iload 5, 2) := by decide +kernel
theorem dX12_paysBy_133 : decode cX12_paysBy 133 = .ok (.ireturn, 1) := by decide +kernel
theorem dX12_nightOf_0 : decode cX12_nightOf 0 = .ok (.iconst 1, 1) := by decide +kernel
theorem dX12_nightOf_1 : decode cX12_nightOf 1 = .ok (.istore 4, 2) := by decide +kernel
theorem dX12_nightOf_3 : decode cX12_nightOf 3 = .ok (.iconst 0, 1) := by decide +kernel
theorem dX12_nightOf_4 : decode cX12_nightOf 4 = .ok (.istore 5, 2) := by decide +kernel
theorem dX12_nightOf_6 : decode cX12_nightOf 6 = .ok (.iload 5, 2) := by decide +kernel
theorem dX12_nightOf_8 : decode cX12_nightOf 8 = .ok (.iload_n 2, 1) := by decide +kernel
theorem dX12_nightOf_9 : decode cX12_nightOf 9 = .ok (.if_icmp .ge 16, 3) := by decide +kernel
theorem dX12_nightOf_12 : decode cX12_nightOf 12 = .ok (.iload 4, 2) := by decide +kernel
theorem dX12_nightOf_14 : decode cX12_nightOf 14 = .ok (.bipush 6, 2) := by decide +kernel
theorem dX12_nightOf_16 : decode cX12_nightOf 16 = .ok (.imul, 1) := by decide +kernel
theorem dX12_nightOf_17 : decode cX12_nightOf 17 = .ok (.istore 4, 2) := by decide +kernel
theorem dX12_nightOf_19 : decode cX12_nightOf 19 = .ok (.iinc 5 1, 3) := by decide +kernel
theorem dX12_nightOf_22 : decode cX12_nightOf 22 = .ok (.goto (-16), 3) := by decide +kernel
theorem dX12_nightOf_25 : decode cX12_nightOf 25 = .ok (.iconst (-1), 1) := by decide +kernel
theorem dX12_nightOf_26 : decode cX12_nightOf 26 = .ok (.istore 5, 2) := by decide +kernel
theorem dX12_nightOf_28 : decode cX12_nightOf 28 = .ok (.iconst (-1), 1) := by decide +kernel
theorem dX12_nightOf_29 : decode cX12_nightOf 29 = .ok (.istore 6, 2) := by decide +kernel
theorem dX12_nightOf_31 : decode cX12_nightOf 31 = .ok (.iconst 0, 1) := by decide +kernel
theorem dX12_nightOf_32 : decode cX12_nightOf 32 = .ok (.istore 7, 2) := by decide +kernel
theorem dX12_nightOf_34 : decode cX12_nightOf 34 = .ok (.iload 7, 2) := by decide +kernel
theorem dX12_nightOf_36 : decode cX12_nightOf 36 = .ok (.iload 4, 2) := by decide +kernel
theorem dX12_nightOf_38 : decode cX12_nightOf 38 = .ok (.if_icmp .ge 51, 3) := by decide +kernel
theorem dX12_nightOf_41 : decode cX12_nightOf 41 = .ok (.aload_n 0, 1) := by decide +kernel
theorem dX12_nightOf_42 : decode cX12_nightOf 42 = .ok (.iload_n 1, 1) := by decide +kernel
theorem dX12_nightOf_43 : decode cX12_nightOf 43 = .ok (.iload 7, 2) := by decide +kernel
theorem dX12_nightOf_45 : decode cX12_nightOf 45 = .ok (.iload_n 2, 1) := by decide +kernel
theorem dX12_nightOf_46 : decode cX12_nightOf 46 = .ok (.invokevirtual 259, 3) := by decide +kernel
theorem dX12_nightOf_49 : decode cX12_nightOf 49 = .ok (.istore 8, 2) := by decide +kernel
theorem dX12_nightOf_51 : decode cX12_nightOf 51 = .ok (.iload 8, 2) := by decide +kernel
theorem dX12_nightOf_53 : decode cX12_nightOf 53 = .ok (.iload 6, 2) := by decide +kernel
theorem dX12_nightOf_55 : decode cX12_nightOf 55 = .ok (.if_icmp .le 8, 3) := by decide +kernel
theorem dX12_nightOf_58 : decode cX12_nightOf 58 = .ok (.iload 7, 2) := by decide +kernel
theorem dX12_nightOf_60 : decode cX12_nightOf 60 = .ok (.goto 5, 3) := by decide +kernel
theorem dX12_nightOf_63 : decode cX12_nightOf 63 = .ok (.iload 5, 2) := by decide +kernel
theorem dX12_nightOf_65 : decode cX12_nightOf 65 = .ok (.istore 5, 2) := by decide +kernel
theorem dX12_nightOf_67 : decode cX12_nightOf 67 = .ok (.iload 8, 2) := by decide +kernel
theorem dX12_nightOf_69 : decode cX12_nightOf 69 = .ok (.iload 6, 2) := by decide +kernel
theorem dX12_nightOf_71 : decode cX12_nightOf 71 = .ok (.if_icmp .le 8, 3) := by decide +kernel
theorem dX12_nightOf_74 : decode cX12_nightOf 74 = .ok (.iload 8, 2) := by decide +kernel
theorem dX12_nightOf_76 : decode cX12_nightOf 76 = .ok (.goto 5, 3) := by decide +kernel
theorem dX12_nightOf_79 : decode cX12_nightOf 79 = .ok (.iload 6, 2) := by decide +kernel
theorem dX12_nightOf_81 : decode cX12_nightOf 81 = .ok (.istore 6, 2) := by decide +kernel
theorem dX12_nightOf_83 : decode cX12_nightOf 83 = .ok (.iinc 7 1, 3) := by decide +kernel
theorem dX12_nightOf_86 : decode cX12_nightOf 86 = .ok (.goto (-52), 3) := by decide +kernel
theorem dX12_nightOf_89 : decode cX12_nightOf 89 = .ok (.iload_n 3, 1) := by decide +kernel
theorem dX12_nightOf_90 : decode cX12_nightOf 90 = .ok (.ifCond .eq 9, 3) := by decide +kernel
theorem dX12_nightOf_93 : decode cX12_nightOf 93 = .ok (.iload 6, 2) := by decide +kernel
theorem dX12_nightOf_95 : decode cX12_nightOf 95 = .ok (.iconst (-1), 1) := by decide +kernel
theorem dX12_nightOf_96 : decode cX12_nightOf 96 = .ok (.if_icmp .ne 6, 3) := by decide +kernel
theorem dX12_nightOf_99 : decode cX12_nightOf 99 = .ok (.iload 6, 2) := by decide +kernel
theorem dX12_nightOf_101 : decode cX12_nightOf 101 = .ok (.ireturn, 1) := by decide +kernel
theorem dX12_nightOf_102 : decode cX12_nightOf 102 = .ok (.iload_n 3, 1) := by decide +kernel
theorem dX12_nightOf_103 : decode cX12_nightOf 103 = .ok (.bipush 10, 2) := by decide +kernel
theorem dX12_nightOf_105 : decode cX12_nightOf 105 = .ok (.isub, 1) := by decide +kernel
theorem dX12_nightOf_106 : decode cX12_nightOf 106 = .ok (.istore 7, 2) := by decide +kernel
theorem dX12_nightOf_108 : decode cX12_nightOf 108 = .ok (.iload 7, 2) := by decide +kernel
theorem dX12_nightOf_110 : decode cX12_nightOf 110 = .ok (.iconst 1, 1) := by decide +kernel
theorem dX12_nightOf_111 : decode cX12_nightOf 111 = .ok (.iadd, 1) := by decide +kernel
theorem dX12_nightOf_112 : decode cX12_nightOf 112 = .ok (.istore 8, 2) := by decide +kernel
theorem dX12_nightOf_114 : decode cX12_nightOf 114 = .ok (.iload 8, 2) := by decide +kernel
theorem dX12_nightOf_116 : decode cX12_nightOf 116 = .ok (.iload_n 2, 1) := by decide +kernel
theorem dX12_nightOf_117 : decode cX12_nightOf 117 = .ok (.if_icmp .ge 16, 3) := by decide +kernel
theorem dX12_nightOf_120 : decode cX12_nightOf 120 = .ok (.iload 5, 2) := by decide +kernel
theorem dX12_nightOf_122 : decode cX12_nightOf 122 = .ok (.bipush 6, 2) := by decide +kernel
theorem dX12_nightOf_124 : decode cX12_nightOf 124 = .ok (.idiv, 1) := by decide +kernel
theorem dX12_nightOf_125 : decode cX12_nightOf 125 = .ok (.istore 5, 2) := by decide +kernel
theorem dX12_nightOf_127 : decode cX12_nightOf 127 = .ok (.iinc 8 1, 3) := by decide +kernel
theorem dX12_nightOf_130 : decode cX12_nightOf 130 = .ok (.goto (-16), 3) := by decide +kernel
theorem dX12_nightOf_133 : decode cX12_nightOf 133 = .ok (.iload 7, 2) := by decide +kernel
theorem dX12_nightOf_135 : decode cX12_nightOf 135 = .ok (.iload_n 2, 1) := by decide +kernel
theorem dX12_nightOf_136 : decode cX12_nightOf 136 = .ok (.if_icmp .ge 11, 3) := by decide +kernel
theorem dX12_nightOf_139 : decode cX12_nightOf 139 = .ok (.iload 5, 2) := by decide +kernel
theorem dX12_nightOf_141 : decode cX12_nightOf 141 = .ok (.bipush 6, 2) := by decide +kernel
theorem dX12_nightOf_143 : decode cX12_nightOf 143 = .ok (.irem, 1) := by decide +kernel
theorem dX12_nightOf_144 : decode cX12_nightOf 144 = .ok (.goto 4, 3) := by decide +kernel
theorem dX12_nightOf_147 : decode cX12_nightOf 147 = .ok (.iconst (-1), 1) := by decide +kernel
theorem dX12_nightOf_148 : decode cX12_nightOf 148 = .ok (.ireturn, 1) := by decide +kernel
theorem dX12_night_0 : decode cX12_night 0 = .ok (.aload_n 0, 1) := by decide +kernel
theorem dX12_night_1 : decode cX12_night 1 = .ok (.iload_n 1, 1) := by decide +kernel
theorem dX12_night_2 : decode cX12_night 2 = .ok (.invokevirtual 215, 3) := by decide +kernel
theorem dX12_night_5 : decode cX12_night 5 = .ok (.ifCond .ne 6, 3) := by decide +kernel
theorem dX12_night_8 : decode cX12_night 8 = .ok (.bipush (-101), 2) := by decide +kernel
theorem dX12_night_10 : decode cX12_night 10 = .ok (.ireturn, 1) := by decide +kernel
theorem dX12_night_11 : decode cX12_night 11 = .ok (.iload_n 2, 1) := by decide +kernel
theorem dX12_night_12 : decode cX12_night 12 = .ok (.i2l, 1) := by decide +kernel
theorem dX12_night_13 : decode cX12_night 13 = .ok (.lconst 0, 1) := by decide +kernel
theorem dX12_night_14 : decode cX12_night 14 = .ok (.ldc2_w 222, 3) := by decide +kernel
theorem dX12_night_17 : decode cX12_night 17 = .ok (.invokestatic 103, 3) := by decide +kernel
theorem dX12_night_20 : decode cX12_night 20 = .ok (.ifCond .eq 31, 3) := by decide +kernel
theorem dX12_night_23 : decode cX12_night 23 = .ok (.iload_n 3, 1) := by decide +kernel
theorem dX12_night_24 : decode cX12_night 24 = .ok (.ifCond .eq 17, 3) := by decide +kernel
theorem dX12_night_27 : decode cX12_night 27 = .ok (.iload_n 3, 1) := by decide +kernel
theorem dX12_night_28 : decode cX12_night 28 = .ok (.i2l, 1) := by decide +kernel
theorem dX12_night_29 : decode cX12_night 29 = .ok (.ldc2_w 249, 3) := by decide +kernel
theorem dX12_night_32 : decode cX12_night 32 = .ok (.ldc2_w 262, 3) := by decide +kernel
theorem dX12_night_35 : decode cX12_night 35 = .ok (.invokestatic 103, 3) := by decide +kernel
theorem dX12_night_38 : decode cX12_night 38 = .ok (.ifCond .eq 13, 3) := by decide +kernel
theorem dX12_night_41 : decode cX12_night 41 = .ok (.aload_n 0, 1) := by decide +kernel
theorem dX12_night_42 : decode cX12_night 42 = .ok (.iload_n 1, 1) := by decide +kernel
theorem dX12_night_43 : decode cX12_night 43 = .ok (.iload_n 2, 1) := by decide +kernel
theorem dX12_night_44 : decode cX12_night 44 = .ok (.iload_n 3, 1) := by decide +kernel
theorem dX12_night_45 : decode cX12_night 45 = .ok (.invokevirtual 264, 3) := by decide +kernel
theorem dX12_night_48 : decode cX12_night 48 = .ok (.goto 5, 3) := by decide +kernel
theorem dX12_night_51 : decode cX12_night 51 = .ok (.bipush (-102), 2) := by decide +kernel
theorem dX12_night_53 : decode cX12_night 53 = .ok (.ireturn, 1) := by decide +kernel
theorem dX12_isOf_0 : decode cX12_isOf 0 = .ok (.iload_n 1, 1) := by decide +kernel
theorem dX12_isOf_1 : decode cX12_isOf 1 = .ok (.aload_n 0, 1) := by decide +kernel
theorem dX12_isOf_2 : decode cX12_isOf 2 = .ok (.getfield 162, 3) := by decide +kernel
theorem dX12_isOf_5 : decode cX12_isOf 5 = .ok (.if_icmp .ge 26, 3) := by decide +kernel
theorem dX12_isOf_8 : decode cX12_isOf 8 = .ok (.aload_n 0, 1) := by decide +kernel
theorem dX12_isOf_9 : decode cX12_isOf 9 = .ok (.getfield 46, 3) := by decide +kernel
theorem dX12_isOf_12 : decode cX12_isOf 12 = .ok (.iload_n 1, 1) := by decide +kernel
theorem dX12_isOf_13 : decode cX12_isOf 13 = .ok (.iaload, 1) := by decide +kernel
theorem dX12_isOf_14 : decode cX12_isOf 14 = .ok (.ifCond .ne 17, 3) := by decide +kernel
theorem dX12_isOf_17 : decode cX12_isOf 17 = .ok (.aload_n 0, 1) := by decide +kernel
theorem dX12_isOf_18 : decode cX12_isOf 18 = .ok (.getfield 40, 3) := by decide +kernel
theorem dX12_isOf_21 : decode cX12_isOf 21 = .ok (.iload_n 1, 1) := by decide +kernel
theorem dX12_isOf_22 : decode cX12_isOf 22 = .ok (.iaload, 1) := by decide +kernel
theorem dX12_isOf_23 : decode cX12_isOf 23 = .ok (.iload_n 2, 1) := by decide +kernel
theorem dX12_isOf_24 : decode cX12_isOf 24 = .ok (.if_icmp .ne 7, 3) := by decide +kernel
theorem dX12_isOf_27 : decode cX12_isOf 27 = .ok (.iconst 1, 1) := by decide +kernel
theorem dX12_isOf_28 : decode cX12_isOf 28 = .ok (.goto 4, 3) := by decide +kernel
theorem dX12_isOf_31 : decode cX12_isOf 31 = .ok (.iconst 0, 1) := by decide +kernel
theorem dX12_isOf_32 : decode cX12_isOf 32 = .ok (.ireturn, 1) := by decide +kernel
theorem dX12_topOf_0 : decode cX12_topOf 0 = .ok (.aload_n 0, 1) := by decide +kernel
theorem dX12_topOf_1 : decode cX12_topOf 1 = .ok (.iload_n 1, 1) := by decide +kernel
theorem dX12_topOf_2 : decode cX12_topOf 2 = .ok (.iload_n 2, 1) := by decide +kernel
theorem dX12_topOf_3 : decode cX12_topOf 3 = .ok (.invokevirtual 267, 3) := by decide +kernel
theorem dX12_topOf_6 : decode cX12_topOf 6 = .ok (.ifCond .eq 12, 3) := by decide +kernel
theorem dX12_topOf_9 : decode cX12_topOf 9 = .ok (.aload_n 0, 1) := by decide +kernel
theorem dX12_topOf_10 : decode cX12_topOf 10 = .ok (.getfield 43, 3) := by decide +kernel
theorem dX12_topOf_13 : decode cX12_topOf 13 = .ok (.iload_n 1, 1) := by decide +kernel
theorem dX12_topOf_14 : decode cX12_topOf 14 = .ok (.iaload, 1) := by decide +kernel
theorem dX12_topOf_15 : decode cX12_topOf 15 = .ok (.goto 4, 3) := by decide +kernel
theorem dX12_topOf_18 : decode cX12_topOf 18 = .ok (.iconst 0, 1) := by decide +kernel
theorem dX12_topOf_19 : decode cX12_topOf 19 = .ok (.ireturn, 1) := by decide +kernel
theorem dX12_lessBy_0 : decode cX12_lessBy 0 = .ok (.iconst 0, 1) := by decide +kernel
theorem dX12_lessBy_1 : decode cX12_lessBy 1 = .ok (.istore_n 1, 1) := by decide +kernel
theorem dX12_lessBy_2 : decode cX12_lessBy 2 = .ok (.iconst 0, 1) := by decide +kernel
theorem dX12_lessBy_3 : decode cX12_lessBy 3 = .ok (.istore_n 2, 1) := by decide +kernel
theorem dX12_lessBy_4 : decode cX12_lessBy 4 = .ok (.iload_n 2, 1) := by decide +kernel
theorem dX12_lessBy_5 : decode cX12_lessBy 5 = .ok (.iconst 4, 1) := by decide +kernel
theorem dX12_lessBy_6 : decode cX12_lessBy 6 = .ok (.if_icmp .ge 16, 3) := by decide +kernel
theorem dX12_lessBy_9 : decode cX12_lessBy 9 = .ok (.aload_n 0, 1) := by decide +kernel
theorem dX12_lessBy_10 : decode cX12_lessBy 10 = .ok (.getfield 64, 3) := by decide +kernel
theorem dX12_lessBy_13 : decode cX12_lessBy 13 = .ok (.iload_n 2, 1) := by decide +kernel
theorem dX12_lessBy_14 : decode cX12_lessBy 14 = .ok (.iconst 0, 1) := by decide +kernel
theorem dX12_lessBy_15 : decode cX12_lessBy 15 = .ok (.iastore, 1) := by decide +kernel
theorem dX12_lessBy_16 : decode cX12_lessBy 16 = .ok (.iinc 2 1, 3) := by decide +kernel
theorem dX12_lessBy_19 : decode cX12_lessBy 19 = .ok (.goto (-15), 3) := by decide +kernel
theorem dX12_lessBy_22 : decode cX12_lessBy 22 = .ok (.iconst 0, 1) := by decide +kernel
theorem dX12_lessBy_23 : decode cX12_lessBy 23 = .ok (.istore_n 2, 1) := by decide +kernel
theorem dX12_lessBy_24 : decode cX12_lessBy 24 = .ok (.iload_n 2, 1) := by decide +kernel
theorem dX12_lessBy_25 : decode cX12_lessBy 25 = .ok (.aload_n 0, 1) := by decide +kernel
theorem dX12_lessBy_26 : decode cX12_lessBy 26 = .ok (.getfield 162, 3) := by decide +kernel
theorem dX12_lessBy_29 : decode cX12_lessBy 29 = .ok (.if_icmp .ge 58, 3) := by decide +kernel
theorem dX12_lessBy_32 : decode cX12_lessBy 32 = .ok (.aload_n 0, 1) := by decide +kernel
theorem dX12_lessBy_33 : decode cX12_lessBy 33 = .ok (.getfield 64, 3) := by decide +kernel
theorem dX12_lessBy_36 : decode cX12_lessBy 36 = .ok (.aload_n 0, 1) := by decide +kernel
theorem dX12_lessBy_37 : decode cX12_lessBy 37 = .ok (.getfield 34, 3) := by decide +kernel
theorem dX12_lessBy_40 : decode cX12_lessBy 40 = .ok (.iload_n 2, 1) := by decide +kernel
theorem dX12_lessBy_41 : decode cX12_lessBy 41 = .ok (.iaload, 1) := by decide +kernel
theorem dX12_lessBy_42 : decode cX12_lessBy 42 = .ok (.dup2, 1) := by decide +kernel
theorem dX12_lessBy_43 : decode cX12_lessBy 43 = .ok (.iaload, 1) := by decide +kernel
theorem dX12_lessBy_44 : decode cX12_lessBy 44 = .ok (.aload_n 0, 1) := by decide +kernel
theorem dX12_lessBy_45 : decode cX12_lessBy 45 = .ok (.getfield 61, 3) := by decide +kernel
theorem dX12_lessBy_48 : decode cX12_lessBy 48 = .ok (.iload_n 2, 1) := by decide +kernel
theorem dX12_lessBy_49 : decode cX12_lessBy 49 = .ok (.iaload, 1) := by decide +kernel
theorem dX12_lessBy_50 : decode cX12_lessBy 50 = .ok (.isub, 1) := by decide +kernel
theorem dX12_lessBy_51 : decode cX12_lessBy 51 = .ok (.iastore, 1) := by decide +kernel
theorem dX12_lessBy_52 : decode cX12_lessBy 52 = .ok (.aload_n 0, 1) := by decide +kernel
theorem dX12_lessBy_53 : decode cX12_lessBy 53 = .ok (.getfield 64, 3) := by decide +kernel
theorem dX12_lessBy_56 : decode cX12_lessBy 56 = .ok (.aload_n 0, 1) := by decide +kernel
theorem dX12_lessBy_57 : decode cX12_lessBy 57 = .ok (.getfield 37, 3) := by decide +kernel
theorem dX12_lessBy_60 : decode cX12_lessBy 60 = .ok (.iload_n 2, 1) := by decide +kernel
theorem dX12_lessBy_61 : decode cX12_lessBy 61 = .ok (.iaload, 1) := by decide +kernel
theorem dX12_lessBy_62 : decode cX12_lessBy 62 = .ok (.dup2, 1) := by decide +kernel
theorem dX12_lessBy_63 : decode cX12_lessBy 63 = .ok (.iaload, 1) := by decide +kernel
theorem dX12_lessBy_64 : decode cX12_lessBy 64 = .ok (.aload_n 0, 1) := by decide +kernel
theorem dX12_lessBy_65 : decode cX12_lessBy 65 = .ok (.getfield 61, 3) := by decide +kernel
theorem dX12_lessBy_68 : decode cX12_lessBy 68 = .ok (.iload_n 2, 1) := by decide +kernel
theorem dX12_lessBy_69 : decode cX12_lessBy 69 = .ok (.iaload, 1) := by decide +kernel
theorem dX12_lessBy_70 : decode cX12_lessBy 70 = .ok (.iadd, 1) := by decide +kernel
theorem dX12_lessBy_71 : decode cX12_lessBy 71 = .ok (.iastore, 1) := by decide +kernel
theorem dX12_lessBy_72 : decode cX12_lessBy 72 = .ok (.iload_n 1, 1) := by decide +kernel
theorem dX12_lessBy_73 : decode cX12_lessBy 73 = .ok (.aload_n 0, 1) := by decide +kernel
theorem dX12_lessBy_74 : decode cX12_lessBy 74 = .ok (.getfield 61, 3) := by decide +kernel
theorem dX12_lessBy_77 : decode cX12_lessBy 77 = .ok (.iload_n 2, 1) := by decide +kernel
theorem dX12_lessBy_78 : decode cX12_lessBy 78 = .ok (.iaload, 1) := by decide +kernel
theorem dX12_lessBy_79 : decode cX12_lessBy 79 = .ok (.iadd, 1) := by decide +kernel
theorem dX12_lessBy_80 : decode cX12_lessBy 80 = .ok (.istore_n 1, 1) := by decide +kernel
theorem dX12_lessBy_81 : decode cX12_lessBy 81 = .ok (.iinc 2 1, 3) := by decide +kernel
theorem dX12_lessBy_84 : decode cX12_lessBy 84 = .ok (.goto (-60), 3) := by decide +kernel
theorem dX12_lessBy_87 : decode cX12_lessBy 87 = .ok (.iconst 0, 1) := by decide +kernel
theorem dX12_lessBy_88 : decode cX12_lessBy 88 = .ok (.istore_n 2, 1) := by decide +kernel
theorem dX12_lessBy_89 : decode cX12_lessBy 89 = .ok (.iload_n 2, 1) := by decide +kernel
theorem dX12_lessBy_90 : decode cX12_lessBy 90 = .ok (.iconst 4, 1) := by decide +kernel
theorem dX12_lessBy_91 : decode cX12_lessBy 91 = .ok (.if_icmp .ge 24, 3) := by decide +kernel
theorem dX12_lessBy_94 : decode cX12_lessBy 94 = .ok (.aload_n 0, 1) := by decide +kernel
theorem dX12_lessBy_95 : decode cX12_lessBy 95 = .ok (.getfield 64, 3) := by decide +kernel
theorem dX12_lessBy_98 : decode cX12_lessBy 98 = .ok (.iload_n 2, 1) := by decide +kernel
theorem dX12_lessBy_99 : decode cX12_lessBy 99 = .ok (.iaload, 1) := by decide +kernel
theorem dX12_lessBy_100 : decode cX12_lessBy 100 = .ok (.ifCond .ne 7, 3) := by decide +kernel
theorem dX12_lessBy_103 : decode cX12_lessBy 103 = .ok (.iload_n 1, 1) := by decide +kernel
theorem dX12_lessBy_104 : decode cX12_lessBy 104 = .ok (.goto 4, 3) := by decide +kernel
theorem dX12_lessBy_107 : decode cX12_lessBy 107 = .ok (.iconst (-1), 1) := by decide +kernel
theorem dX12_lessBy_108 : decode cX12_lessBy 108 = .ok (.istore_n 1, 1) := by decide +kernel
theorem dX12_lessBy_109 : decode cX12_lessBy 109 = .ok (.iinc 2 1, 3) := by decide +kernel
theorem dX12_lessBy_112 : decode cX12_lessBy 112 = .ok (.goto (-23), 3) := by decide +kernel
theorem dX12_lessBy_115 : decode cX12_lessBy 115 = .ok (.iload_n 1, 1) := by decide +kernel
theorem dX12_lessBy_116 : decode cX12_lessBy 116 = .ok (.ireturn, 1) := by decide +kernel
theorem dX12_layCancel_0 : decode cX12_layCancel 0 = .ok (.iconst (-1), 1) := by decide +kernel
theorem dX12_layCancel_1 : decode cX12_layCancel 1 = .ok (.istore_n 2, 1) := by decide +kernel
theorem dX12_layCancel_2 : decode cX12_layCancel 2 = .ok (.aload_n 0, 1) := by decide +kernel
theorem dX12_layCancel_3 : decode cX12_layCancel 3 = .ok (.getfield 61, 3) := by decide +kernel
theorem dX12_layCancel_6 : decode cX12_layCancel 6 = .ok (.iconst 0, 1) := by decide +kernel
theorem dX12_layCancel_7 : decode cX12_layCancel 7 = .ok (.iconst 0, 1) := by decide +kernel
theorem dX12_layCancel_8 : decode cX12_layCancel 8 = .ok (.iastore, 1) := by decide +kernel
theorem dX12_layCancel_9 : decode cX12_layCancel 9 = .ok (.aload_n 0, 1) := by decide +kernel
theorem dX12_layCancel_10 : decode cX12_layCancel 10 = .ok (.getfield 61, 3) := by decide +kernel
theorem dX12_layCancel_13 : decode cX12_layCancel 13 = .ok (.iconst 0, 1) := by decide +kernel
theorem dX12_layCancel_14 : decode cX12_layCancel 14 = .ok (.iaload, 1) := by decide +kernel
theorem dX12_layCancel_15 : decode cX12_layCancel 15 = .ok (.aload_n 0, 1) := by decide +kernel
theorem dX12_layCancel_16 : decode cX12_layCancel 16 = .ok (.iconst 0, 1) := by decide +kernel
theorem dX12_layCancel_17 : decode cX12_layCancel 17 = .ok (.iload_n 1, 1) := by decide +kernel
theorem dX12_layCancel_18 : decode cX12_layCancel 18 = .ok (.invokevirtual 271, 3) := by decide +kernel
theorem dX12_layCancel_21 : decode cX12_layCancel 21 = .ok (.if_icmp .gt 144, 3) := by decide +kernel
theorem dX12_layCancel_24 : decode cX12_layCancel 24 = .ok (.aload_n 0, 1) := by decide +kernel
theorem dX12_layCancel_25 : decode cX12_layCancel 25 = .ok (.getfield 61, 3) := by decide +kernel
theorem dX12_layCancel_28 : decode cX12_layCancel 28 = .ok (.iconst 1, 1) := by decide +kernel
theorem dX12_layCancel_29 : decode cX12_layCancel 29 = .ok (.iconst 0, 1) := by decide +kernel
theorem dX12_layCancel_30 : decode cX12_layCancel 30 = .ok (.iastore, 1) := by decide +kernel
theorem dX12_layCancel_31 : decode cX12_layCancel 31 = .ok (.aload_n 0, 1) := by decide +kernel
theorem dX12_layCancel_32 : decode cX12_layCancel 32 = .ok (.getfield 61, 3) := by decide +kernel
theorem dX12_layCancel_35 : decode cX12_layCancel 35 = .ok (.iconst 1, 1) := by decide +kernel
theorem dX12_layCancel_36 : decode cX12_layCancel 36 = .ok (.iaload, 1) := by decide +kernel
theorem dX12_layCancel_37 : decode cX12_layCancel 37 = .ok (.aload_n 0, 1) := by decide +kernel
theorem dX12_layCancel_38 : decode cX12_layCancel 38 = .ok (.iconst 1, 1) := by decide +kernel
theorem dX12_layCancel_39 : decode cX12_layCancel 39 = .ok (.iload_n 1, 1) := by decide +kernel
theorem dX12_layCancel_40 : decode cX12_layCancel 40 = .ok (.invokevirtual 271, 3) := by decide +kernel
theorem dX12_layCancel_43 : decode cX12_layCancel 43 = .ok (.if_icmp .gt 109, 3) := by decide +kernel
theorem dX12_layCancel_46 : decode cX12_layCancel 46 = .ok (.aload_n 0, 1) := by decide +kernel
theorem dX12_layCancel_47 : decode cX12_layCancel 47 = .ok (.getfield 61, 3) := by decide +kernel
theorem dX12_layCancel_50 : decode cX12_layCancel 50 = .ok (.iconst 2, 1) := by decide +kernel
theorem dX12_layCancel_51 : decode cX12_layCancel 51 = .ok (.iconst 0, 1) := by decide +kernel
theorem dX12_layCancel_52 : decode cX12_layCancel 52 = .ok (.iastore, 1) := by decide +kernel
theorem dX12_layCancel_53 : decode cX12_layCancel 53 = .ok (.aload_n 0, 1) := by decide +kernel
theorem dX12_layCancel_54 : decode cX12_layCancel 54 = .ok (.getfield 61, 3) := by decide +kernel
theorem dX12_layCancel_57 : decode cX12_layCancel 57 = .ok (.iconst 2, 1) := by decide +kernel
theorem dX12_layCancel_58 : decode cX12_layCancel 58 = .ok (.iaload, 1) := by decide +kernel
theorem dX12_layCancel_59 : decode cX12_layCancel 59 = .ok (.aload_n 0, 1) := by decide +kernel
theorem dX12_layCancel_60 : decode cX12_layCancel 60 = .ok (.iconst 2, 1) := by decide +kernel
theorem dX12_layCancel_61 : decode cX12_layCancel 61 = .ok (.iload_n 1, 1) := by decide +kernel
theorem dX12_layCancel_62 : decode cX12_layCancel 62 = .ok (.invokevirtual 271, 3) := by decide +kernel
theorem dX12_layCancel_65 : decode cX12_layCancel 65 = .ok (.if_icmp .gt 74, 3) := by decide +kernel
theorem dX12_layCancel_68 : decode cX12_layCancel 68 = .ok (.aload_n 0, 1) := by decide +kernel
theorem dX12_layCancel_69 : decode cX12_layCancel 69 = .ok (.getfield 61, 3) := by decide +kernel
theorem dX12_layCancel_72 : decode cX12_layCancel 72 = .ok (.iconst 3, 1) := by decide +kernel
theorem dX12_layCancel_73 : decode cX12_layCancel 73 = .ok (.iconst 0, 1) := by decide +kernel
theorem dX12_layCancel_74 : decode cX12_layCancel 74 = .ok (.iastore, 1) := by decide +kernel
theorem dX12_layCancel_75 : decode cX12_layCancel 75 = .ok (.aload_n 0, 1) := by decide +kernel
theorem dX12_layCancel_76 : decode cX12_layCancel 76 = .ok (.getfield 61, 3) := by decide +kernel
theorem dX12_layCancel_79 : decode cX12_layCancel 79 = .ok (.iconst 3, 1) := by decide +kernel
theorem dX12_layCancel_80 : decode cX12_layCancel 80 = .ok (.iaload, 1) := by decide +kernel
theorem dX12_layCancel_81 : decode cX12_layCancel 81 = .ok (.aload_n 0, 1) := by decide +kernel
theorem dX12_layCancel_82 : decode cX12_layCancel 82 = .ok (.iconst 3, 1) := by decide +kernel
theorem dX12_layCancel_83 : decode cX12_layCancel 83 = .ok (.iload_n 1, 1) := by decide +kernel
theorem dX12_layCancel_84 : decode cX12_layCancel 84 = .ok (.invokevirtual 271, 3) := by decide +kernel
theorem dX12_layCancel_87 : decode cX12_layCancel 87 = .ok (.if_icmp .gt 39, 3) := by decide +kernel
theorem dX12_layCancel_90 : decode cX12_layCancel 90 = .ok (.aload_n 0, 1) := by decide +kernel
theorem dX12_layCancel_91 : decode cX12_layCancel 91 = .ok (.invokevirtual 274, 3) := by decide +kernel
theorem dX12_layCancel_94 : decode cX12_layCancel 94 = .ok (.istore_n 3, 1) := by decide +kernel
theorem dX12_layCancel_95 : decode cX12_layCancel 95 = .ok (.iload_n 3, 1) := by decide +kernel
theorem dX12_layCancel_96 : decode cX12_layCancel 96 = .ok (.iload_n 2, 1) := by decide +kernel
theorem dX12_layCancel_97 : decode cX12_layCancel 97 = .ok (.if_icmp .le 16, 3) := by decide +kernel
theorem dX12_layCancel_100 : decode cX12_layCancel 100 = .ok (.iload_n 3, 1) := by decide +kernel
theorem dX12_layCancel_101 : decode cX12_layCancel 101 = .ok (.istore_n 2, 1) := by decide +kernel
theorem dX12_layCancel_102 : decode cX12_layCancel 102 = .ok (.aload_n 0, 1) := by decide +kernel
theorem dX12_layCancel_103 : decode cX12_layCancel 103 = .ok (.getfield 61, 3) := by decide +kernel
theorem dX12_layCancel_106 : decode cX12_layCancel 106 = .ok (.aload_n 0, 1) := by decide +kernel
theorem dX12_layCancel_107 : decode cX12_layCancel 107 = .ok (.getfield 67, 3) := by decide +kernel
theorem dX12_layCancel_110 : decode cX12_layCancel 110 = .ok (.invokestatic 177, 3) := by decide +kernel
theorem dX12_layCancel_113 : decode cX12_layCancel 113 = .ok (.aload_n 0, 1) := by decide +kernel
theorem dX12_layCancel_114 : decode cX12_layCancel 114 = .ok (.getfield 61, 3) := by decide +kernel
theorem dX12_layCancel_117 : decode cX12_layCancel 117 = .ok (.iconst 3, 1) := by decide +kernel
theorem dX12_layCancel_118 : decode cX12_layCancel 118 = .ok (.dup2, 1) := by decide +kernel
theorem dX12_layCancel_119 : decode cX12_layCancel 119 = .ok (.iaload, 1) := by decide +kernel
theorem dX12_layCancel_120 : decode cX12_layCancel 120 = .ok (.iconst 1, 1) := by decide +kernel
theorem dX12_layCancel_121 : decode cX12_layCancel 121 = .ok (.iadd, 1) := by decide +kernel
theorem dX12_layCancel_122 : decode cX12_layCancel 122 = .ok (.iastore, 1) := by decide +kernel
theorem dX12_layCancel_123 : decode cX12_layCancel 123 = .ok (.goto (-48), 3) := by decide +kernel
theorem dX12_layCancel_126 : decode cX12_layCancel 126 = .ok (.aload_n 0, 1) := by decide +kernel
theorem dX12_layCancel_127 : decode cX12_layCancel 127 = .ok (.getfield 61, 3) := by decide +kernel
theorem dX12_layCancel_130 : decode cX12_layCancel 130 = .ok (.iconst 2, 1) := by decide +kernel
theorem dX12_layCancel_131 : decode cX12_layCancel 131 = .ok (.dup2, 1) := by decide +kernel
theorem dX12_layCancel_132 : decode cX12_layCancel 132 = .ok (.iaload, 1) := by decide +kernel
theorem dX12_layCancel_133 : decode cX12_layCancel 133 = .ok (.iconst 1, 1) := by decide +kernel
theorem dX12_layCancel_134 : decode cX12_layCancel 134 = .ok (.iadd, 1) := by decide +kernel
theorem dX12_layCancel_135 : decode cX12_layCancel 135 = .ok (.iastore, 1) := by decide +kernel
theorem dX12_layCancel_136 : decode cX12_layCancel 136 = .ok (.goto (-83), 3) := by decide +kernel
theorem dX12_layCancel_139 : decode cX12_layCancel 139 = .ok (.aload_n 0, 1) := by decide +kernel
theorem dX12_layCancel_140 : decode cX12_layCancel 140 = .ok (.getfield 61, 3) := by decide +kernel
theorem dX12_layCancel_143 : decode cX12_layCancel 143 = .ok (.iconst 1, 1) := by decide +kernel
theorem dX12_layCancel_144 : decode cX12_layCancel 144 = .ok (.dup2, 1) := by decide +kernel
theorem dX12_layCancel_145 : decode cX12_layCancel 145 = .ok (.iaload, 1) := by decide +kernel
theorem dX12_layCancel_146 : decode cX12_layCancel 146 = .ok (.iconst 1, 1) := by decide +kernel
theorem dX12_layCancel_147 : decode cX12_layCancel 147 = .ok (.iadd, 1) := by decide +kernel
theorem dX12_layCancel_148 : decode cX12_layCancel 148 = .ok (.iastore, 1) := by decide +kernel
theorem dX12_layCancel_149 : decode cX12_layCancel 149 = .ok (.goto (-118), 3) := by decide +kernel
theorem dX12_layCancel_152 : decode cX12_layCancel 152 = .ok (.aload_n 0, 1) := by decide +kernel
theorem dX12_layCancel_153 : decode cX12_layCancel 153 = .ok (.getfield 61, 3) := by decide +kernel
theorem dX12_layCancel_156 : decode cX12_layCancel 156 = .ok (.iconst 0, 1) := by decide +kernel
theorem dX12_layCancel_157 : decode cX12_layCancel 157 = .ok (.dup2, 1) := by decide +kernel
theorem dX12_layCancel_158 : decode cX12_layCancel 158 = .ok (.iaload, 1) := by decide +kernel
theorem dX12_layCancel_159 : decode cX12_layCancel 159 = .ok (.iconst 1, 1) := by decide +kernel
theorem dX12_layCancel_160 : decode cX12_layCancel 160 = .ok (.iadd, 1) := by decide +kernel
theorem dX12_layCancel_161 : decode cX12_layCancel 161 = .ok (.iastore, 1) := by decide +kernel
theorem dX12_layCancel_162 : decode cX12_layCancel 162 = .ok (.goto (-153), 3) := by decide +kernel
theorem dX12_layCancel_165 : decode cX12_layCancel 165 = .ok (.iload_n 2, 1) := by decide +kernel
theorem dX12_layCancel_166 : decode cX12_layCancel 166 = .ok (.ireturn, 1) := by decide +kernel
theorem dX12_cancelOf_0 : decode cX12_cancelOf 0 = .ok (.aload_n 0, 1) := by decide +kernel
theorem dX12_cancelOf_1 : decode cX12_cancelOf 1 = .ok (.iload_n 1, 1) := by decide +kernel
theorem dX12_cancelOf_2 : decode cX12_cancelOf 2 = .ok (.invokevirtual 277, 3) := by decide +kernel
theorem dX12_cancelOf_5 : decode cX12_cancelOf 5 = .ok (.istore_n 3, 1) := by decide +kernel
theorem dX12_cancelOf_6 : decode cX12_cancelOf 6 = .ok (.iload_n 2, 1) := by decide +kernel
theorem dX12_cancelOf_7 : decode cX12_cancelOf 7 = .ok (.ifCond .ne 5, 3) := by decide +kernel
theorem dX12_cancelOf_10 : decode cX12_cancelOf 10 = .ok (.iload_n 3, 1) := by decide +kernel
theorem dX12_cancelOf_11 : decode cX12_cancelOf 11 = .ok (.ireturn, 1) := by decide +kernel
theorem dX12_cancelOf_12 : decode cX12_cancelOf 12 = .ok (.aload_n 0, 1) := by decide +kernel
theorem dX12_cancelOf_13 : decode cX12_cancelOf 13 = .ok (.iload_n 2, 1) := by decide +kernel
theorem dX12_cancelOf_14 : decode cX12_cancelOf 14 = .ok (.bipush 10, 2) := by decide +kernel
theorem dX12_cancelOf_16 : decode cX12_cancelOf 16 = .ok (.isub, 1) := by decide +kernel
theorem dX12_cancelOf_17 : decode cX12_cancelOf 17 = .ok (.iload_n 1, 1) := by decide +kernel
theorem dX12_cancelOf_18 : decode cX12_cancelOf 18 = .ok (.invokevirtual 267, 3) := by decide +kernel
theorem dX12_cancelOf_21 : decode cX12_cancelOf 21 = .ok (.ifCond .eq 15, 3) := by decide +kernel
theorem dX12_cancelOf_24 : decode cX12_cancelOf 24 = .ok (.aload_n 0, 1) := by decide +kernel
theorem dX12_cancelOf_25 : decode cX12_cancelOf 25 = .ok (.getfield 67, 3) := by decide +kernel
theorem dX12_cancelOf_28 : decode cX12_cancelOf 28 = .ok (.iload_n 2, 1) := by decide +kernel
theorem dX12_cancelOf_29 : decode cX12_cancelOf 29 = .ok (.bipush 10, 2) := by decide +kernel
theorem dX12_cancelOf_31 : decode cX12_cancelOf 31 = .ok (.isub, 1) := by decide +kernel
theorem dX12_cancelOf_32 : decode cX12_cancelOf 32 = .ok (.iaload, 1) := by decide +kernel
theorem dX12_cancelOf_33 : decode cX12_cancelOf 33 = .ok (.goto 4, 3) := by decide +kernel
theorem dX12_cancelOf_36 : decode cX12_cancelOf 36 = .ok (.iconst (-1), 1) := by decide +kernel
theorem dX12_cancelOf_37 : decode cX12_cancelOf 37 = .ok (.ireturn, 1) := by decide +kernel
theorem dX12_cancel_0 : decode cX12_cancel 0 = .ok (.aload_n 0, 1) := by decide +kernel
theorem dX12_cancel_1 : decode cX12_cancel 1 = .ok (.iload_n 1, 1) := by decide +kernel
theorem dX12_cancel_2 : decode cX12_cancel 2 = .ok (.invokevirtual 246, 3) := by decide +kernel
theorem dX12_cancel_5 : decode cX12_cancel 5 = .ok (.ifCond .ne 6, 3) := by decide +kernel
theorem dX12_cancel_8 : decode cX12_cancel 8 = .ok (.bipush (-101), 2) := by decide +kernel
theorem dX12_cancel_10 : decode cX12_cancel 10 = .ok (.ireturn, 1) := by decide +kernel
theorem dX12_cancel_11 : decode cX12_cancel 11 = .ok (.iload_n 2, 1) := by decide +kernel
theorem dX12_cancel_12 : decode cX12_cancel 12 = .ok (.ifCond .eq 17, 3) := by decide +kernel
theorem dX12_cancel_15 : decode cX12_cancel 15 = .ok (.iload_n 2, 1) := by decide +kernel
theorem dX12_cancel_16 : decode cX12_cancel 16 = .ok (.i2l, 1) := by decide +kernel
theorem dX12_cancel_17 : decode cX12_cancel 17 = .ok (.ldc2_w 249, 3) := by decide +kernel
theorem dX12_cancel_20 : decode cX12_cancel 20 = .ok (.ldc2_w 262, 3) := by decide +kernel
theorem dX12_cancel_23 : decode cX12_cancel 23 = .ok (.invokestatic 103, 3) := by decide +kernel
theorem dX12_cancel_26 : decode cX12_cancel 26 = .ok (.ifCond .eq 12, 3) := by decide +kernel
theorem dX12_cancel_29 : decode cX12_cancel 29 = .ok (.aload_n 0, 1) := by decide +kernel
theorem dX12_cancel_30 : decode cX12_cancel 30 = .ok (.iload_n 1, 1) := by decide +kernel
theorem dX12_cancel_31 : decode cX12_cancel 31 = .ok (.iload_n 2, 1) := by decide +kernel
theorem dX12_cancel_32 : decode cX12_cancel 32 = .ok (.invokevirtual 280, 3) := by decide +kernel
theorem dX12_cancel_35 : decode cX12_cancel 35 = .ok (.goto 5, 3) := by decide +kernel
theorem dX12_cancel_38 : decode cX12_cancel 38 = .ok (.bipush (-102), 2) := by decide +kernel
theorem dX12_cancel_40 : decode cX12_cancel 40 = .ok (.ireturn, 1) := by decide +kernel
theorem dX12_owesThen_0 : decode cX12_owesThen 0 = .ok (.iconst 0, 1) := by decide +kernel
theorem dX12_owesThen_1 : decode cX12_owesThen 1 = .ok (.istore_n 2, 1) := by decide +kernel
theorem dX12_owesThen_2 : decode cX12_owesThen 2 = .ok (.iconst 0, 1) := by decide +kernel
theorem dX12_owesThen_3 : decode cX12_owesThen 3 = .ok (.istore_n 3, 1) := by decide +kernel
theorem dX12_owesThen_4 : decode cX12_owesThen 4 = .ok (.iload_n 3, 1) := by decide +kernel
theorem dX12_owesThen_5 : decode cX12_owesThen 5 = .ok (.aload_n 0, 1) := by decide +kernel
theorem dX12_owesThen_6 : decode cX12_owesThen 6 = .ok (.getfield 162, 3) := by decide +kernel
theorem dX12_owesThen_9 : decode cX12_owesThen 9 = .ok (.if_icmp .ge 40, 3) := by decide +kernel
theorem dX12_owesThen_12 : decode cX12_owesThen 12 = .ok (.iload_n 2, 1) := by decide +kernel
theorem dX12_owesThen_13 : decode cX12_owesThen 13 = .ok (.aload_n 0, 1) := by decide +kernel
theorem dX12_owesThen_14 : decode cX12_owesThen 14 = .ok (.getfield 34, 3) := by decide +kernel
theorem dX12_owesThen_17 : decode cX12_owesThen 17 = .ok (.iload_n 3, 1) := by decide +kernel
theorem dX12_owesThen_18 : decode cX12_owesThen 18 = .ok (.iaload, 1) := by decide +kernel
theorem dX12_owesThen_19 : decode cX12_owesThen 19 = .ok (.iload_n 1, 1) := by decide +kernel
theorem dX12_owesThen_20 : decode cX12_owesThen 20 = .ok (.if_icmp .ne 20, 3) := by decide +kernel
theorem dX12_owesThen_23 : decode cX12_owesThen 23 = .ok (.aload_n 0, 1) := by decide +kernel
theorem dX12_owesThen_24 : decode cX12_owesThen 24 = .ok (.getfield 55, 3) := by decide +kernel
theorem dX12_owesThen_27 : decode cX12_owesThen 27 = .ok (.iload_n 3, 1) := by decide +kernel
theorem dX12_owesThen_28 : decode cX12_owesThen 28 = .ok (.iaload, 1) := by decide +kernel
theorem dX12_owesThen_29 : decode cX12_owesThen 29 = .ok (.ifCond .ne 11, 3) := by decide +kernel
theorem dX12_owesThen_32 : decode cX12_owesThen 32 = .ok (.aload_n 0, 1) := by decide +kernel
theorem dX12_owesThen_33 : decode cX12_owesThen 33 = .ok (.iload_n 3, 1) := by decide +kernel
theorem dX12_owesThen_34 : decode cX12_owesThen 34 = .ok (.invokevirtual 184, 3) := by decide +kernel
theorem dX12_owesThen_37 : decode cX12_owesThen 37 = .ok (.goto 4, 3) := by decide +kernel
theorem dX12_owesThen_40 : decode cX12_owesThen 40 = .ok (.iconst 0, 1) := by decide +kernel
theorem dX12_owesThen_41 : decode cX12_owesThen 41 = .ok (.iadd, 1) := by decide +kernel
theorem dX12_owesThen_42 : decode cX12_owesThen 42 = .ok (.istore_n 2, 1) := by decide +kernel
theorem dX12_owesThen_43 : decode cX12_owesThen 43 = .ok (.iinc 3 1, 3) := by decide +kernel
theorem dX12_owesThen_46 : decode cX12_owesThen 46 = .ok (.goto (-42), 3) := by decide +kernel
theorem dX12_owesThen_49 : decode cX12_owesThen 49 = .ok (.iload_n 2, 1) := by decide +kernel
theorem dX12_owesThen_50 : decode cX12_owesThen 50 = .ok (.ireturn, 1) := by decide +kernel
theorem dX12_soundOf_0 : decode cX12_soundOf 0 = .ok (.aload_n 0, 1) := by decide +kernel
theorem dX12_soundOf_1 : decode cX12_soundOf 1 = .ok (.invokevirtual 191, 3) := by decide +kernel
theorem dX12_soundOf_4 : decode cX12_soundOf 4 = .ok (.iconst 0, 1) := by decide +kernel
theorem dX12_soundOf_5 : decode cX12_soundOf 5 = .ok (.istore_n 1, 1) := by decide +kernel
theorem dX12_soundOf_6 : decode cX12_soundOf 6 = .ok (.iload_n 1, 1) := by decide +kernel
theorem dX12_soundOf_7 : decode cX12_soundOf 7 = .ok (.iconst 4, 1) := by decide +kernel
theorem dX12_soundOf_8 : decode cX12_soundOf 8 = .ok (.if_icmp .ge 94, 3) := by decide +kernel
theorem dX12_soundOf_11 : decode cX12_soundOf 11 = .ok (.iconst 0, 1) := by decide +kernel
theorem dX12_soundOf_12 : decode cX12_soundOf 12 = .ok (.istore_n 2, 1) := by decide +kernel
theorem dX12_soundOf_13 : decode cX12_soundOf 13 = .ok (.iload_n 2, 1) := by decide +kernel
theorem dX12_soundOf_14 : decode cX12_soundOf 14 = .ok (.aload_n 0, 1) := by decide +kernel
theorem dX12_soundOf_15 : decode cX12_soundOf 15 = .ok (.getfield 159, 3) := by decide +kernel
theorem dX12_soundOf_18 : decode cX12_soundOf 18 = .ok (.if_icmp .ge 78, 3) := by decide +kernel
theorem dX12_soundOf_21 : decode cX12_soundOf 21 = .ok (.aload_n 0, 1) := by decide +kernel
theorem dX12_soundOf_22 : decode cX12_soundOf 22 = .ok (.getfield 49, 3) := by decide +kernel
theorem dX12_soundOf_25 : decode cX12_soundOf 25 = .ok (.iload_n 2, 1) := by decide +kernel
theorem dX12_soundOf_26 : decode cX12_soundOf 26 = .ok (.iaload, 1) := by decide +kernel
theorem dX12_soundOf_27 : decode cX12_soundOf 27 = .ok (.aload_n 0, 1) := by decide +kernel
theorem dX12_soundOf_28 : decode cX12_soundOf 28 = .ok (.iload_n 2, 1) := by decide +kernel
theorem dX12_soundOf_29 : decode cX12_soundOf 29 = .ok (.invokevirtual 283, 3) := by decide +kernel
theorem dX12_soundOf_32 : decode cX12_soundOf 32 = .ok (.if_icmp .lt 7, 3) := by decide +kernel
theorem dX12_soundOf_35 : decode cX12_soundOf 35 = .ok (.iconst 1, 1) := by decide +kernel
theorem dX12_soundOf_36 : decode cX12_soundOf 36 = .ok (.goto 4, 3) := by decide +kernel
theorem dX12_soundOf_39 : decode cX12_soundOf 39 = .ok (.iconst 0, 1) := by decide +kernel
theorem dX12_soundOf_40 : decode cX12_soundOf 40 = .ok (.istore_n 3, 1) := by decide +kernel
theorem dX12_soundOf_41 : decode cX12_soundOf 41 = .ok (.iconst 0, 1) := by decide +kernel
theorem dX12_soundOf_42 : decode cX12_soundOf 42 = .ok (.istore 4, 2) := by decide +kernel
theorem dX12_soundOf_44 : decode cX12_soundOf 44 = .ok (.iload 4, 2) := by decide +kernel
theorem dX12_soundOf_46 : decode cX12_soundOf 46 = .ok (.aload_n 0, 1) := by decide +kernel
theorem dX12_soundOf_47 : decode cX12_soundOf 47 = .ok (.getfield 162, 3) := by decide +kernel
theorem dX12_soundOf_50 : decode cX12_soundOf 50 = .ok (.if_icmp .ge 40, 3) := by decide +kernel
theorem dX12_soundOf_53 : decode cX12_soundOf 53 = .ok (.iload_n 3, 1) := by decide +kernel
theorem dX12_soundOf_54 : decode cX12_soundOf 54 = .ok (.ifCond .eq 36, 3) := by decide +kernel
theorem dX12_soundOf_57 : decode cX12_soundOf 57 = .ok (.aload_n 0, 1) := by decide +kernel
theorem dX12_soundOf_58 : decode cX12_soundOf 58 = .ok (.getfield 34, 3) := by decide +kernel
theorem dX12_soundOf_61 : decode cX12_soundOf 61 = .ok (.iload 4, 2) := by decide +kernel
theorem dX12_soundOf_63 : decode cX12_soundOf 63 = .ok (.iaload, 1) := by decide +kernel
theorem dX12_soundOf_64 : decode cX12_soundOf 64 = .ok (.iload_n 2, 1) := by decide +kernel
theorem dX12_soundOf_65 : decode cX12_soundOf 65 = .ok (.if_icmp .ne 19, 3) := by decide +kernel
theorem dX12_soundOf_68 : decode cX12_soundOf 68 = .ok (.aload_n 0, 1) := by decide +kernel
theorem dX12_soundOf_69 : decode cX12_soundOf 69 = .ok (.getfield 55, 3) := by decide +kernel
theorem dX12_soundOf_72 : decode cX12_soundOf 72 = .ok (.iload 4, 2) := by decide +kernel
theorem dX12_soundOf_74 : decode cX12_soundOf 74 = .ok (.iaload, 1) := by decide +kernel
theorem dX12_soundOf_75 : decode cX12_soundOf 75 = .ok (.ifCond .ne 9, 3) := by decide +kernel
theorem dX12_soundOf_78 : decode cX12_soundOf 78 = .ok (.aload_n 0, 1) := by decide +kernel
theorem dX12_soundOf_79 : decode cX12_soundOf 79 = .ok (.iload 4, 2) := by decide +kernel
theorem dX12_soundOf_81 : decode cX12_soundOf 81 = .ok (.invokevirtual 236, 3) := by decide +kernel
theorem dX12_soundOf_84 : decode cX12_soundOf 84 = .ok (.iinc 4 1, 3) := by decide +kernel
theorem dX12_soundOf_87 : decode cX12_soundOf 87 = .ok (.goto (-43), 3) := by decide +kernel
theorem dX12_soundOf_90 : decode cX12_soundOf 90 = .ok (.iinc 2 1, 3) := by decide +kernel
theorem dX12_soundOf_93 : decode cX12_soundOf 93 = .ok (.goto (-80), 3) := by decide +kernel
theorem dX12_soundOf_96 : decode cX12_soundOf 96 = .ok (.iinc 1 1, 3) := by decide +kernel
theorem dX12_soundOf_99 : decode cX12_soundOf 99 = .ok (.goto (-93), 3) := by decide +kernel
theorem dX12_soundOf_102 : decode cX12_soundOf 102 = .ok (.iconst 0, 1) := by decide +kernel
theorem dX12_soundOf_103 : decode cX12_soundOf 103 = .ok (.istore_n 1, 1) := by decide +kernel
theorem dX12_soundOf_104 : decode cX12_soundOf 104 = .ok (.iconst 0, 1) := by decide +kernel
theorem dX12_soundOf_105 : decode cX12_soundOf 105 = .ok (.istore_n 2, 1) := by decide +kernel
theorem dX12_soundOf_106 : decode cX12_soundOf 106 = .ok (.iload_n 2, 1) := by decide +kernel
theorem dX12_soundOf_107 : decode cX12_soundOf 107 = .ok (.aload_n 0, 1) := by decide +kernel
theorem dX12_soundOf_108 : decode cX12_soundOf 108 = .ok (.getfield 159, 3) := by decide +kernel
theorem dX12_soundOf_111 : decode cX12_soundOf 111 = .ok (.if_icmp .ge 27, 3) := by decide +kernel
theorem dX12_soundOf_114 : decode cX12_soundOf 114 = .ok (.iload_n 1, 1) := by decide +kernel
theorem dX12_soundOf_115 : decode cX12_soundOf 115 = .ok (.aload_n 0, 1) := by decide +kernel
theorem dX12_soundOf_116 : decode cX12_soundOf 116 = .ok (.iload_n 2, 1) := by decide +kernel
theorem dX12_soundOf_117 : decode cX12_soundOf 117 = .ok (.invokevirtual 283, 3) := by decide +kernel
theorem dX12_soundOf_120 : decode cX12_soundOf 120 = .ok (.ifCond .ne 9, 3) := by decide +kernel
theorem dX12_soundOf_123 : decode cX12_soundOf 123 = .ok (.iconst 1, 1) := by decide +kernel
theorem dX12_soundOf_124 : decode cX12_soundOf 124 = .ok (.iload_n 2, 1) := by decide +kernel
theorem dX12_soundOf_125 : decode cX12_soundOf 125 = .ok (.ishl, 1) := by decide +kernel
theorem dX12_soundOf_126 : decode cX12_soundOf 126 = .ok (.goto 4, 3) := by decide +kernel
theorem dX12_soundOf_129 : decode cX12_soundOf 129 = .ok (.iconst 0, 1) := by decide +kernel
theorem dX12_soundOf_130 : decode cX12_soundOf 130 = .ok (.ior, 1) := by decide +kernel
theorem dX12_soundOf_131 : decode cX12_soundOf 131 = .ok (.istore_n 1, 1) := by decide +kernel
theorem dX12_soundOf_132 : decode cX12_soundOf 132 = .ok (.iinc 2 1, 3) := by decide +kernel
theorem dX12_soundOf_135 : decode cX12_soundOf 135 = .ok (.goto (-29), 3) := by decide +kernel
theorem dX12_soundOf_138 : decode cX12_soundOf 138 = .ok (.iload_n 1, 1) := by decide +kernel
theorem dX12_soundOf_139 : decode cX12_soundOf 139 = .ok (.ireturn, 1) := by decide +kernel
theorem dX12_sound_0 : decode cX12_sound 0 = .ok (.aload_n 0, 1) := by decide +kernel
theorem dX12_sound_1 : decode cX12_sound 1 = .ok (.invokevirtual 286, 3) := by decide +kernel
theorem dX12_sound_4 : decode cX12_sound 4 = .ok (.ifCond .eq 8, 3) := by decide +kernel
theorem dX12_sound_7 : decode cX12_sound 7 = .ok (.bipush (-103), 2) := by decide +kernel
theorem dX12_sound_9 : decode cX12_sound 9 = .ok (.goto 7, 3) := by decide +kernel
theorem dX12_sound_12 : decode cX12_sound 12 = .ok (.aload_n 0, 1) := by decide +kernel
theorem dX12_sound_13 : decode cX12_sound 13 = .ok (.invokevirtual 290, 3) := by decide +kernel
theorem dX12_sound_16 : decode cX12_sound 16 = .ok (.ireturn, 1) := by decide +kernel
theorem dX12_goAll_0 : decode cX12_goAll 0 = .ok (.iconst 0, 1) := by decide +kernel
theorem dX12_goAll_1 : decode cX12_goAll 1 = .ok (.istore_n 3, 1) := by decide +kernel
theorem dX12_goAll_2 : decode cX12_goAll 2 = .ok (.iconst 0, 1) := by decide +kernel
theorem dX12_goAll_3 : decode cX12_goAll 3 = .ok (.istore 4, 2) := by decide +kernel
theorem dX12_goAll_5 : decode cX12_goAll 5 = .ok (.iload 4, 2) := by decide +kernel
theorem dX12_goAll_7 : decode cX12_goAll 7 = .ok (.aload_n 0, 1) := by decide +kernel
theorem dX12_goAll_8 : decode cX12_goAll 8 = .ok (.getfield 156, 3) := by decide +kernel
theorem dX12_goAll_11 : decode cX12_goAll 11 = .ok (.if_icmp .ge 29, 3) := by decide +kernel
theorem dX12_goAll_14 : decode cX12_goAll 14 = .ok (.iload_n 3, 1) := by decide +kernel
theorem dX12_goAll_15 : decode cX12_goAll 15 = .ok (.aload_n 0, 1) := by decide +kernel
theorem dX12_goAll_16 : decode cX12_goAll 16 = .ok (.iload_n 1, 1) := by decide +kernel
theorem dX12_goAll_17 : decode cX12_goAll 17 = .ok (.iload 4, 2) := by decide +kernel
theorem dX12_goAll_19 : decode cX12_goAll 19 = .ok (.iload_n 2, 1) := by decide +kernel
theorem dX12_goAll_20 : decode cX12_goAll 20 = .ok (.invokevirtual 187, 3) := by decide +kernel
theorem dX12_goAll_23 : decode cX12_goAll 23 = .ok (.iconst (-1), 1) := by decide +kernel
theorem dX12_goAll_24 : decode cX12_goAll 24 = .ok (.if_icmp .eq 7, 3) := by decide +kernel
theorem dX12_goAll_27 : decode cX12_goAll 27 = .ok (.iconst 1, 1) := by decide +kernel
theorem dX12_goAll_28 : decode cX12_goAll 28 = .ok (.goto 4, 3) := by decide +kernel
theorem dX12_goAll_31 : decode cX12_goAll 31 = .ok (.iconst 0, 1) := by decide +kernel
theorem dX12_goAll_32 : decode cX12_goAll 32 = .ok (.iadd, 1) := by decide +kernel
theorem dX12_goAll_33 : decode cX12_goAll 33 = .ok (.istore_n 3, 1) := by decide +kernel
theorem dX12_goAll_34 : decode cX12_goAll 34 = .ok (.iinc 4 1, 3) := by decide +kernel
theorem dX12_goAll_37 : decode cX12_goAll 37 = .ok (.goto (-32), 3) := by decide +kernel
theorem dX12_goAll_40 : decode cX12_goAll 40 = .ok (.aload_n 0, 1) := by decide +kernel
theorem dX12_goAll_41 : decode cX12_goAll 41 = .ok (.getfield 73, 3) := by decide +kernel
theorem dX12_goAll_44 : decode cX12_goAll 44 = .ok (.iload_n 2, 1) := by decide +kernel
theorem dX12_goAll_45 : decode cX12_goAll 45 = .ok (.dup2, 1) := by decide +kernel
theorem dX12_goAll_46 : decode cX12_goAll 46 = .ok (.iaload, 1) := by decide +kernel
theorem dX12_goAll_47 : decode cX12_goAll 47 = .ok (.iload_n 3, 1) := by decide +kernel
theorem dX12_goAll_48 : decode cX12_goAll 48 = .ok (.ifCond .ne 15, 3) := by decide +kernel
theorem dX12_goAll_51 : decode cX12_goAll 51 = .ok (.bipush 60, 2) := by decide +kernel
theorem dX12_goAll_53 : decode cX12_goAll 53 = .ok (.aload_n 0, 1) := by decide +kernel
theorem dX12_goAll_54 : decode cX12_goAll 54 = .ok (.getfield 70, 3) := by decide +kernel
theorem dX12_goAll_57 : decode cX12_goAll 57 = .ok (.iload_n 2, 1) := by decide +kernel
theorem dX12_goAll_58 : decode cX12_goAll 58 = .ok (.iaload, 1) := by decide +kernel
theorem dX12_goAll_59 : decode cX12_goAll 59 = .ok (.imul, 1) := by decide +kernel
theorem dX12_goAll_60 : decode cX12_goAll 60 = .ok (.goto 4, 3) := by decide +kernel
theorem dX12_goAll_63 : decode cX12_goAll 63 = .ok (.iconst 0, 1) := by decide +kernel
theorem dX12_goAll_64 : decode cX12_goAll 64 = .ok (.iadd, 1) := by decide +kernel
theorem dX12_goAll_65 : decode cX12_goAll 65 = .ok (.iastore, 1) := by decide +kernel
theorem dX12_goAll_66 : decode cX12_goAll 66 = .ok (.iconst 0, 1) := by decide +kernel
theorem dX12_goAll_67 : decode cX12_goAll 67 = .ok (.istore 4, 2) := by decide +kernel
theorem dX12_goAll_69 : decode cX12_goAll 69 = .ok (.iload 4, 2) := by decide +kernel
theorem dX12_goAll_71 : decode cX12_goAll 71 = .ok (.aload_n 0, 1) := by decide +kernel
theorem dX12_goAll_72 : decode cX12_goAll 72 = .ok (.getfield 156, 3) := by decide +kernel
theorem dX12_goAll_75 : decode cX12_goAll 75 = .ok (.if_icmp .ge 46, 3) := by decide +kernel
theorem dX12_goAll_78 : decode cX12_goAll 78 = .ok (.aload_n 0, 1) := by decide +kernel
theorem dX12_goAll_79 : decode cX12_goAll 79 = .ok (.iload_n 1, 1) := by decide +kernel
theorem dX12_goAll_80 : decode cX12_goAll 80 = .ok (.iload 4, 2) := by decide +kernel
theorem dX12_goAll_82 : decode cX12_goAll 82 = .ok (.iload_n 2, 1) := by decide +kernel
theorem dX12_goAll_83 : decode cX12_goAll 83 = .ok (.invokevirtual 187, 3) := by decide +kernel
theorem dX12_goAll_86 : decode cX12_goAll 86 = .ok (.istore 5, 2) := by decide +kernel
theorem dX12_goAll_88 : decode cX12_goAll 88 = .ok (.iload 5, 2) := by decide +kernel
theorem dX12_goAll_90 : decode cX12_goAll 90 = .ok (.iconst (-1), 1) := by decide +kernel
theorem dX12_goAll_91 : decode cX12_goAll 91 = .ok (.if_icmp .eq 24, 3) := by decide +kernel
theorem dX12_goAll_94 : decode cX12_goAll 94 = .ok (.aload_n 0, 1) := by decide +kernel
theorem dX12_goAll_95 : decode cX12_goAll 95 = .ok (.getfield 73, 3) := by decide +kernel
theorem dX12_goAll_98 : decode cX12_goAll 98 = .ok (.iload 5, 2) := by decide +kernel
theorem dX12_goAll_100 : decode cX12_goAll 100 = .ok (.dup2, 1) := by decide +kernel
theorem dX12_goAll_101 : decode cX12_goAll 101 = .ok (.iaload, 1) := by decide +kernel
theorem dX12_goAll_102 : decode cX12_goAll 102 = .ok (.bipush 60, 2) := by decide +kernel
theorem dX12_goAll_104 : decode cX12_goAll 104 = .ok (.iload_n 3, 1) := by decide +kernel
theorem dX12_goAll_105 : decode cX12_goAll 105 = .ok (.idiv, 1) := by decide +kernel
theorem dX12_goAll_106 : decode cX12_goAll 106 = .ok (.aload_n 0, 1) := by decide +kernel
theorem dX12_goAll_107 : decode cX12_goAll 107 = .ok (.getfield 70, 3) := by decide +kernel
theorem dX12_goAll_110 : decode cX12_goAll 110 = .ok (.iload_n 2, 1) := by decide +kernel
theorem dX12_goAll_111 : decode cX12_goAll 111 = .ok (.iaload, 1) := by decide +kernel
theorem dX12_goAll_112 : decode cX12_goAll 112 = .ok (.imul, 1) := by decide +kernel
theorem dX12_goAll_113 : decode cX12_goAll 113 = .ok (.iadd, 1) := by decide +kernel
theorem dX12_goAll_114 : decode cX12_goAll 114 = .ok (.iastore, 1) := by decide +kernel
theorem dX12_goAll_115 : decode cX12_goAll 115 = .ok (.iinc 4 1, 3) := by decide +kernel
theorem dX12_goAll_118 : decode cX12_goAll 118 = .ok (.goto (-49), 3) := by decide +kernel
theorem dX12_goAll_121 : decode cX12_goAll 121 = .ok (.return_, 1) := by decide +kernel
theorem dX12_metOf_0 : decode cX12_metOf 0 = .ok (.iconst 1, 1) := by decide +kernel
theorem dX12_metOf_1 : decode cX12_metOf 1 = .ok (.istore 5, 2) := by decide +kernel
theorem dX12_metOf_3 : decode cX12_metOf 3 = .ok (.iconst 0, 1) := by decide +kernel
theorem dX12_metOf_4 : decode cX12_metOf 4 = .ok (.istore 6, 2) := by decide +kernel
theorem dX12_metOf_6 : decode cX12_metOf 6 = .ok (.iload 6, 2) := by decide +kernel
theorem dX12_metOf_8 : decode cX12_metOf 8 = .ok (.bipush 6, 2) := by decide +kernel
theorem dX12_metOf_10 : decode cX12_metOf 10 = .ok (.if_icmp .ge 43, 3) := by decide +kernel
theorem dX12_metOf_13 : decode cX12_metOf 13 = .ok (.aload_n 0, 1) := by decide +kernel
theorem dX12_metOf_14 : decode cX12_metOf 14 = .ok (.getfield 70, 3) := by decide +kernel
theorem dX12_metOf_17 : decode cX12_metOf 17 = .ok (.iload 6, 2) := by decide +kernel
theorem dX12_metOf_19 : decode cX12_metOf 19 = .ok (.iload 6, 2) := by decide +kernel
theorem dX12_metOf_21 : decode cX12_metOf 21 = .ok (.aload_n 0, 1) := by decide +kernel
theorem dX12_metOf_22 : decode cX12_metOf 22 = .ok (.getfield 28, 3) := by decide +kernel
theorem dX12_metOf_25 : decode cX12_metOf 25 = .ok (.iload_n 1, 1) := by decide +kernel
theorem dX12_metOf_26 : decode cX12_metOf 26 = .ok (.iaload, 1) := by decide +kernel
theorem dX12_metOf_27 : decode cX12_metOf 27 = .ok (.if_icmp .ne 18, 3) := by decide +kernel
theorem dX12_metOf_30 : decode cX12_metOf 30 = .ok (.iload 6, 2) := by decide +kernel
theorem dX12_metOf_32 : decode cX12_metOf 32 = .ok (.aload_n 0, 1) := by decide +kernel
theorem dX12_metOf_33 : decode cX12_metOf 33 = .ok (.getfield 28, 3) := by decide +kernel
theorem dX12_metOf_36 : decode cX12_metOf 36 = .ok (.iload_n 2, 1) := by decide +kernel
theorem dX12_metOf_37 : decode cX12_metOf 37 = .ok (.iaload, 1) := by decide +kernel
theorem dX12_metOf_38 : decode cX12_metOf 38 = .ok (.if_icmp .eq 7, 3) := by decide +kernel
theorem dX12_metOf_41 : decode cX12_metOf 41 = .ok (.iconst 1, 1) := by decide +kernel
theorem dX12_metOf_42 : decode cX12_metOf 42 = .ok (.goto 4, 3) := by decide +kernel
theorem dX12_metOf_45 : decode cX12_metOf 45 = .ok (.iconst 0, 1) := by decide +kernel
theorem dX12_metOf_46 : decode cX12_metOf 46 = .ok (.iastore, 1) := by decide +kernel
theorem dX12_metOf_47 : decode cX12_metOf 47 = .ok (.iinc 6 1, 3) := by decide +kernel
theorem dX12_metOf_50 : decode cX12_metOf 50 = .ok (.goto (-44), 3) := by decide +kernel
theorem dX12_metOf_53 : decode cX12_metOf 53 = .ok (.iconst 0, 1) := by decide +kernel
theorem dX12_metOf_54 : decode cX12_metOf 54 = .ok (.istore 6, 2) := by decide +kernel
theorem dX12_metOf_56 : decode cX12_metOf 56 = .ok (.iload 6, 2) := by decide +kernel
theorem dX12_metOf_58 : decode cX12_metOf 58 = .ok (.iload_n 3, 1) := by decide +kernel
theorem dX12_metOf_59 : decode cX12_metOf 59 = .ok (.if_icmp .ge 88, 3) := by decide +kernel
theorem dX12_metOf_62 : decode cX12_metOf 62 = .ok (.iload 5, 2) := by decide +kernel
theorem dX12_metOf_64 : decode cX12_metOf 64 = .ok (.bipush 60, 2) := by decide +kernel
theorem dX12_metOf_66 : decode cX12_metOf 66 = .ok (.imul, 1) := by decide +kernel
theorem dX12_metOf_67 : decode cX12_metOf 67 = .ok (.istore 5, 2) := by decide +kernel
theorem dX12_metOf_69 : decode cX12_metOf 69 = .ok (.iconst 0, 1) := by decide +kernel
theorem dX12_metOf_70 : decode cX12_metOf 70 = .ok (.istore 7, 2) := by decide +kernel
theorem dX12_metOf_72 : decode cX12_metOf 72 = .ok (.iload 7, 2) := by decide +kernel
theorem dX12_metOf_74 : decode cX12_metOf 74 = .ok (.bipush 6, 2) := by decide +kernel
theorem dX12_metOf_76 : decode cX12_metOf 76 = .ok (.if_icmp .ge 17, 3) := by decide +kernel
theorem dX12_metOf_79 : decode cX12_metOf 79 = .ok (.aload_n 0, 1) := by decide +kernel
theorem dX12_metOf_80 : decode cX12_metOf 80 = .ok (.getfield 73, 3) := by decide +kernel
theorem dX12_metOf_83 : decode cX12_metOf 83 = .ok (.iload 7, 2) := by decide +kernel
theorem dX12_metOf_85 : decode cX12_metOf 85 = .ok (.iconst 0, 1) := by decide +kernel
theorem dX12_metOf_86 : decode cX12_metOf 86 = .ok (.iastore, 1) := by decide +kernel
theorem dX12_metOf_87 : decode cX12_metOf 87 = .ok (.iinc 7 1, 3) := by decide +kernel
theorem dX12_metOf_90 : decode cX12_metOf 90 = .ok (.goto (-18), 3) := by decide +kernel
theorem dX12_metOf_93 : decode cX12_metOf 93 = .ok (.iconst 0, 1) := by decide +kernel
theorem dX12_metOf_94 : decode cX12_metOf 94 = .ok (.istore 7, 2) := by decide +kernel
theorem dX12_metOf_96 : decode cX12_metOf 96 = .ok (.iload 7, 2) := by decide +kernel
theorem dX12_metOf_98 : decode cX12_metOf 98 = .ok (.aload_n 0, 1) := by decide +kernel
theorem dX12_metOf_99 : decode cX12_metOf 99 = .ok (.getfield 153, 3) := by decide +kernel
theorem dX12_metOf_102 : decode cX12_metOf 102 = .ok (.if_icmp .ge 16, 3) := by decide +kernel
theorem dX12_metOf_105 : decode cX12_metOf 105 = .ok (.aload_n 0, 1) := by decide +kernel
theorem dX12_metOf_106 : decode cX12_metOf 106 = .ok (.iload_n 1, 1) := by decide +kernel
theorem dX12_metOf_107 : decode cX12_metOf 107 = .ok (.iload 7, 2) := by decide +kernel
theorem dX12_metOf_109 : decode cX12_metOf 109 = .ok (.invokevirtual 293, 3) := by decide +kernel
theorem dX12_metOf_112 : decode cX12_metOf 112 = .ok (.iinc 7 1, 3) := by decide +kernel
theorem dX12_metOf_115 : decode cX12_metOf 115 = .ok (.goto (-19), 3) := by decide +kernel
theorem dX12_metOf_118 : decode cX12_metOf 118 = .ok (.aload_n 0, 1) := by decide +kernel
theorem dX12_metOf_119 : decode cX12_metOf 119 = .ok (.getfield 73, 3) := by decide +kernel
theorem dX12_metOf_122 : decode cX12_metOf 122 = .ok (.aload_n 0, 1) := by decide +kernel
theorem dX12_metOf_123 : decode cX12_metOf 123 = .ok (.getfield 70, 3) := by decide +kernel
theorem dX12_metOf_126 : decode cX12_metOf 126 = .ok (.invokestatic 177, 3) := by decide +kernel
theorem dX12_metOf_129 : decode cX12_metOf 129 = .ok (.aload_n 0, 1) := by decide +kernel
theorem dX12_metOf_130 : decode cX12_metOf 130 = .ok (.getfield 70, 3) := by decide +kernel
theorem dX12_metOf_133 : decode cX12_metOf 133 = .ok (.aload_n 0, 1) := by decide +kernel
theorem dX12_metOf_134 : decode cX12_metOf 134 = .ok (.getfield 28, 3) := by decide +kernel
theorem dX12_metOf_137 : decode cX12_metOf 137 = .ok (.iload_n 2, 1) := by decide +kernel
theorem dX12_metOf_138 : decode cX12_metOf 138 = .ok (.iaload, 1) := by decide +kernel
theorem dX12_metOf_139 : decode cX12_metOf 139 = .ok (.iconst 0, 1) := by decide +kernel
theorem dX12_metOf_140 : decode cX12_metOf 140 = .ok (.iastore, 1) := by decide +kernel
theorem dX12_metOf_141 : decode cX12_metOf 141 = .ok (.iinc 6 1, 3) := by decide +kernel
theorem dX12_metOf_144 : decode cX12_metOf 144 = .ok (.goto (-88), 3) := by decide +kernel
theorem dX12_metOf_147 : decode cX12_metOf 147 = .ok (.iload 5, 2) := by decide +kernel
theorem dX12_metOf_149 : decode cX12_metOf 149 = .ok (.istore 6, 2) := by decide +kernel
theorem dX12_metOf_151 : decode cX12_metOf 151 = .ok (.iconst 0, 1) := by decide +kernel
theorem dX12_metOf_152 : decode cX12_metOf 152 = .ok (.istore 7, 2) := by decide +kernel
theorem dX12_metOf_154 : decode cX12_metOf 154 = .ok (.iload 7, 2) := by decide +kernel
theorem dX12_metOf_156 : decode cX12_metOf 156 = .ok (.bipush 6, 2) := by decide +kernel
theorem dX12_metOf_158 : decode cX12_metOf 158 = .ok (.if_icmp .ge 21, 3) := by decide +kernel
theorem dX12_metOf_161 : decode cX12_metOf 161 = .ok (.iload 6, 2) := by decide +kernel
theorem dX12_metOf_163 : decode cX12_metOf 163 = .ok (.aload_n 0, 1) := by decide +kernel
theorem dX12_metOf_164 : decode cX12_metOf 164 = .ok (.getfield 70, 3) := by decide +kernel
theorem dX12_metOf_167 : decode cX12_metOf 167 = .ok (.iload 7, 2) := by decide +kernel
theorem dX12_metOf_169 : decode cX12_metOf 169 = .ok (.iaload, 1) := by decide +kernel
theorem dX12_metOf_170 : decode cX12_metOf 170 = .ok (.isub, 1) := by decide +kernel
theorem dX12_metOf_171 : decode cX12_metOf 171 = .ok (.istore 6, 2) := by decide +kernel
theorem dX12_metOf_173 : decode cX12_metOf 173 = .ok (.iinc 7 1, 3) := by decide +kernel
theorem dX12_metOf_176 : decode cX12_metOf 176 = .ok (.goto (-22), 3) := by decide +kernel
theorem dX12_metOf_179 : decode cX12_metOf 179 = .ok (.iload 5, 2) := by decide +kernel
theorem dX12_metOf_181 : decode cX12_metOf 181 = .ok (.istore 7, 2) := by decide +kernel
theorem dX12_metOf_183 : decode cX12_metOf 183 = .ok (.iload 6, 2) := by decide +kernel
theorem dX12_metOf_185 : decode cX12_metOf 185 = .ok (.istore 8, 2) := by decide +kernel
theorem dX12_metOf_187 : decode cX12_metOf 187 = .ok (.iload 8, 2) := by decide +kernel
theorem dX12_metOf_189 : decode cX12_metOf 189 = .ok (.ifCond .le 21, 3) := by decide +kernel
theorem dX12_metOf_192 : decode cX12_metOf 192 = .ok (.iload 7, 2) := by decide +kernel
theorem dX12_metOf_194 : decode cX12_metOf 194 = .ok (.iload 8, 2) := by decide +kernel
theorem dX12_metOf_196 : decode cX12_metOf 196 = .ok (.irem, 1) := by decide +kernel
theorem dX12_metOf_197 : decode cX12_metOf 197 = .ok (.istore 9, 2) := by decide +kernel
theorem dX12_metOf_199 : decode cX12_metOf 199 = .ok (.iload 8, 2) := by decide +kernel
theorem dX12_metOf_201 : decode cX12_metOf 201 = .ok (.istore 7, 2) := by decide +kernel
theorem dX12_metOf_203 : decode cX12_metOf 203 = .ok (.iload 9, 2) := by decide +kernel
theorem dX12_metOf_205 : decode cX12_metOf 205 = .ok (.istore 8, 2) := by decide +kernel
theorem dX12_metOf_207 : decode cX12_metOf 207 = .ok (.goto (-20), 3) := by decide +kernel
theorem dX12_metOf_210 : decode cX12_metOf 210 = .ok (.iload 4, 2) := by decide +kernel
theorem dX12_metOf_212 : decode cX12_metOf 212 = .ok (.ifCond .ne 11, 3) := by decide +kernel
theorem dX12_metOf_215 : decode cX12_metOf 215 = .ok (.iload 6, 2) := by decide +kernel
theorem dX12_metOf_217 : decode cX12_metOf 217 = .ok (.iload 7, 2) := by decide +kernel
theorem dX12_metOf_219 : decode cX12_metOf 219 = .ok (.idiv, 1) := by decide +kernel
theorem dX12_metOf_220 : decode cX12_metOf 220 = .ok (.goto 8, 3) := by decide +kernel
theorem dX12_metOf_223 : decode cX12_metOf 223 = .ok (.iload 5, 2) := by decide +kernel
theorem dX12_metOf_225 : decode cX12_metOf 225 = .ok (.iload 7, 2) := by decide +kernel
theorem dX12_metOf_227 : decode cX12_metOf 227 = .ok (.idiv, 1) := by decide +kernel
theorem dX12_metOf_228 : decode cX12_metOf 228 = .ok (.ireturn, 1) := by decide +kernel
theorem dX12_met_0 : decode cX12_met 0 = .ok (.aload_n 0, 1) := by decide +kernel
theorem dX12_met_1 : decode cX12_met 1 = .ok (.iload_n 1, 1) := by decide +kernel
theorem dX12_met_2 : decode cX12_met 2 = .ok (.invokevirtual 215, 3) := by decide +kernel
theorem dX12_met_5 : decode cX12_met 5 = .ok (.ifCond .eq 16, 3) := by decide +kernel
theorem dX12_met_8 : decode cX12_met 8 = .ok (.aload_n 0, 1) := by decide +kernel
theorem dX12_met_9 : decode cX12_met 9 = .ok (.iload_n 2, 1) := by decide +kernel
theorem dX12_met_10 : decode cX12_met 10 = .ok (.invokevirtual 215, 3) := by decide +kernel
theorem dX12_met_13 : decode cX12_met 13 = .ok (.ifCond .eq 8, 3) := by decide +kernel
theorem dX12_met_16 : decode cX12_met 16 = .ok (.iload_n 1, 1) := by decide +kernel
theorem dX12_met_17 : decode cX12_met 17 = .ok (.iload_n 2, 1) := by decide +kernel
theorem dX12_met_18 : decode cX12_met 18 = .ok (.if_icmp .ne 6, 3) := by decide +kernel
theorem dX12_met_21 : decode cX12_met 21 = .ok (.bipush (-101), 2) := by decide +kernel
theorem dX12_met_23 : decode cX12_met 23 = .ok (.ireturn, 1) := by decide +kernel
theorem dX12_met_24 : decode cX12_met 24 = .ok (.iload_n 3, 1) := by decide +kernel
theorem dX12_met_25 : decode cX12_met 25 = .ok (.i2l, 1) := by decide +kernel
theorem dX12_met_26 : decode cX12_met 26 = .ok (.lconst 1, 1) := by decide +kernel
theorem dX12_met_27 : decode cX12_met 27 = .ok (.ldc2_w 296, 3) := by decide +kernel
theorem dX12_met_30 : decode cX12_met 30 = .ok (.invokestatic 103, 3) := by decide +kernel
theorem dX12_met_33 : decode cX12_met 33 = .ok (.ifCond .eq 26, 3) := by decide +kernel
theorem dX12_met_36 : decode cX12_met 36 = .ok (.iload 4, 2) := by decide +kernel
theorem dX12_met_38 : decode cX12_met 38 = .ok (.i2l, 1) := by decide +kernel
theorem dX12_met_39 : decode cX12_met 39 = .ok (.lconst 0, 1) := by decide +kernel
theorem dX12_met_40 : decode cX12_met 40 = .ok (.lconst 1, 1) := by decide +kernel
theorem dX12_met_41 : decode cX12_met 41 = .ok (.invokestatic 103, 3) := by decide +kernel
theorem dX12_met_44 : decode cX12_met 44 = .ok (.ifCond .eq 15, 3) := by decide +kernel
theorem dX12_met_47 : decode cX12_met 47 = .ok (.aload_n 0, 1) := by decide +kernel
theorem dX12_met_48 : decode cX12_met 48 = .ok (.iload_n 1, 1) := by decide +kernel
theorem dX12_met_49 : decode cX12_met 49 = .ok (.iload_n 2, 1) := by decide +kernel
theorem dX12_met_50 : decode cX12_met 50 = .ok (.iload_n 3, 1) := by decide +kernel
theorem dX12_met_51 : decode cX12_met 51 = .ok (.iload 4, 2) := by decide +kernel
theorem dX12_met_53 : decode cX12_met 53 = .ok (.invokevirtual 298, 3) := by decide +kernel
theorem dX12_met_56 : decode cX12_met 56 = .ok (.goto 5, 3) := by decide +kernel
theorem dX12_met_59 : decode cX12_met 59 = .ok (.bipush (-102), 2) := by decide +kernel
theorem dX12_met_61 : decode cX12_met 61 = .ok (.ireturn, 1) := by decide +kernel
theorem dX12_see_0 : decode cX12_see 0 = .ok (.aload_n 0, 1) := by decide +kernel
theorem dX12_see_1 : decode cX12_see 1 = .ok (.iload_n 1, 1) := by decide +kernel
theorem dX12_see_2 : decode cX12_see 2 = .ok (.invokevirtual 230, 3) := by decide +kernel
theorem dX12_see_5 : decode cX12_see 5 = .ok (.ifCond .ne 6, 3) := by decide +kernel
theorem dX12_see_8 : decode cX12_see 8 = .ok (.bipush (-101), 2) := by decide +kernel
theorem dX12_see_10 : decode cX12_see 10 = .ok (.ireturn, 1) := by decide +kernel
theorem dX12_see_11 : decode cX12_see 11 = .ok (.aload_n 0, 1) := by decide +kernel
theorem dX12_see_12 : decode cX12_see 12 = .ok (.getfield 171, 3) := by decide +kernel
theorem dX12_see_15 : decode cX12_see 15 = .ok (.bipush 6, 2) := by decide +kernel
theorem dX12_see_17 : decode cX12_see 17 = .ok (.if_icmp .ne 6, 3) := by decide +kernel
theorem dX12_see_20 : decode cX12_see 20 = .ok (.bipush (-104), 2) := by decide +kernel
theorem dX12_see_22 : decode cX12_see 22 = .ok (.ireturn, 1) := by decide +kernel
theorem dX12_see_23 : decode cX12_see 23 = .ok (.aload_n 0, 1) := by decide +kernel
theorem dX12_see_24 : decode cX12_see 24 = .ok (.getfield 76, 3) := by decide +kernel
theorem dX12_see_27 : decode cX12_see 27 = .ok (.iconst 2, 1) := by decide +kernel
theorem dX12_see_28 : decode cX12_see 28 = .ok (.aload_n 0, 1) := by decide +kernel
theorem dX12_see_29 : decode cX12_see 29 = .ok (.getfield 171, 3) := by decide +kernel
theorem dX12_see_32 : decode cX12_see 32 = .ok (.imul, 1) := by decide +kernel
theorem dX12_see_33 : decode cX12_see 33 = .ok (.iload_n 1, 1) := by decide +kernel
theorem dX12_see_34 : decode cX12_see 34 = .ok (.iastore, 1) := by decide +kernel
theorem dX12_see_35 : decode cX12_see 35 = .ok (.aload_n 0, 1) := by decide +kernel
theorem dX12_see_36 : decode cX12_see 36 = .ok (.getfield 76, 3) := by decide +kernel
theorem dX12_see_39 : decode cX12_see 39 = .ok (.iconst 2, 1) := by decide +kernel
theorem dX12_see_40 : decode cX12_see 40 = .ok (.aload_n 0, 1) := by decide +kernel
theorem dX12_see_41 : decode cX12_see 41 = .ok (.getfield 171, 3) := by decide +kernel
theorem dX12_see_44 : decode cX12_see 44 = .ok (.imul, 1) := by decide +kernel
theorem dX12_see_45 : decode cX12_see 45 = .ok (.iconst 1, 1) := by decide +kernel
theorem dX12_see_46 : decode cX12_see 46 = .ok (.iadd, 1) := by decide +kernel
theorem dX12_see_47 : decode cX12_see 47 = .ok (.iload_n 2, 1) := by decide +kernel
theorem dX12_see_48 : decode cX12_see 48 = .ok (.ifCond .eq 7, 3) := by decide +kernel
theorem dX12_see_51 : decode cX12_see 51 = .ok (.iconst 1, 1) := by decide +kernel
theorem dX12_see_52 : decode cX12_see 52 = .ok (.goto 4, 3) := by decide +kernel
theorem dX12_see_55 : decode cX12_see 55 = .ok (.iconst 0, 1) := by decide +kernel
theorem dX12_see_56 : decode cX12_see 56 = .ok (.iastore, 1) := by decide +kernel
theorem dX12_see_57 : decode cX12_see 57 = .ok (.aload_n 0, 1) := by decide +kernel
theorem dX12_see_58 : decode cX12_see 58 = .ok (.dup, 1) := by decide +kernel
theorem dX12_see_59 : decode cX12_see 59 = .ok (.getfield 171, 3) := by decide +kernel
theorem dX12_see_62 : decode cX12_see 62 = .ok (.iconst 1, 1) := by decide +kernel
theorem dX12_see_63 : decode cX12_see 63 = .ok (.iadd, 1) := by decide +kernel
theorem dX12_see_64 : decode cX12_see 64 = .ok (.putfield 171, 3) := by decide +kernel
theorem dX12_see_67 : decode cX12_see 67 = .ok (.aload_n 0, 1) := by decide +kernel
theorem dX12_see_68 : decode cX12_see 68 = .ok (.getfield 171, 3) := by decide +kernel
theorem dX12_see_71 : decode cX12_see 71 = .ok (.ireturn, 1) := by decide +kernel
theorem dX12_forget_0 : decode cX12_forget 0 = .ok (.aload_n 0, 1) := by decide +kernel
theorem dX12_forget_1 : decode cX12_forget 1 = .ok (.getfield 171, 3) := by decide +kernel
theorem dX12_forget_4 : decode cX12_forget 4 = .ok (.istore_n 1, 1) := by decide +kernel
theorem dX12_forget_5 : decode cX12_forget 5 = .ok (.aload_n 0, 1) := by decide +kernel
theorem dX12_forget_6 : decode cX12_forget 6 = .ok (.iconst 0, 1) := by decide +kernel
theorem dX12_forget_7 : decode cX12_forget 7 = .ok (.putfield 171, 3) := by decide +kernel
theorem dX12_forget_10 : decode cX12_forget 10 = .ok (.iload_n 1, 1) := by decide +kernel
theorem dX12_forget_11 : decode cX12_forget 11 = .ok (.ireturn, 1) := by decide +kernel
theorem dX12_draw_0 : decode cX12_draw 0 = .ok (.aload_n 0, 1) := by decide +kernel
theorem dX12_draw_1 : decode cX12_draw 1 = .ok (.ldc2_w 302, 3) := by decide +kernel
theorem dX12_draw_4 : decode cX12_draw 4 = .ok (.aload_n 0, 1) := by decide +kernel
theorem dX12_draw_5 : decode cX12_draw 5 = .ok (.getfield 304, 3) := by decide +kernel
theorem dX12_draw_8 : decode cX12_draw 8 = .ok (.i2l, 1) := by decide +kernel
theorem dX12_draw_9 : decode cX12_draw 9 = .ok (.lmul, 1) := by decide +kernel
theorem dX12_draw_10 : decode cX12_draw 10 = .ok (.ldc2_w 307, 3) := by decide +kernel
theorem dX12_draw_13 : decode cX12_draw 13 = .ok (.ladd, 1) := by decide +kernel
theorem dX12_draw_14 : decode cX12_draw 14 = .ok (.ldc2_w 309, 3) := by decide +kernel
theorem dX12_draw_17 : decode cX12_draw 17 = .ok (.land, 1) := by decide +kernel
theorem dX12_draw_18 : decode cX12_draw 18 = .ok (.l2i, 1) := by decide +kernel
theorem dX12_draw_19 : decode cX12_draw 19 = .ok (.putfield 304, 3) := by decide +kernel
theorem dX12_draw_22 : decode cX12_draw 22 = .ok (.aload_n 0, 1) := by decide +kernel
theorem dX12_draw_23 : decode cX12_draw 23 = .ok (.getfield 304, 3) := by decide +kernel
theorem dX12_draw_26 : decode cX12_draw 26 = .ok (.ldc_w 311, 3) := by decide +kernel
theorem dX12_draw_29 : decode cX12_draw 29 = .ok (.idiv, 1) := by decide +kernel
theorem dX12_draw_30 : decode cX12_draw 30 = .ok (.iload_n 1, 1) := by decide +kernel
theorem dX12_draw_31 : decode cX12_draw 31 = .ok (.irem, 1) := by decide +kernel
theorem dX12_draw_32 : decode cX12_draw 32 = .ok (.ireturn, 1) := by decide +kernel
theorem dX12_payAll_0 : decode cX12_payAll 0 = .ok (.iconst 0, 1) := by decide +kernel
theorem dX12_payAll_1 : decode cX12_payAll 1 = .ok (.istore_n 2, 1) := by decide +kernel
theorem dX12_payAll_2 : decode cX12_payAll 2 = .ok (.iconst 0, 1) := by decide +kernel
theorem dX12_payAll_3 : decode cX12_payAll 3 = .ok (.istore_n 3, 1) := by decide +kernel
theorem dX12_payAll_4 : decode cX12_payAll 4 = .ok (.iload_n 3, 1) := by decide +kernel
theorem dX12_payAll_5 : decode cX12_payAll 5 = .ok (.aload_n 0, 1) := by decide +kernel
theorem dX12_payAll_6 : decode cX12_payAll 6 = .ok (.getfield 162, 3) := by decide +kernel
theorem dX12_payAll_9 : decode cX12_payAll 9 = .ok (.if_icmp .ge 41, 3) := by decide +kernel
theorem dX12_payAll_12 : decode cX12_payAll 12 = .ok (.aload_n 0, 1) := by decide +kernel
theorem dX12_payAll_13 : decode cX12_payAll 13 = .ok (.getfield 34, 3) := by decide +kernel
theorem dX12_payAll_16 : decode cX12_payAll 16 = .ok (.iload_n 3, 1) := by decide +kernel
theorem dX12_payAll_17 : decode cX12_payAll 17 = .ok (.iaload, 1) := by decide +kernel
theorem dX12_payAll_18 : decode cX12_payAll 18 = .ok (.iload_n 1, 1) := by decide +kernel
theorem dX12_payAll_19 : decode cX12_payAll 19 = .ok (.if_icmp .ne 25, 3) := by decide +kernel
theorem dX12_payAll_22 : decode cX12_payAll 22 = .ok (.aload_n 0, 1) := by decide +kernel
theorem dX12_payAll_23 : decode cX12_payAll 23 = .ok (.iload_n 3, 1) := by decide +kernel
theorem dX12_payAll_24 : decode cX12_payAll 24 = .ok (.invokevirtual 194, 3) := by decide +kernel
theorem dX12_payAll_27 : decode cX12_payAll 27 = .ok (.ifCond .eq 17, 3) := by decide +kernel
theorem dX12_payAll_30 : decode cX12_payAll 30 = .ok (.aload_n 0, 1) := by decide +kernel
theorem dX12_payAll_31 : decode cX12_payAll 31 = .ok (.iload_n 3, 1) := by decide +kernel
theorem dX12_payAll_32 : decode cX12_payAll 32 = .ok (.invokevirtual 236, 3) := by decide +kernel
theorem dX12_payAll_35 : decode cX12_payAll 35 = .ok (.iload_n 2, 1) := by decide +kernel
theorem dX12_payAll_36 : decode cX12_payAll 36 = .ok (.aload_n 0, 1) := by decide +kernel
theorem dX12_payAll_37 : decode cX12_payAll 37 = .ok (.getfield 43, 3) := by decide +kernel
theorem dX12_payAll_40 : decode cX12_payAll 40 = .ok (.iload_n 3, 1) := by decide +kernel
theorem dX12_payAll_41 : decode cX12_payAll 41 = .ok (.iaload, 1) := by decide +kernel
theorem dX12_payAll_42 : decode cX12_payAll 42 = .ok (.iadd, 1) := by decide +kernel
theorem dX12_payAll_43 : decode cX12_payAll 43 = .ok (.istore_n 2, 1) := by decide +kernel
theorem dX12_payAll_44 : decode cX12_payAll 44 = .ok (.iinc 3 1, 3) := by decide +kernel
theorem dX12_payAll_47 : decode cX12_payAll 47 = .ok (.goto (-43), 3) := by decide +kernel
theorem dX12_payAll_50 : decode cX12_payAll 50 = .ok (.iload_n 2, 1) := by decide +kernel
theorem dX12_payAll_51 : decode cX12_payAll 51 = .ok (.ireturn, 1) := by decide +kernel
theorem dX12_paidMany_0 : decode cX12_paidMany 0 = .ok (.iconst 0, 1) := by decide +kernel
theorem dX12_paidMany_1 : decode cX12_paidMany 1 = .ok (.istore_n 2, 1) := by decide +kernel
theorem dX12_paidMany_2 : decode cX12_paidMany 2 = .ok (.iconst 0, 1) := by decide +kernel
theorem dX12_paidMany_3 : decode cX12_paidMany 3 = .ok (.istore_n 3, 1) := by decide +kernel
theorem dX12_paidMany_4 : decode cX12_paidMany 4 = .ok (.iload_n 3, 1) := by decide +kernel
theorem dX12_paidMany_5 : decode cX12_paidMany 5 = .ok (.aload_n 0, 1) := by decide +kernel
theorem dX12_paidMany_6 : decode cX12_paidMany 6 = .ok (.getfield 162, 3) := by decide +kernel
theorem dX12_paidMany_9 : decode cX12_paidMany 9 = .ok (.if_icmp .ge 15, 3) := by decide +kernel
theorem dX12_paidMany_12 : decode cX12_paidMany 12 = .ok (.iload_n 2, 1) := by decide +kernel
theorem dX12_paidMany_13 : decode cX12_paidMany 13 = .ok (.aload_n 1, 1) := by decide +kernel
theorem dX12_paidMany_14 : decode cX12_paidMany 14 = .ok (.iload_n 3, 1) := by decide +kernel
theorem dX12_paidMany_15 : decode cX12_paidMany 15 = .ok (.iaload, 1) := by decide +kernel
theorem dX12_paidMany_16 : decode cX12_paidMany 16 = .ok (.iadd, 1) := by decide +kernel
theorem dX12_paidMany_17 : decode cX12_paidMany 17 = .ok (.istore_n 2, 1) := by decide +kernel
theorem dX12_paidMany_18 : decode cX12_paidMany 18 = .ok (.iinc 3 1, 3) := by decide +kernel
theorem dX12_paidMany_21 : decode cX12_paidMany 21 = .ok (.goto (-17), 3) := by decide +kernel
theorem dX12_paidMany_24 : decode cX12_paidMany 24 = .ok (.iload_n 2, 1) := by decide +kernel
theorem dX12_paidMany_25 : decode cX12_paidMany 25 = .ok (.ireturn, 1) := by decide +kernel
theorem dX12_winters_0 : decode cX12_winters 0 = .ok (.iload_n 1, 1) := by decide +kernel
theorem dX12_winters_1 : decode cX12_winters 1 = .ok (.i2l, 1) := by decide +kernel
theorem dX12_winters_2 : decode cX12_winters 2 = .ok (.lconst 1, 1) := by decide +kernel
theorem dX12_winters_3 : decode cX12_winters 3 = .ok (.ldc2_w 312, 3) := by decide +kernel
theorem dX12_winters_6 : decode cX12_winters 6 = .ok (.invokestatic 103, 3) := by decide +kernel
theorem dX12_winters_9 : decode cX12_winters 9 = .ok (.ifCond .eq 19, 3) := by decide +kernel
theorem dX12_winters_12 : decode cX12_winters 12 = .ok (.iload_n 2, 1) := by decide +kernel
theorem dX12_winters_13 : decode cX12_winters 13 = .ok (.ifCond .lt 15, 3) := by decide +kernel
theorem dX12_winters_16 : decode cX12_winters 16 = .ok (.iload_n 3, 1) := by decide +kernel
theorem dX12_winters_17 : decode cX12_winters 17 = .ok (.i2l, 1) := by decide +kernel
theorem dX12_winters_18 : decode cX12_winters 18 = .ok (.lconst 0, 1) := by decide +kernel
theorem dX12_winters_19 : decode cX12_winters 19 = .ok (.ldc2_w 314, 3) := by decide +kernel
theorem dX12_winters_22 : decode cX12_winters 22 = .ok (.invokestatic 103, 3) := by decide +kernel
theorem dX12_winters_25 : decode cX12_winters 25 = .ok (.ifCond .ne 6, 3) := by decide +kernel
theorem dX12_winters_28 : decode cX12_winters 28 = .ok (.bipush (-102), 2) := by decide +kernel
theorem dX12_winters_30 : decode cX12_winters 30 = .ok (.ireturn, 1) := by decide +kernel
theorem dX12_winters_31 : decode cX12_winters 31 = .ok (.aload_n 0, 1) := by decide +kernel
theorem dX12_winters_32 : decode cX12_winters 32 = .ok (.invokevirtual 286, 3) := by decide +kernel
theorem dX12_winters_35 : decode cX12_winters 35 = .ok (.ifCond .eq 6, 3) := by decide +kernel
theorem dX12_winters_38 : decode cX12_winters 38 = .ok (.bipush (-103), 2) := by decide +kernel
theorem dX12_winters_40 : decode cX12_winters 40 = .ok (.ireturn, 1) := by decide +kernel
theorem dX12_winters_41 : decode cX12_winters 41 = .ok (.aload_n 0, 1) := by decide +kernel
theorem dX12_winters_42 : decode cX12_winters 42 = .ok (.iload_n 2, 1) := by decide +kernel
theorem dX12_winters_43 : decode cX12_winters 43 = .ok (.putfield 304, 3) := by decide +kernel
theorem dX12_winters_46 : decode cX12_winters 46 = .ok (.aload_n 0, 1) := by decide +kernel
theorem dX12_winters_47 : decode cX12_winters 47 = .ok (.invokevirtual 191, 3) := by decide +kernel
theorem dX12_winters_50 : decode cX12_winters 50 = .ok (.iconst 0, 1) := by decide +kernel
theorem dX12_winters_51 : decode cX12_winters 51 = .ok (.istore 4, 2) := by decide +kernel
theorem dX12_winters_53 : decode cX12_winters 53 = .ok (.iconst 0, 1) := by decide +kernel
theorem dX12_winters_54 : decode cX12_winters 54 = .ok (.istore 5, 2) := by decide +kernel
theorem dX12_winters_56 : decode cX12_winters 56 = .ok (.iload 5, 2) := by decide +kernel
theorem dX12_winters_58 : decode cX12_winters 58 = .ok (.iload_n 1, 1) := by decide +kernel
theorem dX12_winters_59 : decode cX12_winters 59 = .ok (.if_icmp .ge 78, 3) := by decide +kernel
theorem dX12_winters_62 : decode cX12_winters 62 = .ok (.aload_n 0, 1) := by decide +kernel
theorem dX12_winters_63 : decode cX12_winters 63 = .ok (.aload_n 0, 1) := by decide +kernel
theorem dX12_winters_64 : decode cX12_winters 64 = .ok (.getfield 159, 3) := by decide +kernel
theorem dX12_winters_67 : decode cX12_winters 67 = .ok (.invokevirtual 316, 3) := by decide +kernel
theorem dX12_winters_70 : decode cX12_winters 70 = .ok (.istore 6, 2) := by decide +kernel
theorem dX12_winters_72 : decode cX12_winters 72 = .ok (.aload_n 0, 1) := by decide +kernel
theorem dX12_winters_73 : decode cX12_winters 73 = .ok (.iload 6, 2) := by decide +kernel
theorem dX12_winters_75 : decode cX12_winters 75 = .ok (.aload_n 0, 1) := by decide +kernel
theorem dX12_winters_76 : decode cX12_winters 76 = .ok (.aload_n 0, 1) := by decide +kernel
theorem dX12_winters_77 : decode cX12_winters 77 = .ok (.getfield 156, 3) := by decide +kernel
theorem dX12_winters_80 : decode cX12_winters 80 = .ok (.invokevirtual 316, 3) := by decide +kernel
theorem dX12_winters_83 : decode cX12_winters 83 = .ok (.aload_n 0, 1) := by decide +kernel
theorem dX12_winters_84 : decode cX12_winters 84 = .ok (.getfield 52, 3) := by decide +kernel
theorem dX12_winters_87 : decode cX12_winters 87 = .ok (.iload 6, 2) := by decide +kernel
theorem dX12_winters_89 : decode cX12_winters 89 = .ok (.iaload, 1) := by decide +kernel
theorem dX12_winters_90 : decode cX12_winters 90 = .ok (.invokevirtual 187, 3) := by decide +kernel
theorem dX12_winters_93 : decode cX12_winters 93 = .ok (.istore 7, 2) := by decide +kernel
theorem dX12_winters_95 : decode cX12_winters 95 = .ok (.aload_n 0, 1) := by decide +kernel
theorem dX12_winters_96 : decode cX12_winters 96 = .ok (.getfield 52, 3) := by decide +kernel
theorem dX12_winters_99 : decode cX12_winters 99 = .ok (.iload 6, 2) := by decide +kernel
theorem dX12_winters_101 : decode cX12_winters 101 = .ok (.iload 7, 2) := by decide +kernel
theorem dX12_winters_103 : decode cX12_winters 103 = .ok (.iconst (-1), 1) := by decide +kernel
theorem dX12_winters_104 : decode cX12_winters 104 = .ok (.if_icmp .ne 13, 3) := by decide +kernel
theorem dX12_winters_107 : decode cX12_winters 107 = .ok (.aload_n 0, 1) := by decide +kernel
theorem dX12_winters_108 : decode cX12_winters 108 = .ok (.getfield 52, 3) := by decide +kernel
theorem dX12_winters_111 : decode cX12_winters 111 = .ok (.iload 6, 2) := by decide +kernel
theorem dX12_winters_113 : decode cX12_winters 113 = .ok (.iaload, 1) := by decide +kernel
theorem dX12_winters_114 : decode cX12_winters 114 = .ok (.goto 5, 3) := by decide +kernel
theorem dX12_winters_117 : decode cX12_winters 117 = .ok (.iload 7, 2) := by decide +kernel
theorem dX12_winters_119 : decode cX12_winters 119 = .ok (.iastore, 1) := by decide +kernel
theorem dX12_winters_120 : decode cX12_winters 120 = .ok (.iload 4, 2) := by decide +kernel
theorem dX12_winters_122 : decode cX12_winters 122 = .ok (.aload_n 0, 1) := by decide +kernel
theorem dX12_winters_123 : decode cX12_winters 123 = .ok (.iload 6, 2) := by decide +kernel
theorem dX12_winters_125 : decode cX12_winters 125 = .ok (.invokevirtual 319, 3) := by decide +kernel
theorem dX12_winters_128 : decode cX12_winters 128 = .ok (.iadd, 1) := by decide +kernel
theorem dX12_winters_129 : decode cX12_winters 129 = .ok (.istore 4, 2) := by decide +kernel
theorem dX12_winters_131 : decode cX12_winters 131 = .ok (.iinc 5 1, 3) := by decide +kernel
theorem dX12_winters_134 : decode cX12_winters 134 = .ok (.goto (-78), 3) := by decide +kernel
theorem dX12_winters_137 : decode cX12_winters 137 = .ok (.iload_n 3, 1) := by decide +kernel
theorem dX12_winters_138 : decode cX12_winters 138 = .ok (.ifCond .ne 8, 3) := by decide +kernel
theorem dX12_winters_141 : decode cX12_winters 141 = .ok (.iload 4, 2) := by decide +kernel
theorem dX12_winters_143 : decode cX12_winters 143 = .ok (.goto 23, 3) := by decide +kernel
theorem dX12_winters_146 : decode cX12_winters 146 = .ok (.iload_n 3, 1) := by decide +kernel
theorem dX12_winters_147 : decode cX12_winters 147 = .ok (.iconst 1, 1) := by decide +kernel
theorem dX12_winters_148 : decode cX12_winters 148 = .ok (.if_icmp .ne 14, 3) := by decide +kernel
theorem dX12_winters_151 : decode cX12_winters 151 = .ok (.aload_n 0, 1) := by decide +kernel
theorem dX12_winters_152 : decode cX12_winters 152 = .ok (.aload_n 0, 1) := by decide +kernel
theorem dX12_winters_153 : decode cX12_winters 153 = .ok (.getfield 55, 3) := by decide +kernel
theorem dX12_winters_156 : decode cX12_winters 156 = .ok (.invokevirtual 322, 3) := by decide +kernel
theorem dX12_winters_159 : decode cX12_winters 159 = .ok (.goto 7, 3) := by decide +kernel
theorem dX12_winters_162 : decode cX12_winters 162 = .ok (.aload_n 0, 1) := by decide +kernel
