theorem dX12_allMade_9 : decode cX12_allMade 9 = .ok (.if_icmp .ge 18, 3) := by decide +kernel
theorem dX12_allMade_12 : decode cX12_allMade 12 = .ok (.iload_n 1, 1) := by decide +kernel
theorem dX12_allMade_13 : decode cX12_allMade 13 = .ok (.aload_n 0, 1) := by decide +kernel
theorem dX12_allMade_14 : decode cX12_allMade 14 = .ok (.getfield 96, 3) := by decide +kernel
theorem dX12_allMade_17 : decode cX12_allMade 17 = .ok (.iload_n 2, 1) := by decide +kernel
theorem dX12_allMade_18 : decode cX12_allMade 18 = .ok (.iaload, 1) := by decide +kernel
theorem dX12_allMade_19 : decode cX12_allMade 19 = .ok (.iadd, 1) := by decide +kernel
theorem dX12_allMade_20 : decode cX12_allMade 20 = .ok (.istore_n 1, 1) := by decide +kernel
theorem dX12_allMade_21 : decode cX12_allMade 21 = .ok (.iinc 2 1, 3) := by decide +kernel
theorem dX12_allMade_24 : decode cX12_allMade 24 = .ok (.goto (-20), 3) := by decide +kernel
theorem dX12_allMade_27 : decode cX12_allMade 27 = .ok (.iload_n 1, 1) := by decide +kernel
theorem dX12_allMade_28 : decode cX12_allMade 28 = .ok (.ireturn, 1) := by decide +kernel
theorem dX12_run_0 : decode cX12_run 0 = .ok (.iload_n 1, 1) := by decide +kernel
theorem dX12_run_1 : decode cX12_run 1 = .ok (.ifCond .lt 21, 3) := by decide +kernel
theorem dX12_run_4 : decode cX12_run 4 = .ok (.iload_n 1, 1) := by decide +kernel
theorem dX12_run_5 : decode cX12_run 5 = .ok (.bipush 100, 2) := by decide +kernel
theorem dX12_run_7 : decode cX12_run 7 = .ok (.if_icmp .gt 15, 3) := by decide +kernel
theorem dX12_run_10 : decode cX12_run 10 = .ok (.aload_n 0, 1) := by decide +kernel
theorem dX12_run_11 : decode cX12_run 11 = .ok (.getfield 464, 3) := by decide +kernel
theorem dX12_run_14 : decode cX12_run 14 = .ok (.iload_n 1, 1) := by decide +kernel
theorem dX12_run_15 : decode cX12_run 15 = .ok (.iadd, 1) := by decide +kernel
theorem dX12_run_16 : decode cX12_run 16 = .ok (.sipush 10000, 3) := by decide +kernel
theorem dX12_run_19 : decode cX12_run 19 = .ok (.if_icmp .le 5, 3) := by decide +kernel
theorem dX12_run_22 : decode cX12_run 22 = .ok (.iconst (-1), 1) := by decide +kernel
theorem dX12_run_23 : decode cX12_run 23 = .ok (.ireturn, 1) := by decide +kernel
theorem dX12_run_24 : decode cX12_run 24 = .ok (.aload_n 0, 1) := by decide +kernel
theorem dX12_run_25 : decode cX12_run 25 = .ok (.invokevirtual 559, 3) := by decide +kernel
theorem dX12_run_28 : decode cX12_run 28 = .ok (.istore_n 2, 1) := by decide +kernel
theorem dX12_run_29 : decode cX12_run 29 = .ok (.iconst 0, 1) := by decide +kernel
theorem dX12_run_30 : decode cX12_run 30 = .ok (.istore_n 3, 1) := by decide +kernel
theorem dX12_run_31 : decode cX12_run 31 = .ok (.iload_n 3, 1) := by decide +kernel
theorem dX12_run_32 : decode cX12_run 32 = .ok (.iload_n 1, 1) := by decide +kernel
theorem dX12_run_33 : decode cX12_run 33 = .ok (.if_icmp .ge 17, 3) := by decide +kernel
theorem dX12_run_36 : decode cX12_run 36 = .ok (.aload_n 0, 1) := by decide +kernel
theorem dX12_run_37 : decode cX12_run 37 = .ok (.aload_n 0, 1) := by decide +kernel
theorem dX12_run_38 : decode cX12_run 38 = .ok (.getfield 443, 3) := by decide +kernel
theorem dX12_run_41 : decode cX12_run 41 = .ok (.invokevirtual 562, 3) := by decide +kernel
theorem dX12_run_44 : decode cX12_run 44 = .ok (.iinc 3 1, 3) := by decide +kernel
theorem dX12_run_47 : decode cX12_run 47 = .ok (.goto (-16), 3) := by decide +kernel
theorem dX12_run_50 : decode cX12_run 50 = .ok (.aload_n 0, 1) := by decide +kernel
theorem dX12_run_51 : decode cX12_run 51 = .ok (.invokevirtual 559, 3) := by decide +kernel
theorem dX12_run_54 : decode cX12_run 54 = .ok (.iload_n 2, 1) := by decide +kernel
theorem dX12_run_55 : decode cX12_run 55 = .ok (.isub, 1) := by decide +kernel
theorem dX12_run_56 : decode cX12_run 56 = .ok (.ireturn, 1) := by decide +kernel
theorem dX12_thing_0 : decode cX12_thing 0 = .ok (.aload_n 0, 1) := by decide +kernel
theorem dX12_thing_1 : decode cX12_thing 1 = .ok (.iload_n 1, 1) := by decide +kernel
theorem dX12_thing_2 : decode cX12_thing 2 = .ok (.invokevirtual 565, 3) := by decide +kernel
theorem dX12_thing_5 : decode cX12_thing 5 = .ok (.ifCond .ne 6, 3) := by decide +kernel
theorem dX12_thing_8 : decode cX12_thing 8 = .ok (.bipush (-2), 2) := by decide +kernel
theorem dX12_thing_10 : decode cX12_thing 10 = .ok (.ireturn, 1) := by decide +kernel
theorem dX12_thing_11 : decode cX12_thing 11 = .ok (.iload_n 2, 1) := by decide +kernel
theorem dX12_thing_12 : decode cX12_thing 12 = .ok (.tableswitch 89 0 5 #[40, 47, 54, 61, 76, 82], 40) := by decide +kernel
theorem dX12_thing_52 : decode cX12_thing 52 = .ok (.aload_n 0, 1) := by decide +kernel
theorem dX12_thing_53 : decode cX12_thing 53 = .ok (.getfield 81, 3) := by decide +kernel
theorem dX12_thing_56 : decode cX12_thing 56 = .ok (.iload_n 1, 1) := by decide +kernel
theorem dX12_thing_57 : decode cX12_thing 57 = .ok (.iaload, 1) := by decide +kernel
theorem dX12_thing_58 : decode cX12_thing 58 = .ok (.ireturn, 1) := by decide +kernel
theorem dX12_thing_59 : decode cX12_thing 59 = .ok (.aload_n 0, 1) := by decide +kernel
theorem dX12_thing_60 : decode cX12_thing 60 = .ok (.getfield 84, 3) := by decide +kernel
theorem dX12_thing_63 : decode cX12_thing 63 = .ok (.iload_n 1, 1) := by decide +kernel
theorem dX12_thing_64 : decode cX12_thing 64 = .ok (.iaload, 1) := by decide +kernel
theorem dX12_thing_65 : decode cX12_thing 65 = .ok (.ireturn, 1) := by decide +kernel
theorem dX12_thing_66 : decode cX12_thing 66 = .ok (.aload_n 0, 1) := by decide +kernel
theorem dX12_thing_67 : decode cX12_thing 67 = .ok (.getfield 87, 3) := by decide +kernel
theorem dX12_thing_70 : decode cX12_thing 70 = .ok (.iload_n 1, 1) := by decide +kernel
theorem dX12_thing_71 : decode cX12_thing 71 = .ok (.iaload, 1) := by decide +kernel
theorem dX12_thing_72 : decode cX12_thing 72 = .ok (.ireturn, 1) := by decide +kernel
theorem dX12_thing_73 : decode cX12_thing 73 = .ok (.aload_n 0, 1) := by decide +kernel
theorem dX12_thing_74 : decode cX12_thing 74 = .ok (.getfield 99, 3) := by decide +kernel
theorem dX12_thing_77 : decode cX12_thing 77 = .ok (.iload_n 1, 1) := by decide +kernel
theorem dX12_thing_78 : decode cX12_thing 78 = .ok (.baload, 1) := by decide +kernel
theorem dX12_thing_79 : decode cX12_thing 79 = .ok (.ifCond .eq 7, 3) := by decide +kernel
theorem dX12_thing_82 : decode cX12_thing 82 = .ok (.iconst 1, 1) := by decide +kernel
theorem dX12_thing_83 : decode cX12_thing 83 = .ok (.goto 4, 3) := by decide +kernel
theorem dX12_thing_86 : decode cX12_thing 86 = .ok (.iconst 0, 1) := by decide +kernel
theorem dX12_thing_87 : decode cX12_thing 87 = .ok (.ireturn, 1) := by decide +kernel
theorem dX12_thing_88 : decode cX12_thing 88 = .ok (.aload_n 0, 1) := by decide +kernel
theorem dX12_thing_89 : decode cX12_thing 89 = .ok (.iload_n 1, 1) := by decide +kernel
theorem dX12_thing_90 : decode cX12_thing 90 = .ok (.invokevirtual 502, 3) := by decide +kernel
theorem dX12_thing_93 : decode cX12_thing 93 = .ok (.ireturn, 1) := by decide +kernel
theorem dX12_thing_94 : decode cX12_thing 94 = .ok (.aload_n 0, 1) := by decide +kernel
theorem dX12_thing_95 : decode cX12_thing 95 = .ok (.getfield 90, 3) := by decide +kernel
theorem dX12_thing_98 : decode cX12_thing 98 = .ok (.iload_n 1, 1) := by decide +kernel
theorem dX12_thing_99 : decode cX12_thing 99 = .ok (.iaload, 1) := by decide +kernel
theorem dX12_thing_100 : decode cX12_thing 100 = .ok (.ireturn, 1) := by decide +kernel
theorem dX12_thing_101 : decode cX12_thing 101 = .ok (.bipush (-2), 2) := by decide +kernel
theorem dX12_thing_103 : decode cX12_thing 103 = .ok (.ireturn, 1) := by decide +kernel
theorem dX12_ownedBy_0 : decode cX12_ownedBy 0 = .ok (.iconst 0, 1) := by decide +kernel
theorem dX12_ownedBy_1 : decode cX12_ownedBy 1 = .ok (.istore_n 2, 1) := by decide +kernel
theorem dX12_ownedBy_2 : decode cX12_ownedBy 2 = .ok (.iconst 0, 1) := by decide +kernel
theorem dX12_ownedBy_3 : decode cX12_ownedBy 3 = .ok (.istore_n 3, 1) := by decide +kernel
theorem dX12_ownedBy_4 : decode cX12_ownedBy 4 = .ok (.iload_n 3, 1) := by decide +kernel
theorem dX12_ownedBy_5 : decode cX12_ownedBy 5 = .ok (.aload_n 0, 1) := by decide +kernel
theorem dX12_ownedBy_6 : decode cX12_ownedBy 6 = .ok (.getfield 437, 3) := by decide +kernel
theorem dX12_ownedBy_9 : decode cX12_ownedBy 9 = .ok (.if_icmp .ge 27, 3) := by decide +kernel
theorem dX12_ownedBy_12 : decode cX12_ownedBy 12 = .ok (.iload_n 2, 1) := by decide +kernel
theorem dX12_ownedBy_13 : decode cX12_ownedBy 13 = .ok (.aload_n 0, 1) := by decide +kernel
theorem dX12_ownedBy_14 : decode cX12_ownedBy 14 = .ok (.getfield 81, 3) := by decide +kernel
theorem dX12_ownedBy_17 : decode cX12_ownedBy 17 = .ok (.iload_n 3, 1) := by decide +kernel
theorem dX12_ownedBy_18 : decode cX12_ownedBy 18 = .ok (.iaload, 1) := by decide +kernel
theorem dX12_ownedBy_19 : decode cX12_ownedBy 19 = .ok (.iload_n 1, 1) := by decide +kernel
theorem dX12_ownedBy_20 : decode cX12_ownedBy 20 = .ok (.if_icmp .ne 7, 3) := by decide +kernel
theorem dX12_ownedBy_23 : decode cX12_ownedBy 23 = .ok (.iconst 1, 1) := by decide +kernel
theorem dX12_ownedBy_24 : decode cX12_ownedBy 24 = .ok (.goto 4, 3) := by decide +kernel
theorem dX12_ownedBy_27 : decode cX12_ownedBy 27 = .ok (.iconst 0, 1) := by decide +kernel
theorem dX12_ownedBy_28 : decode cX12_ownedBy 28 = .ok (.iadd, 1) := by decide +kernel
theorem dX12_ownedBy_29 : decode cX12_ownedBy 29 = .ok (.istore_n 2, 1) := by decide +kernel
theorem dX12_ownedBy_30 : decode cX12_ownedBy 30 = .ok (.iinc 3 1, 3) := by decide +kernel
theorem dX12_ownedBy_33 : decode cX12_ownedBy 33 = .ok (.goto (-29), 3) := by decide +kernel
theorem dX12_ownedBy_36 : decode cX12_ownedBy 36 = .ok (.iload_n 2, 1) := by decide +kernel
theorem dX12_ownedBy_37 : decode cX12_ownedBy 37 = .ok (.ireturn, 1) := by decide +kernel
theorem dX12_person_0 : decode cX12_person 0 = .ok (.aload_n 0, 1) := by decide +kernel
theorem dX12_person_1 : decode cX12_person 1 = .ok (.iload_n 1, 1) := by decide +kernel
theorem dX12_person_2 : decode cX12_person 2 = .ok (.invokevirtual 568, 3) := by decide +kernel
theorem dX12_person_5 : decode cX12_person 5 = .ok (.ifCond .ne 6, 3) := by decide +kernel
theorem dX12_person_8 : decode cX12_person 8 = .ok (.bipush (-2), 2) := by decide +kernel
theorem dX12_person_10 : decode cX12_person 10 = .ok (.ireturn, 1) := by decide +kernel
theorem dX12_person_11 : decode cX12_person 11 = .ok (.iload_n 2, 1) := by decide +kernel
theorem dX12_person_12 : decode cX12_person 12 = .ok (.tableswitch 76 0 3 #[32, 39, 46, 52], 32) := by decide +kernel
theorem dX12_person_44 : decode cX12_person 44 = .ok (.aload_n 0, 1) := by decide +kernel
theorem dX12_person_45 : decode cX12_person 45 = .ok (.getfield 93, 3) := by decide +kernel
theorem dX12_person_48 : decode cX12_person 48 = .ok (.iload_n 1, 1) := by decide +kernel
theorem dX12_person_49 : decode cX12_person 49 = .ok (.iaload, 1) := by decide +kernel
theorem dX12_person_50 : decode cX12_person 50 = .ok (.ireturn, 1) := by decide +kernel
theorem dX12_person_51 : decode cX12_person 51 = .ok (.aload_n 0, 1) := by decide +kernel
theorem dX12_person_52 : decode cX12_person 52 = .ok (.getfield 96, 3) := by decide +kernel
theorem dX12_person_55 : decode cX12_person 55 = .ok (.iload_n 1, 1) := by decide +kernel
theorem dX12_person_56 : decode cX12_person 56 = .ok (.iaload, 1) := by decide +kernel
theorem dX12_person_57 : decode cX12_person 57 = .ok (.ireturn, 1) := by decide +kernel
theorem dX12_person_58 : decode cX12_person 58 = .ok (.aload_n 0, 1) := by decide +kernel
theorem dX12_person_59 : decode cX12_person 59 = .ok (.iload_n 1, 1) := by decide +kernel
theorem dX12_person_60 : decode cX12_person 60 = .ok (.invokevirtual 571, 3) := by decide +kernel
theorem dX12_person_63 : decode cX12_person 63 = .ok (.ireturn, 1) := by decide +kernel
theorem dX12_person_64 : decode cX12_person 64 = .ok (.aload_n 0, 1) := by decide +kernel
theorem dX12_person_65 : decode cX12_person 65 = .ok (.aload_n 0, 1) := by decide +kernel
theorem dX12_person_66 : decode cX12_person 66 = .ok (.getfield 464, 3) := by decide +kernel
theorem dX12_person_69 : decode cX12_person 69 = .ok (.iconst 1, 1) := by decide +kernel
theorem dX12_person_70 : decode cX12_person 70 = .ok (.iadd, 1) := by decide +kernel
theorem dX12_person_71 : decode cX12_person 71 = .ok (.invokevirtual 546, 3) := by decide +kernel
theorem dX12_person_74 : decode cX12_person 74 = .ok (.aload_n 0, 1) := by decide +kernel
theorem dX12_person_75 : decode cX12_person 75 = .ok (.iload_n 1, 1) := by decide +kernel
theorem dX12_person_76 : decode cX12_person 76 = .ok (.aload_n 0, 1) := by decide +kernel
theorem dX12_person_77 : decode cX12_person 77 = .ok (.getfield 93, 3) := by decide +kernel
theorem dX12_person_80 : decode cX12_person 80 = .ok (.iload_n 1, 1) := by decide +kernel
theorem dX12_person_81 : decode cX12_person 81 = .ok (.iaload, 1) := by decide +kernel
theorem dX12_person_82 : decode cX12_person 82 = .ok (.iconst (-1), 1) := by decide +kernel
theorem dX12_person_83 : decode cX12_person 83 = .ok (.iconst 0, 1) := by decide +kernel
theorem dX12_person_84 : decode cX12_person 84 = .ok (.invokevirtual 514, 3) := by decide +kernel
theorem dX12_person_87 : decode cX12_person 87 = .ok (.ireturn, 1) := by decide +kernel
theorem dX12_person_88 : decode cX12_person 88 = .ok (.bipush (-2), 2) := by decide +kernel
theorem dX12_person_90 : decode cX12_person 90 = .ok (.ireturn, 1) := by decide +kernel
theorem dX12_give_0 : decode cX12_give 0 = .ok (.aload_n 0, 1) := by decide +kernel
theorem dX12_give_1 : decode cX12_give 1 = .ok (.iload_n 1, 1) := by decide +kernel
theorem dX12_give_2 : decode cX12_give 2 = .ok (.invokevirtual 565, 3) := by decide +kernel
theorem dX12_give_5 : decode cX12_give 5 = .ok (.ifCond .eq 25, 3) := by decide +kernel
theorem dX12_give_8 : decode cX12_give 8 = .ok (.aload_n 0, 1) := by decide +kernel
theorem dX12_give_9 : decode cX12_give 9 = .ok (.getfield 99, 3) := by decide +kernel
theorem dX12_give_12 : decode cX12_give 12 = .ok (.iload_n 1, 1) := by decide +kernel
theorem dX12_give_13 : decode cX12_give 13 = .ok (.baload, 1) := by decide +kernel
theorem dX12_give_14 : decode cX12_give 14 = .ok (.ifCond .ne 16, 3) := by decide +kernel
theorem dX12_give_17 : decode cX12_give 17 = .ok (.iload_n 2, 1) := by decide +kernel
theorem dX12_give_18 : decode cX12_give 18 = .ok (.iconst (-1), 1) := by decide +kernel
theorem dX12_give_19 : decode cX12_give 19 = .ok (.if_icmp .eq 13, 3) := by decide +kernel
theorem dX12_give_22 : decode cX12_give 22 = .ok (.aload_n 0, 1) := by decide +kernel
theorem dX12_give_23 : decode cX12_give 23 = .ok (.iload_n 2, 1) := by decide +kernel
theorem dX12_give_24 : decode cX12_give 24 = .ok (.invokevirtual 568, 3) := by decide +kernel
theorem dX12_give_27 : decode cX12_give 27 = .ok (.ifCond .ne 5, 3) := by decide +kernel
theorem dX12_give_30 : decode cX12_give 30 = .ok (.iconst 0, 1) := by decide +kernel
theorem dX12_give_31 : decode cX12_give 31 = .ok (.ireturn, 1) := by decide +kernel
theorem dX12_give_32 : decode cX12_give 32 = .ok (.aload_n 0, 1) := by decide +kernel
theorem dX12_give_33 : decode cX12_give 33 = .ok (.getfield 81, 3) := by decide +kernel
theorem dX12_give_36 : decode cX12_give 36 = .ok (.iload_n 1, 1) := by decide +kernel
theorem dX12_give_37 : decode cX12_give 37 = .ok (.iload_n 2, 1) := by decide +kernel
theorem dX12_give_38 : decode cX12_give 38 = .ok (.iastore, 1) := by decide +kernel
theorem dX12_give_39 : decode cX12_give 39 = .ok (.iconst 1, 1) := by decide +kernel
theorem dX12_give_40 : decode cX12_give 40 = .ok (.ireturn, 1) := by decide +kernel
theorem dX12_chip_0 : decode cX12_chip 0 = .ok (.aload_n 0, 1) := by decide +kernel
theorem dX12_chip_1 : decode cX12_chip 1 = .ok (.iload_n 1, 1) := by decide +kernel
theorem dX12_chip_2 : decode cX12_chip 2 = .ok (.invokevirtual 565, 3) := by decide +kernel
theorem dX12_chip_5 : decode cX12_chip 5 = .ok (.ifCond .eq 17, 3) := by decide +kernel
theorem dX12_chip_8 : decode cX12_chip 8 = .ok (.iload_n 2, 1) := by decide +kernel
theorem dX12_chip_9 : decode cX12_chip 9 = .ok (.ifCond .lt 13, 3) := by decide +kernel
theorem dX12_chip_12 : decode cX12_chip 12 = .ok (.iload_n 2, 1) := by decide +kernel
theorem dX12_chip_13 : decode cX12_chip 13 = .ok (.aload_n 0, 1) := by decide +kernel
theorem dX12_chip_14 : decode cX12_chip 14 = .ok (.getfield 90, 3) := by decide +kernel
theorem dX12_chip_17 : decode cX12_chip 17 = .ok (.iload_n 1, 1) := by decide +kernel
theorem dX12_chip_18 : decode cX12_chip 18 = .ok (.iaload, 1) := by decide +kernel
theorem dX12_chip_19 : decode cX12_chip 19 = .ok (.if_icmp .le 5, 3) := by decide +kernel
theorem dX12_chip_22 : decode cX12_chip 22 = .ok (.iconst (-1), 1) := by decide +kernel
theorem dX12_chip_23 : decode cX12_chip 23 = .ok (.ireturn, 1) := by decide +kernel
theorem dX12_chip_24 : decode cX12_chip 24 = .ok (.aload_n 0, 1) := by decide +kernel
theorem dX12_chip_25 : decode cX12_chip 25 = .ok (.getfield 90, 3) := by decide +kernel
theorem dX12_chip_28 : decode cX12_chip 28 = .ok (.iload_n 1, 1) := by decide +kernel
theorem dX12_chip_29 : decode cX12_chip 29 = .ok (.dup2, 1) := by decide +kernel
theorem dX12_chip_30 : decode cX12_chip 30 = .ok (.iaload, 1) := by decide +kernel
theorem dX12_chip_31 : decode cX12_chip 31 = .ok (.iload_n 2, 1) := by decide +kernel
theorem dX12_chip_32 : decode cX12_chip 32 = .ok (.isub, 1) := by decide +kernel
theorem dX12_chip_33 : decode cX12_chip 33 = .ok (.iastore, 1) := by decide +kernel
theorem dX12_chip_34 : decode cX12_chip 34 = .ok (.aload_n 0, 1) := by decide +kernel
theorem dX12_chip_35 : decode cX12_chip 35 = .ok (.getfield 90, 3) := by decide +kernel
theorem dX12_chip_38 : decode cX12_chip 38 = .ok (.iload_n 1, 1) := by decide +kernel
theorem dX12_chip_39 : decode cX12_chip 39 = .ok (.iaload, 1) := by decide +kernel
theorem dX12_chip_40 : decode cX12_chip 40 = .ok (.ireturn, 1) := by decide +kernel
theorem dX12_asks_0 : decode cX12_asks 0 = .ok (.aload_n 0, 1) := by decide +kernel
theorem dX12_asks_1 : decode cX12_asks 1 = .ok (.iload_n 1, 1) := by decide +kernel
theorem dX12_asks_2 : decode cX12_asks 2 = .ok (.invokevirtual 568, 3) := by decide +kernel
theorem dX12_asks_5 : decode cX12_asks 5 = .ok (.ifCond .eq 11, 3) := by decide +kernel
theorem dX12_asks_8 : decode cX12_asks 8 = .ok (.aload_n 0, 1) := by decide +kernel
theorem dX12_asks_9 : decode cX12_asks 9 = .ok (.iload_n 2, 1) := by decide +kernel
theorem dX12_asks_10 : decode cX12_asks 10 = .ok (.invokevirtual 565, 3) := by decide +kernel
theorem dX12_asks_13 : decode cX12_asks 13 = .ok (.ifCond .ne 7, 3) := by decide +kernel
theorem dX12_asks_16 : decode cX12_asks 16 = .ok (.ldc_w 574, 3) := by decide +kernel
theorem dX12_asks_19 : decode cX12_asks 19 = .ok (.ireturn, 1) := by decide +kernel
theorem dX12_asks_20 : decode cX12_asks 20 = .ok (.aload_n 0, 1) := by decide +kernel
theorem dX12_asks_21 : decode cX12_asks 21 = .ok (.aload_n 0, 1) := by decide +kernel
theorem dX12_asks_22 : decode cX12_asks 22 = .ok (.getfield 464, 3) := by decide +kernel
theorem dX12_asks_25 : decode cX12_asks 25 = .ok (.iconst 1, 1) := by decide +kernel
theorem dX12_asks_26 : decode cX12_asks 26 = .ok (.iadd, 1) := by decide +kernel
theorem dX12_asks_27 : decode cX12_asks 27 = .ok (.invokevirtual 546, 3) := by decide +kernel
theorem dX12_asks_30 : decode cX12_asks 30 = .ok (.aload_n 0, 1) := by decide +kernel
theorem dX12_asks_31 : decode cX12_asks 31 = .ok (.iload_n 1, 1) := by decide +kernel
theorem dX12_asks_32 : decode cX12_asks 32 = .ok (.iload_n 2, 1) := by decide +kernel
theorem dX12_asks_33 : decode cX12_asks 33 = .ok (.aload_n 0, 1) := by decide +kernel
theorem dX12_asks_34 : decode cX12_asks 34 = .ok (.getfield 93, 3) := by decide +kernel
theorem dX12_asks_37 : decode cX12_asks 37 = .ok (.iload_n 1, 1) := by decide +kernel
theorem dX12_asks_38 : decode cX12_asks 38 = .ok (.iaload, 1) := by decide +kernel
theorem dX12_asks_39 : decode cX12_asks 39 = .ok (.invokevirtual 511, 3) := by decide +kernel
theorem dX12_asks_42 : decode cX12_asks 42 = .ok (.ireturn, 1) := by decide +kernel
theorem dX12_common_0 : decode cX12_common 0 = .ok (.lload_n 0, 1) := by decide +kernel
theorem dX12_common_1 : decode cX12_common 1 = .ok (.lstore 4, 2) := by decide +kernel
theorem dX12_common_3 : decode cX12_common 3 = .ok (.lload_n 2, 1) := by decide +kernel
theorem dX12_common_4 : decode cX12_common 4 = .ok (.lstore 6, 2) := by decide +kernel
theorem dX12_common_6 : decode cX12_common 6 = .ok (.lload 6, 2) := by decide +kernel
theorem dX12_common_8 : decode cX12_common 8 = .ok (.lconst 0, 1) := by decide +kernel
theorem dX12_common_9 : decode cX12_common 9 = .ok (.lcmp, 1) := by decide +kernel
theorem dX12_common_10 : decode cX12_common 10 = .ok (.ifCond .le 21, 3) := by decide +kernel
theorem dX12_common_13 : decode cX12_common 13 = .ok (.lload 4, 2) := by decide +kernel
theorem dX12_common_15 : decode cX12_common 15 = .ok (.lload 6, 2) := by decide +kernel
theorem dX12_common_17 : decode cX12_common 17 = .ok (.lrem, 1) := by decide +kernel
theorem dX12_common_18 : decode cX12_common 18 = .ok (.lstore 8, 2) := by decide +kernel
theorem dX12_common_20 : decode cX12_common 20 = .ok (.lload 6, 2) := by decide +kernel
theorem dX12_common_22 : decode cX12_common 22 = .ok (.lstore 4, 2) := by decide +kernel
theorem dX12_common_24 : decode cX12_common 24 = .ok (.lload 8, 2) := by decide +kernel
theorem dX12_common_26 : decode cX12_common 26 = .ok (.lstore 6, 2) := by decide +kernel
theorem dX12_common_28 : decode cX12_common 28 = .ok (.goto (-22), 3) := by decide +kernel
theorem dX12_common_31 : decode cX12_common 31 = .ok (.lload 4, 2) := by decide +kernel
theorem dX12_common_33 : decode cX12_common 33 = .ok (.lreturn, 1) := by decide +kernel
theorem dX12_seekThen_0 : decode cX12_seekThen 0 = .ok (.aload_n 0, 1) := by decide +kernel
theorem dX12_seekThen_1 : decode cX12_seekThen 1 = .ok (.invokevirtual 575, 3) := by decide +kernel
theorem dX12_seekThen_4 : decode cX12_seekThen 4 = .ok (.aload_n 0, 1) := by decide +kernel
theorem dX12_seekThen_5 : decode cX12_seekThen 5 = .ok (.dup, 1) := by decide +kernel
theorem dX12_seekThen_6 : decode cX12_seekThen 6 = .ok (.getfield 464, 3) := by decide +kernel
theorem dX12_seekThen_9 : decode cX12_seekThen 9 = .ok (.iconst 1, 1) := by decide +kernel
theorem dX12_seekThen_10 : decode cX12_seekThen 10 = .ok (.iadd, 1) := by decide +kernel
theorem dX12_seekThen_11 : decode cX12_seekThen 11 = .ok (.putfield 464, 3) := by decide +kernel
theorem dX12_seekThen_14 : decode cX12_seekThen 14 = .ok (.aload_n 0, 1) := by decide +kernel
theorem dX12_seekThen_15 : decode cX12_seekThen 15 = .ok (.invokevirtual 552, 3) := by decide +kernel
theorem dX12_seekThen_18 : decode cX12_seekThen 18 = .ok (.aload_n 0, 1) := by decide +kernel
theorem dX12_seekThen_19 : decode cX12_seekThen 19 = .ok (.aload_n 0, 1) := by decide +kernel
theorem dX12_seekThen_20 : decode cX12_seekThen 20 = .ok (.getfield 99, 3) := by decide +kernel
theorem dX12_seekThen_23 : decode cX12_seekThen 23 = .ok (.iload_n 1, 1) := by decide +kernel
theorem dX12_seekThen_24 : decode cX12_seekThen 24 = .ok (.baload, 1) := by decide +kernel
theorem dX12_seekThen_25 : decode cX12_seekThen 25 = .ok (.putfield 578, 3) := by decide +kernel
theorem dX12_seekThen_28 : decode cX12_seekThen 28 = .ok (.aload_n 0, 1) := by decide +kernel
theorem dX12_seekThen_29 : decode cX12_seekThen 29 = .ok (.iload_n 1, 1) := by decide +kernel
theorem dX12_seekThen_30 : decode cX12_seekThen 30 = .ok (.putfield 139, 3) := by decide +kernel
theorem dX12_seekThen_33 : decode cX12_seekThen 33 = .ok (.aload_n 0, 1) := by decide +kernel
theorem dX12_seekThen_34 : decode cX12_seekThen 34 = .ok (.iconst 0, 1) := by decide +kernel
theorem dX12_seekThen_35 : decode cX12_seekThen 35 = .ok (.putfield 536, 3) := by decide +kernel
theorem dX12_seekThen_38 : decode cX12_seekThen 38 = .ok (.aload_n 0, 1) := by decide +kernel
theorem dX12_seekThen_39 : decode cX12_seekThen 39 = .ok (.aload_n 0, 1) := by decide +kernel
theorem dX12_seekThen_40 : decode cX12_seekThen 40 = .ok (.getfield 443, 3) := by decide +kernel
theorem dX12_seekThen_43 : decode cX12_seekThen 43 = .ok (.iload_n 2, 1) := by decide +kernel
theorem dX12_seekThen_44 : decode cX12_seekThen 44 = .ok (.invokevirtual 555, 3) := by decide +kernel
theorem dX12_seekThen_47 : decode cX12_seekThen 47 = .ok (.aload_n 0, 1) := by decide +kernel
theorem dX12_seekThen_48 : decode cX12_seekThen 48 = .ok (.iconst (-1), 1) := by decide +kernel
theorem dX12_seekThen_49 : decode cX12_seekThen 49 = .ok (.putfield 139, 3) := by decide +kernel
theorem dX12_seekThen_52 : decode cX12_seekThen 52 = .ok (.aload_n 0, 1) := by decide +kernel
theorem dX12_seekThen_53 : decode cX12_seekThen 53 = .ok (.aload_n 0, 1) := by decide +kernel
theorem dX12_seekThen_54 : decode cX12_seekThen 54 = .ok (.getfield 81, 3) := by decide +kernel
theorem dX12_seekThen_57 : decode cX12_seekThen 57 = .ok (.iload_n 1, 1) := by decide +kernel
theorem dX12_seekThen_58 : decode cX12_seekThen 58 = .ok (.iaload, 1) := by decide +kernel
theorem dX12_seekThen_59 : decode cX12_seekThen 59 = .ok (.putfield 581, 3) := by decide +kernel
theorem dX12_seekThen_62 : decode cX12_seekThen 62 = .ok (.aload_n 0, 1) := by decide +kernel
theorem dX12_seekThen_63 : decode cX12_seekThen 63 = .ok (.aload_n 0, 1) := by decide +kernel
theorem dX12_seekThen_64 : decode cX12_seekThen 64 = .ok (.getfield 443, 3) := by decide +kernel
theorem dX12_seekThen_67 : decode cX12_seekThen 67 = .ok (.iconst 2, 1) := by decide +kernel
theorem dX12_seekThen_68 : decode cX12_seekThen 68 = .ok (.if_icmp .ne 10, 3) := by decide +kernel
theorem dX12_seekThen_71 : decode cX12_seekThen 71 = .ok (.aload_n 0, 1) := by decide +kernel
theorem dX12_seekThen_72 : decode cX12_seekThen 72 = .ok (.getfield 536, 3) := by decide +kernel
theorem dX12_seekThen_75 : decode cX12_seekThen 75 = .ok (.goto 4, 3) := by decide +kernel
theorem dX12_seekThen_78 : decode cX12_seekThen 78 = .ok (.iconst 0, 1) := by decide +kernel
theorem dX12_seekThen_79 : decode cX12_seekThen 79 = .ok (.putfield 584, 3) := by decide +kernel
theorem dX12_seekThen_82 : decode cX12_seekThen 82 = .ok (.aload_n 0, 1) := by decide +kernel
theorem dX12_seekThen_83 : decode cX12_seekThen 83 = .ok (.invokevirtual 587, 3) := by decide +kernel
theorem dX12_seekThen_86 : decode cX12_seekThen 86 = .ok (.return_, 1) := by decide +kernel
theorem dX12_sixtieths_0 : decode cX12_sixtieths 0 = .ok (.aload_n 0, 1) := by decide +kernel
theorem dX12_sixtieths_1 : decode cX12_sixtieths 1 = .ok (.getfield 584, 3) := by decide +kernel
theorem dX12_sixtieths_4 : decode cX12_sixtieths 4 = .ok (.ifCond .ne 18, 3) := by decide +kernel
theorem dX12_sixtieths_7 : decode cX12_sixtieths 7 = .ok (.aload_n 0, 1) := by decide +kernel
theorem dX12_sixtieths_8 : decode cX12_sixtieths 8 = .ok (.getfield 581, 3) := by decide +kernel
theorem dX12_sixtieths_11 : decode cX12_sixtieths 11 = .ok (.iload_n 1, 1) := by decide +kernel
theorem dX12_sixtieths_12 : decode cX12_sixtieths 12 = .ok (.if_icmp .ne 8, 3) := by decide +kernel
theorem dX12_sixtieths_15 : decode cX12_sixtieths 15 = .ok (.bipush 60, 2) := by decide +kernel
theorem dX12_sixtieths_17 : decode cX12_sixtieths 17 = .ok (.goto 4, 3) := by decide +kernel
theorem dX12_sixtieths_20 : decode cX12_sixtieths 20 = .ok (.iconst 0, 1) := by decide +kernel
theorem dX12_sixtieths_21 : decode cX12_sixtieths 21 = .ok (.ireturn, 1) := by decide +kernel
theorem dX12_sixtieths_22 : decode cX12_sixtieths 22 = .ok (.iload_n 1, 1) := by decide +kernel
theorem dX12_sixtieths_23 : decode cX12_sixtieths 23 = .ok (.ifCond .lt 28, 3) := by decide +kernel
theorem dX12_sixtieths_26 : decode cX12_sixtieths 26 = .ok (.aload_n 0, 1) := by decide +kernel
theorem dX12_sixtieths_27 : decode cX12_sixtieths 27 = .ok (.getfield 584, 3) := by decide +kernel
theorem dX12_sixtieths_30 : decode cX12_sixtieths 30 = .ok (.iload_n 1, 1) := by decide +kernel
theorem dX12_sixtieths_31 : decode cX12_sixtieths 31 = .ok (.ishr, 1) := by decide +kernel
theorem dX12_sixtieths_32 : decode cX12_sixtieths 32 = .ok (.iconst 1, 1) := by decide +kernel
theorem dX12_sixtieths_33 : decode cX12_sixtieths 33 = .ok (.iand, 1) := by decide +kernel
theorem dX12_sixtieths_34 : decode cX12_sixtieths 34 = .ok (.iconst 1, 1) := by decide +kernel
theorem dX12_sixtieths_35 : decode cX12_sixtieths 35 = .ok (.if_icmp .ne 16, 3) := by decide +kernel
theorem dX12_sixtieths_38 : decode cX12_sixtieths 38 = .ok (.bipush 60, 2) := by decide +kernel
theorem dX12_sixtieths_40 : decode cX12_sixtieths 40 = .ok (.aload_n 0, 1) := by decide +kernel
theorem dX12_sixtieths_41 : decode cX12_sixtieths 41 = .ok (.getfield 584, 3) := by decide +kernel
theorem dX12_sixtieths_44 : decode cX12_sixtieths 44 = .ok (.invokestatic 521, 3) := by decide +kernel
theorem dX12_sixtieths_47 : decode cX12_sixtieths 47 = .ok (.idiv, 1) := by decide +kernel
theorem dX12_sixtieths_48 : decode cX12_sixtieths 48 = .ok (.goto 4, 3) := by decide +kernel
theorem dX12_sixtieths_51 : decode cX12_sixtieths 51 = .ok (.iconst 0, 1) := by decide +kernel
theorem dX12_sixtieths_52 : decode cX12_sixtieths 52 = .ok (.ireturn, 1) := by decide +kernel
theorem dX12_chanceIn_0 : decode cX12_chanceIn 0 = .ok (.aload_n 0, 1) := by decide +kernel
theorem dX12_chanceIn_1 : decode cX12_chanceIn 1 = .ok (.iload_n 1, 1) := by decide +kernel
theorem dX12_chanceIn_2 : decode cX12_chanceIn 2 = .ok (.iconst 0, 1) := by decide +kernel
theorem dX12_chanceIn_3 : decode cX12_chanceIn 3 = .ok (.invokevirtual 590, 3) := by decide +kernel
theorem dX12_chanceIn_6 : decode cX12_chanceIn 6 = .ok (.aload_n 0, 1) := by decide +kernel
theorem dX12_chanceIn_7 : decode cX12_chanceIn 7 = .ok (.getfield 578, 3) := by decide +kernel
theorem dX12_chanceIn_10 : decode cX12_chanceIn 10 = .ok (.ifCond .eq 5, 3) := by decide +kernel
theorem dX12_chanceIn_13 : decode cX12_chanceIn 13 = .ok (.iconst (-1), 1) := by decide +kernel
theorem dX12_chanceIn_14 : decode cX12_chanceIn 14 = .ok (.ireturn, 1) := by decide +kernel
theorem dX12_chanceIn_15 : decode cX12_chanceIn 15 = .ok (.aload_n 0, 1) := by decide +kernel
theorem dX12_chanceIn_16 : decode cX12_chanceIn 16 = .ok (.iload_n 2, 1) := by decide +kernel
theorem dX12_chanceIn_17 : decode cX12_chanceIn 17 = .ok (.invokevirtual 593, 3) := by decide +kernel
theorem dX12_chanceIn_20 : decode cX12_chanceIn 20 = .ok (.istore_n 3, 1) := by decide +kernel
theorem dX12_chanceIn_21 : decode cX12_chanceIn 21 = .ok (.aload_n 0, 1) := by decide +kernel
theorem dX12_chanceIn_22 : decode cX12_chanceIn 22 = .ok (.iload_n 1, 1) := by decide +kernel
theorem dX12_chanceIn_23 : decode cX12_chanceIn 23 = .ok (.iconst 1, 1) := by decide +kernel
theorem dX12_chanceIn_24 : decode cX12_chanceIn 24 = .ok (.invokevirtual 590, 3) := by decide +kernel
theorem dX12_chanceIn_27 : decode cX12_chanceIn 27 = .ok (.aload_n 0, 1) := by decide +kernel
theorem dX12_chanceIn_28 : decode cX12_chanceIn 28 = .ok (.getfield 446, 3) := by decide +kernel
theorem dX12_chanceIn_31 : decode cX12_chanceIn 31 = .ok (.aload_n 0, 1) := by decide +kernel
theorem dX12_chanceIn_32 : decode cX12_chanceIn 32 = .ok (.iload_n 2, 1) := by decide +kernel
theorem dX12_chanceIn_33 : decode cX12_chanceIn 33 = .ok (.invokevirtual 593, 3) := by decide +kernel
theorem dX12_chanceIn_36 : decode cX12_chanceIn 36 = .ok (.imul, 1) := by decide +kernel
theorem dX12_chanceIn_37 : decode cX12_chanceIn 37 = .ok (.bipush 100, 2) := by decide +kernel
theorem dX12_chanceIn_39 : decode cX12_chanceIn 39 = .ok (.aload_n 0, 1) := by decide +kernel
theorem dX12_chanceIn_40 : decode cX12_chanceIn 40 = .ok (.getfield 446, 3) := by decide +kernel
theorem dX12_chanceIn_43 : decode cX12_chanceIn 43 = .ok (.isub, 1) := by decide +kernel
theorem dX12_chanceIn_44 : decode cX12_chanceIn 44 = .ok (.iload_n 3, 1) := by decide +kernel
theorem dX12_chanceIn_45 : decode cX12_chanceIn 45 = .ok (.imul, 1) := by decide +kernel
theorem dX12_chanceIn_46 : decode cX12_chanceIn 46 = .ok (.iadd, 1) := by decide +kernel
theorem dX12_chanceIn_47 : decode cX12_chanceIn 47 = .ok (.ireturn, 1) := by decide +kernel
theorem dX12_chance_0 : decode cX12_chance 0 = .ok (.aload_n 0, 1) := by decide +kernel
theorem dX12_chance_1 : decode cX12_chance 1 = .ok (.iload_n 1, 1) := by decide +kernel
theorem dX12_chance_2 : decode cX12_chance 2 = .ok (.invokevirtual 565, 3) := by decide +kernel
theorem dX12_chance_5 : decode cX12_chance 5 = .ok (.ifCond .eq 25, 3) := by decide +kernel
theorem dX12_chance_8 : decode cX12_chance 8 = .ok (.iload_n 2, 1) := by decide +kernel
theorem dX12_chance_9 : decode cX12_chance 9 = .ok (.iconst (-1), 1) := by decide +kernel
theorem dX12_chance_10 : decode cX12_chance 10 = .ok (.if_icmp .eq 11, 3) := by decide +kernel
theorem dX12_chance_13 : decode cX12_chance 13 = .ok (.aload_n 0, 1) := by decide +kernel
theorem dX12_chance_14 : decode cX12_chance 14 = .ok (.iload_n 2, 1) := by decide +kernel
theorem dX12_chance_15 : decode cX12_chance 15 = .ok (.invokevirtual 568, 3) := by decide +kernel
theorem dX12_chance_18 : decode cX12_chance 18 = .ok (.ifCond .eq 12, 3) := by decide +kernel
theorem dX12_chance_21 : decode cX12_chance 21 = .ok (.iload_n 3, 1) := by decide +kernel
theorem dX12_chance_22 : decode cX12_chance 22 = .ok (.ifCond .lt 8, 3) := by decide +kernel
theorem dX12_chance_25 : decode cX12_chance 25 = .ok (.iload_n 3, 1) := by decide +kernel
theorem dX12_chance_26 : decode cX12_chance 26 = .ok (.iconst 1, 1) := by decide +kernel
theorem dX12_chance_27 : decode cX12_chance 27 = .ok (.if_icmp .le 5, 3) := by decide +kernel
theorem dX12_chance_30 : decode cX12_chance 30 = .ok (.iconst (-1), 1) := by decide +kernel
theorem dX12_chance_31 : decode cX12_chance 31 = .ok (.ireturn, 1) := by decide +kernel
theorem dX12_chance_32 : decode cX12_chance 32 = .ok (.aload_n 0, 1) := by decide +kernel
theorem dX12_chance_33 : decode cX12_chance 33 = .ok (.iload_n 1, 1) := by decide +kernel
theorem dX12_chance_34 : decode cX12_chance 34 = .ok (.iload_n 2, 1) := by decide +kernel
theorem dX12_chance_35 : decode cX12_chance 35 = .ok (.invokevirtual 596, 3) := by decide +kernel
theorem dX12_chance_38 : decode cX12_chance 38 = .ok (.istore 4, 2) := by decide +kernel
theorem dX12_chance_40 : decode cX12_chance 40 = .ok (.iload 4, 2) := by decide +kernel
theorem dX12_chance_42 : decode cX12_chance 42 = .ok (.ifCond .ge 5, 3) := by decide +kernel
theorem dX12_chance_45 : decode cX12_chance 45 = .ok (.iconst (-1), 1) := by decide +kernel
theorem dX12_chance_46 : decode cX12_chance 46 = .ok (.ireturn, 1) := by decide +kernel
theorem dX12_chance_47 : decode cX12_chance 47 = .ok (.ldc2_w 599, 3) := by decide +kernel
theorem dX12_chance_50 : decode cX12_chance 50 = .ok (.iload 4, 2) := by decide +kernel
theorem dX12_chance_52 : decode cX12_chance 52 = .ok (.i2l, 1) := by decide +kernel
theorem dX12_chance_53 : decode cX12_chance 53 = .ok (.invokestatic 601, 3) := by decide +kernel
theorem dX12_chance_56 : decode cX12_chance 56 = .ok (.l2i, 1) := by decide +kernel
theorem dX12_chance_57 : decode cX12_chance 57 = .ok (.istore 5, 2) := by decide +kernel
theorem dX12_chance_59 : decode cX12_chance 59 = .ok (.iload_n 3, 1) := by decide +kernel
theorem dX12_chance_60 : decode cX12_chance 60 = .ok (.ifCond .ne 11, 3) := by decide +kernel
theorem dX12_chance_63 : decode cX12_chance 63 = .ok (.iload 4, 2) := by decide +kernel
theorem dX12_chance_65 : decode cX12_chance 65 = .ok (.iload 5, 2) := by decide +kernel
theorem dX12_chance_67 : decode cX12_chance 67 = .ok (.idiv, 1) := by decide +kernel
theorem dX12_chance_68 : decode cX12_chance 68 = .ok (.goto 9, 3) := by decide +kernel
theorem dX12_chance_71 : decode cX12_chance 71 = .ok (.sipush 6000, 3) := by decide +kernel
theorem dX12_chance_74 : decode cX12_chance 74 = .ok (.iload 5, 2) := by decide +kernel
theorem dX12_chance_76 : decode cX12_chance 76 = .ok (.idiv, 1) := by decide +kernel
theorem dX12_chance_77 : decode cX12_chance 77 = .ok (.ireturn, 1) := by decide +kernel
theorem dX12_keeps_0 : decode cX12_keeps 0 = .ok (.aload_n 0, 1) := by decide +kernel
theorem dX12_keeps_1 : decode cX12_keeps 1 = .ok (.iload_n 1, 1) := by decide +kernel
theorem dX12_keeps_2 : decode cX12_keeps 2 = .ok (.invokevirtual 565, 3) := by decide +kernel
theorem dX12_keeps_5 : decode cX12_keeps 5 = .ok (.ifCond .eq 12, 3) := by decide +kernel
theorem dX12_keeps_8 : decode cX12_keeps 8 = .ok (.aload_n 0, 1) := by decide +kernel
theorem dX12_keeps_9 : decode cX12_keeps 9 = .ok (.getfield 81, 3) := by decide +kernel
theorem dX12_keeps_12 : decode cX12_keeps 12 = .ok (.iload_n 1, 1) := by decide +kernel
theorem dX12_keeps_13 : decode cX12_keeps 13 = .ok (.iaload, 1) := by decide +kernel
theorem dX12_keeps_14 : decode cX12_keeps 14 = .ok (.ifCond .ge 5, 3) := by decide +kernel
theorem dX12_keeps_17 : decode cX12_keeps 17 = .ok (.iconst (-1), 1) := by decide +kernel
theorem dX12_keeps_18 : decode cX12_keeps 18 = .ok (.ireturn, 1) := by decide +kernel
theorem dX12_keeps_19 : decode cX12_keeps 19 = .ok (.aload_n 0, 1) := by decide +kernel
theorem dX12_keeps_20 : decode cX12_keeps 20 = .ok (.getfield 90, 3) := by decide +kernel
theorem dX12_keeps_23 : decode cX12_keeps 23 = .ok (.iload_n 1, 1) := by decide +kernel
theorem dX12_keeps_24 : decode cX12_keeps 24 = .ok (.iaload, 1) := by decide +kernel
theorem dX12_keeps_25 : decode cX12_keeps 25 = .ok (.istore_n 2, 1) := by decide +kernel
theorem dX12_keeps_26 : decode cX12_keeps 26 = .ok (.iconst (-1), 1) := by decide +kernel
theorem dX12_keeps_27 : decode cX12_keeps 27 = .ok (.istore_n 3, 1) := by decide +kernel
theorem dX12_keeps_28 : decode cX12_keeps 28 = .ok (.iconst 0, 1) := by decide +kernel
theorem dX12_keeps_29 : decode cX12_keeps 29 = .ok (.istore 4, 2) := by decide +kernel
theorem dX12_keeps_31 : decode cX12_keeps 31 = .ok (.iload 4, 2) := by decide +kernel
theorem dX12_keeps_33 : decode cX12_keeps 33 = .ok (.iload_n 2, 1) := by decide +kernel
theorem dX12_keeps_34 : decode cX12_keeps 34 = .ok (.if_icmp .gt 47, 3) := by decide +kernel
theorem dX12_keeps_37 : decode cX12_keeps 37 = .ok (.iload_n 3, 1) := by decide +kernel
theorem dX12_keeps_38 : decode cX12_keeps 38 = .ok (.ifCond .ge 43, 3) := by decide +kernel
theorem dX12_keeps_41 : decode cX12_keeps 41 = .ok (.aload_n 0, 1) := by decide +kernel
theorem dX12_keeps_42 : decode cX12_keeps 42 = .ok (.getfield 90, 3) := by decide +kernel
theorem dX12_keeps_45 : decode cX12_keeps 45 = .ok (.iload_n 1, 1) := by decide +kernel
theorem dX12_keeps_46 : decode cX12_keeps 46 = .ok (.iload_n 2, 1) := by decide +kernel
theorem dX12_keeps_47 : decode cX12_keeps 47 = .ok (.iload 4, 2) := by decide +kernel
theorem dX12_keeps_49 : decode cX12_keeps 49 = .ok (.isub, 1) := by decide +kernel
theorem dX12_keeps_50 : decode cX12_keeps 50 = .ok (.iastore, 1) := by decide +kernel
theorem dX12_keeps_51 : decode cX12_keeps 51 = .ok (.aload_n 0, 1) := by decide +kernel
theorem dX12_keeps_52 : decode cX12_keeps 52 = .ok (.iload_n 1, 1) := by decide +kernel
theorem dX12_keeps_53 : decode cX12_keeps 53 = .ok (.aload_n 0, 1) := by decide +kernel
theorem dX12_keeps_54 : decode cX12_keeps 54 = .ok (.getfield 81, 3) := by decide +kernel
theorem dX12_keeps_57 : decode cX12_keeps 57 = .ok (.iload_n 1, 1) := by decide +kernel
theorem dX12_keeps_58 : decode cX12_keeps 58 = .ok (.iaload, 1) := by decide +kernel
theorem dX12_keeps_59 : decode cX12_keeps 59 = .ok (.invokevirtual 596, 3) := by decide +kernel
theorem dX12_keeps_62 : decode cX12_keeps 62 = .ok (.sipush 6000, 3) := by decide +kernel
theorem dX12_keeps_65 : decode cX12_keeps 65 = .ok (.if_icmp .ne 8, 3) := by decide +kernel
theorem dX12_keeps_68 : decode cX12_keeps 68 = .ok (.iload 4, 2) := by decide +kernel
theorem dX12_keeps_70 : decode cX12_keeps 70 = .ok (.goto 4, 3) := by decide +kernel
theorem dX12_keeps_73 : decode cX12_keeps 73 = .ok (.iconst (-1), 1) := by decide +kernel
theorem dX12_keeps_74 : decode cX12_keeps 74 = .ok (.istore_n 3, 1) := by decide +kernel
theorem dX12_keeps_75 : decode cX12_keeps 75 = .ok (.iinc 4 1, 3) := by decide +kernel
theorem dX12_keeps_78 : decode cX12_keeps 78 = .ok (.goto (-47), 3) := by decide +kernel
theorem dX12_keeps_81 : decode cX12_keeps 81 = .ok (.aload_n 0, 1) := by decide +kernel
theorem dX12_keeps_82 : decode cX12_keeps 82 = .ok (.getfield 90, 3) := by decide +kernel
theorem dX12_keeps_85 : decode cX12_keeps 85 = .ok (.iload_n 1, 1) := by decide +kernel
theorem dX12_keeps_86 : decode cX12_keeps 86 = .ok (.iload_n 2, 1) := by decide +kernel
theorem dX12_keeps_87 : decode cX12_keeps 87 = .ok (.iastore, 1) := by decide +kernel
theorem dX12_keeps_88 : decode cX12_keeps 88 = .ok (.iload_n 3, 1) := by decide +kernel
theorem dX12_keeps_89 : decode cX12_keeps 89 = .ok (.ireturn, 1) := by decide +kernel
theorem dX12_mayStand_0 : decode cX12_mayStand 0 = .ok (.iload_n 2, 1) := by decide +kernel
theorem dX12_mayStand_1 : decode cX12_mayStand 1 = .ok (.aload_n 0, 1) := by decide +kernel
theorem dX12_mayStand_2 : decode cX12_mayStand 2 = .ok (.getfield 437, 3) := by decide +kernel
theorem dX12_mayStand_5 : decode cX12_mayStand 5 = .ok (.if_icmp .eq 43, 3) := by decide +kernel
theorem dX12_mayStand_8 : decode cX12_mayStand 8 = .ok (.aload_n 0, 1) := by decide +kernel
theorem dX12_mayStand_9 : decode cX12_mayStand 9 = .ok (.getfield 99, 3) := by decide +kernel
theorem dX12_mayStand_12 : decode cX12_mayStand 12 = .ok (.iload_n 2, 1) := by decide +kernel
theorem dX12_mayStand_13 : decode cX12_mayStand 13 = .ok (.baload, 1) := by decide +kernel
theorem dX12_mayStand_14 : decode cX12_mayStand 14 = .ok (.ifCond .ne 38, 3) := by decide +kernel
theorem dX12_mayStand_17 : decode cX12_mayStand 17 = .ok (.aload_n 0, 1) := by decide +kernel
theorem dX12_mayStand_18 : decode cX12_mayStand 18 = .ok (.aload_n 0, 1) := by decide +kernel
theorem dX12_mayStand_19 : decode cX12_mayStand 19 = .ok (.getfield 93, 3) := by decide +kernel
theorem dX12_mayStand_22 : decode cX12_mayStand 22 = .ok (.iload_n 1, 1) := by decide +kernel
theorem dX12_mayStand_23 : decode cX12_mayStand 23 = .ok (.iaload, 1) := by decide +kernel
theorem dX12_mayStand_24 : decode cX12_mayStand 24 = .ok (.aload_n 0, 1) := by decide +kernel
theorem dX12_mayStand_25 : decode cX12_mayStand 25 = .ok (.iload_n 2, 1) := by decide +kernel
theorem dX12_mayStand_26 : decode cX12_mayStand 26 = .ok (.invokevirtual 502, 3) := by decide +kernel
theorem dX12_mayStand_29 : decode cX12_mayStand 29 = .ok (.invokevirtual 461, 3) := by decide +kernel
theorem dX12_mayStand_32 : decode cX12_mayStand 32 = .ok (.bipush 60, 2) := by decide +kernel
theorem dX12_mayStand_34 : decode cX12_mayStand 34 = .ok (.aload_n 0, 1) := by decide +kernel
theorem dX12_mayStand_35 : decode cX12_mayStand 35 = .ok (.getfield 66, 3) := by decide +kernel
theorem dX12_mayStand_38 : decode cX12_mayStand 38 = .ok (.aload_n 0, 1) := by decide +kernel
theorem dX12_mayStand_39 : decode cX12_mayStand 39 = .ok (.iload_n 2, 1) := by decide +kernel
theorem dX12_mayStand_40 : decode cX12_mayStand 40 = .ok (.invokevirtual 502, 3) := by decide +kernel
theorem dX12_mayStand_43 : decode cX12_mayStand 43 = .ok (.iaload, 1) := by decide +kernel
theorem dX12_mayStand_44 : decode cX12_mayStand 44 = .ok (.iadd, 1) := by decide +kernel
theorem dX12_mayStand_45 : decode cX12_mayStand 45 = .ok (.if_icmp .gt 7, 3) := by decide +kernel
theorem dX12_mayStand_48 : decode cX12_mayStand 48 = .ok (.iconst 1, 1) := by decide +kernel
theorem dX12_mayStand_49 : decode cX12_mayStand 49 = .ok (.goto 4, 3) := by decide +kernel
theorem dX12_mayStand_52 : decode cX12_mayStand 52 = .ok (.iconst 0, 1) := by decide +kernel
theorem dX12_mayStand_53 : decode cX12_mayStand 53 = .ok (.ireturn, 1) := by decide +kernel
theorem dX12_choose_0 : decode cX12_choose 0 = .ok (.aload_n 0, 1) := by decide +kernel
theorem dX12_choose_1 : decode cX12_choose 1 = .ok (.getfield 133, 3) := by decide +kernel
theorem dX12_choose_4 : decode cX12_choose 4 = .ok (.iload_n 1, 1) := by decide +kernel
theorem dX12_choose_5 : decode cX12_choose 5 = .ok (.iload_n 2, 1) := by decide +kernel
theorem dX12_choose_6 : decode cX12_choose 6 = .ok (.aload_n 0, 1) := by decide +kernel
theorem dX12_choose_7 : decode cX12_choose 7 = .ok (.getfield 437, 3) := by decide +kernel
theorem dX12_choose_10 : decode cX12_choose 10 = .ok (.if_icmp .ne 7, 3) := by decide +kernel
theorem dX12_choose_13 : decode cX12_choose 13 = .ok (.iconst (-1), 1) := by decide +kernel
theorem dX12_choose_14 : decode cX12_choose 14 = .ok (.goto 4, 3) := by decide +kernel
theorem dX12_choose_17 : decode cX12_choose 17 = .ok (.iload_n 2, 1) := by decide +kernel
theorem dX12_choose_18 : decode cX12_choose 18 = .ok (.iastore, 1) := by decide +kernel
theorem dX12_choose_19 : decode cX12_choose 19 = .ok (.aload_n 0, 1) := by decide +kernel
theorem dX12_choose_20 : decode cX12_choose 20 = .ok (.getfield 136, 3) := by decide +kernel
theorem dX12_choose_23 : decode cX12_choose 23 = .ok (.iload_n 1, 1) := by decide +kernel
theorem dX12_choose_24 : decode cX12_choose 24 = .ok (.aload_n 0, 1) := by decide +kernel
theorem dX12_choose_25 : decode cX12_choose 25 = .ok (.getfield 133, 3) := by decide +kernel
theorem dX12_choose_28 : decode cX12_choose 28 = .ok (.iload_n 1, 1) := by decide +kernel
theorem dX12_choose_29 : decode cX12_choose 29 = .ok (.iaload, 1) := by decide +kernel
theorem dX12_choose_30 : decode cX12_choose 30 = .ok (.ifCond .ge 7, 3) := by decide +kernel
theorem dX12_choose_33 : decode cX12_choose 33 = .ok (.iconst 0, 1) := by decide +kernel
theorem dX12_choose_34 : decode cX12_choose 34 = .ok (.goto 23, 3) := by decide +kernel
theorem dX12_choose_37 : decode cX12_choose 37 = .ok (.aload_n 0, 1) := by decide +kernel
theorem dX12_choose_38 : decode cX12_choose 38 = .ok (.aload_n 0, 1) := by decide +kernel
theorem dX12_choose_39 : decode cX12_choose 39 = .ok (.getfield 93, 3) := by decide +kernel
theorem dX12_choose_42 : decode cX12_choose 42 = .ok (.iload_n 1, 1) := by decide +kernel
theorem dX12_choose_43 : decode cX12_choose 43 = .ok (.iaload, 1) := by decide +kernel
theorem dX12_choose_44 : decode cX12_choose 44 = .ok (.aload_n 0, 1) := by decide +kernel
theorem dX12_choose_45 : decode cX12_choose 45 = .ok (.aload_n 0, 1) := by decide +kernel
theorem dX12_choose_46 : decode cX12_choose 46 = .ok (.getfield 133, 3) := by decide +kernel
theorem dX12_choose_49 : decode cX12_choose 49 = .ok (.iload_n 1, 1) := by decide +kernel
theorem dX12_choose_50 : decode cX12_choose 50 = .ok (.iaload, 1) := by decide +kernel
theorem dX12_choose_51 : decode cX12_choose 51 = .ok (.invokevirtual 502, 3) := by decide +kernel
theorem dX12_choose_54 : decode cX12_choose 54 = .ok (.invokevirtual 461, 3) := by decide +kernel
theorem dX12_choose_57 : decode cX12_choose 57 = .ok (.iastore, 1) := by decide +kernel
theorem dX12_choose_58 : decode cX12_choose 58 = .ok (.return_, 1) := by decide +kernel
theorem dX12_payOf_0 : decode cX12_payOf 0 = .ok (.aload_n 0, 1) := by decide +kernel
theorem dX12_payOf_1 : decode cX12_payOf 1 = .ok (.getfield 133, 3) := by decide +kernel
theorem dX12_payOf_4 : decode cX12_payOf 4 = .ok (.iload_n 1, 1) := by decide +kernel
theorem dX12_payOf_5 : decode cX12_payOf 5 = .ok (.iaload, 1) := by decide +kernel
theorem dX12_payOf_6 : decode cX12_payOf 6 = .ok (.istore_n 2, 1) := by decide +kernel
theorem dX12_payOf_7 : decode cX12_payOf 7 = .ok (.iload_n 2, 1) := by decide +kernel
theorem dX12_payOf_8 : decode cX12_payOf 8 = .ok (.ifCond .ge 5, 3) := by decide +kernel
theorem dX12_payOf_11 : decode cX12_payOf 11 = .ok (.iconst 0, 1) := by decide +kernel
theorem dX12_payOf_12 : decode cX12_payOf 12 = .ok (.ireturn, 1) := by decide +kernel
theorem dX12_payOf_13 : decode cX12_payOf 13 = .ok (.aload_n 0, 1) := by decide +kernel
theorem dX12_payOf_14 : decode cX12_payOf 14 = .ok (.iload_n 2, 1) := by decide +kernel
theorem dX12_payOf_15 : decode cX12_payOf 15 = .ok (.invokevirtual 524, 3) := by decide +kernel
theorem dX12_payOf_18 : decode cX12_payOf 18 = .ok (.istore_n 3, 1) := by decide +kernel
theorem dX12_payOf_19 : decode cX12_payOf 19 = .ok (.iload_n 3, 1) := by decide +kernel
theorem dX12_payOf_20 : decode cX12_payOf 20 = .ok (.iload_n 1, 1) := by decide +kernel
theorem dX12_payOf_21 : decode cX12_payOf 21 = .ok (.ishr, 1) := by decide +kernel
theorem dX12_payOf_22 : decode cX12_payOf 22 = .ok (.iconst 1, 1) := by decide +kernel
theorem dX12_payOf_23 : decode cX12_payOf 23 = .ok (.iand, 1) := by decide +kernel
theorem dX12_payOf_24 : decode cX12_payOf 24 = .ok (.ifCond .ne 5, 3) := by decide +kernel
theorem dX12_payOf_27 : decode cX12_payOf 27 = .ok (.iconst 0, 1) := by decide +kernel
theorem dX12_payOf_28 : decode cX12_payOf 28 = .ok (.ireturn, 1) := by decide +kernel
theorem dX12_payOf_29 : decode cX12_payOf 29 = .ok (.aload_n 0, 1) := by decide +kernel
theorem dX12_payOf_30 : decode cX12_payOf 30 = .ok (.getfield 90, 3) := by decide +kernel
theorem dX12_payOf_33 : decode cX12_payOf 33 = .ok (.iload_n 2, 1) := by decide +kernel
theorem dX12_payOf_34 : decode cX12_payOf 34 = .ok (.iaload, 1) := by decide +kernel
theorem dX12_payOf_35 : decode cX12_payOf 35 = .ok (.aload_n 0, 1) := by decide +kernel
theorem dX12_payOf_36 : decode cX12_payOf 36 = .ok (.getfield 84, 3) := by decide +kernel
theorem dX12_payOf_39 : decode cX12_payOf 39 = .ok (.iload_n 2, 1) := by decide +kernel
theorem dX12_payOf_40 : decode cX12_payOf 40 = .ok (.iaload, 1) := by decide +kernel
theorem dX12_payOf_41 : decode cX12_payOf 41 = .ok (.imul, 1) := by decide +kernel
theorem dX12_payOf_42 : decode cX12_payOf 42 = .ok (.bipush 100, 2) := by decide +kernel
theorem dX12_payOf_44 : decode cX12_payOf 44 = .ok (.idiv, 1) := by decide +kernel
theorem dX12_payOf_45 : decode cX12_payOf 45 = .ok (.istore 4, 2) := by decide +kernel
theorem dX12_payOf_47 : decode cX12_payOf 47 = .ok (.aload_n 0, 1) := by decide +kernel
theorem dX12_payOf_48 : decode cX12_payOf 48 = .ok (.getfield 443, 3) := by decide +kernel
theorem dX12_payOf_51 : decode cX12_payOf 51 = .ok (.iconst 2, 1) := by decide +kernel
theorem dX12_payOf_52 : decode cX12_payOf 52 = .ok (.if_icmp .ne 11, 3) := by decide +kernel
theorem dX12_payOf_55 : decode cX12_payOf 55 = .ok (.iload 4, 2) := by decide +kernel
theorem dX12_payOf_57 : decode cX12_payOf 57 = .ok (.iload_n 3, 1) := by decide +kernel
theorem dX12_payOf_58 : decode cX12_payOf 58 = .ok (.invokestatic 521, 3) := by decide +kernel
theorem dX12_payOf_61 : decode cX12_payOf 61 = .ok (.idiv, 1) := by decide +kernel
theorem dX12_payOf_62 : decode cX12_payOf 62 = .ok (.ireturn, 1) := by decide +kernel
theorem dX12_payOf_63 : decode cX12_payOf 63 = .ok (.aload_n 0, 1) := by decide +kernel
theorem dX12_payOf_64 : decode cX12_payOf 64 = .ok (.iload_n 3, 1) := by decide +kernel
theorem dX12_payOf_65 : decode cX12_payOf 65 = .ok (.aload_n 0, 1) := by decide +kernel
theorem dX12_payOf_66 : decode cX12_payOf 66 = .ok (.getfield 443, 3) := by decide +kernel
theorem dX12_payOf_69 : decode cX12_payOf 69 = .ok (.invokevirtual 527, 3) := by decide +kernel
theorem dX12_payOf_72 : decode cX12_payOf 72 = .ok (.iload_n 1, 1) := by decide +kernel
theorem dX12_payOf_73 : decode cX12_payOf 73 = .ok (.if_icmp .ne 8, 3) := by decide +kernel
theorem dX12_payOf_76 : decode cX12_payOf 76 = .ok (.iload 4, 2) := by decide +kernel
theorem dX12_payOf_78 : decode cX12_payOf 78 = .ok (.goto 4, 3) := by decide +kernel
theorem dX12_payOf_81 : decode cX12_payOf 81 = .ok (.iconst 0, 1) := by decide +kernel
theorem dX12_payOf_82 : decode cX12_payOf 82 = .ok (.ireturn, 1) := by decide +kernel
theorem dX12_lostOf_0 : decode cX12_lostOf 0 = .ok (.aload_n 0, 1) := by decide +kernel
theorem dX12_lostOf_1 : decode cX12_lostOf 1 = .ok (.iload_n 1, 1) := by decide +kernel
theorem dX12_lostOf_2 : decode cX12_lostOf 2 = .ok (.invokevirtual 518, 3) := by decide +kernel
theorem dX12_lostOf_5 : decode cX12_lostOf 5 = .ok (.istore_n 2, 1) := by decide +kernel
theorem dX12_lostOf_6 : decode cX12_lostOf 6 = .ok (.iload_n 2, 1) := by decide +kernel
theorem dX12_lostOf_7 : decode cX12_lostOf 7 = .ok (.ifCond .ne 5, 3) := by decide +kernel
theorem dX12_lostOf_10 : decode cX12_lostOf 10 = .ok (.iconst 0, 1) := by decide +kernel
theorem dX12_lostOf_11 : decode cX12_lostOf 11 = .ok (.ireturn, 1) := by decide +kernel
theorem dX12_lostOf_12 : decode cX12_lostOf 12 = .ok (.aload_n 0, 1) := by decide +kernel
theorem dX12_lostOf_13 : decode cX12_lostOf 13 = .ok (.iload_n 1, 1) := by decide +kernel
theorem dX12_lostOf_14 : decode cX12_lostOf 14 = .ok (.invokevirtual 524, 3) := by decide +kernel
theorem dX12_lostOf_17 : decode cX12_lostOf 17 = .ok (.istore_n 3, 1) := by decide +kernel
theorem dX12_lostOf_18 : decode cX12_lostOf 18 = .ok (.iload_n 3, 1) := by decide +kernel
theorem dX12_lostOf_19 : decode cX12_lostOf 19 = .ok (.ifCond .ne 37, 3) := by decide +kernel
theorem dX12_lostOf_22 : decode cX12_lostOf 22 = .ok (.iload_n 2, 1) := by decide +kernel
theorem dX12_lostOf_23 : decode cX12_lostOf 23 = .ok (.invokestatic 521, 3) := by decide +kernel
theorem dX12_lostOf_26 : decode cX12_lostOf 26 = .ok (.aload_n 0, 1) := by decide +kernel
theorem dX12_lostOf_27 : decode cX12_lostOf 27 = .ok (.getfield 81, 3) := by decide +kernel
theorem dX12_lostOf_30 : decode cX12_lostOf 30 = .ok (.iload_n 1, 1) := by decide +kernel
theorem dX12_lostOf_31 : decode cX12_lostOf 31 = .ok (.iaload, 1) := by decide +kernel
theorem dX12_lostOf_32 : decode cX12_lostOf 32 = .ok (.ifCond .lt 21, 3) := by decide +kernel
theorem dX12_lostOf_35 : decode cX12_lostOf 35 = .ok (.iload_n 2, 1) := by decide +kernel
theorem dX12_lostOf_36 : decode cX12_lostOf 36 = .ok (.aload_n 0, 1) := by decide +kernel
theorem dX12_lostOf_37 : decode cX12_lostOf 37 = .ok (.getfield 81, 3) := by decide +kernel
theorem dX12_lostOf_40 : decode cX12_lostOf 40 = .ok (.iload_n 1, 1) := by decide +kernel
theorem dX12_lostOf_41 : decode cX12_lostOf 41 = .ok (.iaload, 1) := by decide +kernel
theorem dX12_lostOf_42 : decode cX12_lostOf 42 = .ok (.ishr, 1) := by decide +kernel
theorem dX12_lostOf_43 : decode cX12_lostOf 43 = .ok (.iconst 1, 1) := by decide +kernel
theorem dX12_lostOf_44 : decode cX12_lostOf 44 = .ok (.iand, 1) := by decide +kernel
theorem dX12_lostOf_45 : decode cX12_lostOf 45 = .ok (.iconst 1, 1) := by decide +kernel
theorem dX12_lostOf_46 : decode cX12_lostOf 46 = .ok (.if_icmp .ne 7, 3) := by decide +kernel
theorem dX12_lostOf_49 : decode cX12_lostOf 49 = .ok (.iconst 1, 1) := by decide +kernel
theorem dX12_lostOf_50 : decode cX12_lostOf 50 = .ok (.goto 4, 3) := by decide +kernel
theorem dX12_lostOf_53 : decode cX12_lostOf 53 = .ok (.iconst 0, 1) := by decide +kernel
theorem dX12_lostOf_54 : decode cX12_lostOf 54 = .ok (.isub, 1) := by decide +kernel
theorem dX12_lostOf_55 : decode cX12_lostOf 55 = .ok (.ireturn, 1) := by decide +kernel
theorem dX12_lostOf_56 : decode cX12_lostOf 56 = .ok (.iload_n 2, 1) := by decide +kernel
theorem dX12_lostOf_57 : decode cX12_lostOf 57 = .ok (.invokestatic 521, 3) := by decide +kernel
theorem dX12_lostOf_60 : decode cX12_lostOf 60 = .ok (.iconst 1, 1) := by decide +kernel
theorem dX12_lostOf_61 : decode cX12_lostOf 61 = .ok (.isub, 1) := by decide +kernel
theorem dX12_lostOf_62 : decode cX12_lostOf 62 = .ok (.ireturn, 1) := by decide +kernel
theorem dX12_isAtRest_0 : decode cX12_isAtRest 0 = .ok (.iconst 0, 1) := by decide +kernel
theorem dX12_isAtRest_1 : decode cX12_isAtRest 1 = .ok (.istore_n 1, 1) := by decide +kernel
theorem dX12_isAtRest_2 : decode cX12_isAtRest 2 = .ok (.iload_n 1, 1) := by decide +kernel
theorem dX12_isAtRest_3 : decode cX12_isAtRest 3 = .ok (.aload_n 0, 1) := by decide +kernel
theorem dX12_isAtRest_4 : decode cX12_isAtRest 4 = .ok (.getfield 440, 3) := by decide +kernel
theorem dX12_isAtRest_7 : decode cX12_isAtRest 7 = .ok (.if_icmp .ge 113, 3) := by decide +kernel
theorem dX12_isAtRest_10 : decode cX12_isAtRest 10 = .ok (.aload_n 0, 1) := by decide +kernel
theorem dX12_isAtRest_11 : decode cX12_isAtRest 11 = .ok (.iload_n 1, 1) := by decide +kernel
theorem dX12_isAtRest_12 : decode cX12_isAtRest 12 = .ok (.invokevirtual 605, 3) := by decide +kernel
theorem dX12_isAtRest_15 : decode cX12_isAtRest 15 = .ok (.istore_n 2, 1) := by decide +kernel
theorem dX12_isAtRest_16 : decode cX12_isAtRest 16 = .ok (.aload_n 0, 1) := by decide +kernel
theorem dX12_isAtRest_17 : decode cX12_isAtRest 17 = .ok (.getfield 133, 3) := by decide +kernel
theorem dX12_isAtRest_20 : decode cX12_isAtRest 20 = .ok (.iload_n 1, 1) := by decide +kernel
theorem dX12_isAtRest_21 : decode cX12_isAtRest 21 = .ok (.iaload, 1) := by decide +kernel
theorem dX12_isAtRest_22 : decode cX12_isAtRest 22 = .ok (.ifCond .ge 10, 3) := by decide +kernel
theorem dX12_isAtRest_25 : decode cX12_isAtRest 25 = .ok (.aload_n 0, 1) := by decide +kernel
theorem dX12_isAtRest_26 : decode cX12_isAtRest 26 = .ok (.getfield 437, 3) := by decide +kernel
theorem dX12_isAtRest_29 : decode cX12_isAtRest 29 = .ok (.goto 9, 3) := by decide +kernel
theorem dX12_isAtRest_32 : decode cX12_isAtRest 32 = .ok (.aload_n 0, 1) := by decide +kernel
theorem dX12_isAtRest_33 : decode cX12_isAtRest 33 = .ok (.getfield 133, 3) := by decide +kernel
theorem dX12_isAtRest_36 : decode cX12_isAtRest 36 = .ok (.iload_n 1, 1) := by decide +kernel
theorem dX12_isAtRest_37 : decode cX12_isAtRest 37 = .ok (.iaload, 1) := by decide +kernel
theorem dX12_isAtRest_38 : decode cX12_isAtRest 38 = .ok (.istore_n 3, 1) := by decide +kernel
theorem dX12_isAtRest_39 : decode cX12_isAtRest 39 = .ok (.iconst 1, 1) := by decide +kernel
theorem dX12_isAtRest_40 : decode cX12_isAtRest 40 = .ok (.istore 4, 2) := by decide +kernel
theorem dX12_isAtRest_42 : decode cX12_isAtRest 42 = .ok (.iconst 0, 1) := by decide +kernel
theorem dX12_isAtRest_43 : decode cX12_isAtRest 43 = .ok (.istore 5, 2) := by decide +kernel
theorem dX12_isAtRest_45 : decode cX12_isAtRest 45 = .ok (.iload 5, 2) := by decide +kernel
theorem dX12_isAtRest_47 : decode cX12_isAtRest 47 = .ok (.aload_n 0, 1) := by decide +kernel
theorem dX12_isAtRest_48 : decode cX12_isAtRest 48 = .ok (.getfield 437, 3) := by decide +kernel
theorem dX12_isAtRest_51 : decode cX12_isAtRest 51 = .ok (.if_icmp .gt 50, 3) := by decide +kernel
theorem dX12_isAtRest_54 : decode cX12_isAtRest 54 = .ok (.iload 4, 2) := by decide +kernel
theorem dX12_isAtRest_56 : decode cX12_isAtRest 56 = .ok (.ifCond .eq 45, 3) := by decide +kernel
theorem dX12_isAtRest_59 : decode cX12_isAtRest 59 = .ok (.aload_n 0, 1) := by decide +kernel
theorem dX12_isAtRest_60 : decode cX12_isAtRest 60 = .ok (.iload_n 1, 1) := by decide +kernel
theorem dX12_isAtRest_61 : decode cX12_isAtRest 61 = .ok (.iload 5, 2) := by decide +kernel
theorem dX12_isAtRest_63 : decode cX12_isAtRest 63 = .ok (.invokevirtual 608, 3) := by decide +kernel
theorem dX12_isAtRest_66 : decode cX12_isAtRest 66 = .ok (.ifCond .ne 6, 3) := by decide +kernel
theorem dX12_isAtRest_69 : decode cX12_isAtRest 69 = .ok (.goto 26, 3) := by decide +kernel
theorem dX12_isAtRest_72 : decode cX12_isAtRest 72 = .ok (.aload_n 0, 1) := by decide +kernel
theorem dX12_isAtRest_73 : decode cX12_isAtRest 73 = .ok (.iload_n 1, 1) := by decide +kernel
theorem dX12_isAtRest_74 : decode cX12_isAtRest 74 = .ok (.iload 5, 2) := by decide +kernel
theorem dX12_isAtRest_76 : decode cX12_isAtRest 76 = .ok (.invokevirtual 612, 3) := by decide +kernel
theorem dX12_isAtRest_79 : decode cX12_isAtRest 79 = .ok (.aload_n 0, 1) := by decide +kernel
theorem dX12_isAtRest_80 : decode cX12_isAtRest 80 = .ok (.iload_n 1, 1) := by decide +kernel
theorem dX12_isAtRest_81 : decode cX12_isAtRest 81 = .ok (.invokevirtual 605, 3) := by decide +kernel
theorem dX12_isAtRest_84 : decode cX12_isAtRest 84 = .ok (.iload_n 2, 1) := by decide +kernel
theorem dX12_isAtRest_85 : decode cX12_isAtRest 85 = .ok (.if_icmp .gt 7, 3) := by decide +kernel
theorem dX12_isAtRest_88 : decode cX12_isAtRest 88 = .ok (.iconst 1, 1) := by decide +kernel
theorem dX12_isAtRest_89 : decode cX12_isAtRest 89 = .ok (.goto 4, 3) := by decide +kernel
theorem dX12_isAtRest_92 : decode cX12_isAtRest 92 = .ok (.iconst 0, 1) := by decide +kernel
theorem dX12_isAtRest_93 : decode cX12_isAtRest 93 = .ok (.istore 4, 2) := by decide +kernel
theorem dX12_isAtRest_95 : decode cX12_isAtRest 95 = .ok (.iinc 5 1, 3) := by decide +kernel
theorem dX12_isAtRest_98 : decode cX12_isAtRest 98 = .ok (.goto (-53), 3) := by decide +kernel
theorem dX12_isAtRest_101 : decode cX12_isAtRest 101 = .ok (.aload_n 0, 1) := by decide +kernel
theorem dX12_isAtRest_102 : decode cX12_isAtRest 102 = .ok (.iload_n 1, 1) := by decide +kernel
theorem dX12_isAtRest_103 : decode cX12_isAtRest 103 = .ok (.iload_n 3, 1) := by decide +kernel
theorem dX12_isAtRest_104 : decode cX12_isAtRest 104 = .ok (.invokevirtual 612, 3) := by decide +kernel
theorem dX12_isAtRest_107 : decode cX12_isAtRest 107 = .ok (.iload 4, 2) := by decide +kernel
theorem dX12_isAtRest_109 : decode cX12_isAtRest 109 = .ok (.ifCond .ne 5, 3) := by decide +kernel
theorem dX12_isAtRest_112 : decode cX12_isAtRest 112 = .ok (.iconst 0, 1) := by decide +kernel
theorem dX12_isAtRest_113 : decode cX12_isAtRest 113 = .ok (.ireturn, 1) := by decide +kernel
theorem dX12_isAtRest_114 : decode cX12_isAtRest 114 = .ok (.iinc 1 1, 3) := by decide +kernel
theorem dX12_isAtRest_117 : decode cX12_isAtRest 117 = .ok (.goto (-115), 3) := by decide +kernel
theorem dX12_isAtRest_120 : decode cX12_isAtRest 120 = .ok (.iconst 1, 1) := by decide +kernel
theorem dX12_isAtRest_121 : decode cX12_isAtRest 121 = .ok (.ireturn, 1) := by decide +kernel
theorem dX12_isTooMany_0 : decode cX12_isTooMany 0 = .ok (.iconst 1, 1) := by decide +kernel
theorem dX12_isTooMany_1 : decode cX12_isTooMany 1 = .ok (.istore_n 1, 1) := by decide +kernel
theorem dX12_isTooMany_2 : decode cX12_isTooMany 2 = .ok (.iconst 0, 1) := by decide +kernel
theorem dX12_isTooMany_3 : decode cX12_isTooMany 3 = .ok (.istore_n 2, 1) := by decide +kernel
theorem dX12_isTooMany_4 : decode cX12_isTooMany 4 = .ok (.iload_n 2, 1) := by decide +kernel
theorem dX12_isTooMany_5 : decode cX12_isTooMany 5 = .ok (.aload_n 0, 1) := by decide +kernel
theorem dX12_isTooMany_6 : decode cX12_isTooMany 6 = .ok (.getfield 440, 3) := by decide +kernel
theorem dX12_isTooMany_9 : decode cX12_isTooMany 9 = .ok (.if_icmp .ge 25, 3) := by decide +kernel
theorem dX12_isTooMany_12 : decode cX12_isTooMany 12 = .ok (.iload_n 1, 1) := by decide +kernel
theorem dX12_isTooMany_13 : decode cX12_isTooMany 13 = .ok (.sipush 20000, 3) := by decide +kernel
theorem dX12_isTooMany_16 : decode cX12_isTooMany 16 = .ok (.if_icmp .gt 18, 3) := by decide +kernel
theorem dX12_isTooMany_19 : decode cX12_isTooMany 19 = .ok (.iload_n 1, 1) := by decide +kernel
theorem dX12_isTooMany_20 : decode cX12_isTooMany 20 = .ok (.aload_n 0, 1) := by decide +kernel
theorem dX12_isTooMany_21 : decode cX12_isTooMany 21 = .ok (.getfield 437, 3) := by decide +kernel
theorem dX12_isTooMany_24 : decode cX12_isTooMany 24 = .ok (.iconst 1, 1) := by decide +kernel
theorem dX12_isTooMany_25 : decode cX12_isTooMany 25 = .ok (.iadd, 1) := by decide +kernel
theorem dX12_isTooMany_26 : decode cX12_isTooMany 26 = .ok (.imul, 1) := by decide +kernel
theorem dX12_isTooMany_27 : decode cX12_isTooMany 27 = .ok (.istore_n 1, 1) := by decide +kernel
theorem dX12_isTooMany_28 : decode cX12_isTooMany 28 = .ok (.iinc 2 1, 3) := by decide +kernel
theorem dX12_isTooMany_31 : decode cX12_isTooMany 31 = .ok (.goto (-27), 3) := by decide +kernel
theorem dX12_isTooMany_34 : decode cX12_isTooMany 34 = .ok (.iload_n 1, 1) := by decide +kernel
theorem dX12_isTooMany_35 : decode cX12_isTooMany 35 = .ok (.sipush 20000, 3) := by decide +kernel
theorem dX12_isTooMany_38 : decode cX12_isTooMany 38 = .ok (.if_icmp .le 7, 3) := by decide +kernel
theorem dX12_isTooMany_41 : decode cX12_isTooMany 41 = .ok (.iconst 1, 1) := by decide +kernel
theorem dX12_isTooMany_42 : decode cX12_isTooMany 42 = .ok (.goto 4, 3) := by decide +kernel
theorem dX12_isTooMany_45 : decode cX12_isTooMany 45 = .ok (.iconst 0, 1) := by decide +kernel
theorem dX12_isTooMany_46 : decode cX12_isTooMany 46 = .ok (.ireturn, 1) := by decide +kernel
theorem dX12_layRow_0 : decode cX12_layRow 0 = .ok (.iload_n 1, 1) := by decide +kernel
theorem dX12_layRow_1 : decode cX12_layRow 1 = .ok (.istore_n 2, 1) := by decide +kernel
theorem dX12_layRow_2 : decode cX12_layRow 2 = .ok (.iconst 1, 1) := by decide +kernel
theorem dX12_layRow_3 : decode cX12_layRow 3 = .ok (.istore_n 3, 1) := by decide +kernel
theorem dX12_layRow_4 : decode cX12_layRow 4 = .ok (.aload_n 0, 1) := by decide +kernel
theorem dX12_layRow_5 : decode cX12_layRow 5 = .ok (.getfield 440, 3) := by decide +kernel
theorem dX12_layRow_8 : decode cX12_layRow 8 = .ok (.iconst 1, 1) := by decide +kernel
theorem dX12_layRow_9 : decode cX12_layRow 9 = .ok (.isub, 1) := by decide +kernel
theorem dX12_layRow_10 : decode cX12_layRow 10 = .ok (.istore 4, 2) := by decide +kernel
theorem dX12_layRow_12 : decode cX12_layRow 12 = .ok (.iload 4, 2) := by decide +kernel
theorem dX12_layRow_14 : decode cX12_layRow 14 = .ok (.ifCond .lt 59, 3) := by decide +kernel
theorem dX12_layRow_17 : decode cX12_layRow 17 = .ok (.aload_n 0, 1) := by decide +kernel
theorem dX12_layRow_18 : decode cX12_layRow 18 = .ok (.iload 4, 2) := by decide +kernel
theorem dX12_layRow_20 : decode cX12_layRow 20 = .ok (.iload_n 2, 1) := by decide +kernel
theorem dX12_layRow_21 : decode cX12_layRow 21 = .ok (.aload_n 0, 1) := by decide +kernel
theorem dX12_layRow_22 : decode cX12_layRow 22 = .ok (.getfield 437, 3) := by decide +kernel
theorem dX12_layRow_25 : decode cX12_layRow 25 = .ok (.iconst 1, 1) := by decide +kernel
theorem dX12_layRow_26 : decode cX12_layRow 26 = .ok (.iadd, 1) := by decide +kernel
theorem dX12_layRow_27 : decode cX12_layRow 27 = .ok (.irem, 1) := by decide +kernel
theorem dX12_layRow_28 : decode cX12_layRow 28 = .ok (.invokevirtual 612, 3) := by decide +kernel
theorem dX12_layRow_31 : decode cX12_layRow 31 = .ok (.iload_n 3, 1) := by decide +kernel
theorem dX12_layRow_32 : decode cX12_layRow 32 = .ok (.ifCond .eq 24, 3) := by decide +kernel
theorem dX12_layRow_35 : decode cX12_layRow 35 = .ok (.aload_n 0, 1) := by decide +kernel
theorem dX12_layRow_36 : decode cX12_layRow 36 = .ok (.iload 4, 2) := by decide +kernel
theorem dX12_layRow_38 : decode cX12_layRow 38 = .ok (.iload_n 2, 1) := by decide +kernel
theorem dX12_layRow_39 : decode cX12_layRow 39 = .ok (.aload_n 0, 1) := by decide +kernel
theorem dX12_layRow_40 : decode cX12_layRow 40 = .ok (.getfield 437, 3) := by decide +kernel
theorem dX12_layRow_43 : decode cX12_layRow 43 = .ok (.iconst 1, 1) := by decide +kernel
theorem dX12_layRow_44 : decode cX12_layRow 44 = .ok (.iadd, 1) := by decide +kernel
theorem dX12_layRow_45 : decode cX12_layRow 45 = .ok (.irem, 1) := by decide +kernel
theorem dX12_layRow_46 : decode cX12_layRow 46 = .ok (.invokevirtual 608, 3) := by decide +kernel
theorem dX12_layRow_49 : decode cX12_layRow 49 = .ok (.ifCond .eq 7, 3) := by decide +kernel
theorem dX12_layRow_52 : decode cX12_layRow 52 = .ok (.iconst 1, 1) := by decide +kernel
theorem dX12_layRow_53 : decode cX12_layRow 53 = .ok (.goto 4, 3) := by decide +kernel
theorem dX12_layRow_56 : decode cX12_layRow 56 = .ok (.iconst 0, 1) := by decide +kernel
theorem dX12_layRow_57 : decode cX12_layRow 57 = .ok (.istore_n 3, 1) := by decide +kernel
theorem dX12_layRow_58 : decode cX12_layRow 58 = .ok (.iload_n 2, 1) := by decide +kernel
theorem dX12_layRow_59 : decode cX12_layRow 59 = .ok (.aload_n 0, 1) := by decide +kernel
theorem dX12_layRow_60 : decode cX12_layRow 60 = .ok (.getfield 437, 3) := by decide +kernel
theorem dX12_layRow_63 : decode cX12_layRow 63 = .ok (.iconst 1, 1) := by decide +kernel
theorem dX12_layRow_64 : decode cX12_layRow 64 = .ok (.iadd, 1) := by decide +kernel
theorem dX12_layRow_65 : decode cX12_layRow 65 = .ok (.idiv, 1) := by decide +kernel
theorem dX12_layRow_66 : decode cX12_layRow 66 = .ok (.istore_n 2, 1) := by decide +kernel
theorem dX12_layRow_67 : decode cX12_layRow 67 = .ok (.iinc 4 (-1), 3) := by decide +kernel
theorem dX12_layRow_70 : decode cX12_layRow 70 = .ok (.goto (-58), 3) := by decide +kernel
theorem dX12_layRow_73 : decode cX12_layRow 73 = .ok (.iload_n 3, 1) := by decide +kernel
theorem dX12_layRow_74 : decode cX12_layRow 74 = .ok (.ireturn, 1) := by decide +kernel
theorem dX12_seekRest_0 : decode cX12_seekRest 0 = .ok (.iconst 1, 1) := by decide +kernel
theorem dX12_seekRest_1 : decode cX12_seekRest 1 = .ok (.istore_n 2, 1) := by decide +kernel
theorem dX12_seekRest_2 : decode cX12_seekRest 2 = .ok (.iconst (-1), 1) := by decide +kernel
theorem dX12_seekRest_3 : decode cX12_seekRest 3 = .ok (.istore_n 3, 1) := by decide +kernel
theorem dX12_seekRest_4 : decode cX12_seekRest 4 = .ok (.iconst 0, 1) := by decide +kernel
theorem dX12_seekRest_5 : decode cX12_seekRest 5 = .ok (.istore 4, 2) := by decide +kernel
theorem dX12_seekRest_7 : decode cX12_seekRest 7 = .ok (.iload 4, 2) := by decide +kernel
theorem dX12_seekRest_9 : decode cX12_seekRest 9 = .ok (.aload_n 0, 1) := by decide +kernel
theorem dX12_seekRest_10 : decode cX12_seekRest 10 = .ok (.getfield 440, 3) := by decide +kernel
theorem dX12_seekRest_13 : decode cX12_seekRest 13 = .ok (.if_icmp .ge 18, 3) := by decide +kernel
theorem dX12_seekRest_16 : decode cX12_seekRest 16 = .ok (.iload_n 2, 1) := by decide +kernel
theorem dX12_seekRest_17 : decode cX12_seekRest 17 = .ok (.aload_n 0, 1) := by decide +kernel
theorem dX12_seekRest_18 : decode cX12_seekRest 18 = .ok (.getfield 437, 3) := by decide +kernel
theorem dX12_seekRest_21 : decode cX12_seekRest 21 = .ok (.iconst 1, 1) := by decide +kernel
theorem dX12_seekRest_22 : decode cX12_seekRest 22 = .ok (.iadd, 1) := by decide +kernel
theorem dX12_seekRest_23 : decode cX12_seekRest 23 = .ok (.imul, 1) := by decide +kernel
theorem dX12_seekRest_24 : decode cX12_seekRest 24 = .ok (.istore_n 2, 1) := by decide +kernel
theorem dX12_seekRest_25 : decode cX12_seekRest 25 = .ok (.iinc 4 1, 3) := by decide +kernel
theorem dX12_seekRest_28 : decode cX12_seekRest 28 = .ok (.goto (-21), 3) := by decide +kernel
theorem dX12_seekRest_31 : decode cX12_seekRest 31 = .ok (.aload_n 0, 1) := by decide +kernel
theorem dX12_seekRest_32 : decode cX12_seekRest 32 = .ok (.iconst 0, 1) := by decide +kernel
theorem dX12_seekRest_33 : decode cX12_seekRest 33 = .ok (.putfield 615, 3) := by decide +kernel
theorem dX12_seekRest_36 : decode cX12_seekRest 36 = .ok (.aload_n 0, 1) := by decide +kernel
theorem dX12_seekRest_37 : decode cX12_seekRest 37 = .ok (.iconst (-1), 1) := by decide +kernel
theorem dX12_seekRest_38 : decode cX12_seekRest 38 = .ok (.putfield 618, 3) := by decide +kernel
theorem dX12_seekRest_41 : decode cX12_seekRest 41 = .ok (.aload_n 0, 1) := by decide +kernel
theorem dX12_seekRest_42 : decode cX12_seekRest 42 = .ok (.iconst (-1), 1) := by decide +kernel
theorem dX12_seekRest_43 : decode cX12_seekRest 43 = .ok (.putfield 621, 3) := by decide +kernel
theorem dX12_seekRest_46 : decode cX12_seekRest 46 = .ok (.iconst 0, 1) := by decide +kernel
theorem dX12_seekRest_47 : decode cX12_seekRest 47 = .ok (.istore 4, 2) := by decide +kernel
theorem dX12_seekRest_49 : decode cX12_seekRest 49 = .ok (.iload 4, 2) := by decide +kernel
theorem dX12_seekRest_51 : decode cX12_seekRest 51 = .ok (.iload_n 2, 1) := by decide +kernel
theorem dX12_seekRest_52 : decode cX12_seekRest 52 = .ok (.if_icmp .ge 164, 3) := by decide +kernel
theorem dX12_seekRest_55 : decode cX12_seekRest 55 = .ok (.aload_n 0, 1) := by decide +kernel
theorem dX12_seekRest_56 : decode cX12_seekRest 56 = .ok (.iload 4, 2) := by decide +kernel
theorem dX12_seekRest_58 : decode cX12_seekRest 58 = .ok (.invokevirtual 624, 3) := by decide +kernel
theorem dX12_seekRest_61 : decode cX12_seekRest 61 = .ok (.ifCond .eq 149, 3) := by decide +kernel
theorem dX12_seekRest_64 : decode cX12_seekRest 64 = .ok (.aload_n 0, 1) := by decide +kernel
theorem dX12_seekRest_65 : decode cX12_seekRest 65 = .ok (.invokevirtual 627, 3) := by decide +kernel
theorem dX12_seekRest_68 : decode cX12_seekRest 68 = .ok (.ifCond .ne 6, 3) := by decide +kernel
theorem dX12_seekRest_71 : decode cX12_seekRest 71 = .ok (.goto 139, 3) := by decide +kernel
theorem dX12_seekRest_74 : decode cX12_seekRest 74 = .ok (.aload_n 0, 1) := by decide +kernel
theorem dX12_seekRest_75 : decode cX12_seekRest 75 = .ok (.getfield 615, 3) := by decide +kernel
theorem dX12_seekRest_78 : decode cX12_seekRest 78 = .ok (.iload_n 1, 1) := by decide +kernel
theorem dX12_seekRest_79 : decode cX12_seekRest 79 = .ok (.if_icmp .ne 6, 3) := by decide +kernel
theorem dX12_seekRest_82 : decode cX12_seekRest 82 = .ok (.iload 4, 2) := by decide +kernel
theorem dX12_seekRest_84 : decode cX12_seekRest 84 = .ok (.istore_n 3, 1) := by decide +kernel
theorem dX12_seekRest_85 : decode cX12_seekRest 85 = .ok (.aload_n 0, 1) := by decide +kernel
theorem dX12_seekRest_86 : decode cX12_seekRest 86 = .ok (.dup, 1) := by decide +kernel
theorem dX12_seekRest_87 : decode cX12_seekRest 87 = .ok (.getfield 615, 3) := by decide +kernel
theorem dX12_seekRest_90 : decode cX12_seekRest 90 = .ok (.iconst 1, 1) := by decide +kernel
theorem dX12_seekRest_91 : decode cX12_seekRest 91 = .ok (.iadd, 1) := by decide +kernel
theorem dX12_seekRest_92 : decode cX12_seekRest 92 = .ok (.putfield 615, 3) := by decide +kernel
theorem dX12_seekRest_95 : decode cX12_seekRest 95 = .ok (.iconst 0, 1) := by decide +kernel
theorem dX12_seekRest_96 : decode cX12_seekRest 96 = .ok (.istore 5, 2) := by decide +kernel
theorem dX12_seekRest_98 : decode cX12_seekRest 98 = .ok (.iconst 0, 1) := by decide +kernel
theorem dX12_seekRest_99 : decode cX12_seekRest 99 = .ok (.istore 6, 2) := by decide +kernel
theorem dX12_seekRest_101 : decode cX12_seekRest 101 = .ok (.iconst 0, 1) := by decide +kernel
theorem dX12_seekRest_102 : decode cX12_seekRest 102 = .ok (.istore 7, 2) := by decide +kernel
theorem dX12_seekRest_104 : decode cX12_seekRest 104 = .ok (.iload 7, 2) := by decide +kernel
theorem dX12_seekRest_106 : decode cX12_seekRest 106 = .ok (.aload_n 0, 1) := by decide +kernel
theorem dX12_seekRest_107 : decode cX12_seekRest 107 = .ok (.getfield 440, 3) := by decide +kernel
theorem dX12_seekRest_110 : decode cX12_seekRest 110 = .ok (.if_icmp .ge 20, 3) := by decide +kernel
theorem dX12_seekRest_113 : decode cX12_seekRest 113 = .ok (.iload 5, 2) := by decide +kernel
theorem dX12_seekRest_115 : decode cX12_seekRest 115 = .ok (.aload_n 0, 1) := by decide +kernel
theorem dX12_seekRest_116 : decode cX12_seekRest 116 = .ok (.iload 7, 2) := by decide +kernel
theorem dX12_seekRest_118 : decode cX12_seekRest 118 = .ok (.invokevirtual 605, 3) := by decide +kernel
theorem dX12_seekRest_121 : decode cX12_seekRest 121 = .ok (.iadd, 1) := by decide +kernel
theorem dX12_seekRest_122 : decode cX12_seekRest 122 = .ok (.istore 5, 2) := by decide +kernel
theorem dX12_seekRest_124 : decode cX12_seekRest 124 = .ok (.iinc 7 1, 3) := by decide +kernel
theorem dX12_seekRest_127 : decode cX12_seekRest 127 = .ok (.goto (-23), 3) := by decide +kernel
theorem dX12_seekRest_130 : decode cX12_seekRest 130 = .ok (.iconst 0, 1) := by decide +kernel
theorem dX12_seekRest_131 : decode cX12_seekRest 131 = .ok (.istore 7, 2) := by decide +kernel
theorem dX12_seekRest_133 : decode cX12_seekRest 133 = .ok (.iload 7, 2) := by decide +kernel
theorem dX12_seekRest_135 : decode cX12_seekRest 135 = .ok (.aload_n 0, 1) := by decide +kernel
theorem dX12_seekRest_136 : decode cX12_seekRest 136 = .ok (.getfield 437, 3) := by decide +kernel
theorem dX12_seekRest_139 : decode cX12_seekRest 139 = .ok (.if_icmp .ge 20, 3) := by decide +kernel
theorem dX12_seekRest_142 : decode cX12_seekRest 142 = .ok (.iload 6, 2) := by decide +kernel
theorem dX12_seekRest_144 : decode cX12_seekRest 144 = .ok (.aload_n 0, 1) := by decide +kernel
theorem dX12_seekRest_145 : decode cX12_seekRest 145 = .ok (.iload 7, 2) := by decide +kernel
theorem dX12_seekRest_147 : decode cX12_seekRest 147 = .ok (.invokevirtual 630, 3) := by decide +kernel
theorem dX12_seekRest_150 : decode cX12_seekRest 150 = .ok (.iadd, 1) := by decide +kernel
theorem dX12_seekRest_151 : decode cX12_seekRest 151 = .ok (.istore 6, 2) := by decide +kernel
theorem dX12_seekRest_153 : decode cX12_seekRest 153 = .ok (.iinc 7 1, 3) := by decide +kernel
theorem dX12_seekRest_156 : decode cX12_seekRest 156 = .ok (.goto (-23), 3) := by decide +kernel
theorem dX12_seekRest_159 : decode cX12_seekRest 159 = .ok (.aload_n 0, 1) := by decide +kernel
theorem dX12_seekRest_160 : decode cX12_seekRest 160 = .ok (.iload 5, 2) := by decide +kernel
theorem dX12_seekRest_162 : decode cX12_seekRest 162 = .ok (.aload_n 0, 1) := by decide +kernel
theorem dX12_seekRest_163 : decode cX12_seekRest 163 = .ok (.getfield 618, 3) := by decide +kernel
theorem dX12_seekRest_166 : decode cX12_seekRest 166 = .ok (.if_icmp .le 8, 3) := by decide +kernel
theorem dX12_seekRest_169 : decode cX12_seekRest 169 = .ok (.iload 5, 2) := by decide +kernel
theorem dX12_seekRest_171 : decode cX12_seekRest 171 = .ok (.goto 7, 3) := by decide +kernel
theorem dX12_seekRest_174 : decode cX12_seekRest 174 = .ok (.aload_n 0, 1) := by decide +kernel
theorem dX12_seekRest_175 : decode cX12_seekRest 175 = .ok (.getfield 618, 3) := by decide +kernel
theorem dX12_seekRest_178 : decode cX12_seekRest 178 = .ok (.putfield 618, 3) := by decide +kernel
theorem dX12_seekRest_181 : decode cX12_seekRest 181 = .ok (.aload_n 0, 1) := by decide +kernel
theorem dX12_seekRest_182 : decode cX12_seekRest 182 = .ok (.aload_n 0, 1) := by decide +kernel
theorem dX12_seekRest_183 : decode cX12_seekRest 183 = .ok (.getfield 621, 3) := by decide +kernel
theorem dX12_seekRest_186 : decode cX12_seekRest 186 = .ok (.ifCond .lt 12, 3) := by decide +kernel
theorem dX12_seekRest_189 : decode cX12_seekRest 189 = .ok (.iload 6, 2) := by decide +kernel
theorem dX12_seekRest_191 : decode cX12_seekRest 191 = .ok (.aload_n 0, 1) := by decide +kernel
theorem dX12_seekRest_192 : decode cX12_seekRest 192 = .ok (.getfield 621, 3) := by decide +kernel
theorem dX12_seekRest_195 : decode cX12_seekRest 195 = .ok (.if_icmp .ge 8, 3) := by decide +kernel
theorem dX12_seekRest_198 : decode cX12_seekRest 198 = .ok (.iload 6, 2) := by decide +kernel
theorem dX12_seekRest_200 : decode cX12_seekRest 200 = .ok (.goto 7, 3) := by decide +kernel
theorem dX12_seekRest_203 : decode cX12_seekRest 203 = .ok (.aload_n 0, 1) := by decide +kernel
theorem dX12_seekRest_204 : decode cX12_seekRest 204 = .ok (.getfield 621, 3) := by decide +kernel
theorem dX12_seekRest_207 : decode cX12_seekRest 207 = .ok (.putfield 621, 3) := by decide +kernel
theorem dX12_seekRest_210 : decode cX12_seekRest 210 = .ok (.iinc 4 1, 3) := by decide +kernel
theorem dX12_seekRest_213 : decode cX12_seekRest 213 = .ok (.goto (-164), 3) := by decide +kernel
theorem dX12_seekRest_216 : decode cX12_seekRest 216 = .ok (.iload_n 3, 1) := by decide +kernel
theorem dX12_seekRest_217 : decode cX12_seekRest 217 = .ok (.ireturn, 1) := by decide +kernel
theorem dX12_rest_0 : decode cX12_rest 0 = .ok (.iload_n 1, 1) := by decide +kernel
theorem dX12_rest_1 : decode cX12_rest 1 = .ok (.ifCond .lt 8, 3) := by decide +kernel
theorem dX12_rest_4 : decode cX12_rest 4 = .ok (.iload_n 1, 1) := by decide +kernel
theorem dX12_rest_5 : decode cX12_rest 5 = .ok (.iconst 2, 1) := by decide +kernel
theorem dX12_rest_6 : decode cX12_rest 6 = .ok (.if_icmp .le 5, 3) := by decide +kernel
theorem dX12_rest_9 : decode cX12_rest 9 = .ok (.iconst (-1), 1) := by decide +kernel
theorem dX12_rest_10 : decode cX12_rest 10 = .ok (.ireturn, 1) := by decide +kernel
theorem dX12_rest_11 : decode cX12_rest 11 = .ok (.aload_n 0, 1) := by decide +kernel
theorem dX12_rest_12 : decode cX12_rest 12 = .ok (.invokevirtual 633, 3) := by decide +kernel
theorem dX12_rest_15 : decode cX12_rest 15 = .ok (.ifCond .eq 6, 3) := by decide +kernel
theorem dX12_rest_18 : decode cX12_rest 18 = .ok (.bipush (-2), 2) := by decide +kernel
theorem dX12_rest_20 : decode cX12_rest 20 = .ok (.ireturn, 1) := by decide +kernel
theorem dX12_rest_21 : decode cX12_rest 21 = .ok (.aload_n 0, 1) := by decide +kernel
theorem dX12_rest_22 : decode cX12_rest 22 = .ok (.iconst (-1), 1) := by decide +kernel
theorem dX12_rest_23 : decode cX12_rest 23 = .ok (.invokevirtual 636, 3) := by decide +kernel
theorem dX12_rest_26 : decode cX12_rest 26 = .ok (.istore_n 2, 1) := by decide +kernel
theorem dX12_rest_27 : decode cX12_rest 27 = .ok (.iload_n 1, 1) := by decide +kernel
theorem dX12_rest_28 : decode cX12_rest 28 = .ok (.ifCond .ne 10, 3) := by decide +kernel
theorem dX12_rest_31 : decode cX12_rest 31 = .ok (.aload_n 0, 1) := by decide +kernel
theorem dX12_rest_32 : decode cX12_rest 32 = .ok (.getfield 615, 3) := by decide +kernel
theorem dX12_rest_35 : decode cX12_rest 35 = .ok (.goto 27, 3) := by decide +kernel
theorem dX12_rest_38 : decode cX12_rest 38 = .ok (.iload_n 2, 1) := by decide +kernel
theorem dX12_rest_39 : decode cX12_rest 39 = .ok (.ifCond .lt 7, 3) := by decide +kernel
theorem dX12_rest_42 : decode cX12_rest 42 = .ok (.iconst (-1), 1) := by decide +kernel
theorem dX12_rest_43 : decode cX12_rest 43 = .ok (.goto 19, 3) := by decide +kernel
theorem dX12_rest_46 : decode cX12_rest 46 = .ok (.iload_n 1, 1) := by decide +kernel
theorem dX12_rest_47 : decode cX12_rest 47 = .ok (.iconst 1, 1) := by decide +kernel
theorem dX12_rest_48 : decode cX12_rest 48 = .ok (.if_icmp .ne 10, 3) := by decide +kernel
theorem dX12_rest_51 : decode cX12_rest 51 = .ok (.aload_n 0, 1) := by decide +kernel
theorem dX12_rest_52 : decode cX12_rest 52 = .ok (.getfield 618, 3) := by decide +kernel
theorem dX12_rest_55 : decode cX12_rest 55 = .ok (.goto 7, 3) := by decide +kernel
theorem dX12_rest_58 : decode cX12_rest 58 = .ok (.aload_n 0, 1) := by decide +kernel
theorem dX12_rest_59 : decode cX12_rest 59 = .ok (.getfield 621, 3) := by decide +kernel
theorem dX12_rest_62 : decode cX12_rest 62 = .ok (.ireturn, 1) := by decide +kernel
theorem dX12_stands_0 : decode cX12_stands 0 = .ok (.aload_n 0, 1) := by decide +kernel
theorem dX12_stands_1 : decode cX12_stands 1 = .ok (.invokevirtual 633, 3) := by decide +kernel
theorem dX12_stands_4 : decode cX12_stands 4 = .ok (.ifCond .eq 6, 3) := by decide +kernel
theorem dX12_stands_7 : decode cX12_stands 7 = .ok (.bipush (-2), 2) := by decide +kernel
theorem dX12_stands_9 : decode cX12_stands 9 = .ok (.ireturn, 1) := by decide +kernel
theorem dX12_stands_10 : decode cX12_stands 10 = .ok (.iload_n 1, 1) := by decide +kernel
theorem dX12_stands_11 : decode cX12_stands 11 = .ok (.ifCond .lt 11, 3) := by decide +kernel
theorem dX12_stands_14 : decode cX12_stands 14 = .ok (.aload_n 0, 1) := by decide +kernel
theorem dX12_stands_15 : decode cX12_stands 15 = .ok (.iload_n 2, 1) := by decide +kernel
theorem dX12_stands_16 : decode cX12_stands 16 = .ok (.invokevirtual 568, 3) := by decide +kernel
theorem dX12_stands_19 : decode cX12_stands 19 = .ok (.ifCond .ne 7, 3) := by decide +kernel
theorem dX12_stands_22 : decode cX12_stands 22 = .ok (.iconst (-1), 1) := by decide +kernel
theorem dX12_stands_23 : decode cX12_stands 23 = .ok (.goto 8, 3) := by decide +kernel
theorem dX12_stands_26 : decode cX12_stands 26 = .ok (.aload_n 0, 1) := by decide +kernel
theorem dX12_stands_27 : decode cX12_stands 27 = .ok (.iload_n 1, 1) := by decide +kernel
theorem dX12_stands_28 : decode cX12_stands 28 = .ok (.invokevirtual 636, 3) := by decide +kernel
theorem dX12_stands_31 : decode cX12_stands 31 = .ok (.istore_n 3, 1) := by decide +kernel
theorem dX12_stands_32 : decode cX12_stands 32 = .ok (.iload_n 3, 1) := by decide +kernel
theorem dX12_stands_33 : decode cX12_stands 33 = .ok (.ifCond .ge 6, 3) := by decide +kernel
theorem dX12_stands_36 : decode cX12_stands 36 = .ok (.bipush (-3), 2) := by decide +kernel
theorem dX12_stands_38 : decode cX12_stands 38 = .ok (.ireturn, 1) := by decide +kernel
theorem dX12_stands_39 : decode cX12_stands 39 = .ok (.aload_n 0, 1) := by decide +kernel
theorem dX12_stands_40 : decode cX12_stands 40 = .ok (.iload_n 3, 1) := by decide +kernel
theorem dX12_stands_41 : decode cX12_stands 41 = .ok (.invokevirtual 624, 3) := by decide +kernel
theorem dX12_stands_44 : decode cX12_stands 44 = .ok (.istore 4, 2) := by decide +kernel
theorem dX12_stands_46 : decode cX12_stands 46 = .ok (.iload 4, 2) := by decide +kernel
theorem dX12_stands_48 : decode cX12_stands 48 = .ok (.ifCond .eq 12, 3) := by decide +kernel
theorem dX12_stands_51 : decode cX12_stands 51 = .ok (.aload_n 0, 1) := by decide +kernel
theorem dX12_stands_52 : decode cX12_stands 52 = .ok (.getfield 133, 3) := by decide +kernel
theorem dX12_stands_55 : decode cX12_stands 55 = .ok (.iload_n 2, 1) := by decide +kernel
theorem dX12_stands_56 : decode cX12_stands 56 = .ok (.iaload, 1) := by decide +kernel
theorem dX12_stands_57 : decode cX12_stands 57 = .ok (.goto 5, 3) := by decide +kernel
theorem dX12_stands_60 : decode cX12_stands 60 = .ok (.bipush (-3), 2) := by decide +kernel
theorem dX12_stands_62 : decode cX12_stands 62 = .ok (.ireturn, 1) := by decide +kernel
theorem dX12_madeBy_0 : decode cX12_madeBy 0 = .ok (.aload_n 0, 1) := by decide +kernel
theorem dX12_madeBy_1 : decode cX12_madeBy 1 = .ok (.invokevirtual 575, 3) := by decide +kernel
theorem dX12_madeBy_4 : decode cX12_madeBy 4 = .ok (.aload_n 0, 1) := by decide +kernel
theorem dX12_madeBy_5 : decode cX12_madeBy 5 = .ok (.invokevirtual 559, 3) := by decide +kernel
theorem dX12_madeBy_8 : decode cX12_madeBy 8 = .ok (.istore_n 3, 1) := by decide +kernel
theorem dX12_madeBy_9 : decode cX12_madeBy 9 = .ok (.iconst 0, 1) := by decide +kernel
theorem dX12_madeBy_10 : decode cX12_madeBy 10 = .ok (.istore 4, 2) := by decide +kernel
theorem dX12_madeBy_12 : decode cX12_madeBy 12 = .ok (.iload 4, 2) := by decide +kernel
theorem dX12_madeBy_14 : decode cX12_madeBy 14 = .ok (.iload_n 1, 1) := by decide +kernel
theorem dX12_madeBy_15 : decode cX12_madeBy 15 = .ok (.if_icmp .ge 14, 3) := by decide +kernel
theorem dX12_madeBy_18 : decode cX12_madeBy 18 = .ok (.aload_n 0, 1) := by decide +kernel
theorem dX12_madeBy_19 : decode cX12_madeBy 19 = .ok (.iload_n 2, 1) := by decide +kernel
theorem dX12_madeBy_20 : decode cX12_madeBy 20 = .ok (.invokevirtual 562, 3) := by decide +kernel
theorem dX12_madeBy_23 : decode cX12_madeBy 23 = .ok (.iinc 4 1, 3) := by decide +kernel
theorem dX12_madeBy_26 : decode cX12_madeBy 26 = .ok (.goto (-14), 3) := by decide +kernel
theorem dX12_madeBy_29 : decode cX12_madeBy 29 = .ok (.aload_n 0, 1) := by decide +kernel
theorem dX12_madeBy_30 : decode cX12_madeBy 30 = .ok (.invokevirtual 559, 3) := by decide +kernel
theorem dX12_madeBy_33 : decode cX12_madeBy 33 = .ok (.iload_n 3, 1) := by decide +kernel
theorem dX12_madeBy_34 : decode cX12_madeBy 34 = .ok (.isub, 1) := by decide +kernel
theorem dX12_madeBy_35 : decode cX12_madeBy 35 = .ok (.istore 4, 2) := by decide +kernel
theorem dX12_madeBy_37 : decode cX12_madeBy 37 = .ok (.aload_n 0, 1) := by decide +kernel
theorem dX12_madeBy_38 : decode cX12_madeBy 38 = .ok (.invokevirtual 587, 3) := by decide +kernel
theorem dX12_madeBy_41 : decode cX12_madeBy 41 = .ok (.iload 4, 2) := by decide +kernel
theorem dX12_madeBy_43 : decode cX12_madeBy 43 = .ok (.ireturn, 1) := by decide +kernel
theorem dX12_isTerm_0 : decode cX12_isTerm 0 = .ok (.iload_n 0, 1) := by decide +kernel
theorem dX12_isTerm_1 : decode cX12_isTerm 1 = .ok (.ifCond .lt 13, 3) := by decide +kernel
theorem dX12_isTerm_4 : decode cX12_isTerm 4 = .ok (.iload_n 0, 1) := by decide +kernel
theorem dX12_isTerm_5 : decode cX12_isTerm 5 = .ok (.bipush 40, 2) := by decide +kernel
theorem dX12_isTerm_7 : decode cX12_isTerm 7 = .ok (.if_icmp .gt 7, 3) := by decide +kernel
theorem dX12_isTerm_10 : decode cX12_isTerm 10 = .ok (.iconst 1, 1) := by decide +kernel
theorem dX12_isTerm_11 : decode cX12_isTerm 11 = .ok (.goto 4, 3) := by decide +kernel
theorem dX12_isTerm_14 : decode cX12_isTerm 14 = .ok (.iconst 0, 1) := by decide +kernel
theorem dX12_isTerm_15 : decode cX12_isTerm 15 = .ok (.ireturn, 1) := by decide +kernel
theorem dX12_made_0 : decode cX12_made 0 = .ok (.iload_n 1, 1) := by decide +kernel
theorem dX12_made_1 : decode cX12_made 1 = .ok (.invokestatic 639, 3) := by decide +kernel
theorem dX12_made_4 : decode cX12_made 4 = .ok (.ifCond .eq 12, 3) := by decide +kernel
theorem dX12_made_7 : decode cX12_made 7 = .ok (.iload_n 2, 1) := by decide +kernel
theorem dX12_made_8 : decode cX12_made 8 = .ok (.ifCond .lt 8, 3) := by decide +kernel
theorem dX12_made_11 : decode cX12_made 11 = .ok (.iload_n 2, 1) := by decide +kernel
theorem dX12_made_12 : decode cX12_made 12 = .ok (.iconst 4, 1) := by decide +kernel
theorem dX12_made_13 : decode cX12_made 13 = .ok (.if_icmp .le 7, 3) := by decide +kernel
theorem dX12_made_16 : decode cX12_made 16 = .ok (.iconst (-1), 1) := by decide +kernel
theorem dX12_made_17 : decode cX12_made 17 = .ok (.goto 22, 3) := by decide +kernel
theorem dX12_made_20 : decode cX12_made 20 = .ok (.aload_n 0, 1) := by decide +kernel
theorem dX12_made_21 : decode cX12_made 21 = .ok (.iload_n 1, 1) := by decide +kernel
theorem dX12_made_22 : decode cX12_made 22 = .ok (.iload_n 2, 1) := by decide +kernel
theorem dX12_made_23 : decode cX12_made 23 = .ok (.ifCond .ne 10, 3) := by decide +kernel
theorem dX12_made_26 : decode cX12_made 26 = .ok (.aload_n 0, 1) := by decide +kernel
theorem dX12_made_27 : decode cX12_made 27 = .ok (.getfield 443, 3) := by decide +kernel
theorem dX12_made_30 : decode cX12_made 30 = .ok (.goto 6, 3) := by decide +kernel
theorem dX12_made_33 : decode cX12_made 33 = .ok (.iload_n 2, 1) := by decide +kernel
theorem dX12_made_34 : decode cX12_made 34 = .ok (.iconst 1, 1) := by decide +kernel
theorem dX12_made_35 : decode cX12_made 35 = .ok (.isub, 1) := by decide +kernel
theorem dX12_made_36 : decode cX12_made 36 = .ok (.invokevirtual 642, 3) := by decide +kernel
theorem dX12_made_39 : decode cX12_made 39 = .ok (.ireturn, 1) := by decide +kernel
theorem dX12_law_0 : decode cX12_law 0 = .ok (.iload_n 1, 1) := by decide +kernel
theorem dX12_law_1 : decode cX12_law 1 = .ok (.invokestatic 639, 3) := by decide +kernel
theorem dX12_law_4 : decode cX12_law 4 = .ok (.ifCond .ne 5, 3) := by decide +kernel
theorem dX12_law_7 : decode cX12_law 7 = .ok (.iconst (-1), 1) := by decide +kernel
theorem dX12_law_8 : decode cX12_law 8 = .ok (.ireturn, 1) := by decide +kernel
theorem dX12_law_9 : decode cX12_law 9 = .ok (.iconst 0, 1) := by decide +kernel
theorem dX12_law_10 : decode cX12_law 10 = .ok (.istore_n 2, 1) := by decide +kernel
theorem dX12_law_11 : decode cX12_law 11 = .ok (.iconst 1, 1) := by decide +kernel
theorem dX12_law_12 : decode cX12_law 12 = .ok (.istore_n 3, 1) := by decide +kernel
theorem dX12_law_13 : decode cX12_law 13 = .ok (.iload_n 3, 1) := by decide +kernel
theorem dX12_law_14 : decode cX12_law 14 = .ok (.iconst 3, 1) := by decide +kernel
theorem dX12_law_15 : decode cX12_law 15 = .ok (.if_icmp .ge 26, 3) := by decide +kernel
theorem dX12_law_18 : decode cX12_law 18 = .ok (.aload_n 0, 1) := by decide +kernel
theorem dX12_law_19 : decode cX12_law 19 = .ok (.iload_n 1, 1) := by decide +kernel
theorem dX12_law_20 : decode cX12_law 20 = .ok (.iload_n 3, 1) := by decide +kernel
theorem dX12_law_21 : decode cX12_law 21 = .ok (.invokevirtual 642, 3) := by decide +kernel
theorem dX12_law_24 : decode cX12_law 24 = .ok (.aload_n 0, 1) := by decide +kernel
theorem dX12_law_25 : decode cX12_law 25 = .ok (.iload_n 1, 1) := by decide +kernel
theorem dX12_law_26 : decode cX12_law 26 = .ok (.iload_n 2, 1) := by decide +kernel
theorem dX12_law_27 : decode cX12_law 27 = .ok (.invokevirtual 642, 3) := by decide +kernel
theorem dX12_law_30 : decode cX12_law 30 = .ok (.if_icmp .le 5, 3) := by decide +kernel
theorem dX12_law_33 : decode cX12_law 33 = .ok (.iload_n 3, 1) := by decide +kernel
theorem dX12_law_34 : decode cX12_law 34 = .ok (.istore_n 2, 1) := by decide +kernel
theorem dX12_law_35 : decode cX12_law 35 = .ok (.iinc 3 1, 3) := by decide +kernel
theorem dX12_law_38 : decode cX12_law 38 = .ok (.goto (-25), 3) := by decide +kernel
theorem dX12_law_41 : decode cX12_law 41 = .ok (.iload_n 2, 1) := by decide +kernel
theorem dX12_law_42 : decode cX12_law 42 = .ok (.ireturn, 1) := by decide +kernel
theorem dX12_usedOf_0 : decode cX12_usedOf 0 = .ok (.ldc2_w 645, 3) := by decide +kernel
theorem dX12_usedOf_3 : decode cX12_usedOf 3 = .ok (.aload_n 0, 1) := by decide +kernel
theorem dX12_usedOf_4 : decode cX12_usedOf 4 = .ok (.getfield 90, 3) := by decide +kernel
theorem dX12_usedOf_7 : decode cX12_usedOf 7 = .ok (.iload_n 1, 1) := by decide +kernel
theorem dX12_usedOf_8 : decode cX12_usedOf 8 = .ok (.iaload, 1) := by decide +kernel
theorem dX12_usedOf_9 : decode cX12_usedOf 9 = .ok (.i2l, 1) := by decide +kernel
theorem dX12_usedOf_10 : decode cX12_usedOf 10 = .ok (.lmul, 1) := by decide +kernel
theorem dX12_usedOf_11 : decode cX12_usedOf 11 = .ok (.iload_n 2, 1) := by decide +kernel
theorem dX12_usedOf_12 : decode cX12_usedOf 12 = .ok (.i2l, 1) := by decide +kernel
theorem dX12_usedOf_13 : decode cX12_usedOf 13 = .ok (.lmul, 1) := by decide +kernel
theorem dX12_usedOf_14 : decode cX12_usedOf 14 = .ok (.iload 4, 2) := by decide +kernel
theorem dX12_usedOf_16 : decode cX12_usedOf 16 = .ok (.i2l, 1) := by decide +kernel
theorem dX12_usedOf_17 : decode cX12_usedOf 17 = .ok (.lmul, 1) := by decide +kernel
theorem dX12_usedOf_18 : decode cX12_usedOf 18 = .ok (.lstore 5, 2) := by decide +kernel
theorem dX12_usedOf_20 : decode cX12_usedOf 20 = .ok (.aload_n 0, 1) := by decide +kernel
theorem dX12_usedOf_21 : decode cX12_usedOf 21 = .ok (.getfield 75, 3) := by decide +kernel
theorem dX12_usedOf_24 : decode cX12_usedOf 24 = .ok (.iconst 5, 1) := by decide +kernel
theorem dX12_usedOf_25 : decode cX12_usedOf 25 = .ok (.iload_n 1, 1) := by decide +kernel
theorem dX12_usedOf_26 : decode cX12_usedOf 26 = .ok (.imul, 1) := by decide +kernel
theorem dX12_usedOf_27 : decode cX12_usedOf 27 = .ok (.iconst 4, 1) := by decide +kernel
theorem dX12_usedOf_28 : decode cX12_usedOf 28 = .ok (.iadd, 1) := by decide +kernel
theorem dX12_usedOf_29 : decode cX12_usedOf 29 = .ok (.iaload, 1) := by decide +kernel
theorem dX12_usedOf_30 : decode cX12_usedOf 30 = .ok (.iconst 1, 1) := by decide +kernel
theorem dX12_usedOf_31 : decode cX12_usedOf 31 = .ok (.if_icmp .ne 12, 3) := by decide +kernel
theorem dX12_usedOf_34 : decode cX12_usedOf 34 = .ok (.iload 4, 2) := by decide +kernel
theorem dX12_usedOf_36 : decode cX12_usedOf 36 = .ok (.ifCond .le 7, 3) := by decide +kernel
theorem dX12_usedOf_39 : decode cX12_usedOf 39 = .ok (.iconst 1, 1) := by decide +kernel
theorem dX12_usedOf_40 : decode cX12_usedOf 40 = .ok (.goto 4, 3) := by decide +kernel
theorem dX12_usedOf_43 : decode cX12_usedOf 43 = .ok (.iconst 0, 1) := by decide +kernel
theorem dX12_usedOf_44 : decode cX12_usedOf 44 = .ok (.istore 7, 2) := by decide +kernel
theorem dX12_usedOf_46 : decode cX12_usedOf 46 = .ok (.lload 5, 2) := by decide +kernel
theorem dX12_usedOf_48 : decode cX12_usedOf 48 = .ok (.iload 7, 2) := by decide +kernel
theorem dX12_usedOf_50 : decode cX12_usedOf 50 = .ok (.ifCond .eq 7, 3) := by decide +kernel
theorem dX12_usedOf_53 : decode cX12_usedOf 53 = .ok (.lconst 0, 1) := by decide +kernel
theorem dX12_usedOf_54 : decode cX12_usedOf 54 = .ok (.goto 31, 3) := by decide +kernel
theorem dX12_usedOf_57 : decode cX12_usedOf 57 = .ok (.iload_n 3, 1) := by decide +kernel
theorem dX12_usedOf_58 : decode cX12_usedOf 58 = .ok (.i2l, 1) := by decide +kernel
theorem dX12_usedOf_59 : decode cX12_usedOf 59 = .ok (.aload_n 0, 1) := by decide +kernel
theorem dX12_usedOf_60 : decode cX12_usedOf 60 = .ok (.getfield 145, 3) := by decide +kernel
theorem dX12_usedOf_63 : decode cX12_usedOf 63 = .ok (.iload_n 2, 1) := by decide +kernel
theorem dX12_usedOf_64 : decode cX12_usedOf 64 = .ok (.aload_n 0, 1) := by decide +kernel
theorem dX12_usedOf_65 : decode cX12_usedOf 65 = .ok (.getfield 75, 3) := by decide +kernel
theorem dX12_usedOf_68 : decode cX12_usedOf 68 = .ok (.iconst 5, 1) := by decide +kernel
theorem dX12_usedOf_69 : decode cX12_usedOf 69 = .ok (.iload_n 1, 1) := by decide +kernel
theorem dX12_usedOf_70 : decode cX12_usedOf 70 = .ok (.imul, 1) := by decide +kernel
theorem dX12_usedOf_71 : decode cX12_usedOf 71 = .ok (.iconst 2, 1) := by decide +kernel
theorem dX12_usedOf_72 : decode cX12_usedOf 72 = .ok (.iadd, 1) := by decide +kernel
theorem dX12_usedOf_73 : decode cX12_usedOf 73 = .ok (.iaload, 1) := by decide +kernel
theorem dX12_usedOf_74 : decode cX12_usedOf 74 = .ok (.iload 4, 2) := by decide +kernel
theorem dX12_usedOf_76 : decode cX12_usedOf 76 = .ok (.invokestatic 486, 3) := by decide +kernel
theorem dX12_usedOf_79 : decode cX12_usedOf 79 = .ok (.laload, 1) := by decide +kernel
theorem dX12_usedOf_80 : decode cX12_usedOf 80 = .ok (.lmul, 1) := by decide +kernel
theorem dX12_usedOf_81 : decode cX12_usedOf 81 = .ok (.ldc2_w 647, 3) := by decide +kernel
theorem dX12_usedOf_84 : decode cX12_usedOf 84 = .ok (.ldiv, 1) := by decide +kernel
theorem dX12_usedOf_85 : decode cX12_usedOf 85 = .ok (.ladd, 1) := by decide +kernel
theorem dX12_usedOf_86 : decode cX12_usedOf 86 = .ok (.lreturn, 1) := by decide +kernel
theorem dX12_bestUse_0 : decode cX12_bestUse 0 = .ok (.ldc2_w 649, 3) := by decide +kernel
theorem dX12_bestUse_3 : decode cX12_bestUse 3 = .ok (.lstore 4, 2) := by decide +kernel
theorem dX12_bestUse_5 : decode cX12_bestUse 5 = .ok (.iconst 0, 1) := by decide +kernel
theorem dX12_bestUse_6 : decode cX12_bestUse 6 = .ok (.istore 6, 2) := by decide +kernel
theorem dX12_bestUse_8 : decode cX12_bestUse 8 = .ok (.iload 6, 2) := by decide +kernel
theorem dX12_bestUse_10 : decode cX12_bestUse 10 = .ok (.bipush 9, 2) := by decide +kernel
theorem dX12_bestUse_12 : decode cX12_bestUse 12 = .ok (.if_icmp .gt 41, 3) := by decide +kernel
theorem dX12_bestUse_15 : decode cX12_bestUse 15 = .ok (.aload_n 0, 1) := by decide +kernel
theorem dX12_bestUse_16 : decode cX12_bestUse 16 = .ok (.iload_n 1, 1) := by decide +kernel
theorem dX12_bestUse_17 : decode cX12_bestUse 17 = .ok (.iload_n 2, 1) := by decide +kernel
theorem dX12_bestUse_18 : decode cX12_bestUse 18 = .ok (.iload_n 3, 1) := by decide +kernel
theorem dX12_bestUse_19 : decode cX12_bestUse 19 = .ok (.iload 6, 2) := by decide +kernel
theorem dX12_bestUse_21 : decode cX12_bestUse 21 = .ok (.invokevirtual 651, 3) := by decide +kernel
theorem dX12_bestUse_24 : decode cX12_bestUse 24 = .ok (.lstore 7, 2) := by decide +kernel
theorem dX12_bestUse_26 : decode cX12_bestUse 26 = .ok (.lload 7, 2) := by decide +kernel
theorem dX12_bestUse_28 : decode cX12_bestUse 28 = .ok (.lload 4, 2) := by decide +kernel
theorem dX12_bestUse_30 : decode cX12_bestUse 30 = .ok (.lcmp, 1) := by decide +kernel
theorem dX12_bestUse_31 : decode cX12_bestUse 31 = .ok (.ifCond .gt 6, 3) := by decide +kernel
theorem dX12_bestUse_34 : decode cX12_bestUse 34 = .ok (.goto 13, 3) := by decide +kernel
theorem dX12_bestUse_37 : decode cX12_bestUse 37 = .ok (.lload 7, 2) := by decide +kernel
theorem dX12_bestUse_39 : decode cX12_bestUse 39 = .ok (.lstore 4, 2) := by decide +kernel
theorem dX12_bestUse_41 : decode cX12_bestUse 41 = .ok (.aload_n 0, 1) := by decide +kernel
theorem dX12_bestUse_42 : decode cX12_bestUse 42 = .ok (.iload 6, 2) := by decide +kernel
theorem dX12_bestUse_44 : decode cX12_bestUse 44 = .ok (.putfield 655, 3) := by decide +kernel
theorem dX12_bestUse_47 : decode cX12_bestUse 47 = .ok (.iinc 6 1, 3) := by decide +kernel
theorem dX12_bestUse_50 : decode cX12_bestUse 50 = .ok (.goto (-42), 3) := by decide +kernel
theorem dX12_bestUse_53 : decode cX12_bestUse 53 = .ok (.lload 4, 2) := by decide +kernel
theorem dX12_bestUse_55 : decode cX12_bestUse 55 = .ok (.lreturn, 1) := by decide +kernel
theorem dX12_used_0 : decode cX12_used 0 = .ok (.aload_n 0, 1) := by decide +kernel
theorem dX12_used_1 : decode cX12_used 1 = .ok (.iload_n 1, 1) := by decide +kernel
theorem dX12_used_2 : decode cX12_used 2 = .ok (.invokevirtual 565, 3) := by decide +kernel
theorem dX12_used_5 : decode cX12_used 5 = .ok (.ifCond .eq 44, 3) := by decide +kernel
theorem dX12_used_8 : decode cX12_used 8 = .ok (.aload_n 0, 1) := by decide +kernel
theorem dX12_used_9 : decode cX12_used 9 = .ok (.getfield 99, 3) := by decide +kernel
theorem dX12_used_12 : decode cX12_used 12 = .ok (.iload_n 1, 1) := by decide +kernel
theorem dX12_used_13 : decode cX12_used 13 = .ok (.baload, 1) := by decide +kernel
theorem dX12_used_14 : decode cX12_used 14 = .ok (.ifCond .ne 35, 3) := by decide +kernel
theorem dX12_used_17 : decode cX12_used 17 = .ok (.iload_n 2, 1) := by decide +kernel
theorem dX12_used_18 : decode cX12_used 18 = .ok (.iconst 1, 1) := by decide +kernel
theorem dX12_used_19 : decode cX12_used 19 = .ok (.if_icmp .lt 30, 3) := by decide +kernel
theorem dX12_used_22 : decode cX12_used 22 = .ok (.iload_n 2, 1) := by decide +kernel
theorem dX12_used_23 : decode cX12_used 23 = .ok (.bipush 30, 2) := by decide +kernel
theorem dX12_used_25 : decode cX12_used 25 = .ok (.if_icmp .gt 24, 3) := by decide +kernel
theorem dX12_used_28 : decode cX12_used 28 = .ok (.iload_n 3, 1) := by decide +kernel
theorem dX12_used_29 : decode cX12_used 29 = .ok (.ifCond .lt 20, 3) := by decide +kernel
theorem dX12_used_32 : decode cX12_used 32 = .ok (.iload_n 3, 1) := by decide +kernel
theorem dX12_used_33 : decode cX12_used 33 = .ok (.bipush 100, 2) := by decide +kernel
theorem dX12_used_35 : decode cX12_used 35 = .ok (.if_icmp .gt 14, 3) := by decide +kernel
theorem dX12_used_38 : decode cX12_used 38 = .ok (.iload 4, 2) := by decide +kernel
theorem dX12_used_40 : decode cX12_used 40 = .ok (.ifCond .lt 9, 3) := by decide +kernel
theorem dX12_used_43 : decode cX12_used 43 = .ok (.iload 4, 2) := by decide +kernel
theorem dX12_used_45 : decode cX12_used 45 = .ok (.iconst 1, 1) := by decide +kernel
theorem dX12_used_46 : decode cX12_used 46 = .ok (.if_icmp .le 5, 3) := by decide +kernel
theorem dX12_used_49 : decode cX12_used 49 = .ok (.iconst (-1), 1) := by decide +kernel
theorem dX12_used_50 : decode cX12_used 50 = .ok (.ireturn, 1) := by decide +kernel
theorem dX12_used_51 : decode cX12_used 51 = .ok (.iconst 0, 1) := by decide +kernel
theorem dX12_used_52 : decode cX12_used 52 = .ok (.istore 5, 2) := by decide +kernel
theorem dX12_used_54 : decode cX12_used 54 = .ok (.iload 5, 2) := by decide +kernel
theorem dX12_used_56 : decode cX12_used 56 = .ok (.bipush 100, 2) := by decide +kernel
theorem dX12_used_58 : decode cX12_used 58 = .ok (.if_icmp .gt 17, 3) := by decide +kernel
theorem dX12_used_61 : decode cX12_used 61 = .ok (.aload_n 0, 1) := by decide +kernel
theorem dX12_used_62 : decode cX12_used 62 = .ok (.getfield 145, 3) := by decide +kernel
theorem dX12_used_65 : decode cX12_used 65 = .ok (.iload 5, 2) := by decide +kernel
theorem dX12_used_67 : decode cX12_used 67 = .ok (.lconst 0, 1) := by decide +kernel
theorem dX12_used_68 : decode cX12_used 68 = .ok (.lastore, 1) := by decide +kernel
theorem dX12_used_69 : decode cX12_used 69 = .ok (.iinc 5 1, 3) := by decide +kernel
theorem dX12_used_72 : decode cX12_used 72 = .ok (.goto (-18), 3) := by decide +kernel
theorem dX12_used_75 : decode cX12_used 75 = .ok (.iconst 1, 1) := by decide +kernel
theorem dX12_used_76 : decode cX12_used 76 = .ok (.istore 5, 2) := by decide +kernel
theorem dX12_used_78 : decode cX12_used 78 = .ok (.iload 5, 2) := by decide +kernel
theorem dX12_used_80 : decode cX12_used 80 = .ok (.iload_n 2, 1) := by decide +kernel
theorem dX12_used_81 : decode cX12_used 81 = .ok (.if_icmp .ge 70, 3) := by decide +kernel
theorem dX12_used_84 : decode cX12_used 84 = .ok (.iconst 0, 1) := by decide +kernel
theorem dX12_used_85 : decode cX12_used 85 = .ok (.istore 6, 2) := by decide +kernel
theorem dX12_used_87 : decode cX12_used 87 = .ok (.iload 6, 2) := by decide +kernel
theorem dX12_used_89 : decode cX12_used 89 = .ok (.bipush 100, 2) := by decide +kernel
theorem dX12_used_91 : decode cX12_used 91 = .ok (.if_icmp .gt 24, 3) := by decide +kernel
theorem dX12_used_94 : decode cX12_used 94 = .ok (.aload_n 0, 1) := by decide +kernel
theorem dX12_used_95 : decode cX12_used 95 = .ok (.getfield 142, 3) := by decide +kernel
theorem dX12_used_98 : decode cX12_used 98 = .ok (.iload 6, 2) := by decide +kernel
theorem dX12_used_100 : decode cX12_used 100 = .ok (.aload_n 0, 1) := by decide +kernel
theorem dX12_used_101 : decode cX12_used 101 = .ok (.iload_n 1, 1) := by decide +kernel
theorem dX12_used_102 : decode cX12_used 102 = .ok (.iload 6, 2) := by decide +kernel
theorem dX12_used_104 : decode cX12_used 104 = .ok (.iload_n 3, 1) := by decide +kernel
theorem dX12_used_105 : decode cX12_used 105 = .ok (.invokevirtual 658, 3) := by decide +kernel
theorem dX12_used_108 : decode cX12_used 108 = .ok (.lastore, 1) := by decide +kernel
theorem dX12_used_109 : decode cX12_used 109 = .ok (.iinc 6 1, 3) := by decide +kernel
theorem dX12_used_112 : decode cX12_used 112 = .ok (.goto (-25), 3) := by decide +kernel
theorem dX12_used_115 : decode cX12_used 115 = .ok (.iconst 0, 1) := by decide +kernel
theorem dX12_used_116 : decode cX12_used 116 = .ok (.istore 6, 2) := by decide +kernel
theorem dX12_used_118 : decode cX12_used 118 = .ok (.iload 6, 2) := by decide +kernel
theorem dX12_used_120 : decode cX12_used 120 = .ok (.bipush 100, 2) := by decide +kernel
theorem dX12_used_122 : decode cX12_used 122 = .ok (.if_icmp .gt 23, 3) := by decide +kernel
theorem dX12_used_125 : decode cX12_used 125 = .ok (.aload_n 0, 1) := by decide +kernel
theorem dX12_used_126 : decode cX12_used 126 = .ok (.getfield 145, 3) := by decide +kernel
theorem dX12_used_129 : decode cX12_used 129 = .ok (.iload 6, 2) := by decide +kernel
theorem dX12_used_131 : decode cX12_used 131 = .ok (.aload_n 0, 1) := by decide +kernel
theorem dX12_used_132 : decode cX12_used 132 = .ok (.getfield 142, 3) := by decide +kernel
theorem dX12_used_135 : decode cX12_used 135 = .ok (.iload 6, 2) := by decide +kernel
theorem dX12_used_137 : decode cX12_used 137 = .ok (.laload, 1) := by decide +kernel
theorem dX12_used_138 : decode cX12_used 138 = .ok (.lastore, 1) := by decide +kernel
theorem dX12_used_139 : decode cX12_used 139 = .ok (.iinc 6 1, 3) := by decide +kernel
theorem dX12_used_142 : decode cX12_used 142 = .ok (.goto (-24), 3) := by decide +kernel
theorem dX12_used_145 : decode cX12_used 145 = .ok (.iinc 5 1, 3) := by decide +kernel
theorem dX12_used_148 : decode cX12_used 148 = .ok (.goto (-70), 3) := by decide +kernel
theorem dX12_used_151 : decode cX12_used 151 = .ok (.aload_n 0, 1) := by decide +kernel
theorem dX12_used_152 : decode cX12_used 152 = .ok (.iload_n 1, 1) := by decide +kernel
theorem dX12_used_153 : decode cX12_used 153 = .ok (.aload_n 0, 1) := by decide +kernel
theorem dX12_used_154 : decode cX12_used 154 = .ok (.getfield 84, 3) := by decide +kernel
theorem dX12_used_157 : decode cX12_used 157 = .ok (.iload_n 1, 1) := by decide +kernel
theorem dX12_used_158 : decode cX12_used 158 = .ok (.iaload, 1) := by decide +kernel
theorem dX12_used_159 : decode cX12_used 159 = .ok (.iload_n 3, 1) := by decide +kernel
theorem dX12_used_160 : decode cX12_used 160 = .ok (.invokevirtual 658, 3) := by decide +kernel
theorem dX12_used_163 : decode cX12_used 163 = .ok (.lstore 5, 2) := by decide +kernel
theorem dX12_used_165 : decode cX12_used 165 = .ok (.iload 4, 2) := by decide +kernel
theorem dX12_used_167 : decode cX12_used 167 = .ok (.ifCond .ne 10, 3) := by decide +kernel
theorem dX12_used_170 : decode cX12_used 170 = .ok (.aload_n 0, 1) := by decide +kernel
theorem dX12_used_171 : decode cX12_used 171 = .ok (.getfield 655, 3) := by decide +kernel
theorem dX12_used_174 : decode cX12_used 174 = .ok (.goto 6, 3) := by decide +kernel
theorem dX12_used_177 : decode cX12_used 177 = .ok (.lload 5, 2) := by decide +kernel
theorem dX12_used_179 : decode cX12_used 179 = .ok (.l2i, 1) := by decide +kernel
theorem dX12_used_180 : decode cX12_used 180 = .ok (.ireturn, 1) := by decide +kernel
theorem dX12_lift_0 : decode cX12_lift 0 = .ok (.aload_n 0, 1) := by decide +kernel
theorem dX12_lift_1 : decode cX12_lift 1 = .ok (.iload_n 1, 1) := by decide +kernel
theorem dX12_lift_2 : decode cX12_lift 2 = .ok (.invokevirtual 568, 3) := by decide +kernel
theorem dX12_lift_5 : decode cX12_lift 5 = .ok (.ifCond .eq 16, 3) := by decide +kernel
theorem dX12_lift_8 : decode cX12_lift 8 = .ok (.aload_n 0, 1) := by decide +kernel
theorem dX12_lift_9 : decode cX12_lift 9 = .ok (.iload_n 2, 1) := by decide +kernel
theorem dX12_lift_10 : decode cX12_lift 10 = .ok (.invokevirtual 568, 3) := by decide +kernel
theorem dX12_lift_13 : decode cX12_lift 13 = .ok (.ifCond .eq 8, 3) := by decide +kernel
theorem dX12_lift_16 : decode cX12_lift 16 = .ok (.iload_n 1, 1) := by decide +kernel
theorem dX12_lift_17 : decode cX12_lift 17 = .ok (.iload_n 2, 1) := by decide +kernel
theorem dX12_lift_18 : decode cX12_lift 18 = .ok (.if_icmp .ne 5, 3) := by decide +kernel
theorem dX12_lift_21 : decode cX12_lift 21 = .ok (.iconst (-1), 1) := by decide +kernel
theorem dX12_lift_22 : decode cX12_lift 22 = .ok (.ireturn, 1) := by decide +kernel
theorem dX12_lift_23 : decode cX12_lift 23 = .ok (.iconst 0, 1) := by decide +kernel
theorem dX12_lift_24 : decode cX12_lift 24 = .ok (.istore_n 3, 1) := by decide +kernel
theorem dX12_lift_25 : decode cX12_lift 25 = .ok (.iconst 0, 1) := by decide +kernel
theorem dX12_lift_26 : decode cX12_lift 26 = .ok (.istore 4, 2) := by decide +kernel
theorem dX12_lift_28 : decode cX12_lift 28 = .ok (.iload 4, 2) := by decide +kernel
theorem dX12_lift_30 : decode cX12_lift 30 = .ok (.aload_n 0, 1) := by decide +kernel
theorem dX12_lift_31 : decode cX12_lift 31 = .ok (.getfield 437, 3) := by decide +kernel
theorem dX12_lift_34 : decode cX12_lift 34 = .ok (.if_icmp .ge 68, 3) := by decide +kernel
theorem dX12_lift_37 : decode cX12_lift 37 = .ok (.iload_n 3, 1) := by decide +kernel
theorem dX12_lift_38 : decode cX12_lift 38 = .ok (.aload_n 0, 1) := by decide +kernel
theorem dX12_lift_39 : decode cX12_lift 39 = .ok (.iload 4, 2) := by decide +kernel
theorem dX12_lift_41 : decode cX12_lift 41 = .ok (.invokevirtual 499, 3) := by decide +kernel
theorem dX12_lift_44 : decode cX12_lift 44 = .ok (.aload_n 0, 1) := by decide +kernel
theorem dX12_lift_45 : decode cX12_lift 45 = .ok (.iload_n 1, 1) := by decide +kernel
theorem dX12_lift_46 : decode cX12_lift 46 = .ok (.invokevirtual 505, 3) := by decide +kernel
theorem dX12_lift_49 : decode cX12_lift 49 = .ok (.if_icmp .le 44, 3) := by decide +kernel
theorem dX12_lift_52 : decode cX12_lift 52 = .ok (.aload_n 0, 1) := by decide +kernel
theorem dX12_lift_53 : decode cX12_lift 53 = .ok (.iload 4, 2) := by decide +kernel
theorem dX12_lift_55 : decode cX12_lift 55 = .ok (.invokevirtual 499, 3) := by decide +kernel
theorem dX12_lift_58 : decode cX12_lift 58 = .ok (.aload_n 0, 1) := by decide +kernel
theorem dX12_lift_59 : decode cX12_lift 59 = .ok (.iload_n 2, 1) := by decide +kernel
theorem dX12_lift_60 : decode cX12_lift 60 = .ok (.invokevirtual 505, 3) := by decide +kernel
theorem dX12_lift_63 : decode cX12_lift 63 = .ok (.if_icmp .le 30, 3) := by decide +kernel
theorem dX12_lift_66 : decode cX12_lift 66 = .ok (.aload_n 0, 1) := by decide +kernel
theorem dX12_lift_67 : decode cX12_lift 67 = .ok (.iload 4, 2) := by decide +kernel
theorem dX12_lift_69 : decode cX12_lift 69 = .ok (.invokevirtual 499, 3) := by decide +kernel
theorem dX12_lift_72 : decode cX12_lift 72 = .ok (.aload_n 0, 1) := by decide +kernel
theorem dX12_lift_73 : decode cX12_lift 73 = .ok (.iload_n 1, 1) := by decide +kernel
theorem dX12_lift_74 : decode cX12_lift 74 = .ok (.invokevirtual 505, 3) := by decide +kernel
theorem dX12_lift_77 : decode cX12_lift 77 = .ok (.aload_n 0, 1) := by decide +kernel
theorem dX12_lift_78 : decode cX12_lift 78 = .ok (.iload_n 2, 1) := by decide +kernel
theorem dX12_lift_79 : decode cX12_lift 79 = .ok (.invokevirtual 505, 3) := by decide +kernel
theorem dX12_lift_82 : decode cX12_lift 82 = .ok (.iadd, 1) := by decide +kernel
theorem dX12_lift_83 : decode cX12_lift 83 = .ok (.if_icmp .gt 10, 3) := by decide +kernel
theorem dX12_lift_86 : decode cX12_lift 86 = .ok (.iconst 1, 1) := by decide +kernel
theorem dX12_lift_87 : decode cX12_lift 87 = .ok (.iload 4, 2) := by decide +kernel
theorem dX12_lift_89 : decode cX12_lift 89 = .ok (.ishl, 1) := by decide +kernel
theorem dX12_lift_90 : decode cX12_lift 90 = .ok (.goto 4, 3) := by decide +kernel
theorem dX12_lift_93 : decode cX12_lift 93 = .ok (.iconst 0, 1) := by decide +kernel
theorem dX12_lift_94 : decode cX12_lift 94 = .ok (.ior, 1) := by decide +kernel
theorem dX12_lift_95 : decode cX12_lift 95 = .ok (.istore_n 3, 1) := by decide +kernel
theorem dX12_lift_96 : decode cX12_lift 96 = .ok (.iinc 4 1, 3) := by decide +kernel
theorem dX12_lift_99 : decode cX12_lift 99 = .ok (.goto (-71), 3) := by decide +kernel
theorem dX12_lift_102 : decode cX12_lift 102 = .ok (.iload_n 3, 1) := by decide +kernel
theorem dX12_lift_103 : decode cX12_lift 103 = .ok (.ireturn, 1) := by decide +kernel
theorem dX12_hasThing_0 : decode cX12_hasThing 0 = .ok (.iconst 0, 1) := by decide +kernel
theorem dX12_hasThing_1 : decode cX12_hasThing 1 = .ok (.istore_n 2, 1) := by decide +kernel
theorem dX12_hasThing_2 : decode cX12_hasThing 2 = .ok (.iconst 0, 1) := by decide +kernel
theorem dX12_hasThing_3 : decode cX12_hasThing 3 = .ok (.istore_n 3, 1) := by decide +kernel
theorem dX12_hasThing_4 : decode cX12_hasThing 4 = .ok (.iload_n 3, 1) := by decide +kernel
theorem dX12_hasThing_5 : decode cX12_hasThing 5 = .ok (.aload_n 0, 1) := by decide +kernel
theorem dX12_hasThing_6 : decode cX12_hasThing 6 = .ok (.getfield 437, 3) := by decide +kernel
theorem dX12_hasThing_9 : decode cX12_hasThing 9 = .ok (.if_icmp .ge 37, 3) := by decide +kernel
theorem dX12_hasThing_12 : decode cX12_hasThing 12 = .ok (.iload_n 2, 1) := by decide +kernel
theorem dX12_hasThing_13 : decode cX12_hasThing 13 = .ok (.ifCond .ne 21, 3) := by decide +kernel
theorem dX12_hasThing_16 : decode cX12_hasThing 16 = .ok (.aload_n 0, 1) := by decide +kernel
theorem dX12_hasThing_17 : decode cX12_hasThing 17 = .ok (.iload_n 3, 1) := by decide +kernel
theorem dX12_hasThing_18 : decode cX12_hasThing 18 = .ok (.invokevirtual 502, 3) := by decide +kernel
theorem dX12_hasThing_21 : decode cX12_hasThing 21 = .ok (.iload_n 1, 1) := by decide +kernel
theorem dX12_hasThing_22 : decode cX12_hasThing 22 = .ok (.if_icmp .ne 16, 3) := by decide +kernel
theorem dX12_hasThing_25 : decode cX12_hasThing 25 = .ok (.aload_n 0, 1) := by decide +kernel
theorem dX12_hasThing_26 : decode cX12_hasThing 26 = .ok (.getfield 99, 3) := by decide +kernel
theorem dX12_hasThing_29 : decode cX12_hasThing 29 = .ok (.iload_n 3, 1) := by decide +kernel
theorem dX12_hasThing_30 : decode cX12_hasThing 30 = .ok (.baload, 1) := by decide +kernel
theorem dX12_hasThing_31 : decode cX12_hasThing 31 = .ok (.ifCond .ne 7, 3) := by decide +kernel
theorem dX12_hasThing_34 : decode cX12_hasThing 34 = .ok (.iconst 1, 1) := by decide +kernel
theorem dX12_hasThing_35 : decode cX12_hasThing 35 = .ok (.goto 4, 3) := by decide +kernel
theorem dX12_hasThing_38 : decode cX12_hasThing 38 = .ok (.iconst 0, 1) := by decide +kernel
theorem dX12_hasThing_39 : decode cX12_hasThing 39 = .ok (.istore_n 2, 1) := by decide +kernel
theorem dX12_hasThing_40 : decode cX12_hasThing 40 = .ok (.iinc 3 1, 3) := by decide +kernel
theorem dX12_hasThing_43 : decode cX12_hasThing 43 = .ok (.goto (-39), 3) := by decide +kernel
theorem dX12_hasThing_46 : decode cX12_hasThing 46 = .ok (.iload_n 2, 1) := by decide +kernel
theorem dX12_hasThing_47 : decode cX12_hasThing 47 = .ok (.ireturn, 1) := by decide +kernel
theorem dX12_tour_0 : decode cX12_tour 0 = .ok (.aload_n 0, 1) := by decide +kernel
theorem dX12_tour_1 : decode cX12_tour 1 = .ok (.iload_n 1, 1) := by decide +kernel
theorem dX12_tour_2 : decode cX12_tour 2 = .ok (.invokevirtual 568, 3) := by decide +kernel
theorem dX12_tour_5 : decode cX12_tour 5 = .ok (.ifCond .ne 5, 3) := by decide +kernel
theorem dX12_tour_8 : decode cX12_tour 8 = .ok (.iconst (-1), 1) := by decide +kernel
theorem dX12_tour_9 : decode cX12_tour 9 = .ok (.ireturn, 1) := by decide +kernel
theorem dX12_tour_10 : decode cX12_tour 10 = .ok (.iconst 0, 1) := by decide +kernel
theorem dX12_tour_11 : decode cX12_tour 11 = .ok (.istore_n 2, 1) := by decide +kernel
theorem dX12_tour_12 : decode cX12_tour 12 = .ok (.iconst 0, 1) := by decide +kernel
theorem dX12_tour_13 : decode cX12_tour 13 = .ok (.istore_n 3, 1) := by decide +kernel
theorem dX12_tour_14 : decode cX12_tour 14 = .ok (.iload_n 3, 1) := by decide +kernel
theorem dX12_tour_15 : decode cX12_tour 15 = .ok (.bipush 60, 2) := by decide +kernel
theorem dX12_tour_17 : decode cX12_tour 17 = .ok (.if_icmp .ge 207, 3) := by decide +kernel
theorem dX12_tour_20 : decode cX12_tour 20 = .ok (.iconst 0, 1) := by decide +kernel
theorem dX12_tour_21 : decode cX12_tour 21 = .ok (.istore 4, 2) := by decide +kernel
theorem dX12_tour_23 : decode cX12_tour 23 = .ok (.iload 4, 2) := by decide +kernel
theorem dX12_tour_25 : decode cX12_tour 25 = .ok (.aload_n 0, 1) := by decide +kernel
theorem dX12_tour_26 : decode cX12_tour 26 = .ok (.getfield 431, 3) := by decide +kernel
theorem dX12_tour_29 : decode cX12_tour 29 = .ok (.if_icmp .ge 189, 3) := by decide +kernel
theorem dX12_tour_32 : decode cX12_tour 32 = .ok (.aload_n 0, 1) := by decide +kernel
theorem dX12_tour_33 : decode cX12_tour 33 = .ok (.getfield 66, 3) := by decide +kernel
theorem dX12_tour_36 : decode cX12_tour 36 = .ok (.iload 4, 2) := by decide +kernel
theorem dX12_tour_38 : decode cX12_tour 38 = .ok (.iaload, 1) := by decide +kernel
theorem dX12_tour_39 : decode cX12_tour 39 = .ok (.iload_n 3, 1) := by decide +kernel
theorem dX12_tour_40 : decode cX12_tour 40 = .ok (.if_icmp .eq 6, 3) := by decide +kernel
theorem dX12_tour_43 : decode cX12_tour 43 = .ok (.goto 169, 3) := by decide +kernel
theorem dX12_tour_46 : decode cX12_tour 46 = .ok (.aload_n 0, 1) := by decide +kernel
theorem dX12_tour_47 : decode cX12_tour 47 = .ok (.getfield 148, 3) := by decide +kernel
theorem dX12_tour_50 : decode cX12_tour 50 = .ok (.iload 4, 2) := by decide +kernel
theorem dX12_tour_52 : decode cX12_tour 52 = .ok (.aload_n 0, 1) := by decide +kernel
theorem dX12_tour_53 : decode cX12_tour 53 = .ok (.iload 4, 2) := by decide +kernel
theorem dX12_tour_55 : decode cX12_tour 55 = .ok (.invokevirtual 662, 3) := by decide +kernel
theorem dX12_tour_58 : decode cX12_tour 58 = .ok (.ifCond .eq 26, 3) := by decide +kernel
theorem dX12_tour_61 : decode cX12_tour 61 = .ok (.aload_n 0, 1) := by decide +kernel
theorem dX12_tour_62 : decode cX12_tour 62 = .ok (.aload_n 0, 1) := by decide +kernel
theorem dX12_tour_63 : decode cX12_tour 63 = .ok (.getfield 93, 3) := by decide +kernel
theorem dX12_tour_66 : decode cX12_tour 66 = .ok (.iload_n 1, 1) := by decide +kernel
theorem dX12_tour_67 : decode cX12_tour 67 = .ok (.iaload, 1) := by decide +kernel
theorem dX12_tour_68 : decode cX12_tour 68 = .ok (.iload 4, 2) := by decide +kernel
theorem dX12_tour_70 : decode cX12_tour 70 = .ok (.invokevirtual 461, 3) := by decide +kernel
theorem dX12_tour_73 : decode cX12_tour 73 = .ok (.bipush 60, 2) := by decide +kernel
theorem dX12_tour_75 : decode cX12_tour 75 = .ok (.iload_n 3, 1) := by decide +kernel
theorem dX12_tour_76 : decode cX12_tour 76 = .ok (.iadd, 1) := by decide +kernel
theorem dX12_tour_77 : decode cX12_tour 77 = .ok (.if_icmp .gt 7, 3) := by decide +kernel
theorem dX12_tour_80 : decode cX12_tour 80 = .ok (.iconst 1, 1) := by decide +kernel
theorem dX12_tour_81 : decode cX12_tour 81 = .ok (.goto 4, 3) := by decide +kernel
theorem dX12_tour_84 : decode cX12_tour 84 = .ok (.iconst 0, 1) := by decide +kernel
theorem dX12_tour_85 : decode cX12_tour 85 = .ok (.iastore, 1) := by decide +kernel
theorem dX12_tour_86 : decode cX12_tour 86 = .ok (.iconst 0, 1) := by decide +kernel
theorem dX12_tour_87 : decode cX12_tour 87 = .ok (.istore 5, 2) := by decide +kernel
theorem dX12_tour_89 : decode cX12_tour 89 = .ok (.iload 5, 2) := by decide +kernel
theorem dX12_tour_91 : decode cX12_tour 91 = .ok (.aload_n 0, 1) := by decide +kernel
theorem dX12_tour_92 : decode cX12_tour 92 = .ok (.getfield 431, 3) := by decide +kernel
theorem dX12_tour_95 : decode cX12_tour 95 = .ok (.if_icmp .ge 94, 3) := by decide +kernel
theorem dX12_tour_98 : decode cX12_tour 98 = .ok (.aload_n 0, 1) := by decide +kernel
theorem dX12_tour_99 : decode cX12_tour 99 = .ok (.iload 4, 2) := by decide +kernel
theorem dX12_tour_101 : decode cX12_tour 101 = .ok (.invokevirtual 662, 3) := by decide +kernel
theorem dX12_tour_104 : decode cX12_tour 104 = .ok (.ifCond .eq 85, 3) := by decide +kernel
theorem dX12_tour_107 : decode cX12_tour 107 = .ok (.aload_n 0, 1) := by decide +kernel
theorem dX12_tour_108 : decode cX12_tour 108 = .ok (.getfield 66, 3) := by decide +kernel
theorem dX12_tour_111 : decode cX12_tour 111 = .ok (.iload 5, 2) := by decide +kernel
theorem dX12_tour_113 : decode cX12_tour 113 = .ok (.iaload, 1) := by decide +kernel
theorem dX12_tour_114 : decode cX12_tour 114 = .ok (.iload_n 3, 1) := by decide +kernel
theorem dX12_tour_115 : decode cX12_tour 115 = .ok (.if_icmp .ge 68, 3) := by decide +kernel
theorem dX12_tour_118 : decode cX12_tour 118 = .ok (.aload_n 0, 1) := by decide +kernel
theorem dX12_tour_119 : decode cX12_tour 119 = .ok (.getfield 148, 3) := by decide +kernel
theorem dX12_tour_122 : decode cX12_tour 122 = .ok (.iload 5, 2) := by decide +kernel
theorem dX12_tour_124 : decode cX12_tour 124 = .ok (.iaload, 1) := by decide +kernel
theorem dX12_tour_125 : decode cX12_tour 125 = .ok (.ifCond .le 58, 3) := by decide +kernel
theorem dX12_tour_128 : decode cX12_tour 128 = .ok (.aload_n 0, 1) := by decide +kernel
theorem dX12_tour_129 : decode cX12_tour 129 = .ok (.iload 5, 2) := by decide +kernel
theorem dX12_tour_131 : decode cX12_tour 131 = .ok (.iload 4, 2) := by decide +kernel
theorem dX12_tour_133 : decode cX12_tour 133 = .ok (.invokevirtual 461, 3) := by decide +kernel
theorem dX12_tour_136 : decode cX12_tour 136 = .ok (.iload_n 3, 1) := by decide +kernel
theorem dX12_tour_137 : decode cX12_tour 137 = .ok (.aload_n 0, 1) := by decide +kernel
theorem dX12_tour_138 : decode cX12_tour 138 = .ok (.getfield 66, 3) := by decide +kernel
theorem dX12_tour_141 : decode cX12_tour 141 = .ok (.iload 5, 2) := by decide +kernel
theorem dX12_tour_143 : decode cX12_tour 143 = .ok (.iaload, 1) := by decide +kernel
theorem dX12_tour_144 : decode cX12_tour 144 = .ok (.isub, 1) := by decide +kernel
theorem dX12_tour_145 : decode cX12_tour 145 = .ok (.if_icmp .gt 38, 3) := by decide +kernel
theorem dX12_tour_148 : decode cX12_tour 148 = .ok (.aload_n 0, 1) := by decide +kernel
theorem dX12_tour_149 : decode cX12_tour 149 = .ok (.getfield 148, 3) := by decide +kernel
theorem dX12_tour_152 : decode cX12_tour 152 = .ok (.iload 5, 2) := by decide +kernel
theorem dX12_tour_154 : decode cX12_tour 154 = .ok (.iaload, 1) := by decide +kernel
theorem dX12_tour_155 : decode cX12_tour 155 = .ok (.iconst 1, 1) := by decide +kernel
theorem dX12_tour_156 : decode cX12_tour 156 = .ok (.iadd, 1) := by decide +kernel
theorem dX12_tour_157 : decode cX12_tour 157 = .ok (.aload_n 0, 1) := by decide +kernel
theorem dX12_tour_158 : decode cX12_tour 158 = .ok (.getfield 148, 3) := by decide +kernel
theorem dX12_tour_161 : decode cX12_tour 161 = .ok (.iload 4, 2) := by decide +kernel
theorem dX12_tour_163 : decode cX12_tour 163 = .ok (.iaload, 1) := by decide +kernel
theorem dX12_tour_164 : decode cX12_tour 164 = .ok (.if_icmp .le 19, 3) := by decide +kernel
theorem dX12_tour_167 : decode cX12_tour 167 = .ok (.aload_n 0, 1) := by decide +kernel
theorem dX12_tour_168 : decode cX12_tour 168 = .ok (.getfield 148, 3) := by decide +kernel
theorem dX12_tour_171 : decode cX12_tour 171 = .ok (.iload 4, 2) := by decide +kernel
theorem dX12_tour_173 : decode cX12_tour 173 = .ok (.aload_n 0, 1) := by decide +kernel
theorem dX12_tour_174 : decode cX12_tour 174 = .ok (.getfield 148, 3) := by decide +kernel
theorem dX12_tour_177 : decode cX12_tour 177 = .ok (.iload 5, 2) := by decide +kernel
theorem dX12_tour_179 : decode cX12_tour 179 = .ok (.iaload, 1) := by decide +kernel
theorem dX12_tour_180 : decode cX12_tour 180 = .ok (.iconst 1, 1) := by decide +kernel
theorem dX12_tour_181 : decode cX12_tour 181 = .ok (.iadd, 1) := by decide +kernel
theorem dX12_tour_182 : decode cX12_tour 182 = .ok (.iastore, 1) := by decide +kernel
theorem dX12_tour_183 : decode cX12_tour 183 = .ok (.iinc 5 1, 3) := by decide +kernel
theorem dX12_tour_186 : decode cX12_tour 186 = .ok (.goto (-97), 3) := by decide +kernel
theorem dX12_tour_189 : decode cX12_tour 189 = .ok (.aload_n 0, 1) := by decide +kernel
theorem dX12_tour_190 : decode cX12_tour 190 = .ok (.getfield 148, 3) := by decide +kernel
theorem dX12_tour_193 : decode cX12_tour 193 = .ok (.iload 4, 2) := by decide +kernel
theorem dX12_tour_195 : decode cX12_tour 195 = .ok (.iaload, 1) := by decide +kernel
theorem dX12_tour_196 : decode cX12_tour 196 = .ok (.iload_n 2, 1) := by decide +kernel
theorem dX12_tour_197 : decode cX12_tour 197 = .ok (.if_icmp .le 13, 3) := by decide +kernel
theorem dX12_tour_200 : decode cX12_tour 200 = .ok (.aload_n 0, 1) := by decide +kernel
theorem dX12_tour_201 : decode cX12_tour 201 = .ok (.getfield 148, 3) := by decide +kernel
theorem dX12_tour_204 : decode cX12_tour 204 = .ok (.iload 4, 2) := by decide +kernel
theorem dX12_tour_206 : decode cX12_tour 206 = .ok (.iaload, 1) := by decide +kernel
theorem dX12_tour_207 : decode cX12_tour 207 = .ok (.goto 4, 3) := by decide +kernel
theorem dX12_tour_210 : decode cX12_tour 210 = .ok (.iload_n 2, 1) := by decide +kernel
theorem dX12_tour_211 : decode cX12_tour 211 = .ok (.istore_n 2, 1) := by decide +kernel
theorem dX12_tour_212 : decode cX12_tour 212 = .ok (.iinc 4 1, 3) := by decide +kernel
theorem dX12_tour_215 : decode cX12_tour 215 = .ok (.goto (-192), 3) := by decide +kernel
theorem dX12_tour_218 : decode cX12_tour 218 = .ok (.iinc 3 1, 3) := by decide +kernel
theorem dX12_tour_221 : decode cX12_tour 221 = .ok (.goto (-207), 3) := by decide +kernel
theorem dX12_tour_224 : decode cX12_tour 224 = .ok (.iload_n 2, 1) := by decide +kernel
theorem dX12_tour_225 : decode cX12_tour 225 = .ok (.ireturn, 1) := by decide +kernel
theorem dX12_since_0 : decode cX12_since 0 = .ok (.aload_n 0, 1) := by decide +kernel
theorem dX12_since_1 : decode cX12_since 1 = .ok (.iload_n 1, 1) := by decide +kernel
theorem dX12_since_2 : decode cX12_since 2 = .ok (.invokevirtual 565, 3) := by decide +kernel
theorem dX12_since_5 : decode cX12_since 5 = .ok (.ifCond .eq 51, 3) := by decide +kernel
theorem dX12_since_8 : decode cX12_since 8 = .ok (.aload_n 0, 1) := by decide +kernel
theorem dX12_since_9 : decode cX12_since 9 = .ok (.getfield 81, 3) := by decide +kernel
theorem dX12_since_12 : decode cX12_since 12 = .ok (.iload_n 1, 1) := by decide +kernel
theorem dX12_since_13 : decode cX12_since 13 = .ok (.iaload, 1) := by decide +kernel
theorem dX12_since_14 : decode cX12_since 14 = .ok (.ifCond .lt 42, 3) := by decide +kernel
theorem dX12_since_17 : decode cX12_since 17 = .ok (.aload_n 0, 1) := by decide +kernel
theorem dX12_since_18 : decode cX12_since 18 = .ok (.getfield 464, 3) := by decide +kernel
theorem dX12_since_21 : decode cX12_since 21 = .ok (.ifCond .eq 35, 3) := by decide +kernel
theorem dX12_since_24 : decode cX12_since 24 = .ok (.aload_n 0, 1) := by decide +kernel
theorem dX12_since_25 : decode cX12_since 25 = .ok (.getfield 464, 3) := by decide +kernel
theorem dX12_since_28 : decode cX12_since 28 = .ok (.bipush 60, 2) := by decide +kernel
theorem dX12_since_30 : decode cX12_since 30 = .ok (.if_icmp .gt 26, 3) := by decide +kernel
theorem dX12_since_33 : decode cX12_since 33 = .ok (.aload_n 0, 1) := by decide +kernel
theorem dX12_since_34 : decode cX12_since 34 = .ok (.getfield 106, 3) := by decide +kernel
theorem dX12_since_37 : decode cX12_since 37 = .ok (.bipush 10, 2) := by decide +kernel
theorem dX12_since_39 : decode cX12_since 39 = .ok (.aload_n 0, 1) := by decide +kernel
theorem dX12_since_40 : decode cX12_since 40 = .ok (.getfield 464, 3) := by decide +kernel
theorem dX12_since_43 : decode cX12_since 43 = .ok (.imul, 1) := by decide +kernel
theorem dX12_since_44 : decode cX12_since 44 = .ok (.iload_n 1, 1) := by decide +kernel
theorem dX12_since_45 : decode cX12_since 45 = .ok (.iadd, 1) := by decide +kernel
theorem dX12_since_46 : decode cX12_since 46 = .ok (.iaload, 1) := by decide +kernel
theorem dX12_since_47 : decode cX12_since 47 = .ok (.aload_n 0, 1) := by decide +kernel
theorem dX12_since_48 : decode cX12_since 48 = .ok (.getfield 81, 3) := by decide +kernel
theorem dX12_since_51 : decode cX12_since 51 = .ok (.iload_n 1, 1) := by decide +kernel
theorem dX12_since_52 : decode cX12_since 52 = .ok (.iaload, 1) := by decide +kernel
theorem dX12_since_53 : decode cX12_since 53 = .ok (.if_icmp .eq 5, 3) := by decide +kernel
theorem dX12_since_56 : decode cX12_since 56 = .ok (.iconst (-1), 1) := by decide +kernel
theorem dX12_since_57 : decode cX12_since 57 = .ok (.ireturn, 1) := by decide +kernel
theorem dX12_since_58 : decode cX12_since 58 = .ok (.aload_n 0, 1) := by decide +kernel
theorem dX12_since_59 : decode cX12_since 59 = .ok (.getfield 464, 3) := by decide +kernel
theorem dX12_since_62 : decode cX12_since 62 = .ok (.istore_n 2, 1) := by decide +kernel
theorem dX12_since_63 : decode cX12_since 63 = .ok (.iload_n 2, 1) := by decide +kernel
theorem dX12_since_64 : decode cX12_since 64 = .ok (.iconst 1, 1) := by decide +kernel
theorem dX12_since_65 : decode cX12_since 65 = .ok (.if_icmp .le 31, 3) := by decide +kernel
theorem dX12_since_68 : decode cX12_since 68 = .ok (.aload_n 0, 1) := by decide +kernel
theorem dX12_since_69 : decode cX12_since 69 = .ok (.getfield 106, 3) := by decide +kernel
theorem dX12_since_72 : decode cX12_since 72 = .ok (.bipush 10, 2) := by decide +kernel
theorem dX12_since_74 : decode cX12_since 74 = .ok (.iload_n 2, 1) := by decide +kernel
theorem dX12_since_75 : decode cX12_since 75 = .ok (.iconst 1, 1) := by decide +kernel
theorem dX12_since_76 : decode cX12_since 76 = .ok (.isub, 1) := by decide +kernel
theorem dX12_since_77 : decode cX12_since 77 = .ok (.imul, 1) := by decide +kernel
theorem dX12_since_78 : decode cX12_since 78 = .ok (.iload_n 1, 1) := by decide +kernel
theorem dX12_since_79 : decode cX12_since 79 = .ok (.iadd, 1) := by decide +kernel
theorem dX12_since_80 : decode cX12_since 80 = .ok (.iaload, 1) := by decide +kernel
theorem dX12_since_81 : decode cX12_since 81 = .ok (.aload_n 0, 1) := by decide +kernel
theorem dX12_since_82 : decode cX12_since 82 = .ok (.getfield 81, 3) := by decide +kernel
theorem dX12_since_85 : decode cX12_since 85 = .ok (.iload_n 1, 1) := by decide +kernel
theorem dX12_since_86 : decode cX12_since 86 = .ok (.iaload, 1) := by decide +kernel
theorem dX12_since_87 : decode cX12_since 87 = .ok (.if_icmp .ne 9, 3) := by decide +kernel
theorem dX12_since_90 : decode cX12_since 90 = .ok (.iinc 2 (-1), 3) := by decide +kernel
theorem dX12_since_93 : decode cX12_since 93 = .ok (.goto (-30), 3) := by decide +kernel
theorem dX12_since_96 : decode cX12_since 96 = .ok (.iload_n 2, 1) := by decide +kernel
theorem dX12_since_97 : decode cX12_since 97 = .ok (.ireturn, 1) := by decide +kernel
theorem dX12_tale_0 : decode cX12_tale 0 = .ok (.iload_n 1, 1) := by decide +kernel
theorem dX12_tale_1 : decode cX12_tale 1 = .ok (.iconst 1, 1) := by decide +kernel
theorem dX12_tale_2 : decode cX12_tale 2 = .ok (.if_icmp .lt 39, 3) := by decide +kernel
theorem dX12_tale_5 : decode cX12_tale 5 = .ok (.iload_n 1, 1) := by decide +kernel
theorem dX12_tale_6 : decode cX12_tale 6 = .ok (.bipush 60, 2) := by decide +kernel
theorem dX12_tale_8 : decode cX12_tale 8 = .ok (.if_icmp .gt 33, 3) := by decide +kernel
theorem dX12_tale_11 : decode cX12_tale 11 = .ok (.aload_n 0, 1) := by decide +kernel
theorem dX12_tale_12 : decode cX12_tale 12 = .ok (.iload_n 2, 1) := by decide +kernel
theorem dX12_tale_13 : decode cX12_tale 13 = .ok (.invokevirtual 565, 3) := by decide +kernel
theorem dX12_tale_16 : decode cX12_tale 16 = .ok (.ifCond .eq 25, 3) := by decide +kernel
theorem dX12_tale_19 : decode cX12_tale 19 = .ok (.iload_n 3, 1) := by decide +kernel
theorem dX12_tale_20 : decode cX12_tale 20 = .ok (.iconst (-1), 1) := by decide +kernel
theorem dX12_tale_21 : decode cX12_tale 21 = .ok (.if_icmp .eq 11, 3) := by decide +kernel
theorem dX12_tale_24 : decode cX12_tale 24 = .ok (.aload_n 0, 1) := by decide +kernel
theorem dX12_tale_25 : decode cX12_tale 25 = .ok (.iload_n 3, 1) := by decide +kernel
theorem dX12_tale_26 : decode cX12_tale 26 = .ok (.invokevirtual 568, 3) := by decide +kernel
theorem dX12_tale_29 : decode cX12_tale 29 = .ok (.ifCond .eq 12, 3) := by decide +kernel
theorem dX12_tale_32 : decode cX12_tale 32 = .ok (.aload_n 0, 1) := by decide +kernel
theorem dX12_tale_33 : decode cX12_tale 33 = .ok (.getfield 455, 3) := by decide +kernel
theorem dX12_tale_36 : decode cX12_tale 36 = .ok (.bipush 40, 2) := by decide +kernel
theorem dX12_tale_38 : decode cX12_tale 38 = .ok (.if_icmp .ne 5, 3) := by decide +kernel
theorem dX12_tale_41 : decode cX12_tale 41 = .ok (.iconst (-1), 1) := by decide +kernel
theorem dX12_tale_42 : decode cX12_tale 42 = .ok (.ireturn, 1) := by decide +kernel
theorem dX12_tale_43 : decode cX12_tale 43 = .ok (.aload_n 0, 1) := by decide +kernel
theorem dX12_tale_44 : decode cX12_tale 44 = .ok (.getfield 151, 3) := by decide +kernel
theorem dX12_tale_47 : decode cX12_tale 47 = .ok (.aload_n 0, 1) := by decide +kernel
theorem dX12_tale_48 : decode cX12_tale 48 = .ok (.getfield 455, 3) := by decide +kernel
theorem dX12_tale_51 : decode cX12_tale 51 = .ok (.iload_n 1, 1) := by decide +kernel
theorem dX12_tale_52 : decode cX12_tale 52 = .ok (.iastore, 1) := by decide +kernel
theorem dX12_tale_53 : decode cX12_tale 53 = .ok (.aload_n 0, 1) := by decide +kernel
theorem dX12_tale_54 : decode cX12_tale 54 = .ok (.getfield 154, 3) := by decide +kernel
theorem dX12_tale_57 : decode cX12_tale 57 = .ok (.aload_n 0, 1) := by decide +kernel
theorem dX12_tale_58 : decode cX12_tale 58 = .ok (.getfield 455, 3) := by decide +kernel
theorem dX12_tale_61 : decode cX12_tale 61 = .ok (.iload_n 2, 1) := by decide +kernel
theorem dX12_tale_62 : decode cX12_tale 62 = .ok (.iastore, 1) := by decide +kernel
theorem dX12_tale_63 : decode cX12_tale 63 = .ok (.aload_n 0, 1) := by decide +kernel
theorem dX12_tale_64 : decode cX12_tale 64 = .ok (.getfield 157, 3) := by decide +kernel
theorem dX12_tale_67 : decode cX12_tale 67 = .ok (.aload_n 0, 1) := by decide +kernel
theorem dX12_tale_68 : decode cX12_tale 68 = .ok (.getfield 455, 3) := by decide +kernel
theorem dX12_tale_71 : decode cX12_tale 71 = .ok (.iload_n 3, 1) := by decide +kernel
theorem dX12_tale_72 : decode cX12_tale 72 = .ok (.iastore, 1) := by decide +kernel
theorem dX12_tale_73 : decode cX12_tale 73 = .ok (.aload_n 0, 1) := by decide +kernel
theorem dX12_tale_74 : decode cX12_tale 74 = .ok (.getfield 160, 3) := by decide +kernel
theorem dX12_tale_77 : decode cX12_tale 77 = .ok (.aload_n 0, 1) := by decide +kernel
theorem dX12_tale_78 : decode cX12_tale 78 = .ok (.getfield 455, 3) := by decide +kernel
theorem dX12_tale_81 : decode cX12_tale 81 = .ok (.aload_n 0, 1) := by decide +kernel
theorem dX12_tale_82 : decode cX12_tale 82 = .ok (.getfield 665, 3) := by decide +kernel
theorem dX12_tale_85 : decode cX12_tale 85 = .ok (.iastore, 1) := by decide +kernel
theorem dX12_tale_86 : decode cX12_tale 86 = .ok (.aload_n 0, 1) := by decide +kernel
theorem dX12_tale_87 : decode cX12_tale 87 = .ok (.getfield 163, 3) := by decide +kernel
theorem dX12_tale_90 : decode cX12_tale 90 = .ok (.aload_n 0, 1) := by decide +kernel
theorem dX12_tale_91 : decode cX12_tale 91 = .ok (.getfield 455, 3) := by decide +kernel
theorem dX12_tale_94 : decode cX12_tale 94 = .ok (.iconst (-1), 1) := by decide +kernel
theorem dX12_tale_95 : decode cX12_tale 95 = .ok (.iastore, 1) := by decide +kernel
theorem dX12_tale_96 : decode cX12_tale 96 = .ok (.aload_n 0, 1) := by decide +kernel
theorem dX12_tale_97 : decode cX12_tale 97 = .ok (.dup, 1) := by decide +kernel
theorem dX12_tale_98 : decode cX12_tale 98 = .ok (.getfield 455, 3) := by decide +kernel
theorem dX12_tale_101 : decode cX12_tale 101 = .ok (.iconst 1, 1) := by decide +kernel
theorem dX12_tale_102 : decode cX12_tale 102 = .ok (.iadd, 1) := by decide +kernel
theorem dX12_tale_103 : decode cX12_tale 103 = .ok (.putfield 455, 3) := by decide +kernel
theorem dX12_tale_106 : decode cX12_tale 106 = .ok (.aload_n 0, 1) := by decide +kernel
theorem dX12_tale_107 : decode cX12_tale 107 = .ok (.getfield 455, 3) := by decide +kernel
theorem dX12_tale_110 : decode cX12_tale 110 = .ok (.iconst 1, 1) := by decide +kernel
theorem dX12_tale_111 : decode cX12_tale 111 = .ok (.isub, 1) := by decide +kernel
theorem dX12_tale_112 : decode cX12_tale 112 = .ok (.ireturn, 1) := by decide +kernel
theorem dX12_untell_0 : decode cX12_untell 0 = .ok (.iload_n 1, 1) := by decide +kernel
theorem dX12_untell_1 : decode cX12_untell 1 = .ok (.ifCond .lt 20, 3) := by decide +kernel
theorem dX12_untell_4 : decode cX12_untell 4 = .ok (.iload_n 1, 1) := by decide +kernel
theorem dX12_untell_5 : decode cX12_untell 5 = .ok (.aload_n 0, 1) := by decide +kernel
theorem dX12_untell_6 : decode cX12_untell 6 = .ok (.getfield 455, 3) := by decide +kernel
theorem dX12_untell_9 : decode cX12_untell 9 = .ok (.if_icmp .ge 12, 3) := by decide +kernel
theorem dX12_untell_12 : decode cX12_untell 12 = .ok (.aload_n 0, 1) := by decide +kernel
theorem dX12_untell_13 : decode cX12_untell 13 = .ok (.getfield 163, 3) := by decide +kernel
theorem dX12_untell_16 : decode cX12_untell 16 = .ok (.iload_n 1, 1) := by decide +kernel
theorem dX12_untell_17 : decode cX12_untell 17 = .ok (.iaload, 1) := by decide +kernel
theorem dX12_untell_18 : decode cX12_untell 18 = .ok (.ifCond .lt 5, 3) := by decide +kernel
theorem dX12_untell_21 : decode cX12_untell 21 = .ok (.iconst 0, 1) := by decide +kernel
theorem dX12_untell_22 : decode cX12_untell 22 = .ok (.ireturn, 1) := by decide +kernel
theorem dX12_untell_23 : decode cX12_untell 23 = .ok (.aload_n 0, 1) := by decide +kernel
theorem dX12_untell_24 : decode cX12_untell 24 = .ok (.getfield 163, 3) := by decide +kernel
theorem dX12_untell_27 : decode cX12_untell 27 = .ok (.iload_n 1, 1) := by decide +kernel
theorem dX12_untell_28 : decode cX12_untell 28 = .ok (.aload_n 0, 1) := by decide +kernel
theorem dX12_untell_29 : decode cX12_untell 29 = .ok (.getfield 665, 3) := by decide +kernel
theorem dX12_untell_32 : decode cX12_untell 32 = .ok (.iastore, 1) := by decide +kernel
theorem dX12_untell_33 : decode cX12_untell 33 = .ok (.iconst 1, 1) := by decide +kernel
theorem dX12_untell_34 : decode cX12_untell 34 = .ok (.ireturn, 1) := by decide +kernel
theorem dX12_later_0 : decode cX12_later 0 = .ok (.iload_n 1, 1) := by decide +kernel
theorem dX12_later_1 : decode cX12_later 1 = .ok (.ifCond .lt 22, 3) := by decide +kernel
theorem dX12_later_4 : decode cX12_later 4 = .ok (.iload_n 1, 1) := by decide +kernel
theorem dX12_later_5 : decode cX12_later 5 = .ok (.sipush 1000, 3) := by decide +kernel
theorem dX12_later_8 : decode cX12_later 8 = .ok (.if_icmp .gt 15, 3) := by decide +kernel
theorem dX12_later_11 : decode cX12_later 11 = .ok (.aload_n 0, 1) := by decide +kernel
theorem dX12_later_12 : decode cX12_later 12 = .ok (.getfield 665, 3) := by decide +kernel
theorem dX12_later_15 : decode cX12_later 15 = .ok (.iload_n 1, 1) := by decide +kernel
theorem dX12_later_16 : decode cX12_later 16 = .ok (.iadd, 1) := by decide +kernel
theorem dX12_later_17 : decode cX12_later 17 = .ok (.ldc_w 668, 3) := by decide +kernel
theorem dX12_later_20 : decode cX12_later 20 = .ok (.if_icmp .le 5, 3) := by decide +kernel
theorem dX12_later_23 : decode cX12_later 23 = .ok (.iconst (-1), 1) := by decide +kernel
theorem dX12_later_24 : decode cX12_later 24 = .ok (.ireturn, 1) := by decide +kernel
theorem dX12_later_25 : decode cX12_later 25 = .ok (.aload_n 0, 1) := by decide +kernel
theorem dX12_later_26 : decode cX12_later 26 = .ok (.dup, 1) := by decide +kernel
theorem dX12_later_27 : decode cX12_later 27 = .ok (.getfield 665, 3) := by decide +kernel
theorem dX12_later_30 : decode cX12_later 30 = .ok (.iload_n 1, 1) := by decide +kernel
theorem dX12_later_31 : decode cX12_later 31 = .ok (.iadd, 1) := by decide +kernel
theorem dX12_later_32 : decode cX12_later 32 = .ok (.putfield 665, 3) := by decide +kernel
theorem dX12_later_35 : decode cX12_later 35 = .ok (.aload_n 0, 1) := by decide +kernel
theorem dX12_later_36 : decode cX12_later 36 = .ok (.getfield 665, 3) := by decide +kernel
theorem dX12_later_39 : decode cX12_later 39 = .ok (.ireturn, 1) := by decide +kernel
theorem dX12_counts_0 : decode cX12_counts 0 = .ok (.aload_n 0, 1) := by decide +kernel
theorem dX12_counts_1 : decode cX12_counts 1 = .ok (.getfield 160, 3) := by decide +kernel
theorem dX12_counts_4 : decode cX12_counts 4 = .ok (.iload_n 1, 1) := by decide +kernel
theorem dX12_counts_5 : decode cX12_counts 5 = .ok (.iaload, 1) := by decide +kernel
theorem dX12_counts_6 : decode cX12_counts 6 = .ok (.iload_n 2, 1) := by decide +kernel
theorem dX12_counts_7 : decode cX12_counts 7 = .ok (.if_icmp .gt 26, 3) := by decide +kernel
theorem dX12_counts_10 : decode cX12_counts 10 = .ok (.aload_n 0, 1) := by decide +kernel
theorem dX12_counts_11 : decode cX12_counts 11 = .ok (.getfield 163, 3) := by decide +kernel
theorem dX12_counts_14 : decode cX12_counts 14 = .ok (.iload_n 1, 1) := by decide +kernel
theorem dX12_counts_15 : decode cX12_counts 15 = .ok (.iaload, 1) := by decide +kernel
theorem dX12_counts_16 : decode cX12_counts 16 = .ok (.ifCond .lt 13, 3) := by decide +kernel
theorem dX12_counts_19 : decode cX12_counts 19 = .ok (.aload_n 0, 1) := by decide +kernel
theorem dX12_counts_20 : decode cX12_counts 20 = .ok (.getfield 163, 3) := by decide +kernel
theorem dX12_counts_23 : decode cX12_counts 23 = .ok (.iload_n 1, 1) := by decide +kernel
theorem dX12_counts_24 : decode cX12_counts 24 = .ok (.iaload, 1) := by decide +kernel
theorem dX12_counts_25 : decode cX12_counts 25 = .ok (.iload_n 2, 1) := by decide +kernel
theorem dX12_counts_26 : decode cX12_counts 26 = .ok (.if_icmp .le 7, 3) := by decide +kernel
theorem dX12_counts_29 : decode cX12_counts 29 = .ok (.iconst 1, 1) := by decide +kernel
theorem dX12_counts_30 : decode cX12_counts 30 = .ok (.goto 4, 3) := by decide +kernel
theorem dX12_counts_33 : decode cX12_counts 33 = .ok (.iconst 0, 1) := by decide +kernel
theorem dX12_counts_34 : decode cX12_counts 34 = .ok (.ireturn, 1) := by decide +kernel
theorem dX12_isFalse_0 : decode cX12_isFalse 0 = .ok (.aload_n 0, 1) := by decide +kernel
theorem dX12_isFalse_1 : decode cX12_isFalse 1 = .ok (.getfield 151, 3) := by decide +kernel
theorem dX12_isFalse_4 : decode cX12_isFalse 4 = .ok (.iload_n 1, 1) := by decide +kernel
theorem dX12_isFalse_5 : decode cX12_isFalse 5 = .ok (.iaload, 1) := by decide +kernel
theorem dX12_isFalse_6 : decode cX12_isFalse 6 = .ok (.aload_n 0, 1) := by decide +kernel
theorem dX12_isFalse_7 : decode cX12_isFalse 7 = .ok (.getfield 464, 3) := by decide +kernel
theorem dX12_isFalse_10 : decode cX12_isFalse 10 = .ok (.if_icmp .gt 37, 3) := by decide +kernel
theorem dX12_isFalse_13 : decode cX12_isFalse 13 = .ok (.aload_n 0, 1) := by decide +kernel
theorem dX12_isFalse_14 : decode cX12_isFalse 14 = .ok (.getfield 106, 3) := by decide +kernel
theorem dX12_isFalse_17 : decode cX12_isFalse 17 = .ok (.bipush 10, 2) := by decide +kernel
theorem dX12_isFalse_19 : decode cX12_isFalse 19 = .ok (.aload_n 0, 1) := by decide +kernel
theorem dX12_isFalse_20 : decode cX12_isFalse 20 = .ok (.getfield 151, 3) := by decide +kernel
theorem dX12_isFalse_23 : decode cX12_isFalse 23 = .ok (.iload_n 1, 1) := by decide +kernel
theorem dX12_isFalse_24 : decode cX12_isFalse 24 = .ok (.iaload, 1) := by decide +kernel
theorem dX12_isFalse_25 : decode cX12_isFalse 25 = .ok (.imul, 1) := by decide +kernel
theorem dX12_isFalse_26 : decode cX12_isFalse 26 = .ok (.aload_n 0, 1) := by decide +kernel
theorem dX12_isFalse_27 : decode cX12_isFalse 27 = .ok (.getfield 154, 3) := by decide +kernel
theorem dX12_isFalse_30 : decode cX12_isFalse 30 = .ok (.iload_n 1, 1) := by decide +kernel
theorem dX12_isFalse_31 : decode cX12_isFalse 31 = .ok (.iaload, 1) := by decide +kernel
theorem dX12_isFalse_32 : decode cX12_isFalse 32 = .ok (.iadd, 1) := by decide +kernel
theorem dX12_isFalse_33 : decode cX12_isFalse 33 = .ok (.iaload, 1) := by decide +kernel
theorem dX12_isFalse_34 : decode cX12_isFalse 34 = .ok (.aload_n 0, 1) := by decide +kernel
theorem dX12_isFalse_35 : decode cX12_isFalse 35 = .ok (.getfield 157, 3) := by decide +kernel
theorem dX12_isFalse_38 : decode cX12_isFalse 38 = .ok (.iload_n 1, 1) := by decide +kernel
theorem dX12_isFalse_39 : decode cX12_isFalse 39 = .ok (.iaload, 1) := by decide +kernel
theorem dX12_isFalse_40 : decode cX12_isFalse 40 = .ok (.if_icmp .eq 7, 3) := by decide +kernel
theorem dX12_isFalse_43 : decode cX12_isFalse 43 = .ok (.iconst 1, 1) := by decide +kernel
theorem dX12_isFalse_44 : decode cX12_isFalse 44 = .ok (.goto 4, 3) := by decide +kernel
theorem dX12_isFalse_47 : decode cX12_isFalse 47 = .ok (.iconst 0, 1) := by decide +kernel
theorem dX12_isFalse_48 : decode cX12_isFalse 48 = .ok (.ireturn, 1) := by decide +kernel
theorem dX12_isDouble_0 : decode cX12_isDouble 0 = .ok (.iconst 0, 1) := by decide +kernel
theorem dX12_isDouble_1 : decode cX12_isDouble 1 = .ok (.istore_n 3, 1) := by decide +kernel
theorem dX12_isDouble_2 : decode cX12_isDouble 2 = .ok (.iconst 0, 1) := by decide +kernel
theorem dX12_isDouble_3 : decode cX12_isDouble 3 = .ok (.istore 4, 2) := by decide +kernel
theorem dX12_isDouble_5 : decode cX12_isDouble 5 = .ok (.iload 4, 2) := by decide +kernel
theorem dX12_isDouble_7 : decode cX12_isDouble 7 = .ok (.iload_n 1, 1) := by decide +kernel
theorem dX12_isDouble_8 : decode cX12_isDouble 8 = .ok (.if_icmp .ge 77, 3) := by decide +kernel
theorem dX12_isDouble_11 : decode cX12_isDouble 11 = .ok (.iload_n 3, 1) := by decide +kernel
theorem dX12_isDouble_12 : decode cX12_isDouble 12 = .ok (.ifCond .ne 61, 3) := by decide +kernel
theorem dX12_isDouble_15 : decode cX12_isDouble 15 = .ok (.aload_n 0, 1) := by decide +kernel
theorem dX12_isDouble_16 : decode cX12_isDouble 16 = .ok (.iload 4, 2) := by decide +kernel
theorem dX12_isDouble_18 : decode cX12_isDouble 18 = .ok (.iload_n 2, 1) := by decide +kernel
theorem dX12_isDouble_19 : decode cX12_isDouble 19 = .ok (.invokevirtual 669, 3) := by decide +kernel
theorem dX12_isDouble_22 : decode cX12_isDouble 22 = .ok (.ifCond .eq 55, 3) := by decide +kernel
theorem dX12_isDouble_25 : decode cX12_isDouble 25 = .ok (.aload_n 0, 1) := by decide +kernel
theorem dX12_isDouble_26 : decode cX12_isDouble 26 = .ok (.getfield 151, 3) := by decide +kernel
theorem dX12_isDouble_29 : decode cX12_isDouble 29 = .ok (.iload 4, 2) := by decide +kernel
theorem dX12_isDouble_31 : decode cX12_isDouble 31 = .ok (.iaload, 1) := by decide +kernel
theorem dX12_isDouble_32 : decode cX12_isDouble 32 = .ok (.aload_n 0, 1) := by decide +kernel
theorem dX12_isDouble_33 : decode cX12_isDouble 33 = .ok (.getfield 151, 3) := by decide +kernel
theorem dX12_isDouble_36 : decode cX12_isDouble 36 = .ok (.iload_n 1, 1) := by decide +kernel
theorem dX12_isDouble_37 : decode cX12_isDouble 37 = .ok (.iaload, 1) := by decide +kernel
theorem dX12_isDouble_38 : decode cX12_isDouble 38 = .ok (.if_icmp .ne 39, 3) := by decide +kernel
theorem dX12_isDouble_41 : decode cX12_isDouble 41 = .ok (.aload_n 0, 1) := by decide +kernel
theorem dX12_isDouble_42 : decode cX12_isDouble 42 = .ok (.getfield 154, 3) := by decide +kernel
theorem dX12_isDouble_45 : decode cX12_isDouble 45 = .ok (.iload 4, 2) := by decide +kernel
theorem dX12_isDouble_47 : decode cX12_isDouble 47 = .ok (.iaload, 1) := by decide +kernel
theorem dX12_isDouble_48 : decode cX12_isDouble 48 = .ok (.aload_n 0, 1) := by decide +kernel
theorem dX12_isDouble_49 : decode cX12_isDouble 49 = .ok (.getfield 154, 3) := by decide +kernel
theorem dX12_isDouble_52 : decode cX12_isDouble 52 = .ok (.iload_n 1, 1) := by decide +kernel
theorem dX12_isDouble_53 : decode cX12_isDouble 53 = .ok (.iaload, 1) := by decide +kernel
theorem dX12_isDouble_54 : decode cX12_isDouble 54 = .ok (.if_icmp .ne 23, 3) := by decide +kernel
theorem dX12_isDouble_57 : decode cX12_isDouble 57 = .ok (.aload_n 0, 1) := by decide +kernel
theorem dX12_isDouble_58 : decode cX12_isDouble 58 = .ok (.getfield 157, 3) := by decide +kernel
theorem dX12_isDouble_61 : decode cX12_isDouble 61 = .ok (.iload 4, 2) := by decide +kernel
theorem dX12_isDouble_63 : decode cX12_isDouble 63 = .ok (.iaload, 1) := by decide +kernel
theorem dX12_isDouble_64 : decode cX12_isDouble 64 = .ok (.aload_n 0, 1) := by decide +kernel
theorem dX12_isDouble_65 : decode cX12_isDouble 65 = .ok (.getfield 157, 3) := by decide +kernel
theorem dX12_isDouble_68 : decode cX12_isDouble 68 = .ok (.iload_n 1, 1) := by decide +kernel
theorem dX12_isDouble_69 : decode cX12_isDouble 69 = .ok (.iaload, 1) := by decide +kernel
theorem dX12_isDouble_70 : decode cX12_isDouble 70 = .ok (.if_icmp .eq 7, 3) := by decide +kernel
theorem dX12_isDouble_73 : decode cX12_isDouble 73 = .ok (.iconst 1, 1) := by decide +kernel
theorem dX12_isDouble_74 : decode cX12_isDouble 74 = .ok (.goto 4, 3) := by decide +kernel
theorem dX12_isDouble_77 : decode cX12_isDouble 77 = .ok (.iconst 0, 1) := by decide +kernel
theorem dX12_isDouble_78 : decode cX12_isDouble 78 = .ok (.istore_n 3, 1) := by decide +kernel
theorem dX12_isDouble_79 : decode cX12_isDouble 79 = .ok (.iinc 4 1, 3) := by decide +kernel
theorem dX12_isDouble_82 : decode cX12_isDouble 82 = .ok (.goto (-77), 3) := by decide +kernel
theorem dX12_isDouble_85 : decode cX12_isDouble 85 = .ok (.iload_n 3, 1) := by decide +kernel
theorem dX12_isDouble_86 : decode cX12_isDouble 86 = .ok (.ireturn, 1) := by decide +kernel
theorem dX12_judge_0 : decode cX12_judge 0 = .ok (.iload_n 1, 1) := by decide +kernel
theorem dX12_judge_1 : decode cX12_judge 1 = .ok (.ifCond .lt 8, 3) := by decide +kernel
theorem dX12_judge_4 : decode cX12_judge 4 = .ok (.iload_n 1, 1) := by decide +kernel
theorem dX12_judge_5 : decode cX12_judge 5 = .ok (.iconst 3, 1) := by decide +kernel
theorem dX12_judge_6 : decode cX12_judge 6 = .ok (.if_icmp .le 5, 3) := by decide +kernel
theorem dX12_judge_9 : decode cX12_judge 9 = .ok (.iconst (-1), 1) := by decide +kernel
theorem dX12_judge_10 : decode cX12_judge 10 = .ok (.ireturn, 1) := by decide +kernel
theorem dX12_judge_11 : decode cX12_judge 11 = .ok (.iconst 0, 1) := by decide +kernel
theorem dX12_judge_12 : decode cX12_judge 12 = .ok (.istore_n 3, 1) := by decide +kernel
theorem dX12_judge_13 : decode cX12_judge 13 = .ok (.iconst (-1), 1) := by decide +kernel
theorem dX12_judge_14 : decode cX12_judge 14 = .ok (.istore 4, 2) := by decide +kernel
theorem dX12_judge_16 : decode cX12_judge 16 = .ok (.iconst 0, 1) := by decide +kernel
theorem dX12_judge_17 : decode cX12_judge 17 = .ok (.istore 5, 2) := by decide +kernel
theorem dX12_judge_19 : decode cX12_judge 19 = .ok (.iload 5, 2) := by decide +kernel
theorem dX12_judge_21 : decode cX12_judge 21 = .ok (.aload_n 0, 1) := by decide +kernel
theorem dX12_judge_22 : decode cX12_judge 22 = .ok (.getfield 455, 3) := by decide +kernel
theorem dX12_judge_25 : decode cX12_judge 25 = .ok (.if_icmp .ge 100, 3) := by decide +kernel
theorem dX12_judge_28 : decode cX12_judge 28 = .ok (.aload_n 0, 1) := by decide +kernel
theorem dX12_judge_29 : decode cX12_judge 29 = .ok (.iload 5, 2) := by decide +kernel
theorem dX12_judge_31 : decode cX12_judge 31 = .ok (.iload_n 2, 1) := by decide +kernel
theorem dX12_judge_32 : decode cX12_judge 32 = .ok (.invokevirtual 669, 3) := by decide +kernel
theorem dX12_judge_35 : decode cX12_judge 35 = .ok (.ifCond .eq 56, 3) := by decide +kernel
theorem dX12_judge_38 : decode cX12_judge 38 = .ok (.iload_n 1, 1) := by decide +kernel
theorem dX12_judge_39 : decode cX12_judge 39 = .ok (.iconst 1, 1) := by decide +kernel
theorem dX12_judge_40 : decode cX12_judge 40 = .ok (.if_icmp .ne 20, 3) := by decide +kernel
theorem dX12_judge_43 : decode cX12_judge 43 = .ok (.aload_n 0, 1) := by decide +kernel
theorem dX12_judge_44 : decode cX12_judge 44 = .ok (.getfield 151, 3) := by decide +kernel
theorem dX12_judge_47 : decode cX12_judge 47 = .ok (.iload 5, 2) := by decide +kernel
theorem dX12_judge_49 : decode cX12_judge 49 = .ok (.iaload, 1) := by decide +kernel
theorem dX12_judge_50 : decode cX12_judge 50 = .ok (.aload_n 0, 1) := by decide +kernel
theorem dX12_judge_51 : decode cX12_judge 51 = .ok (.getfield 464, 3) := by decide +kernel
theorem dX12_judge_54 : decode cX12_judge 54 = .ok (.if_icmp .le 37, 3) := by decide +kernel
theorem dX12_judge_57 : decode cX12_judge 57 = .ok (.goto 30, 3) := by decide +kernel
theorem dX12_judge_60 : decode cX12_judge 60 = .ok (.iload_n 1, 1) := by decide +kernel
theorem dX12_judge_61 : decode cX12_judge 61 = .ok (.iconst 3, 1) := by decide +kernel
theorem dX12_judge_62 : decode cX12_judge 62 = .ok (.if_icmp .ne 16, 3) := by decide +kernel
theorem dX12_judge_65 : decode cX12_judge 65 = .ok (.aload_n 0, 1) := by decide +kernel
theorem dX12_judge_66 : decode cX12_judge 66 = .ok (.iload 5, 2) := by decide +kernel
theorem dX12_judge_68 : decode cX12_judge 68 = .ok (.iload_n 2, 1) := by decide +kernel
theorem dX12_judge_69 : decode cX12_judge 69 = .ok (.invokevirtual 672, 3) := by decide +kernel
theorem dX12_judge_72 : decode cX12_judge 72 = .ok (.ifCond .eq 19, 3) := by decide +kernel
theorem dX12_judge_75 : decode cX12_judge 75 = .ok (.goto 12, 3) := by decide +kernel
theorem dX12_judge_78 : decode cX12_judge 78 = .ok (.aload_n 0, 1) := by decide +kernel
theorem dX12_judge_79 : decode cX12_judge 79 = .ok (.iload 5, 2) := by decide +kernel
theorem dX12_judge_81 : decode cX12_judge 81 = .ok (.invokevirtual 675, 3) := by decide +kernel
theorem dX12_judge_84 : decode cX12_judge 84 = .ok (.ifCond .eq 7, 3) := by decide +kernel
theorem dX12_judge_87 : decode cX12_judge 87 = .ok (.iconst 1, 1) := by decide +kernel
theorem dX12_judge_88 : decode cX12_judge 88 = .ok (.goto 4, 3) := by decide +kernel
theorem dX12_judge_91 : decode cX12_judge 91 = .ok (.iconst 0, 1) := by decide +kernel
theorem dX12_judge_92 : decode cX12_judge 92 = .ok (.istore 6, 2) := by decide +kernel
theorem dX12_judge_94 : decode cX12_judge 94 = .ok (.iload 6, 2) := by decide +kernel
theorem dX12_judge_96 : decode cX12_judge 96 = .ok (.ifCond .ne 6, 3) := by decide +kernel
theorem dX12_judge_99 : decode cX12_judge 99 = .ok (.goto 20, 3) := by decide +kernel
theorem dX12_judge_102 : decode cX12_judge 102 = .ok (.iinc 3 1, 3) := by decide +kernel
theorem dX12_judge_105 : decode cX12_judge 105 = .ok (.iload 4, 2) := by decide +kernel
theorem dX12_judge_107 : decode cX12_judge 107 = .ok (.ifCond .ge 8, 3) := by decide +kernel
theorem dX12_judge_110 : decode cX12_judge 110 = .ok (.iload 5, 2) := by decide +kernel
theorem dX12_judge_112 : decode cX12_judge 112 = .ok (.goto 5, 3) := by decide +kernel
theorem dX12_judge_115 : decode cX12_judge 115 = .ok (.iload 4, 2) := by decide +kernel
theorem dX12_judge_117 : decode cX12_judge 117 = .ok (.istore 4, 2) := by decide +kernel
theorem dX12_judge_119 : decode cX12_judge 119 = .ok (.iinc 5 1, 3) := by decide +kernel
theorem dX12_judge_122 : decode cX12_judge 122 = .ok (.goto (-103), 3) := by decide +kernel
theorem dX12_judge_125 : decode cX12_judge 125 = .ok (.iload_n 1, 1) := by decide +kernel
theorem dX12_judge_126 : decode cX12_judge 126 = .ok (.iconst 2, 1) := by decide +kernel
theorem dX12_judge_127 : decode cX12_judge 127 = .ok (.if_icmp .ge 7, 3) := by decide +kernel
theorem dX12_judge_130 : decode cX12_judge 130 = .ok (.iload_n 3, 1) := by decide +kernel
theorem dX12_judge_131 : decode cX12_judge 131 = .ok (.goto 5, 3) := by decide +kernel
theorem dX12_judge_134 : decode cX12_judge 134 = .ok (.iload 4, 2) := by decide +kernel
theorem dX12_judge_136 : decode cX12_judge 136 = .ok (.ireturn, 1) := by decide +kernel
theorem dX12_seed_0 : decode cX12_seed 0 = .ok (.aload_n 0, 1) := by decide +kernel
theorem dX12_seed_1 : decode cX12_seed 1 = .ok (.getfield 103, 3) := by decide +kernel
theorem dX12_seed_4 : decode cX12_seed 4 = .ok (.istore_n 2, 1) := by decide +kernel
theorem dX12_seed_5 : decode cX12_seed 5 = .ok (.aload_n 0, 1) := by decide +kernel
theorem dX12_seed_6 : decode cX12_seed 6 = .ok (.iload_n 1, 1) := by decide +kernel
theorem dX12_seed_7 : decode cX12_seed 7 = .ok (.putfield 103, 3) := by decide +kernel
theorem dX12_seed_10 : decode cX12_seed 10 = .ok (.iload_n 2, 1) := by decide +kernel
theorem dX12_seed_11 : decode cX12_seed 11 = .ok (.ireturn, 1) := by decide +kernel
theorem dX12_isBox_0 : decode cX12_isBox 0 = .ok (.iload_n 0, 1) := by decide +kernel
theorem dX12_isBox_1 : decode cX12_isBox 1 = .ok (.ifCond .lt 12, 3) := by decide +kernel
theorem dX12_isBox_4 : decode cX12_isBox 4 = .ok (.iload_n 0, 1) := by decide +kernel
theorem dX12_isBox_5 : decode cX12_isBox 5 = .ok (.iconst 3, 1) := by decide +kernel
theorem dX12_isBox_6 : decode cX12_isBox 6 = .ok (.if_icmp .ge 7, 3) := by decide +kernel
theorem dX12_isBox_9 : decode cX12_isBox 9 = .ok (.iconst 1, 1) := by decide +kernel
theorem dX12_isBox_10 : decode cX12_isBox 10 = .ok (.goto 4, 3) := by decide +kernel
theorem dX12_isBox_13 : decode cX12_isBox 13 = .ok (.iconst 0, 1) := by decide +kernel
theorem dX12_isBox_14 : decode cX12_isBox 14 = .ok (.ireturn, 1) := by decide +kernel
theorem dX12_image_0 : decode cX12_image 0 = .ok (.iload_n 1, 1) := by decide +kernel
theorem dX12_image_1 : decode cX12_image 1 = .ok (.invokestatic 678, 3) := by decide +kernel
theorem dX12_image_4 : decode cX12_image 4 = .ok (.ifCond .ne 5, 3) := by decide +kernel
theorem dX12_image_7 : decode cX12_image 7 = .ok (.iconst (-1), 1) := by decide +kernel
theorem dX12_image_8 : decode cX12_image 8 = .ok (.ireturn, 1) := by decide +kernel
theorem dX12_image_9 : decode cX12_image 9 = .ok (.aload_n 0, 1) := by decide +kernel
theorem dX12_image_10 : decode cX12_image 10 = .ok (.getfield 166, 3) := by decide +kernel
theorem dX12_image_13 : decode cX12_image 13 = .ok (.iload_n 1, 1) := by decide +kernel
theorem dX12_image_14 : decode cX12_image 14 = .ok (.iconst 1, 1) := by decide +kernel
theorem dX12_image_15 : decode cX12_image 15 = .ok (.bastore, 1) := by decide +kernel
theorem dX12_image_16 : decode cX12_image 16 = .ok (.iconst 0, 1) := by decide +kernel
theorem dX12_image_17 : decode cX12_image 17 = .ok (.istore_n 2, 1) := by decide +kernel
theorem dX12_image_18 : decode cX12_image 18 = .ok (.iload_n 2, 1) := by decide +kernel
theorem dX12_image_19 : decode cX12_image 19 = .ok (.bipush 10, 2) := by decide +kernel
theorem dX12_image_21 : decode cX12_image 21 = .ok (.if_icmp .ge 89, 3) := by decide +kernel
theorem dX12_image_24 : decode cX12_image 24 = .ok (.iconst 4, 1) := by decide +kernel
theorem dX12_image_25 : decode cX12_image 25 = .ok (.bipush 10, 2) := by decide +kernel
theorem dX12_image_27 : decode cX12_image 27 = .ok (.iload_n 1, 1) := by decide +kernel
theorem dX12_image_28 : decode cX12_image 28 = .ok (.imul, 1) := by decide +kernel
theorem dX12_image_29 : decode cX12_image 29 = .ok (.iload_n 2, 1) := by decide +kernel
theorem dX12_image_30 : decode cX12_image 30 = .ok (.iadd, 1) := by decide +kernel
theorem dX12_image_31 : decode cX12_image 31 = .ok (.imul, 1) := by decide +kernel
theorem dX12_image_32 : decode cX12_image 32 = .ok (.istore_n 3, 1) := by decide +kernel
theorem dX12_image_33 : decode cX12_image 33 = .ok (.aload_n 0, 1) := by decide +kernel
theorem dX12_image_34 : decode cX12_image 34 = .ok (.getfield 172, 3) := by decide +kernel
theorem dX12_image_37 : decode cX12_image 37 = .ok (.iload_n 3, 1) := by decide +kernel
theorem dX12_image_38 : decode cX12_image 38 = .ok (.aload_n 0, 1) := by decide +kernel
theorem dX12_image_39 : decode cX12_image 39 = .ok (.getfield 81, 3) := by decide +kernel
theorem dX12_image_42 : decode cX12_image 42 = .ok (.iload_n 2, 1) := by decide +kernel
theorem dX12_image_43 : decode cX12_image 43 = .ok (.iaload, 1) := by decide +kernel
theorem dX12_image_44 : decode cX12_image 44 = .ok (.iastore, 1) := by decide +kernel
theorem dX12_image_45 : decode cX12_image 45 = .ok (.aload_n 0, 1) := by decide +kernel
theorem dX12_image_46 : decode cX12_image 46 = .ok (.getfield 172, 3) := by decide +kernel
theorem dX12_image_49 : decode cX12_image 49 = .ok (.iload_n 3, 1) := by decide +kernel
theorem dX12_image_50 : decode cX12_image 50 = .ok (.iconst 1, 1) := by decide +kernel
theorem dX12_image_51 : decode cX12_image 51 = .ok (.iadd, 1) := by decide +kernel
theorem dX12_image_52 : decode cX12_image 52 = .ok (.aload_n 0, 1) := by decide +kernel
theorem dX12_image_53 : decode cX12_image 53 = .ok (.getfield 84, 3) := by decide +kernel
theorem dX12_image_56 : decode cX12_image 56 = .ok (.iload_n 2, 1) := by decide +kernel
theorem dX12_image_57 : decode cX12_image 57 = .ok (.iaload, 1) := by decide +kernel
theorem dX12_image_58 : decode cX12_image 58 = .ok (.iastore, 1) := by decide +kernel
theorem dX12_image_59 : decode cX12_image 59 = .ok (.aload_n 0, 1) := by decide +kernel
theorem dX12_image_60 : decode cX12_image 60 = .ok (.getfield 172, 3) := by decide +kernel
theorem dX12_image_63 : decode cX12_image 63 = .ok (.iload_n 3, 1) := by decide +kernel
theorem dX12_image_64 : decode cX12_image 64 = .ok (.iconst 2, 1) := by decide +kernel
theorem dX12_image_65 : decode cX12_image 65 = .ok (.iadd, 1) := by decide +kernel
theorem dX12_image_66 : decode cX12_image 66 = .ok (.aload_n 0, 1) := by decide +kernel
theorem dX12_image_67 : decode cX12_image 67 = .ok (.getfield 87, 3) := by decide +kernel
theorem dX12_image_70 : decode cX12_image 70 = .ok (.iload_n 2, 1) := by decide +kernel
theorem dX12_image_71 : decode cX12_image 71 = .ok (.iaload, 1) := by decide +kernel
theorem dX12_image_72 : decode cX12_image 72 = .ok (.iastore, 1) := by decide +kernel
theorem dX12_image_73 : decode cX12_image 73 = .ok (.aload_n 0, 1) := by decide +kernel
theorem dX12_image_74 : decode cX12_image 74 = .ok (.getfield 172, 3) := by decide +kernel
theorem dX12_image_77 : decode cX12_image 77 = .ok (.iload_n 3, 1) := by decide +kernel
theorem dX12_image_78 : decode cX12_image 78 = .ok (.iconst 3, 1) := by decide +kernel
theorem dX12_image_79 : decode cX12_image 79 = .ok (.iadd, 1) := by decide +kernel
theorem dX12_image_80 : decode cX12_image 80 = .ok (.aload_n 0, 1) := by decide +kernel
theorem dX12_image_81 : decode cX12_image 81 = .ok (.getfield 90, 3) := by decide +kernel
theorem dX12_image_84 : decode cX12_image 84 = .ok (.iload_n 2, 1) := by decide +kernel
theorem dX12_image_85 : decode cX12_image 85 = .ok (.iaload, 1) := by decide +kernel
theorem dX12_image_86 : decode cX12_image 86 = .ok (.iastore, 1) := by decide +kernel
theorem dX12_image_87 : decode cX12_image 87 = .ok (.aload_n 0, 1) := by decide +kernel
theorem dX12_image_88 : decode cX12_image 88 = .ok (.getfield 169, 3) := by decide +kernel
theorem dX12_image_91 : decode cX12_image 91 = .ok (.bipush 10, 2) := by decide +kernel
theorem dX12_image_93 : decode cX12_image 93 = .ok (.iload_n 1, 1) := by decide +kernel
theorem dX12_image_94 : decode cX12_image 94 = .ok (.imul, 1) := by decide +kernel
theorem dX12_image_95 : decode cX12_image 95 = .ok (.iload_n 2, 1) := by decide +kernel
theorem dX12_image_96 : decode cX12_image 96 = .ok (.iadd, 1) := by decide +kernel
theorem dX12_image_97 : decode cX12_image 97 = .ok (.aload_n 0, 1) := by decide +kernel
theorem dX12_image_98 : decode cX12_image 98 = .ok (.getfield 99, 3) := by decide +kernel
theorem dX12_image_101 : decode cX12_image 101 = .ok (.iload_n 2, 1) := by decide +kernel
theorem dX12_image_102 : decode cX12_image 102 = .ok (.baload, 1) := by decide +kernel
theorem dX12_image_103 : decode cX12_image 103 = .ok (.bastore, 1) := by decide +kernel
theorem dX12_image_104 : decode cX12_image 104 = .ok (.iinc 2 1, 3) := by decide +kernel
theorem dX12_image_107 : decode cX12_image 107 = .ok (.goto (-89), 3) := by decide +kernel
theorem dX12_image_110 : decode cX12_image 110 = .ok (.iconst 0, 1) := by decide +kernel
theorem dX12_image_111 : decode cX12_image 111 = .ok (.istore_n 2, 1) := by decide +kernel
theorem dX12_image_112 : decode cX12_image 112 = .ok (.iload_n 2, 1) := by decide +kernel
theorem dX12_image_113 : decode cX12_image 113 = .ok (.bipush 6, 2) := by decide +kernel
theorem dX12_image_115 : decode cX12_image 115 = .ok (.if_icmp .ge 43, 3) := by decide +kernel
theorem dX12_image_118 : decode cX12_image 118 = .ok (.aload_n 0, 1) := by decide +kernel
theorem dX12_image_119 : decode cX12_image 119 = .ok (.getfield 175, 3) := by decide +kernel
theorem dX12_image_122 : decode cX12_image 122 = .ok (.bipush 6, 2) := by decide +kernel
theorem dX12_image_124 : decode cX12_image 124 = .ok (.iload_n 1, 1) := by decide +kernel
theorem dX12_image_125 : decode cX12_image 125 = .ok (.imul, 1) := by decide +kernel
theorem dX12_image_126 : decode cX12_image 126 = .ok (.iload_n 2, 1) := by decide +kernel
theorem dX12_image_127 : decode cX12_image 127 = .ok (.iadd, 1) := by decide +kernel
theorem dX12_image_128 : decode cX12_image 128 = .ok (.aload_n 0, 1) := by decide +kernel
theorem dX12_image_129 : decode cX12_image 129 = .ok (.getfield 93, 3) := by decide +kernel
theorem dX12_image_132 : decode cX12_image 132 = .ok (.iload_n 2, 1) := by decide +kernel
theorem dX12_image_133 : decode cX12_image 133 = .ok (.iaload, 1) := by decide +kernel
theorem dX12_image_134 : decode cX12_image 134 = .ok (.iastore, 1) := by decide +kernel
theorem dX12_image_135 : decode cX12_image 135 = .ok (.aload_n 0, 1) := by decide +kernel
theorem dX12_image_136 : decode cX12_image 136 = .ok (.getfield 178, 3) := by decide +kernel
theorem dX12_image_139 : decode cX12_image 139 = .ok (.bipush 6, 2) := by decide +kernel
theorem dX12_image_141 : decode cX12_image 141 = .ok (.iload_n 1, 1) := by decide +kernel
theorem dX12_image_142 : decode cX12_image 142 = .ok (.imul, 1) := by decide +kernel
theorem dX12_image_143 : decode cX12_image 143 = .ok (.iload_n 2, 1) := by decide +kernel
theorem dX12_image_144 : decode cX12_image 144 = .ok (.iadd, 1) := by decide +kernel
theorem dX12_image_145 : decode cX12_image 145 = .ok (.aload_n 0, 1) := by decide +kernel
theorem dX12_image_146 : decode cX12_image 146 = .ok (.getfield 96, 3) := by decide +kernel
theorem dX12_image_149 : decode cX12_image 149 = .ok (.iload_n 2, 1) := by decide +kernel
theorem dX12_image_150 : decode cX12_image 150 = .ok (.iaload, 1) := by decide +kernel
theorem dX12_image_151 : decode cX12_image 151 = .ok (.iastore, 1) := by decide +kernel
theorem dX12_image_152 : decode cX12_image 152 = .ok (.iinc 2 1, 3) := by decide +kernel
theorem dX12_image_155 : decode cX12_image 155 = .ok (.goto (-43), 3) := by decide +kernel
theorem dX12_image_158 : decode cX12_image 158 = .ok (.iconst 0, 1) := by decide +kernel
theorem dX12_image_159 : decode cX12_image 159 = .ok (.istore_n 2, 1) := by decide +kernel
theorem dX12_image_160 : decode cX12_image 160 = .ok (.iload_n 2, 1) := by decide +kernel
theorem dX12_image_161 : decode cX12_image 161 = .ok (.sipush 610, 3) := by decide +kernel
theorem dX12_image_164 : decode cX12_image 164 = .ok (.if_icmp .ge 27, 3) := by decide +kernel
theorem dX12_image_167 : decode cX12_image 167 = .ok (.aload_n 0, 1) := by decide +kernel
theorem dX12_image_168 : decode cX12_image 168 = .ok (.getfield 181, 3) := by decide +kernel
theorem dX12_image_171 : decode cX12_image 171 = .ok (.sipush 610, 3) := by decide +kernel
theorem dX12_image_174 : decode cX12_image 174 = .ok (.iload_n 1, 1) := by decide +kernel
theorem dX12_image_175 : decode cX12_image 175 = .ok (.imul, 1) := by decide +kernel
theorem dX12_image_176 : decode cX12_image 176 = .ok (.iload_n 2, 1) := by decide +kernel
theorem dX12_image_177 : decode cX12_image 177 = .ok (.iadd, 1) := by decide +kernel
theorem dX12_image_178 : decode cX12_image 178 = .ok (.aload_n 0, 1) := by decide +kernel
theorem dX12_image_179 : decode cX12_image 179 = .ok (.getfield 106, 3) := by decide +kernel
theorem dX12_image_182 : decode cX12_image 182 = .ok (.iload_n 2, 1) := by decide +kernel
theorem dX12_image_183 : decode cX12_image 183 = .ok (.iaload, 1) := by decide +kernel
theorem dX12_image_184 : decode cX12_image 184 = .ok (.iastore, 1) := by decide +kernel
theorem dX12_image_185 : decode cX12_image 185 = .ok (.iinc 2 1, 3) := by decide +kernel
theorem dX12_image_188 : decode cX12_image 188 = .ok (.goto (-28), 3) := by decide +kernel
theorem dX12_image_191 : decode cX12_image 191 = .ok (.aload_n 0, 1) := by decide +kernel
theorem dX12_image_192 : decode cX12_image 192 = .ok (.getfield 184, 3) := by decide +kernel
theorem dX12_image_195 : decode cX12_image 195 = .ok (.iload_n 1, 1) := by decide +kernel
theorem dX12_image_196 : decode cX12_image 196 = .ok (.aload_n 0, 1) := by decide +kernel
theorem dX12_image_197 : decode cX12_image 197 = .ok (.getfield 464, 3) := by decide +kernel
theorem dX12_image_200 : decode cX12_image 200 = .ok (.iastore, 1) := by decide +kernel
theorem dX12_image_201 : decode cX12_image 201 = .ok (.aload_n 0, 1) := by decide +kernel
theorem dX12_image_202 : decode cX12_image 202 = .ok (.getfield 187, 3) := by decide +kernel
theorem dX12_image_205 : decode cX12_image 205 = .ok (.iload_n 1, 1) := by decide +kernel
theorem dX12_image_206 : decode cX12_image 206 = .ok (.aload_n 0, 1) := by decide +kernel
theorem dX12_image_207 : decode cX12_image 207 = .ok (.getfield 103, 3) := by decide +kernel
theorem dX12_image_210 : decode cX12_image 210 = .ok (.iastore, 1) := by decide +kernel
theorem dX12_image_211 : decode cX12_image 211 = .ok (.aload_n 0, 1) := by decide +kernel
theorem dX12_image_212 : decode cX12_image 212 = .ok (.getfield 190, 3) := by decide +kernel
theorem dX12_image_215 : decode cX12_image 215 = .ok (.iload_n 1, 1) := by decide +kernel
theorem dX12_image_216 : decode cX12_image 216 = .ok (.aload_n 0, 1) := by decide +kernel
theorem dX12_image_217 : decode cX12_image 217 = .ok (.getfield 467, 3) := by decide +kernel
theorem dX12_image_220 : decode cX12_image 220 = .ok (.iastore, 1) := by decide +kernel
theorem dX12_image_221 : decode cX12_image 221 = .ok (.aload_n 0, 1) := by decide +kernel
theorem dX12_image_222 : decode cX12_image 222 = .ok (.getfield 464, 3) := by decide +kernel
theorem dX12_image_225 : decode cX12_image 225 = .ok (.ireturn, 1) := by decide +kernel
theorem dX12_back_0 : decode cX12_back 0 = .ok (.iload_n 1, 1) := by decide +kernel
theorem dX12_back_1 : decode cX12_back 1 = .ok (.invokestatic 678, 3) := by decide +kernel
theorem dX12_back_4 : decode cX12_back 4 = .ok (.ifCond .eq 12, 3) := by decide +kernel
theorem dX12_back_7 : decode cX12_back 7 = .ok (.aload_n 0, 1) := by decide +kernel
theorem dX12_back_8 : decode cX12_back 8 = .ok (.getfield 166, 3) := by decide +kernel
theorem dX12_back_11 : decode cX12_back 11 = .ok (.iload_n 1, 1) := by decide +kernel
theorem dX12_back_12 : decode cX12_back 12 = .ok (.baload, 1) := by decide +kernel
theorem dX12_back_13 : decode cX12_back 13 = .ok (.ifCond .ne 5, 3) := by decide +kernel
theorem dX12_back_16 : decode cX12_back 16 = .ok (.iconst (-1), 1) := by decide +kernel
theorem dX12_back_17 : decode cX12_back 17 = .ok (.ireturn, 1) := by decide +kernel
theorem dX12_back_18 : decode cX12_back 18 = .ok (.iconst 0, 1) := by decide +kernel
theorem dX12_back_19 : decode cX12_back 19 = .ok (.istore_n 2, 1) := by decide +kernel
theorem dX12_back_20 : decode cX12_back 20 = .ok (.iload_n 2, 1) := by decide +kernel
theorem dX12_back_21 : decode cX12_back 21 = .ok (.bipush 10, 2) := by decide +kernel
theorem dX12_back_23 : decode cX12_back 23 = .ok (.if_icmp .ge 89, 3) := by decide +kernel
theorem dX12_back_26 : decode cX12_back 26 = .ok (.iconst 4, 1) := by decide +kernel
theorem dX12_back_27 : decode cX12_back 27 = .ok (.bipush 10, 2) := by decide +kernel
theorem dX12_back_29 : decode cX12_back 29 = .ok (.iload_n 1, 1) := by decide +kernel
theorem dX12_back_30 : decode cX12_back 30 = .ok (.imul, 1) := by decide +kernel
theorem dX12_back_31 : decode cX12_back 31 = .ok (.iload_n 2, 1) := by decide +kernel
theorem dX12_back_32 : decode cX12_back 32 = .ok (.iadd, 1) := by decide +kernel
theorem dX12_back_33 : decode cX12_back 33 = .ok (.imul, 1) := by decide +kernel
theorem dX12_back_34 : decode cX12_back 34 = .ok (.istore_n 3, 1) := by decide +kernel
theorem dX12_back_35 : decode cX12_back 35 = .ok (.aload_n 0, 1) := by decide +kernel
theorem dX12_back_36 : decode cX12_back 36 = .ok (.getfield 81, 3) := by decide +kernel
theorem dX12_back_39 : decode cX12_back 39 = .ok (.iload_n 2, 1) := by decide +kernel
theorem dX12_back_40 : decode cX12_back 40 = .ok (.aload_n 0, 1) := by decide +kernel
theorem dX12_back_41 : decode cX12_back 41 = .ok (.getfield 172, 3) := by decide +kernel
theorem dX12_back_44 : decode cX12_back 44 = .ok (.iload_n 3, 1) := by decide +kernel
theorem dX12_back_45 : decode cX12_back 45 = .ok (.iaload, 1) := by decide +kernel
theorem dX12_back_46 : decode cX12_back 46 = .ok (.iastore, 1) := by decide +kernel
theorem dX12_back_47 : decode cX12_back 47 = .ok (.aload_n 0, 1) := by decide +kernel
theorem dX12_back_48 : decode cX12_back 48 = .ok (.getfield 84, 3) := by decide +kernel
theorem dX12_back_51 : decode cX12_back 51 = .ok (.iload_n 2, 1) := by decide +kernel
theorem dX12_back_52 : decode cX12_back 52 = .ok (.aload_n 0, 1) := by decide +kernel
theorem dX12_back_53 : decode cX12_back 53 = .ok (.getfield 172, 3) := by decide +kernel
theorem dX12_back_56 : decode cX12_back 56 = .ok (.iload_n 3, 1) := by decide +kernel
theorem dX12_back_57 : decode cX12_back 57 = .ok (.iconst 1, 1) := by decide +kernel
theorem dX12_back_58 : decode cX12_back 58 = .ok (.iadd, 1) := by decide +kernel
theorem dX12_back_59 : decode cX12_back 59 = .ok (.iaload, 1) := by decide +kernel
theorem dX12_back_60 : decode cX12_back 60 = .ok (.iastore, 1) := by decide +kernel
theorem dX12_back_61 : decode cX12_back 61 = .ok (.aload_n 0, 1) := by decide +kernel
theorem dX12_back_62 : decode cX12_back 62 = .ok (.getfield 87, 3) := by decide +kernel
theorem dX12_back_65 : decode cX12_back 65 = .ok (.iload_n 2, 1) := by decide +kernel
theorem dX12_back_66 : decode cX12_back 66 = .ok (.aload_n 0, 1) := by decide +kernel
theorem dX12_back_67 : decode cX12_back 67 = .ok (.getfield 172, 3) := by decide +kernel
theorem dX12_back_70 : decode cX12_back 70 = .ok (.iload_n 3, 1) := by decide +kernel
theorem dX12_back_71 : decode cX12_back 71 = .ok (.iconst 2, 1) := by decide +kernel
theorem dX12_back_72 : decode cX12_back 72 = .ok (.iadd, 1) := by decide +kernel
theorem dX12_back_73 : decode cX12_back 73 = .ok (.iaload, 1) := by decide +kernel
theorem dX12_back_74 : decode cX12_back 74 = .ok (.iastore, 1) := by decide +kernel
theorem dX12_back_75 : decode cX12_back 75 = .ok (.aload_n 0, 1) := by decide +kernel
theorem dX12_back_76 : decode cX12_back 76 = .ok (.getfield 90, 3) := by decide +kernel
theorem dX12_back_79 : decode cX12_back 79 = .ok (.iload_n 2, 1) := by decide +kernel
theorem dX12_back_80 : decode cX12_back 80 = .ok (.aload_n 0, 1) := by decide +kernel
theorem dX12_back_81 : decode cX12_back 81 = .ok (.getfield 172, 3) := by decide +kernel
theorem dX12_back_84 : decode cX12_back 84 = .ok (.iload_n 3, 1) := by decide +kernel
theorem dX12_back_85 : decode cX12_back 85 = .ok (.iconst 3, 1) := by decide +kernel
theorem dX12_back_86 : decode cX12_back 86 = .ok (.iadd, 1) := by decide +kernel
theorem dX12_back_87 : decode cX12_back 87 = .ok (.iaload, 1) := by decide +kernel
theorem dX12_back_88 : decode cX12_back 88 = .ok (.iastore, 1) := by decide +kernel
theorem dX12_back_89 : decode cX12_back 89 = .ok (.aload_n 0, 1) := by decide +kernel
theorem dX12_back_90 : decode cX12_back 90 = .ok (.getfield 99, 3) := by decide +kernel
theorem dX12_back_93 : decode cX12_back 93 = .ok (.iload_n 2, 1) := by decide +kernel
theorem dX12_back_94 : decode cX12_back 94 = .ok (.aload_n 0, 1) := by decide +kernel
theorem dX12_back_95 : decode cX12_back 95 = .ok (.getfield 169, 3) := by decide +kernel
theorem dX12_back_98 : decode cX12_back 98 = .ok (.bipush 10, 2) := by decide +kernel
theorem dX12_back_100 : decode cX12_back 100 = .ok (.iload_n 1, 1) := by decide +kernel
theorem dX12_back_101 : decode cX12_back 101 = .ok (.imul, 1) := by decide +kernel
theorem dX12_back_102 : decode cX12_back 102 = .ok (.iload_n 2, 1) := by decide +kernel
theorem dX12_back_103 : decode cX12_back 103 = .ok (.iadd, 1) := by decide +kernel
theorem dX12_back_104 : decode cX12_back 104 = .ok (.baload, 1) := by decide +kernel
theorem dX12_back_105 : decode cX12_back 105 = .ok (.bastore, 1) := by decide +kernel
theorem dX12_back_106 : decode cX12_back 106 = .ok (.iinc 2 1, 3) := by decide +kernel
theorem dX12_back_109 : decode cX12_back 109 = .ok (.goto (-89), 3) := by decide +kernel
theorem dX12_back_112 : decode cX12_back 112 = .ok (.iconst 0, 1) := by decide +kernel
theorem dX12_back_113 : decode cX12_back 113 = .ok (.istore_n 2, 1) := by decide +kernel
theorem dX12_back_114 : decode cX12_back 114 = .ok (.iload_n 2, 1) := by decide +kernel
theorem dX12_back_115 : decode cX12_back 115 = .ok (.bipush 6, 2) := by decide +kernel
theorem dX12_back_117 : decode cX12_back 117 = .ok (.if_icmp .ge 43, 3) := by decide +kernel
theorem dX12_back_120 : decode cX12_back 120 = .ok (.aload_n 0, 1) := by decide +kernel
theorem dX12_back_121 : decode cX12_back 121 = .ok (.getfield 93, 3) := by decide +kernel
theorem dX12_back_124 : decode cX12_back 124 = .ok (.iload_n 2, 1) := by decide +kernel
theorem dX12_back_125 : decode cX12_back 125 = .ok (.aload_n 0, 1) := by decide +kernel
theorem dX12_back_126 : decode cX12_back 126 = .ok (.getfield 175, 3) := by decide +kernel
theorem dX12_back_129 : decode cX12_back 129 = .ok (.bipush 6, 2) := by decide +kernel
theorem dX12_back_131 : decode cX12_back 131 = .ok (.iload_n 1, 1) := by decide +kernel
theorem dX12_back_132 : decode cX12_back 132 = .ok (.imul, 1) := by decide +kernel
theorem dX12_back_133 : decode cX12_back 133 = .ok (.iload_n 2, 1) := by decide +kernel
theorem dX12_back_134 : decode cX12_back 134 = .ok (.iadd, 1) := by decide +kernel
theorem dX12_back_135 : decode cX12_back 135 = .ok (.iaload, 1) := by decide +kernel
theorem dX12_back_136 : decode cX12_back 136 = .ok (.iastore, 1) := by decide +kernel
theorem dX12_back_137 : decode cX12_back 137 = .ok (.aload_n 0, 1) := by decide +kernel
theorem dX12_back_138 : decode cX12_back 138 = .ok (.getfield 96, 3) := by decide +kernel
theorem dX12_back_141 : decode cX12_back 141 = .ok (.iload_n 2, 1) := by decide +kernel
theorem dX12_back_142 : decode cX12_back 142 = .ok (.aload_n 0, 1) := by decide +kernel
theorem dX12_back_143 : decode cX12_back 143 = .ok (.getfield 178, 3) := by decide +kernel
theorem dX12_back_146 : decode cX12_back 146 = .ok (.bipush 6, 2) := by decide +kernel
theorem dX12_back_148 : decode cX12_back 148 = .ok (.iload_n 1, 1) := by decide +kernel
theorem dX12_back_149 : decode cX12_back 149 = .ok (.imul, 1) := by decide +kernel
theorem dX12_back_150 : decode cX12_back 150 = .ok (.iload_n 2, 1) := by decide +kernel
theorem dX12_back_151 : decode cX12_back 151 = .ok (.iadd, 1) := by decide +kernel
theorem dX12_back_152 : decode cX12_back 152 = .ok (.iaload, 1) := by decide +kernel
theorem dX12_back_153 : decode cX12_back 153 = .ok (.iastore, 1) := by decide +kernel
theorem dX12_back_154 : decode cX12_back 154 = .ok (.iinc 2 1, 3) := by decide +kernel
theorem dX12_back_157 : decode cX12_back 157 = .ok (.goto (-43), 3) := by decide +kernel
theorem dX12_back_160 : decode cX12_back 160 = .ok (.iconst 0, 1) := by decide +kernel
theorem dX12_back_161 : decode cX12_back 161 = .ok (.istore_n 2, 1) := by decide +kernel
theorem dX12_back_162 : decode cX12_back 162 = .ok (.iload_n 2, 1) := by decide +kernel
theorem dX12_back_163 : decode cX12_back 163 = .ok (.sipush 610, 3) := by decide +kernel
theorem dX12_back_166 : decode cX12_back 166 = .ok (.if_icmp .ge 27, 3) := by decide +kernel
theorem dX12_back_169 : decode cX12_back 169 = .ok (.aload_n 0, 1) := by decide +kernel
theorem dX12_back_170 : decode cX12_back 170 = .ok (.getfield 106, 3) := by decide +kernel
theorem dX12_back_173 : decode cX12_back 173 = .ok (.iload_n 2, 1) := by decide +kernel
theorem dX12_back_174 : decode cX12_back 174 = .ok (.aload_n 0, 1) := by decide +kernel
theorem dX12_back_175 : decode cX12_back 175 = .ok (.getfield 181, 3) := by decide +kernel
theorem dX12_back_178 : decode cX12_back 178 = .ok (.sipush 610, 3) := by decide +kernel
theorem dX12_back_181 : decode cX12_back 181 = .ok (.iload_n 1, 1) := by decide +kernel
theorem dX12_back_182 : decode cX12_back 182 = .ok (.imul, 1) := by decide +kernel
theorem dX12_back_183 : decode cX12_back 183 = .ok (.iload_n 2, 1) := by decide +kernel
theorem dX12_back_184 : decode cX12_back 184 = .ok (.iadd, 1) := by decide +kernel
theorem dX12_back_185 : decode cX12_back 185 = .ok (.iaload, 1) := by decide +kernel
theorem dX12_back_186 : decode cX12_back 186 = .ok (.iastore, 1) := by decide +kernel
theorem dX12_back_187 : decode cX12_back 187 = .ok (.iinc 2 1, 3) := by decide +kernel
theorem dX12_back_190 : decode cX12_back 190 = .ok (.goto (-28), 3) := by decide +kernel
theorem dX12_back_193 : decode cX12_back 193 = .ok (.aload_n 0, 1) := by decide +kernel
theorem dX12_back_194 : decode cX12_back 194 = .ok (.aload_n 0, 1) := by decide +kernel
theorem dX12_back_195 : decode cX12_back 195 = .ok (.getfield 184, 3) := by decide +kernel
theorem dX12_back_198 : decode cX12_back 198 = .ok (.iload_n 1, 1) := by decide +kernel
theorem dX12_back_199 : decode cX12_back 199 = .ok (.iaload, 1) := by decide +kernel
theorem dX12_back_200 : decode cX12_back 200 = .ok (.putfield 464, 3) := by decide +kernel
theorem dX12_back_203 : decode cX12_back 203 = .ok (.aload_n 0, 1) := by decide +kernel
theorem dX12_back_204 : decode cX12_back 204 = .ok (.aload_n 0, 1) := by decide +kernel
theorem dX12_back_205 : decode cX12_back 205 = .ok (.getfield 187, 3) := by decide +kernel
theorem dX12_back_208 : decode cX12_back 208 = .ok (.iload_n 1, 1) := by decide +kernel
theorem dX12_back_209 : decode cX12_back 209 = .ok (.iaload, 1) := by decide +kernel
theorem dX12_back_210 : decode cX12_back 210 = .ok (.putfield 103, 3) := by decide +kernel
theorem dX12_back_213 : decode cX12_back 213 = .ok (.aload_n 0, 1) := by decide +kernel
theorem dX12_back_214 : decode cX12_back 214 = .ok (.aload_n 0, 1) := by decide +kernel
theorem dX12_back_215 : decode cX12_back 215 = .ok (.getfield 190, 3) := by decide +kernel
theorem dX12_back_218 : decode cX12_back 218 = .ok (.iload_n 1, 1) := by decide +kernel
theorem dX12_back_219 : decode cX12_back 219 = .ok (.iaload, 1) := by decide +kernel
theorem dX12_back_220 : decode cX12_back 220 = .ok (.putfield 467, 3) := by decide +kernel
theorem dX12_back_223 : decode cX12_back 223 = .ok (.aload_n 0, 1) := by decide +kernel
theorem dX12_back_224 : decode cX12_back 224 = .ok (.getfield 464, 3) := by decide +kernel
theorem dX12_back_227 : decode cX12_back 227 = .ok (.ireturn, 1) := by decide +kernel
theorem dX12_about_0 : decode cX12_about 0 = .ok (.iload_n 1, 1) := by decide +kernel
theorem dX12_about_1 : decode cX12_about 1 = .ok (.tableswitch 114 0 10 #[59, 64, 69, 74, 79, 84, 89, 94, 99, 104, 109], 59) := by decide +kernel
theorem dX12_about_60 : decode cX12_about 60 = .ok (.aload_n 0, 1) := by decide +kernel
theorem dX12_about_61 : decode cX12_about 61 = .ok (.getfield 431, 3) := by decide +kernel
theorem dX12_about_64 : decode cX12_about 64 = .ok (.ireturn, 1) := by decide +kernel
theorem dX12_about_65 : decode cX12_about 65 = .ok (.aload_n 0, 1) := by decide +kernel
theorem dX12_about_66 : decode cX12_about 66 = .ok (.getfield 434, 3) := by decide +kernel
theorem dX12_about_69 : decode cX12_about 69 = .ok (.ireturn, 1) := by decide +kernel
theorem dX12_about_70 : decode cX12_about 70 = .ok (.aload_n 0, 1) := by decide +kernel
theorem dX12_about_71 : decode cX12_about 71 = .ok (.getfield 437, 3) := by decide +kernel
theorem dX12_about_74 : decode cX12_about 74 = .ok (.ireturn, 1) := by decide +kernel
theorem dX12_about_75 : decode cX12_about 75 = .ok (.aload_n 0, 1) := by decide +kernel
theorem dX12_about_76 : decode cX12_about 76 = .ok (.getfield 440, 3) := by decide +kernel
theorem dX12_about_79 : decode cX12_about 79 = .ok (.ireturn, 1) := by decide +kernel
theorem dX12_about_80 : decode cX12_about 80 = .ok (.aload_n 0, 1) := by decide +kernel
theorem dX12_about_81 : decode cX12_about 81 = .ok (.getfield 464, 3) := by decide +kernel
theorem dX12_about_84 : decode cX12_about 84 = .ok (.ireturn, 1) := by decide +kernel
theorem dX12_about_85 : decode cX12_about 85 = .ok (.aload_n 0, 1) := by decide +kernel
theorem dX12_about_86 : decode cX12_about 86 = .ok (.getfield 455, 3) := by decide +kernel
theorem dX12_about_89 : decode cX12_about 89 = .ok (.ireturn, 1) := by decide +kernel
theorem dX12_about_90 : decode cX12_about 90 = .ok (.aload_n 0, 1) := by decide +kernel
theorem dX12_about_91 : decode cX12_about 91 = .ok (.getfield 665, 3) := by decide +kernel
theorem dX12_about_94 : decode cX12_about 94 = .ok (.ireturn, 1) := by decide +kernel
theorem dX12_about_95 : decode cX12_about 95 = .ok (.aload_n 0, 1) := by decide +kernel
theorem dX12_about_96 : decode cX12_about 96 = .ok (.getfield 196, 3) := by decide +kernel
theorem dX12_about_99 : decode cX12_about 99 = .ok (.ireturn, 1) := by decide +kernel
theorem dX12_about_100 : decode cX12_about 100 = .ok (.aload_n 0, 1) := by decide +kernel
theorem dX12_about_101 : decode cX12_about 101 = .ok (.getfield 103, 3) := by decide +kernel
theorem dX12_about_104 : decode cX12_about 104 = .ok (.ireturn, 1) := by decide +kernel
theorem dX12_about_105 : decode cX12_about 105 = .ok (.aload_n 0, 1) := by decide +kernel
theorem dX12_about_106 : decode cX12_about 106 = .ok (.getfield 449, 3) := by decide +kernel
theorem dX12_about_109 : decode cX12_about 109 = .ok (.ireturn, 1) := by decide +kernel
theorem dX12_about_110 : decode cX12_about 110 = .ok (.aload_n 0, 1) := by decide +kernel
theorem dX12_about_111 : decode cX12_about 111 = .ok (.getfield 467, 3) := by decide +kernel
theorem dX12_about_114 : decode cX12_about 114 = .ok (.ireturn, 1) := by decide +kernel
theorem dX12_about_115 : decode cX12_about 115 = .ok (.iconst (-1), 1) := by decide +kernel
theorem dX12_about_116 : decode cX12_about 116 = .ok (.ireturn, 1) := by decide +kernel
theorem dJ6_bitCount_0f7a4_0 : decode cJ6_bitCount_0f7a4 0 = .ok (.iload_n 0, 1) := by decide +kernel
theorem dJ6_bitCount_0f7a4_1 : decode cJ6_bitCount_0f7a4 1 = .ok (.iload_n 0, 1) := by decide +kernel
theorem dJ6_bitCount_0f7a4_2 : decode cJ6_bitCount_0f7a4 2 = .ok (.iconst 1, 1) := by decide +kernel
theorem dJ6_bitCount_0f7a4_3 : decode cJ6_bitCount_0f7a4 3 = .ok (.iushr, 1) := by decide +kernel
theorem dJ6_bitCount_0f7a4_4 : decode cJ6_bitCount_0f7a4 4 = .ok (.ldc_w 265, 3) := by decide +kernel
theorem dJ6_bitCount_0f7a4_7 : decode cJ6_bitCount_0f7a4 7 = .ok (.iand, 1) := by decide +kernel
theorem dJ6_bitCount_0f7a4_8 : decode cJ6_bitCount_0f7a4 8 = .ok (.isub, 1) := by decide +kernel
theorem dJ6_bitCount_0f7a4_9 : decode cJ6_bitCount_0f7a4 9 = .ok (.istore_n 0, 1) := by decide +kernel
theorem dJ6_bitCount_0f7a4_10 : decode cJ6_bitCount_0f7a4 10 = .ok (.iload_n 0, 1) := by decide +kernel
theorem dJ6_bitCount_0f7a4_11 : decode cJ6_bitCount_0f7a4 11 = .ok (.ldc_w 266, 3) := by decide +kernel
theorem dJ6_bitCount_0f7a4_14 : decode cJ6_bitCount_0f7a4 14 = .ok (.iand, 1) := by decide +kernel
theorem dJ6_bitCount_0f7a4_15 : decode cJ6_bitCount_0f7a4 15 = .ok (.iload_n 0, 1) := by decide +kernel
theorem dJ6_bitCount_0f7a4_16 : decode cJ6_bitCount_0f7a4 16 = .ok (.iconst 2, 1) := by decide +kernel
theorem dJ6_bitCount_0f7a4_17 : decode cJ6_bitCount_0f7a4 17 = .ok (.iushr, 1) := by decide +kernel
theorem dJ6_bitCount_0f7a4_18 : decode cJ6_bitCount_0f7a4 18 = .ok (.ldc_w 266, 3) := by decide +kernel
theorem dJ6_bitCount_0f7a4_21 : decode cJ6_bitCount_0f7a4 21 = .ok (.iand, 1) := by decide +kernel
theorem dJ6_bitCount_0f7a4_22 : decode cJ6_bitCount_0f7a4 22 = .ok (.iadd, 1) := by decide +kernel
theorem dJ6_bitCount_0f7a4_23 : decode cJ6_bitCount_0f7a4 23 = .ok (.istore_n 0, 1) := by decide +kernel
theorem dJ6_bitCount_0f7a4_24 : decode cJ6_bitCount_0f7a4 24 = .ok (.iload_n 0, 1) := by decide +kernel
theorem dJ6_bitCount_0f7a4_25 : decode cJ6_bitCount_0f7a4 25 = .ok (.iload_n 0, 1) := by decide +kernel
theorem dJ6_bitCount_0f7a4_26 : decode cJ6_bitCount_0f7a4 26 = .ok (.iconst 4, 1) := by decide +kernel
theorem dJ6_bitCount_0f7a4_27 : decode cJ6_bitCount_0f7a4 27 = .ok (.iushr, 1) := by decide +kernel
theorem dJ6_bitCount_0f7a4_28 : decode cJ6_bitCount_0f7a4 28 = .ok (.iadd, 1) := by decide +kernel
theorem dJ6_bitCount_0f7a4_29 : decode cJ6_bitCount_0f7a4 29 = .ok (.ldc_w 267, 3) := by decide +kernel
theorem dJ6_bitCount_0f7a4_32 : decode cJ6_bitCount_0f7a4 32 = .ok (.iand, 1) := by decide +kernel
theorem dJ6_bitCount_0f7a4_33 : decode cJ6_bitCount_0f7a4 33 = .ok (.istore_n 0, 1) := by decide +kernel
theorem dJ6_bitCount_0f7a4_34 : decode cJ6_bitCount_0f7a4 34 = .ok (.iload_n 0, 1) := by decide +kernel
theorem dJ6_bitCount_0f7a4_35 : decode cJ6_bitCount_0f7a4 35 = .ok (.iload_n 0, 1) := by decide +kernel
theorem dJ6_bitCount_0f7a4_36 : decode cJ6_bitCount_0f7a4 36 = .ok (.bipush 8, 2) := by decide +kernel
theorem dJ6_bitCount_0f7a4_38 : decode cJ6_bitCount_0f7a4 38 = .ok (.iushr, 1) := by decide +kernel
theorem dJ6_bitCount_0f7a4_39 : decode cJ6_bitCount_0f7a4 39 = .ok (.iadd, 1) := by decide +kernel
theorem dJ6_bitCount_0f7a4_40 : decode cJ6_bitCount_0f7a4 40 = .ok (.istore_n 0, 1) := by decide +kernel
theorem dJ6_bitCount_0f7a4_41 : decode cJ6_bitCount_0f7a4 41 = .ok (.iload_n 0, 1) := by decide +kernel
theorem dJ6_bitCount_0f7a4_42 : decode cJ6_bitCount_0f7a4 42 = .ok (.iload_n 0, 1) := by decide +kernel
theorem dJ6_bitCount_0f7a4_43 : decode cJ6_bitCount_0f7a4 43 = .ok (.bipush 16, 2) := by decide +kernel
theorem dJ6_bitCount_0f7a4_45 : decode cJ6_bitCount_0f7a4 45 = .ok (.iushr, 1) := by decide +kernel
theorem dJ6_bitCount_0f7a4_46 : decode cJ6_bitCount_0f7a4 46 = .ok (.iadd, 1) := by decide +kernel
theorem dJ6_bitCount_0f7a4_47 : decode cJ6_bitCount_0f7a4 47 = .ok (.istore_n 0, 1) := by decide +kernel
theorem dJ6_bitCount_0f7a4_48 : decode cJ6_bitCount_0f7a4 48 = .ok (.iload_n 0, 1) := by decide +kernel
theorem dJ6_bitCount_0f7a4_49 : decode cJ6_bitCount_0f7a4 49 = .ok (.bipush 63, 2) := by decide +kernel
theorem dJ6_bitCount_0f7a4_51 : decode cJ6_bitCount_0f7a4 51 = .ok (.iand, 1) := by decide +kernel
theorem dJ6_bitCount_0f7a4_52 : decode cJ6_bitCount_0f7a4 52 = .ok (.ireturn, 1) := by decide +kernel
theorem dJ9_max_7cf53_0 : decode cJ9_max_7cf53 0 = .ok (.iload_n 0, 1) := by decide +kernel
theorem dJ9_max_7cf53_1 : decode cJ9_max_7cf53 1 = .ok (.iload_n 1, 1) := by decide +kernel
theorem dJ9_max_7cf53_2 : decode cJ9_max_7cf53 2 = .ok (.if_icmp .lt 7, 3) := by decide +kernel
theorem dJ9_max_7cf53_5 : decode cJ9_max_7cf53 5 = .ok (.iload_n 0, 1) := by decide +kernel
theorem dJ9_max_7cf53_6 : decode cJ9_max_7cf53 6 = .ok (.goto 4, 3) := by decide +kernel
theorem dJ9_max_7cf53_9 : decode cJ9_max_7cf53 9 = .ok (.iload_n 1, 1) := by decide +kernel
theorem dJ9_max_7cf53_10 : decode cJ9_max_7cf53 10 = .ok (.ireturn, 1) := by decide +kernel
theorem dJ9_min_7cf53_0 : decode cJ9_min_7cf53 0 = .ok (.iload_n 0, 1) := by decide +kernel
theorem dJ9_min_7cf53_1 : decode cJ9_min_7cf53 1 = .ok (.iload_n 1, 1) := by decide +kernel
theorem dJ9_min_7cf53_2 : decode cJ9_min_7cf53 2 = .ok (.if_icmp .gt 7, 3) := by decide +kernel
theorem dJ9_min_7cf53_5 : decode cJ9_min_7cf53 5 = .ok (.iload_n 0, 1) := by decide +kernel
theorem dJ9_min_7cf53_6 : decode cJ9_min_7cf53 6 = .ok (.goto 4, 3) := by decide +kernel
theorem dJ9_min_7cf53_9 : decode cJ9_min_7cf53 9 = .ok (.iload_n 1, 1) := by decide +kernel
theorem dJ9_min_7cf53_10 : decode cJ9_min_7cf53 10 = .ok (.ireturn, 1) := by decide +kernel
theorem dJ0_charAt_5068e_0 : decode cJ0_charAt_5068e 0 = .ok (.aload_n 0, 1) := by decide +kernel
theorem dJ0_charAt_5068e_1 : decode cJ0_charAt_5068e 1 = .ok (.invokevirtual 492, 3) := by decide +kernel
theorem dJ0_charAt_5068e_4 : decode cJ0_charAt_5068e 4 = .ok (.ifCond .eq 12, 3) := by decide +kernel
theorem dJ0_charAt_5068e_7 : decode cJ0_charAt_5068e 7 = .ok (.aload_n 0, 1) := by decide +kernel
theorem dJ0_charAt_5068e_8 : decode cJ0_charAt_5068e 8 = .ok (.getfield 9, 3) := by decide +kernel
theorem dJ0_charAt_5068e_11 : decode cJ0_charAt_5068e 11 = .ok (.iload_n 1, 1) := by decide +kernel
theorem dJ0_charAt_5068e_12 : decode cJ0_charAt_5068e 12 = .ok (.invokestatic 495, 3) := by decide +kernel
theorem dJ0_charAt_5068e_15 : decode cJ0_charAt_5068e 15 = .ok (.ireturn, 1) := by decide +kernel
theorem dJ0_charAt_5068e_16 : decode cJ0_charAt_5068e 16 = .ok (.aload_n 0, 1) := by decide +kernel
theorem dJ0_charAt_5068e_17 : decode cJ0_charAt_5068e 17 = .ok (.getfield 9, 3) := by decide +kernel
theorem dJ0_charAt_5068e_20 : decode cJ0_charAt_5068e 20 = .ok (.iload_n 1, 1) := by decide +kernel
theorem dJ0_charAt_5068e_21 : decode cJ0_charAt_5068e 21 = .ok (.invokestatic 498, 3) := by decide +kernel
theorem dJ0_charAt_5068e_24 : decode cJ0_charAt_5068e 24 = .ok (.ireturn, 1) := by decide +kernel
theorem dJ0_isLatin1_aae02_0 : decode cJ0_isLatin1_aae02 0 = .ok (.getstatic 38, 3) := by decide +kernel
theorem dJ0_isLatin1_aae02_3 : decode cJ0_isLatin1_aae02 3 = .ok (.ifCond .eq 14, 3) := by decide +kernel
theorem dJ0_isLatin1_aae02_6 : decode cJ0_isLatin1_aae02 6 = .ok (.aload_n 0, 1) := by decide +kernel
theorem dJ0_isLatin1_aae02_7 : decode cJ0_isLatin1_aae02 7 = .ok (.getfield 15, 3) := by decide +kernel
theorem dJ0_isLatin1_aae02_10 : decode cJ0_isLatin1_aae02 10 = .ok (.ifCond .ne 7, 3) := by decide +kernel
theorem dJ0_isLatin1_aae02_13 : decode cJ0_isLatin1_aae02 13 = .ok (.iconst 1, 1) := by decide +kernel
theorem dJ0_isLatin1_aae02_14 : decode cJ0_isLatin1_aae02 14 = .ok (.goto 4, 3) := by decide +kernel
theorem dJ0_isLatin1_aae02_17 : decode cJ0_isLatin1_aae02 17 = .ok (.iconst 0, 1) := by decide +kernel
theorem dJ0_isLatin1_aae02_18 : decode cJ0_isLatin1_aae02 18 = .ok (.ireturn, 1) := by decide +kernel
theorem dJ0_checkIndex_df160_0 : decode cJ0_checkIndex_df160 0 = .ok (.iload_n 0, 1) := by decide +kernel
theorem dJ0_checkIndex_df160_1 : decode cJ0_checkIndex_df160 1 = .ok (.iload_n 1, 1) := by decide +kernel
theorem dJ0_checkIndex_df160_2 : decode cJ0_checkIndex_df160 2 = .ok (.getstatic 1053, 3) := by decide +kernel
theorem dJ0_checkIndex_df160_5 : decode cJ0_checkIndex_df160 5 = .ok (.invokestatic 1059, 3) := by decide +kernel
theorem dJ0_checkIndex_df160_8 : decode cJ0_checkIndex_df160 8 = .ok (.pop, 1) := by decide +kernel
theorem dJ0_checkIndex_df160_9 : decode cJ0_checkIndex_df160 9 = .ok (.return_, 1) := by decide +kernel
theorem dJ1_charAt_3b067_0 : decode cJ1_charAt_3b067 0 = .ok (.iload_n 1, 1) := by decide +kernel
theorem dJ1_charAt_3b067_1 : decode cJ1_charAt_3b067 1 = .ok (.aload_n 0, 1) := by decide +kernel
theorem dJ1_charAt_3b067_2 : decode cJ1_charAt_3b067 2 = .ok (.arraylength, 1) := by decide +kernel
theorem dJ1_charAt_3b067_3 : decode cJ1_charAt_3b067 3 = .ok (.invokestatic 9, 3) := by decide +kernel
theorem dJ1_charAt_3b067_6 : decode cJ1_charAt_3b067 6 = .ok (.aload_n 0, 1) := by decide +kernel
theorem dJ1_charAt_3b067_7 : decode cJ1_charAt_3b067 7 = .ok (.iload_n 1, 1) := by decide +kernel
theorem dJ1_charAt_3b067_8 : decode cJ1_charAt_3b067 8 = .ok (.baload, 1) := by decide +kernel
theorem dJ1_charAt_3b067_9 : decode cJ1_charAt_3b067 9 = .ok (.sipush 255, 3) := by decide +kernel
theorem dJ1_charAt_3b067_12 : decode cJ1_charAt_3b067 12 = .ok (.iand, 1) := by decide +kernel
theorem dJ1_charAt_3b067_13 : decode cJ1_charAt_3b067 13 = .ok (.i2c, 1) := by decide +kernel
theorem dJ1_charAt_3b067_14 : decode cJ1_charAt_3b067 14 = .ok (.ireturn, 1) := by decide +kernel
theorem dJ2_getChar_3b067_0 : decode cJ2_getChar_3b067 0 = .ok (.getstatic 44, 3) := by decide +kernel
theorem dJ2_getChar_3b067_3 : decode cJ2_getChar_3b067 3 = .ok (.ifCond .ne 25, 3) := by decide +kernel
theorem dJ2_getChar_3b067_6 : decode cJ2_getChar_3b067 6 = .ok (.iload_n 1, 1) := by decide +kernel
theorem dJ2_getChar_3b067_7 : decode cJ2_getChar_3b067 7 = .ok (.ifCond .lt 11, 3) := by decide +kernel
theorem dJ2_getChar_3b067_10 : decode cJ2_getChar_3b067 10 = .ok (.iload_n 1, 1) := by decide +kernel
theorem dJ2_getChar_3b067_11 : decode cJ2_getChar_3b067 11 = .ok (.aload_n 0, 1) := by decide +kernel
theorem dJ2_getChar_3b067_12 : decode cJ2_getChar_3b067 12 = .ok (.invokestatic 48, 3) := by decide +kernel
theorem dJ2_getChar_3b067_15 : decode cJ2_getChar_3b067 15 = .ok (.if_icmp .lt 13, 3) := by decide +kernel
theorem dJ2_getChar_3b067_18 : decode cJ2_getChar_3b067 18 = .ok (.new 52, 3) := by decide +kernel
theorem dJ2_getChar_3b067_21 : decode cJ2_getChar_3b067 21 = .ok (.dup, 1) := by decide +kernel
theorem dJ2_getChar_3b067_22 : decode cJ2_getChar_3b067 22 = .ok (.ldc 54, 2) := by decide +kernel
theorem dJ2_getChar_3b067_24 : decode cJ2_getChar_3b067 24 = .ok (.invokespecial 56, 3) := by decide +kernel
theorem dJ2_getChar_3b067_27 : decode cJ2_getChar_3b067 27 = .ok (.athrow, 1) := by decide +kernel
theorem dJ2_getChar_3b067_28 : decode cJ2_getChar_3b067 28 = .ok (.iload_n 1, 1) := by decide +kernel
theorem dJ2_getChar_3b067_29 : decode cJ2_getChar_3b067 29 = .ok (.iconst 1, 1) := by decide +kernel
theorem dJ2_getChar_3b067_30 : decode cJ2_getChar_3b067 30 = .ok (.ishl, 1) := by decide +kernel
theorem dJ2_getChar_3b067_31 : decode cJ2_getChar_3b067 31 = .ok (.istore_n 1, 1) := by decide +kernel
theorem dJ2_getChar_3b067_32 : decode cJ2_getChar_3b067 32 = .ok (.aload_n 0, 1) := by decide +kernel
theorem dJ2_getChar_3b067_33 : decode cJ2_getChar_3b067 33 = .ok (.iload_n 1, 1) := by decide +kernel
theorem dJ2_getChar_3b067_34 : decode cJ2_getChar_3b067 34 = .ok (.iinc 1 1, 3) := by decide +kernel
theorem dJ2_getChar_3b067_37 : decode cJ2_getChar_3b067 37 = .ok (.baload, 1) := by decide +kernel
theorem dJ2_getChar_3b067_38 : decode cJ2_getChar_3b067 38 = .ok (.sipush 255, 3) := by decide +kernel
theorem dJ2_getChar_3b067_41 : decode cJ2_getChar_3b067 41 = .ok (.iand, 1) := by decide +kernel
theorem dJ2_getChar_3b067_42 : decode cJ2_getChar_3b067 42 = .ok (.getstatic 59, 3) := by decide +kernel
theorem dJ2_getChar_3b067_45 : decode cJ2_getChar_3b067 45 = .ok (.ishl, 1) := by decide +kernel
theorem dJ2_getChar_3b067_46 : decode cJ2_getChar_3b067 46 = .ok (.aload_n 0, 1) := by decide +kernel
theorem dJ2_getChar_3b067_47 : decode cJ2_getChar_3b067 47 = .ok (.iload_n 1, 1) := by decide +kernel
theorem dJ2_getChar_3b067_48 : decode cJ2_getChar_3b067 48 = .ok (.baload, 1) := by decide +kernel
theorem dJ2_getChar_3b067_49 : decode cJ2_getChar_3b067 49 = .ok (.sipush 255, 3) := by decide +kernel
theorem dJ2_getChar_3b067_52 : decode cJ2_getChar_3b067 52 = .ok (.iand, 1) := by decide +kernel
theorem dJ2_getChar_3b067_53 : decode cJ2_getChar_3b067 53 = .ok (.getstatic 63, 3) := by decide +kernel
theorem dJ2_getChar_3b067_56 : decode cJ2_getChar_3b067 56 = .ok (.ishl, 1) := by decide +kernel
theorem dJ2_getChar_3b067_57 : decode cJ2_getChar_3b067 57 = .ok (.ior, 1) := by decide +kernel
theorem dJ2_getChar_3b067_58 : decode cJ2_getChar_3b067 58 = .ok (.i2c, 1) := by decide +kernel
theorem dJ2_getChar_3b067_59 : decode cJ2_getChar_3b067 59 = .ok (.ireturn, 1) := by decide +kernel
theorem dJ2_length_9d52b_0 : decode cJ2_length_9d52b 0 = .ok (.aload_n 0, 1) := by decide +kernel
theorem dJ2_length_9d52b_1 : decode cJ2_length_9d52b 1 = .ok (.arraylength, 1) := by decide +kernel
theorem dJ2_length_9d52b_2 : decode cJ2_length_9d52b 2 = .ok (.iconst 1, 1) := by decide +kernel
theorem dJ2_length_9d52b_3 : decode cJ2_length_9d52b 3 = .ok (.ishr, 1) := by decide +kernel
theorem dJ2_length_9d52b_4 : decode cJ2_length_9d52b 4 = .ok (.ireturn, 1) := by decide +kernel
theorem dJ2_charAt_3b067_0 : decode cJ2_charAt_3b067 0 = .ok (.iload_n 1, 1) := by decide +kernel
theorem dJ2_charAt_3b067_1 : decode cJ2_charAt_3b067 1 = .ok (.aload_n 0, 1) := by decide +kernel
theorem dJ2_charAt_3b067_2 : decode cJ2_charAt_3b067 2 = .ok (.invokestatic 67, 3) := by decide +kernel
theorem dJ2_charAt_3b067_5 : decode cJ2_charAt_3b067 5 = .ok (.aload_n 0, 1) := by decide +kernel
theorem dJ2_charAt_3b067_6 : decode cJ2_charAt_3b067 6 = .ok (.iload_n 1, 1) := by decide +kernel
theorem dJ2_charAt_3b067_7 : decode cJ2_charAt_3b067 7 = .ok (.invokestatic 71, 3) := by decide +kernel
theorem dJ2_charAt_3b067_10 : decode cJ2_charAt_3b067 10 = .ok (.ireturn, 1) := by decide +kernel
theorem dJ2_checkIndex_2214a_0 : decode cJ2_checkIndex_2214a 0 = .ok (.iload_n 0, 1) := by decide +kernel
theorem dJ2_checkIndex_2214a_1 : decode cJ2_checkIndex_2214a 1 = .ok (.aload_n 1, 1) := by decide +kernel
theorem dJ2_checkIndex_2214a_2 : decode cJ2_checkIndex_2214a 2 = .ok (.invokestatic 48, 3) := by decide +kernel
theorem dJ2_checkIndex_2214a_5 : decode cJ2_checkIndex_2214a 5 = .ok (.invokestatic 414, 3) := by decide +kernel
theorem dJ2_checkIndex_2214a_8 : decode cJ2_checkIndex_2214a 8 = .ok (.return_, 1) := by decide +kernel
theorem dJ3_checkIndex_8e157_0 : decode cJ3_checkIndex_8e157 0 = .ok (.iload_n 0, 1) := by decide +kernel
theorem dJ3_checkIndex_8e157_1 : decode cJ3_checkIndex_8e157 1 = .ok (.ifCond .lt 8, 3) := by decide +kernel
theorem dJ3_checkIndex_8e157_4 : decode cJ3_checkIndex_8e157 4 = .ok (.iload_n 0, 1) := by decide +kernel
theorem dJ3_checkIndex_8e157_5 : decode cJ3_checkIndex_8e157 5 = .ok (.iload_n 1, 1) := by decide +kernel
theorem dJ3_checkIndex_8e157_6 : decode cJ3_checkIndex_8e157 6 = .ok (.if_icmp .lt 10, 3) := by decide +kernel
theorem dJ3_checkIndex_8e157_9 : decode cJ3_checkIndex_8e157 9 = .ok (.aload_n 2, 1) := by decide +kernel
theorem dJ3_checkIndex_8e157_10 : decode cJ3_checkIndex_8e157 10 = .ok (.iload_n 0, 1) := by decide +kernel
theorem dJ3_checkIndex_8e157_11 : decode cJ3_checkIndex_8e157 11 = .ok (.iload_n 1, 1) := by decide +kernel
theorem dJ3_checkIndex_8e157_12 : decode cJ3_checkIndex_8e157 12 = .ok (.invokestatic 95, 3) := by decide +kernel
theorem dJ3_checkIndex_8e157_15 : decode cJ3_checkIndex_8e157 15 = .ok (.athrow, 1) := by decide +kernel
theorem dJ3_checkIndex_8e157_16 : decode cJ3_checkIndex_8e157 16 = .ok (.iload_n 0, 1) := by decide +kernel
theorem dJ3_checkIndex_8e157_17 : decode cJ3_checkIndex_8e157 17 = .ok (.ireturn, 1) := by decide +kernel
theorem dL_law_0 : decode cL_law 0 = .ok (.new 7, 3) := by decide +kernel
theorem dL_law_3 : decode cL_law 3 = .ok (.dup, 1) := by decide +kernel
theorem dL_law_4 : decode cL_law 4 = .ok (.invokespecial 9, 3) := by decide +kernel
theorem dL_law_7 : decode cL_law 7 = .ok (.astore_n 1, 1) := by decide +kernel
theorem dL_law_8 : decode cL_law 8 = .ok (.new 10, 3) := by decide +kernel
theorem dL_law_11 : decode cL_law 11 = .ok (.dup, 1) := by decide +kernel
theorem dL_law_12 : decode cL_law 12 = .ok (.invokespecial 12, 3) := by decide +kernel
theorem dL_law_15 : decode cL_law 15 = .ok (.astore_n 2, 1) := by decide +kernel
theorem dL_law_16 : decode cL_law 16 = .ok (.iconst 0, 1) := by decide +kernel
theorem dL_law_17 : decode cL_law 17 = .ok (.istore_n 3, 1) := by decide +kernel
theorem dL_law_18 : decode cL_law 18 = .ok (.iload_n 3, 1) := by decide +kernel
theorem dL_law_19 : decode cL_law 19 = .ok (.aload_n 0, 1) := by decide +kernel
theorem dL_law_20 : decode cL_law 20 = .ok (.arraylength, 1) := by decide +kernel
theorem dL_law_21 : decode cL_law 21 = .ok (.bipush 6, 2) := by decide +kernel
theorem dL_law_23 : decode cL_law 23 = .ok (.isub, 1) := by decide +kernel
theorem dL_law_24 : decode cL_law 24 = .ok (.if_icmp .gt 1013, 3) := by decide +kernel
theorem dL_law_27 : decode cL_law 27 = .ok (.aload_n 0, 1) := by decide +kernel
theorem dL_law_28 : decode cL_law 28 = .ok (.iload_n 3, 1) := by decide +kernel
theorem dL_law_29 : decode cL_law 29 = .ok (.iaload, 1) := by decide +kernel
theorem dL_law_30 : decode cL_law 30 = .ok (.bipush 31, 2) := by decide +kernel
theorem dL_law_32 : decode cL_law 32 = .ok (.iand, 1) := by decide +kernel
theorem dL_law_33 : decode cL_law 33 = .ok (.tableswitch 998 0 28 #[131, 194, 217, 230, 253, 276, 309, 342, 375, 408, 441, 474, 517, 540, 573, 606, 629, 682, 705, 738, 761, 784, 827, 850, 873, 906, 929, 952, 975], 131) := by decide +kernel
theorem dL_law_164 : decode cL_law 164 = .ok (.aload_n 1, 1) := by decide +kernel
theorem dL_law_165 : decode cL_law 165 = .ok (.aload_n 0, 1) := by decide +kernel
theorem dL_law_166 : decode cL_law 166 = .ok (.iload_n 3, 1) := by decide +kernel
theorem dL_law_167 : decode cL_law 167 = .ok (.iconst 1, 1) := by decide +kernel
theorem dL_law_168 : decode cL_law 168 = .ok (.iadd, 1) := by decide +kernel
theorem dL_law_169 : decode cL_law 169 = .ok (.iaload, 1) := by decide +kernel
theorem dL_law_170 : decode cL_law 170 = .ok (.aload_n 0, 1) := by decide +kernel
theorem dL_law_171 : decode cL_law 171 = .ok (.iload_n 3, 1) := by decide +kernel
theorem dL_law_172 : decode cL_law 172 = .ok (.iconst 2, 1) := by decide +kernel
theorem dL_law_173 : decode cL_law 173 = .ok (.iadd, 1) := by decide +kernel
theorem dL_law_174 : decode cL_law 174 = .ok (.iaload, 1) := by decide +kernel
theorem dL_law_175 : decode cL_law 175 = .ok (.aload_n 0, 1) := by decide +kernel
theorem dL_law_176 : decode cL_law 176 = .ok (.iload_n 3, 1) := by decide +kernel
theorem dL_law_177 : decode cL_law 177 = .ok (.iconst 3, 1) := by decide +kernel
theorem dL_law_178 : decode cL_law 178 = .ok (.iadd, 1) := by decide +kernel
theorem dL_law_179 : decode cL_law 179 = .ok (.iaload, 1) := by decide +kernel
theorem dL_law_180 : decode cL_law 180 = .ok (.aload_n 0, 1) := by decide +kernel
theorem dL_law_181 : decode cL_law 181 = .ok (.iload_n 3, 1) := by decide +kernel
theorem dL_law_182 : decode cL_law 182 = .ok (.iconst 4, 1) := by decide +kernel
theorem dL_law_183 : decode cL_law 183 = .ok (.iadd, 1) := by decide +kernel
theorem dL_law_184 : decode cL_law 184 = .ok (.iaload, 1) := by decide +kernel
theorem dL_law_185 : decode cL_law 185 = .ok (.aload_n 0, 1) := by decide +kernel
theorem dL_law_186 : decode cL_law 186 = .ok (.iload_n 3, 1) := by decide +kernel
theorem dL_law_187 : decode cL_law 187 = .ok (.iconst 5, 1) := by decide +kernel
theorem dL_law_188 : decode cL_law 188 = .ok (.iadd, 1) := by decide +kernel
theorem dL_law_189 : decode cL_law 189 = .ok (.iaload, 1) := by decide +kernel
theorem dL_law_190 : decode cL_law 190 = .ok (.invokevirtual 13, 3) := by decide +kernel
theorem dL_law_193 : decode cL_law 193 = .ok (.aload_n 2, 1) := by decide +kernel
theorem dL_law_194 : decode cL_law 194 = .ok (.aload_n 0, 1) := by decide +kernel
theorem dL_law_195 : decode cL_law 195 = .ok (.iload_n 3, 1) := by decide +kernel
theorem dL_law_196 : decode cL_law 196 = .ok (.iconst 1, 1) := by decide +kernel
theorem dL_law_197 : decode cL_law 197 = .ok (.iadd, 1) := by decide +kernel
theorem dL_law_198 : decode cL_law 198 = .ok (.iaload, 1) := by decide +kernel
theorem dL_law_199 : decode cL_law 199 = .ok (.aload_n 0, 1) := by decide +kernel
theorem dL_law_200 : decode cL_law 200 = .ok (.iload_n 3, 1) := by decide +kernel
theorem dL_law_201 : decode cL_law 201 = .ok (.iconst 2, 1) := by decide +kernel
theorem dL_law_202 : decode cL_law 202 = .ok (.iadd, 1) := by decide +kernel
theorem dL_law_203 : decode cL_law 203 = .ok (.iaload, 1) := by decide +kernel
theorem dL_law_204 : decode cL_law 204 = .ok (.aload_n 0, 1) := by decide +kernel
theorem dL_law_205 : decode cL_law 205 = .ok (.iload_n 3, 1) := by decide +kernel
theorem dL_law_206 : decode cL_law 206 = .ok (.iconst 3, 1) := by decide +kernel
theorem dL_law_207 : decode cL_law 207 = .ok (.iadd, 1) := by decide +kernel
theorem dL_law_208 : decode cL_law 208 = .ok (.iaload, 1) := by decide +kernel
theorem dL_law_209 : decode cL_law 209 = .ok (.aload_n 0, 1) := by decide +kernel
theorem dL_law_210 : decode cL_law 210 = .ok (.iload_n 3, 1) := by decide +kernel
theorem dL_law_211 : decode cL_law 211 = .ok (.iconst 4, 1) := by decide +kernel
theorem dL_law_212 : decode cL_law 212 = .ok (.iadd, 1) := by decide +kernel
theorem dL_law_213 : decode cL_law 213 = .ok (.iaload, 1) := by decide +kernel
theorem dL_law_214 : decode cL_law 214 = .ok (.aload_n 0, 1) := by decide +kernel
theorem dL_law_215 : decode cL_law 215 = .ok (.iload_n 3, 1) := by decide +kernel
theorem dL_law_216 : decode cL_law 216 = .ok (.iconst 5, 1) := by decide +kernel
theorem dL_law_217 : decode cL_law 217 = .ok (.iadd, 1) := by decide +kernel
theorem dL_law_218 : decode cL_law 218 = .ok (.iaload, 1) := by decide +kernel
theorem dL_law_219 : decode cL_law 219 = .ok (.invokevirtual 17, 3) := by decide +kernel
theorem dL_law_222 : decode cL_law 222 = .ok (.if_icmp .eq 809, 3) := by decide +kernel
theorem dL_law_225 : decode cL_law 225 = .ok (.iconst 0, 1) := by decide +kernel
theorem dL_law_226 : decode cL_law 226 = .ok (.ireturn, 1) := by decide +kernel
theorem dL_law_227 : decode cL_law 227 = .ok (.aload_n 1, 1) := by decide +kernel
theorem dL_law_228 : decode cL_law 228 = .ok (.aload_n 0, 1) := by decide +kernel
theorem dL_law_229 : decode cL_law 229 = .ok (.iload_n 3, 1) := by decide +kernel
theorem dL_law_230 : decode cL_law 230 = .ok (.iconst 1, 1) := by decide +kernel
theorem dL_law_231 : decode cL_law 231 = .ok (.iadd, 1) := by decide +kernel
theorem dL_law_232 : decode cL_law 232 = .ok (.iaload, 1) := by decide +kernel
theorem dL_law_233 : decode cL_law 233 = .ok (.invokevirtual 18, 3) := by decide +kernel
theorem dL_law_236 : decode cL_law 236 = .ok (.aload_n 2, 1) := by decide +kernel
theorem dL_law_237 : decode cL_law 237 = .ok (.aload_n 0, 1) := by decide +kernel
theorem dL_law_238 : decode cL_law 238 = .ok (.iload_n 3, 1) := by decide +kernel
theorem dL_law_239 : decode cL_law 239 = .ok (.iconst 1, 1) := by decide +kernel
theorem dL_law_240 : decode cL_law 240 = .ok (.iadd, 1) := by decide +kernel
theorem dL_law_241 : decode cL_law 241 = .ok (.iaload, 1) := by decide +kernel
theorem dL_law_242 : decode cL_law 242 = .ok (.invokevirtual 22, 3) := by decide +kernel
theorem dL_law_245 : decode cL_law 245 = .ok (.if_icmp .eq 786, 3) := by decide +kernel
theorem dL_law_248 : decode cL_law 248 = .ok (.iconst 0, 1) := by decide +kernel
theorem dL_law_249 : decode cL_law 249 = .ok (.ireturn, 1) := by decide +kernel
theorem dL_law_250 : decode cL_law 250 = .ok (.aload_n 1, 1) := by decide +kernel
theorem dL_law_251 : decode cL_law 251 = .ok (.invokevirtual 23, 3) := by decide +kernel
theorem dL_law_254 : decode cL_law 254 = .ok (.aload_n 2, 1) := by decide +kernel
theorem dL_law_255 : decode cL_law 255 = .ok (.invokevirtual 27, 3) := by decide +kernel
theorem dL_law_258 : decode cL_law 258 = .ok (.if_icmp .eq 773, 3) := by decide +kernel
theorem dL_law_261 : decode cL_law 261 = .ok (.iconst 0, 1) := by decide +kernel
theorem dL_law_262 : decode cL_law 262 = .ok (.ireturn, 1) := by decide +kernel
theorem dL_law_263 : decode cL_law 263 = .ok (.aload_n 1, 1) := by decide +kernel
theorem dL_law_264 : decode cL_law 264 = .ok (.aload_n 0, 1) := by decide +kernel
theorem dL_law_265 : decode cL_law 265 = .ok (.iload_n 3, 1) := by decide +kernel
theorem dL_law_266 : decode cL_law 266 = .ok (.iconst 1, 1) := by decide +kernel
theorem dL_law_267 : decode cL_law 267 = .ok (.iadd, 1) := by decide +kernel
theorem dL_law_268 : decode cL_law 268 = .ok (.iaload, 1) := by decide +kernel
theorem dL_law_269 : decode cL_law 269 = .ok (.invokevirtual 28, 3) := by decide +kernel
theorem dL_law_272 : decode cL_law 272 = .ok (.aload_n 2, 1) := by decide +kernel
theorem dL_law_273 : decode cL_law 273 = .ok (.aload_n 0, 1) := by decide +kernel
theorem dL_law_274 : decode cL_law 274 = .ok (.iload_n 3, 1) := by decide +kernel
theorem dL_law_275 : decode cL_law 275 = .ok (.iconst 1, 1) := by decide +kernel
theorem dL_law_276 : decode cL_law 276 = .ok (.iadd, 1) := by decide +kernel
theorem dL_law_277 : decode cL_law 277 = .ok (.iaload, 1) := by decide +kernel
theorem dL_law_278 : decode cL_law 278 = .ok (.invokevirtual 31, 3) := by decide +kernel
theorem dL_law_281 : decode cL_law 281 = .ok (.if_icmp .eq 750, 3) := by decide +kernel
theorem dL_law_284 : decode cL_law 284 = .ok (.iconst 0, 1) := by decide +kernel
theorem dL_law_285 : decode cL_law 285 = .ok (.ireturn, 1) := by decide +kernel
theorem dL_law_286 : decode cL_law 286 = .ok (.aload_n 1, 1) := by decide +kernel
theorem dL_law_287 : decode cL_law 287 = .ok (.aload_n 0, 1) := by decide +kernel
theorem dL_law_288 : decode cL_law 288 = .ok (.iload_n 3, 1) := by decide +kernel
theorem dL_law_289 : decode cL_law 289 = .ok (.iconst 1, 1) := by decide +kernel
theorem dL_law_290 : decode cL_law 290 = .ok (.iadd, 1) := by decide +kernel
theorem dL_law_291 : decode cL_law 291 = .ok (.iaload, 1) := by decide +kernel
theorem dL_law_292 : decode cL_law 292 = .ok (.invokevirtual 32, 3) := by decide +kernel
theorem dL_law_295 : decode cL_law 295 = .ok (.aload_n 2, 1) := by decide +kernel
theorem dL_law_296 : decode cL_law 296 = .ok (.aload_n 0, 1) := by decide +kernel
theorem dL_law_297 : decode cL_law 297 = .ok (.iload_n 3, 1) := by decide +kernel
theorem dL_law_298 : decode cL_law 298 = .ok (.iconst 1, 1) := by decide +kernel
theorem dL_law_299 : decode cL_law 299 = .ok (.iadd, 1) := by decide +kernel
theorem dL_law_300 : decode cL_law 300 = .ok (.iaload, 1) := by decide +kernel
theorem dL_law_301 : decode cL_law 301 = .ok (.invokevirtual 35, 3) := by decide +kernel
theorem dL_law_304 : decode cL_law 304 = .ok (.if_icmp .eq 727, 3) := by decide +kernel
theorem dL_law_307 : decode cL_law 307 = .ok (.iconst 0, 1) := by decide +kernel
theorem dL_law_308 : decode cL_law 308 = .ok (.ireturn, 1) := by decide +kernel
theorem dL_law_309 : decode cL_law 309 = .ok (.aload_n 1, 1) := by decide +kernel
theorem dL_law_310 : decode cL_law 310 = .ok (.aload_n 0, 1) := by decide +kernel
theorem dL_law_311 : decode cL_law 311 = .ok (.iload_n 3, 1) := by decide +kernel
theorem dL_law_312 : decode cL_law 312 = .ok (.iconst 1, 1) := by decide +kernel
theorem dL_law_313 : decode cL_law 313 = .ok (.iadd, 1) := by decide +kernel
theorem dL_law_314 : decode cL_law 314 = .ok (.iaload, 1) := by decide +kernel
theorem dL_law_315 : decode cL_law 315 = .ok (.aload_n 0, 1) := by decide +kernel
theorem dL_law_316 : decode cL_law 316 = .ok (.iload_n 3, 1) := by decide +kernel
theorem dL_law_317 : decode cL_law 317 = .ok (.iconst 2, 1) := by decide +kernel
theorem dL_law_318 : decode cL_law 318 = .ok (.iadd, 1) := by decide +kernel
theorem dL_law_319 : decode cL_law 319 = .ok (.iaload, 1) := by decide +kernel
theorem dL_law_320 : decode cL_law 320 = .ok (.invokevirtual 36, 3) := by decide +kernel
theorem dL_law_323 : decode cL_law 323 = .ok (.aload_n 2, 1) := by decide +kernel
theorem dL_law_324 : decode cL_law 324 = .ok (.aload_n 0, 1) := by decide +kernel
theorem dL_law_325 : decode cL_law 325 = .ok (.iload_n 3, 1) := by decide +kernel
theorem dL_law_326 : decode cL_law 326 = .ok (.iconst 1, 1) := by decide +kernel
theorem dL_law_327 : decode cL_law 327 = .ok (.iadd, 1) := by decide +kernel
theorem dL_law_328 : decode cL_law 328 = .ok (.iaload, 1) := by decide +kernel
theorem dL_law_329 : decode cL_law 329 = .ok (.aload_n 0, 1) := by decide +kernel
theorem dL_law_330 : decode cL_law 330 = .ok (.iload_n 3, 1) := by decide +kernel
theorem dL_law_331 : decode cL_law 331 = .ok (.iconst 2, 1) := by decide +kernel
theorem dL_law_332 : decode cL_law 332 = .ok (.iadd, 1) := by decide +kernel
theorem dL_law_333 : decode cL_law 333 = .ok (.iaload, 1) := by decide +kernel
theorem dL_law_334 : decode cL_law 334 = .ok (.invokevirtual 40, 3) := by decide +kernel
theorem dL_law_337 : decode cL_law 337 = .ok (.if_icmp .eq 694, 3) := by decide +kernel
theorem dL_law_340 : decode cL_law 340 = .ok (.iconst 0, 1) := by decide +kernel
theorem dL_law_341 : decode cL_law 341 = .ok (.ireturn, 1) := by decide +kernel
theorem dL_law_342 : decode cL_law 342 = .ok (.aload_n 1, 1) := by decide +kernel
theorem dL_law_343 : decode cL_law 343 = .ok (.aload_n 0, 1) := by decide +kernel
theorem dL_law_344 : decode cL_law 344 = .ok (.iload_n 3, 1) := by decide +kernel
theorem dL_law_345 : decode cL_law 345 = .ok (.iconst 1, 1) := by decide +kernel
theorem dL_law_346 : decode cL_law 346 = .ok (.iadd, 1) := by decide +kernel
theorem dL_law_347 : decode cL_law 347 = .ok (.iaload, 1) := by decide +kernel
theorem dL_law_348 : decode cL_law 348 = .ok (.aload_n 0, 1) := by decide +kernel
theorem dL_law_349 : decode cL_law 349 = .ok (.iload_n 3, 1) := by decide +kernel
theorem dL_law_350 : decode cL_law 350 = .ok (.iconst 2, 1) := by decide +kernel
theorem dL_law_351 : decode cL_law 351 = .ok (.iadd, 1) := by decide +kernel
theorem dL_law_352 : decode cL_law 352 = .ok (.iaload, 1) := by decide +kernel
theorem dL_law_353 : decode cL_law 353 = .ok (.invokevirtual 41, 3) := by decide +kernel
theorem dL_law_356 : decode cL_law 356 = .ok (.aload_n 2, 1) := by decide +kernel
theorem dL_law_357 : decode cL_law 357 = .ok (.aload_n 0, 1) := by decide +kernel
theorem dL_law_358 : decode cL_law 358 = .ok (.iload_n 3, 1) := by decide +kernel
theorem dL_law_359 : decode cL_law 359 = .ok (.iconst 1, 1) := by decide +kernel
theorem dL_law_360 : decode cL_law 360 = .ok (.iadd, 1) := by decide +kernel
theorem dL_law_361 : decode cL_law 361 = .ok (.iaload, 1) := by decide +kernel
theorem dL_law_362 : decode cL_law 362 = .ok (.aload_n 0, 1) := by decide +kernel
theorem dL_law_363 : decode cL_law 363 = .ok (.iload_n 3, 1) := by decide +kernel
theorem dL_law_364 : decode cL_law 364 = .ok (.iconst 2, 1) := by decide +kernel
theorem dL_law_365 : decode cL_law 365 = .ok (.iadd, 1) := by decide +kernel
theorem dL_law_366 : decode cL_law 366 = .ok (.iaload, 1) := by decide +kernel
theorem dL_law_367 : decode cL_law 367 = .ok (.invokevirtual 44, 3) := by decide +kernel
theorem dL_law_370 : decode cL_law 370 = .ok (.if_icmp .eq 661, 3) := by decide +kernel
theorem dL_law_373 : decode cL_law 373 = .ok (.iconst 0, 1) := by decide +kernel
theorem dL_law_374 : decode cL_law 374 = .ok (.ireturn, 1) := by decide +kernel
theorem dL_law_375 : decode cL_law 375 = .ok (.aload_n 1, 1) := by decide +kernel
theorem dL_law_376 : decode cL_law 376 = .ok (.aload_n 0, 1) := by decide +kernel
theorem dL_law_377 : decode cL_law 377 = .ok (.iload_n 3, 1) := by decide +kernel
theorem dL_law_378 : decode cL_law 378 = .ok (.iconst 1, 1) := by decide +kernel
theorem dL_law_379 : decode cL_law 379 = .ok (.iadd, 1) := by decide +kernel
theorem dL_law_380 : decode cL_law 380 = .ok (.iaload, 1) := by decide +kernel
theorem dL_law_381 : decode cL_law 381 = .ok (.aload_n 0, 1) := by decide +kernel
theorem dL_law_382 : decode cL_law 382 = .ok (.iload_n 3, 1) := by decide +kernel
theorem dL_law_383 : decode cL_law 383 = .ok (.iconst 2, 1) := by decide +kernel
theorem dL_law_384 : decode cL_law 384 = .ok (.iadd, 1) := by decide +kernel
theorem dL_law_385 : decode cL_law 385 = .ok (.iaload, 1) := by decide +kernel
theorem dL_law_386 : decode cL_law 386 = .ok (.invokevirtual 45, 3) := by decide +kernel
theorem dL_law_389 : decode cL_law 389 = .ok (.aload_n 2, 1) := by decide +kernel
theorem dL_law_390 : decode cL_law 390 = .ok (.aload_n 0, 1) := by decide +kernel
theorem dL_law_391 : decode cL_law 391 = .ok (.iload_n 3, 1) := by decide +kernel
theorem dL_law_392 : decode cL_law 392 = .ok (.iconst 1, 1) := by decide +kernel
theorem dL_law_393 : decode cL_law 393 = .ok (.iadd, 1) := by decide +kernel
theorem dL_law_394 : decode cL_law 394 = .ok (.iaload, 1) := by decide +kernel
theorem dL_law_395 : decode cL_law 395 = .ok (.aload_n 0, 1) := by decide +kernel
theorem dL_law_396 : decode cL_law 396 = .ok (.iload_n 3, 1) := by decide +kernel
theorem dL_law_397 : decode cL_law 397 = .ok (.iconst 2, 1) := by decide +kernel
theorem dL_law_398 : decode cL_law 398 = .ok (.iadd, 1) := by decide +kernel
theorem dL_law_399 : decode cL_law 399 = .ok (.iaload, 1) := by decide +kernel
theorem dL_law_400 : decode cL_law 400 = .ok (.invokevirtual 48, 3) := by decide +kernel
theorem dL_law_403 : decode cL_law 403 = .ok (.if_icmp .eq 628, 3) := by decide +kernel
theorem dL_law_406 : decode cL_law 406 = .ok (.iconst 0, 1) := by decide +kernel
theorem dL_law_407 : decode cL_law 407 = .ok (.ireturn, 1) := by decide +kernel
theorem dL_law_408 : decode cL_law 408 = .ok (.aload_n 1, 1) := by decide +kernel
theorem dL_law_409 : decode cL_law 409 = .ok (.aload_n 0, 1) := by decide +kernel
theorem dL_law_410 : decode cL_law 410 = .ok (.iload_n 3, 1) := by decide +kernel
theorem dL_law_411 : decode cL_law 411 = .ok (.iconst 1, 1) := by decide +kernel
theorem dL_law_412 : decode cL_law 412 = .ok (.iadd, 1) := by decide +kernel
theorem dL_law_413 : decode cL_law 413 = .ok (.iaload, 1) := by decide +kernel
theorem dL_law_414 : decode cL_law 414 = .ok (.aload_n 0, 1) := by decide +kernel
theorem dL_law_415 : decode cL_law 415 = .ok (.iload_n 3, 1) := by decide +kernel
theorem dL_law_416 : decode cL_law 416 = .ok (.iconst 2, 1) := by decide +kernel
theorem dL_law_417 : decode cL_law 417 = .ok (.iadd, 1) := by decide +kernel
theorem dL_law_418 : decode cL_law 418 = .ok (.iaload, 1) := by decide +kernel
theorem dL_law_419 : decode cL_law 419 = .ok (.invokevirtual 49, 3) := by decide +kernel
theorem dL_law_422 : decode cL_law 422 = .ok (.aload_n 2, 1) := by decide +kernel
theorem dL_law_423 : decode cL_law 423 = .ok (.aload_n 0, 1) := by decide +kernel
theorem dL_law_424 : decode cL_law 424 = .ok (.iload_n 3, 1) := by decide +kernel
theorem dL_law_425 : decode cL_law 425 = .ok (.iconst 1, 1) := by decide +kernel
theorem dL_law_426 : decode cL_law 426 = .ok (.iadd, 1) := by decide +kernel
theorem dL_law_427 : decode cL_law 427 = .ok (.iaload, 1) := by decide +kernel
theorem dL_law_428 : decode cL_law 428 = .ok (.aload_n 0, 1) := by decide +kernel
theorem dL_law_429 : decode cL_law 429 = .ok (.iload_n 3, 1) := by decide +kernel
theorem dL_law_430 : decode cL_law 430 = .ok (.iconst 2, 1) := by decide +kernel
theorem dL_law_431 : decode cL_law 431 = .ok (.iadd, 1) := by decide +kernel
theorem dL_law_432 : decode cL_law 432 = .ok (.iaload, 1) := by decide +kernel
theorem dL_law_433 : decode cL_law 433 = .ok (.invokevirtual 53, 3) := by decide +kernel
theorem dL_law_436 : decode cL_law 436 = .ok (.if_icmp .eq 595, 3) := by decide +kernel
theorem dL_law_439 : decode cL_law 439 = .ok (.iconst 0, 1) := by decide +kernel
theorem dL_law_440 : decode cL_law 440 = .ok (.ireturn, 1) := by decide +kernel
theorem dL_law_441 : decode cL_law 441 = .ok (.aload_n 1, 1) := by decide +kernel
theorem dL_law_442 : decode cL_law 442 = .ok (.aload_n 0, 1) := by decide +kernel
theorem dL_law_443 : decode cL_law 443 = .ok (.iload_n 3, 1) := by decide +kernel
theorem dL_law_444 : decode cL_law 444 = .ok (.iconst 1, 1) := by decide +kernel
theorem dL_law_445 : decode cL_law 445 = .ok (.iadd, 1) := by decide +kernel
theorem dL_law_446 : decode cL_law 446 = .ok (.iaload, 1) := by decide +kernel
theorem dL_law_447 : decode cL_law 447 = .ok (.aload_n 0, 1) := by decide +kernel
theorem dL_law_448 : decode cL_law 448 = .ok (.iload_n 3, 1) := by decide +kernel
theorem dL_law_449 : decode cL_law 449 = .ok (.iconst 2, 1) := by decide +kernel
theorem dL_law_450 : decode cL_law 450 = .ok (.iadd, 1) := by decide +kernel
theorem dL_law_451 : decode cL_law 451 = .ok (.iaload, 1) := by decide +kernel
theorem dL_law_452 : decode cL_law 452 = .ok (.invokevirtual 54, 3) := by decide +kernel
theorem dL_law_455 : decode cL_law 455 = .ok (.aload_n 2, 1) := by decide +kernel
theorem dL_law_456 : decode cL_law 456 = .ok (.aload_n 0, 1) := by decide +kernel
theorem dL_law_457 : decode cL_law 457 = .ok (.iload_n 3, 1) := by decide +kernel
theorem dL_law_458 : decode cL_law 458 = .ok (.iconst 1, 1) := by decide +kernel
theorem dL_law_459 : decode cL_law 459 = .ok (.iadd, 1) := by decide +kernel
theorem dL_law_460 : decode cL_law 460 = .ok (.iaload, 1) := by decide +kernel
theorem dL_law_461 : decode cL_law 461 = .ok (.aload_n 0, 1) := by decide +kernel
theorem dL_law_462 : decode cL_law 462 = .ok (.iload_n 3, 1) := by decide +kernel
theorem dL_law_463 : decode cL_law 463 = .ok (.iconst 2, 1) := by decide +kernel
theorem dL_law_464 : decode cL_law 464 = .ok (.iadd, 1) := by decide +kernel
theorem dL_law_465 : decode cL_law 465 = .ok (.iaload, 1) := by decide +kernel
theorem dL_law_466 : decode cL_law 466 = .ok (.invokevirtual 57, 3) := by decide +kernel
theorem dL_law_469 : decode cL_law 469 = .ok (.if_icmp .eq 562, 3) := by decide +kernel
theorem dL_law_472 : decode cL_law 472 = .ok (.iconst 0, 1) := by decide +kernel
theorem dL_law_473 : decode cL_law 473 = .ok (.ireturn, 1) := by decide +kernel
theorem dL_law_474 : decode cL_law 474 = .ok (.aload_n 1, 1) := by decide +kernel
theorem dL_law_475 : decode cL_law 475 = .ok (.aload_n 0, 1) := by decide +kernel
theorem dL_law_476 : decode cL_law 476 = .ok (.iload_n 3, 1) := by decide +kernel
theorem dL_law_477 : decode cL_law 477 = .ok (.iconst 1, 1) := by decide +kernel
theorem dL_law_478 : decode cL_law 478 = .ok (.iadd, 1) := by decide +kernel
theorem dL_law_479 : decode cL_law 479 = .ok (.iaload, 1) := by decide +kernel
theorem dL_law_480 : decode cL_law 480 = .ok (.aload_n 0, 1) := by decide +kernel
theorem dL_law_481 : decode cL_law 481 = .ok (.iload_n 3, 1) := by decide +kernel
theorem dL_law_482 : decode cL_law 482 = .ok (.iconst 2, 1) := by decide +kernel
theorem dL_law_483 : decode cL_law 483 = .ok (.iadd, 1) := by decide +kernel
theorem dL_law_484 : decode cL_law 484 = .ok (.iaload, 1) := by decide +kernel
theorem dL_law_485 : decode cL_law 485 = .ok (.invokevirtual 58, 3) := by decide +kernel
theorem dL_law_488 : decode cL_law 488 = .ok (.aload_n 2, 1) := by decide +kernel
theorem dL_law_489 : decode cL_law 489 = .ok (.aload_n 0, 1) := by decide +kernel
theorem dL_law_490 : decode cL_law 490 = .ok (.iload_n 3, 1) := by decide +kernel
theorem dL_law_491 : decode cL_law 491 = .ok (.iconst 1, 1) := by decide +kernel
theorem dL_law_492 : decode cL_law 492 = .ok (.iadd, 1) := by decide +kernel
theorem dL_law_493 : decode cL_law 493 = .ok (.iaload, 1) := by decide +kernel
theorem dL_law_494 : decode cL_law 494 = .ok (.aload_n 0, 1) := by decide +kernel
theorem dL_law_495 : decode cL_law 495 = .ok (.iload_n 3, 1) := by decide +kernel
theorem dL_law_496 : decode cL_law 496 = .ok (.iconst 2, 1) := by decide +kernel
theorem dL_law_497 : decode cL_law 497 = .ok (.iadd, 1) := by decide +kernel
theorem dL_law_498 : decode cL_law 498 = .ok (.iaload, 1) := by decide +kernel
theorem dL_law_499 : decode cL_law 499 = .ok (.invokevirtual 61, 3) := by decide +kernel
theorem dL_law_502 : decode cL_law 502 = .ok (.if_icmp .eq 529, 3) := by decide +kernel
theorem dL_law_505 : decode cL_law 505 = .ok (.iconst 0, 1) := by decide +kernel
theorem dL_law_506 : decode cL_law 506 = .ok (.ireturn, 1) := by decide +kernel
theorem dL_law_507 : decode cL_law 507 = .ok (.aload_n 1, 1) := by decide +kernel
theorem dL_law_508 : decode cL_law 508 = .ok (.aload_n 0, 1) := by decide +kernel
theorem dL_law_509 : decode cL_law 509 = .ok (.iload_n 3, 1) := by decide +kernel
theorem dL_law_510 : decode cL_law 510 = .ok (.iconst 1, 1) := by decide +kernel
theorem dL_law_511 : decode cL_law 511 = .ok (.iadd, 1) := by decide +kernel
theorem dL_law_512 : decode cL_law 512 = .ok (.iaload, 1) := by decide +kernel
theorem dL_law_513 : decode cL_law 513 = .ok (.aload_n 0, 1) := by decide +kernel
theorem dL_law_514 : decode cL_law 514 = .ok (.iload_n 3, 1) := by decide +kernel
theorem dL_law_515 : decode cL_law 515 = .ok (.iconst 2, 1) := by decide +kernel
theorem dL_law_516 : decode cL_law 516 = .ok (.iadd, 1) := by decide +kernel
theorem dL_law_517 : decode cL_law 517 = .ok (.iaload, 1) := by decide +kernel
theorem dL_law_518 : decode cL_law 518 = .ok (.aload_n 0, 1) := by decide +kernel
theorem dL_law_519 : decode cL_law 519 = .ok (.iload_n 3, 1) := by decide +kernel
theorem dL_law_520 : decode cL_law 520 = .ok (.iconst 3, 1) := by decide +kernel
theorem dL_law_521 : decode cL_law 521 = .ok (.iadd, 1) := by decide +kernel
theorem dL_law_522 : decode cL_law 522 = .ok (.iaload, 1) := by decide +kernel
theorem dL_law_523 : decode cL_law 523 = .ok (.invokevirtual 62, 3) := by decide +kernel
theorem dL_law_526 : decode cL_law 526 = .ok (.aload_n 2, 1) := by decide +kernel
theorem dL_law_527 : decode cL_law 527 = .ok (.aload_n 0, 1) := by decide +kernel
theorem dL_law_528 : decode cL_law 528 = .ok (.iload_n 3, 1) := by decide +kernel
theorem dL_law_529 : decode cL_law 529 = .ok (.iconst 1, 1) := by decide +kernel
theorem dL_law_530 : decode cL_law 530 = .ok (.iadd, 1) := by decide +kernel
theorem dL_law_531 : decode cL_law 531 = .ok (.iaload, 1) := by decide +kernel
theorem dL_law_532 : decode cL_law 532 = .ok (.aload_n 0, 1) := by decide +kernel
theorem dL_law_533 : decode cL_law 533 = .ok (.iload_n 3, 1) := by decide +kernel
theorem dL_law_534 : decode cL_law 534 = .ok (.iconst 2, 1) := by decide +kernel
theorem dL_law_535 : decode cL_law 535 = .ok (.iadd, 1) := by decide +kernel
theorem dL_law_536 : decode cL_law 536 = .ok (.iaload, 1) := by decide +kernel
theorem dL_law_537 : decode cL_law 537 = .ok (.aload_n 0, 1) := by decide +kernel
theorem dL_law_538 : decode cL_law 538 = .ok (.iload_n 3, 1) := by decide +kernel
theorem dL_law_539 : decode cL_law 539 = .ok (.iconst 3, 1) := by decide +kernel
theorem dL_law_540 : decode cL_law 540 = .ok (.iadd, 1) := by decide +kernel
theorem dL_law_541 : decode cL_law 541 = .ok (.iaload, 1) := by decide +kernel
theorem dL_law_542 : decode cL_law 542 = .ok (.invokevirtual 66, 3) := by decide +kernel
theorem dL_law_545 : decode cL_law 545 = .ok (.if_icmp .eq 486, 3) := by decide +kernel
theorem dL_law_548 : decode cL_law 548 = .ok (.iconst 0, 1) := by decide +kernel
theorem dL_law_549 : decode cL_law 549 = .ok (.ireturn, 1) := by decide +kernel
theorem dL_law_550 : decode cL_law 550 = .ok (.aload_n 1, 1) := by decide +kernel
theorem dL_law_551 : decode cL_law 551 = .ok (.aload_n 0, 1) := by decide +kernel
theorem dL_law_552 : decode cL_law 552 = .ok (.iload_n 3, 1) := by decide +kernel
theorem dL_law_553 : decode cL_law 553 = .ok (.iconst 1, 1) := by decide +kernel
theorem dL_law_554 : decode cL_law 554 = .ok (.iadd, 1) := by decide +kernel
theorem dL_law_555 : decode cL_law 555 = .ok (.iaload, 1) := by decide +kernel
theorem dL_law_556 : decode cL_law 556 = .ok (.invokevirtual 67, 3) := by decide +kernel
theorem dL_law_559 : decode cL_law 559 = .ok (.aload_n 2, 1) := by decide +kernel
theorem dL_law_560 : decode cL_law 560 = .ok (.aload_n 0, 1) := by decide +kernel
theorem dL_law_561 : decode cL_law 561 = .ok (.iload_n 3, 1) := by decide +kernel
theorem dL_law_562 : decode cL_law 562 = .ok (.iconst 1, 1) := by decide +kernel
theorem dL_law_563 : decode cL_law 563 = .ok (.iadd, 1) := by decide +kernel
theorem dL_law_564 : decode cL_law 564 = .ok (.iaload, 1) := by decide +kernel
theorem dL_law_565 : decode cL_law 565 = .ok (.invokevirtual 70, 3) := by decide +kernel
theorem dL_law_568 : decode cL_law 568 = .ok (.if_icmp .eq 463, 3) := by decide +kernel
theorem dL_law_571 : decode cL_law 571 = .ok (.iconst 0, 1) := by decide +kernel
theorem dL_law_572 : decode cL_law 572 = .ok (.ireturn, 1) := by decide +kernel
theorem dL_law_573 : decode cL_law 573 = .ok (.aload_n 1, 1) := by decide +kernel
theorem dL_law_574 : decode cL_law 574 = .ok (.aload_n 0, 1) := by decide +kernel
theorem dL_law_575 : decode cL_law 575 = .ok (.iload_n 3, 1) := by decide +kernel
theorem dL_law_576 : decode cL_law 576 = .ok (.iconst 1, 1) := by decide +kernel
theorem dL_law_577 : decode cL_law 577 = .ok (.iadd, 1) := by decide +kernel
theorem dL_law_578 : decode cL_law 578 = .ok (.iaload, 1) := by decide +kernel
theorem dL_law_579 : decode cL_law 579 = .ok (.aload_n 0, 1) := by decide +kernel
theorem dL_law_580 : decode cL_law 580 = .ok (.iload_n 3, 1) := by decide +kernel
theorem dL_law_581 : decode cL_law 581 = .ok (.iconst 2, 1) := by decide +kernel
theorem dL_law_582 : decode cL_law 582 = .ok (.iadd, 1) := by decide +kernel
theorem dL_law_583 : decode cL_law 583 = .ok (.iaload, 1) := by decide +kernel
theorem dL_law_584 : decode cL_law 584 = .ok (.invokevirtual 71, 3) := by decide +kernel
theorem dL_law_587 : decode cL_law 587 = .ok (.aload_n 2, 1) := by decide +kernel
theorem dL_law_588 : decode cL_law 588 = .ok (.aload_n 0, 1) := by decide +kernel
theorem dL_law_589 : decode cL_law 589 = .ok (.iload_n 3, 1) := by decide +kernel
theorem dL_law_590 : decode cL_law 590 = .ok (.iconst 1, 1) := by decide +kernel
theorem dL_law_591 : decode cL_law 591 = .ok (.iadd, 1) := by decide +kernel
theorem dL_law_592 : decode cL_law 592 = .ok (.iaload, 1) := by decide +kernel
theorem dL_law_593 : decode cL_law 593 = .ok (.aload_n 0, 1) := by decide +kernel
theorem dL_law_594 : decode cL_law 594 = .ok (.iload_n 3, 1) := by decide +kernel
theorem dL_law_595 : decode cL_law 595 = .ok (.iconst 2, 1) := by decide +kernel
theorem dL_law_596 : decode cL_law 596 = .ok (.iadd, 1) := by decide +kernel
theorem dL_law_597 : decode cL_law 597 = .ok (.iaload, 1) := by decide +kernel
theorem dL_law_598 : decode cL_law 598 = .ok (.invokevirtual 74, 3) := by decide +kernel
theorem dL_law_601 : decode cL_law 601 = .ok (.if_icmp .eq 430, 3) := by decide +kernel
theorem dL_law_604 : decode cL_law 604 = .ok (.iconst 0, 1) := by decide +kernel
theorem dL_law_605 : decode cL_law 605 = .ok (.ireturn, 1) := by decide +kernel
theorem dL_law_606 : decode cL_law 606 = .ok (.aload_n 1, 1) := by decide +kernel
theorem dL_law_607 : decode cL_law 607 = .ok (.aload_n 0, 1) := by decide +kernel
theorem dL_law_608 : decode cL_law 608 = .ok (.iload_n 3, 1) := by decide +kernel
theorem dL_law_609 : decode cL_law 609 = .ok (.iconst 1, 1) := by decide +kernel
theorem dL_law_610 : decode cL_law 610 = .ok (.iadd, 1) := by decide +kernel
theorem dL_law_611 : decode cL_law 611 = .ok (.iaload, 1) := by decide +kernel
theorem dL_law_612 : decode cL_law 612 = .ok (.aload_n 0, 1) := by decide +kernel
theorem dL_law_613 : decode cL_law 613 = .ok (.iload_n 3, 1) := by decide +kernel
theorem dL_law_614 : decode cL_law 614 = .ok (.iconst 2, 1) := by decide +kernel
theorem dL_law_615 : decode cL_law 615 = .ok (.iadd, 1) := by decide +kernel
theorem dL_law_616 : decode cL_law 616 = .ok (.iaload, 1) := by decide +kernel
theorem dL_law_617 : decode cL_law 617 = .ok (.invokevirtual 75, 3) := by decide +kernel
theorem dL_law_620 : decode cL_law 620 = .ok (.aload_n 2, 1) := by decide +kernel
theorem dL_law_621 : decode cL_law 621 = .ok (.aload_n 0, 1) := by decide +kernel
theorem dL_law_622 : decode cL_law 622 = .ok (.iload_n 3, 1) := by decide +kernel
theorem dL_law_623 : decode cL_law 623 = .ok (.iconst 1, 1) := by decide +kernel
theorem dL_law_624 : decode cL_law 624 = .ok (.iadd, 1) := by decide +kernel
theorem dL_law_625 : decode cL_law 625 = .ok (.iaload, 1) := by decide +kernel
theorem dL_law_626 : decode cL_law 626 = .ok (.aload_n 0, 1) := by decide +kernel
theorem dL_law_627 : decode cL_law 627 = .ok (.iload_n 3, 1) := by decide +kernel
theorem dL_law_628 : decode cL_law 628 = .ok (.iconst 2, 1) := by decide +kernel
theorem dL_law_629 : decode cL_law 629 = .ok (.iadd, 1) := by decide +kernel
theorem dL_law_630 : decode cL_law 630 = .ok (.iaload, 1) := by decide +kernel
theorem dL_law_631 : decode cL_law 631 = .ok (.invokevirtual 78, 3) := by decide +kernel
theorem dL_law_634 : decode cL_law 634 = .ok (.if_icmp .eq 397, 3) := by decide +kernel
theorem dL_law_637 : decode cL_law 637 = .ok (.iconst 0, 1) := by decide +kernel
theorem dL_law_638 : decode cL_law 638 = .ok (.ireturn, 1) := by decide +kernel
theorem dL_law_639 : decode cL_law 639 = .ok (.aload_n 1, 1) := by decide +kernel
theorem dL_law_640 : decode cL_law 640 = .ok (.aload_n 0, 1) := by decide +kernel
theorem dL_law_641 : decode cL_law 641 = .ok (.iload_n 3, 1) := by decide +kernel
theorem dL_law_642 : decode cL_law 642 = .ok (.iconst 1, 1) := by decide +kernel
theorem dL_law_643 : decode cL_law 643 = .ok (.iadd, 1) := by decide +kernel
theorem dL_law_644 : decode cL_law 644 = .ok (.iaload, 1) := by decide +kernel
theorem dL_law_645 : decode cL_law 645 = .ok (.invokevirtual 79, 3) := by decide +kernel
theorem dL_law_648 : decode cL_law 648 = .ok (.aload_n 2, 1) := by decide +kernel
theorem dL_law_649 : decode cL_law 649 = .ok (.aload_n 0, 1) := by decide +kernel
theorem dL_law_650 : decode cL_law 650 = .ok (.iload_n 3, 1) := by decide +kernel
theorem dL_law_651 : decode cL_law 651 = .ok (.iconst 1, 1) := by decide +kernel
theorem dL_law_652 : decode cL_law 652 = .ok (.iadd, 1) := by decide +kernel
theorem dL_law_653 : decode cL_law 653 = .ok (.iaload, 1) := by decide +kernel
theorem dL_law_654 : decode cL_law 654 = .ok (.invokevirtual 82, 3) := by decide +kernel
theorem dL_law_657 : decode cL_law 657 = .ok (.if_icmp .eq 374, 3) := by decide +kernel
theorem dL_law_660 : decode cL_law 660 = .ok (.iconst 0, 1) := by decide +kernel
theorem dL_law_661 : decode cL_law 661 = .ok (.ireturn, 1) := by decide +kernel
theorem dL_law_662 : decode cL_law 662 = .ok (.aload_n 1, 1) := by decide +kernel
theorem dL_law_663 : decode cL_law 663 = .ok (.aload_n 0, 1) := by decide +kernel
theorem dL_law_664 : decode cL_law 664 = .ok (.iload_n 3, 1) := by decide +kernel
theorem dL_law_665 : decode cL_law 665 = .ok (.iconst 1, 1) := by decide +kernel
theorem dL_law_666 : decode cL_law 666 = .ok (.iadd, 1) := by decide +kernel
theorem dL_law_667 : decode cL_law 667 = .ok (.iaload, 1) := by decide +kernel
theorem dL_law_668 : decode cL_law 668 = .ok (.aload_n 0, 1) := by decide +kernel
theorem dL_law_669 : decode cL_law 669 = .ok (.iload_n 3, 1) := by decide +kernel
theorem dL_law_670 : decode cL_law 670 = .ok (.iconst 2, 1) := by decide +kernel
theorem dL_law_671 : decode cL_law 671 = .ok (.iadd, 1) := by decide +kernel
theorem dL_law_672 : decode cL_law 672 = .ok (.iaload, 1) := by decide +kernel
theorem dL_law_673 : decode cL_law 673 = .ok (.aload_n 0, 1) := by decide +kernel
theorem dL_law_674 : decode cL_law 674 = .ok (.iload_n 3, 1) := by decide +kernel
theorem dL_law_675 : decode cL_law 675 = .ok (.iconst 3, 1) := by decide +kernel
theorem dL_law_676 : decode cL_law 676 = .ok (.iadd, 1) := by decide +kernel
theorem dL_law_677 : decode cL_law 677 = .ok (.iaload, 1) := by decide +kernel
theorem dL_law_678 : decode cL_law 678 = .ok (.aload_n 0, 1) := by decide +kernel
theorem dL_law_679 : decode cL_law 679 = .ok (.iload_n 3, 1) := by decide +kernel
theorem dL_law_680 : decode cL_law 680 = .ok (.iconst 4, 1) := by decide +kernel
theorem dL_law_681 : decode cL_law 681 = .ok (.iadd, 1) := by decide +kernel
theorem dL_law_682 : decode cL_law 682 = .ok (.iaload, 1) := by decide +kernel
theorem dL_law_683 : decode cL_law 683 = .ok (.invokevirtual 83, 3) := by decide +kernel
theorem dL_law_686 : decode cL_law 686 = .ok (.aload_n 2, 1) := by decide +kernel
theorem dL_law_687 : decode cL_law 687 = .ok (.aload_n 0, 1) := by decide +kernel
theorem dL_law_688 : decode cL_law 688 = .ok (.iload_n 3, 1) := by decide +kernel
theorem dL_law_689 : decode cL_law 689 = .ok (.iconst 1, 1) := by decide +kernel
theorem dL_law_690 : decode cL_law 690 = .ok (.iadd, 1) := by decide +kernel
theorem dL_law_691 : decode cL_law 691 = .ok (.iaload, 1) := by decide +kernel
theorem dL_law_692 : decode cL_law 692 = .ok (.aload_n 0, 1) := by decide +kernel
theorem dL_law_693 : decode cL_law 693 = .ok (.iload_n 3, 1) := by decide +kernel
theorem dL_law_694 : decode cL_law 694 = .ok (.iconst 2, 1) := by decide +kernel
theorem dL_law_695 : decode cL_law 695 = .ok (.iadd, 1) := by decide +kernel
theorem dL_law_696 : decode cL_law 696 = .ok (.iaload, 1) := by decide +kernel
theorem dL_law_697 : decode cL_law 697 = .ok (.aload_n 0, 1) := by decide +kernel
theorem dL_law_698 : decode cL_law 698 = .ok (.iload_n 3, 1) := by decide +kernel
theorem dL_law_699 : decode cL_law 699 = .ok (.iconst 3, 1) := by decide +kernel
theorem dL_law_700 : decode cL_law 700 = .ok (.iadd, 1) := by decide +kernel
theorem dL_law_701 : decode cL_law 701 = .ok (.iaload, 1) := by decide +kernel
theorem dL_law_702 : decode cL_law 702 = .ok (.aload_n 0, 1) := by decide +kernel
theorem dL_law_703 : decode cL_law 703 = .ok (.iload_n 3, 1) := by decide +kernel
theorem dL_law_704 : decode cL_law 704 = .ok (.iconst 4, 1) := by decide +kernel
theorem dL_law_705 : decode cL_law 705 = .ok (.iadd, 1) := by decide +kernel
theorem dL_law_706 : decode cL_law 706 = .ok (.iaload, 1) := by decide +kernel
theorem dL_law_707 : decode cL_law 707 = .ok (.invokevirtual 87, 3) := by decide +kernel
theorem dL_law_710 : decode cL_law 710 = .ok (.if_icmp .eq 321, 3) := by decide +kernel
theorem dL_law_713 : decode cL_law 713 = .ok (.iconst 0, 1) := by decide +kernel
theorem dL_law_714 : decode cL_law 714 = .ok (.ireturn, 1) := by decide +kernel
theorem dL_law_715 : decode cL_law 715 = .ok (.aload_n 1, 1) := by decide +kernel
theorem dL_law_716 : decode cL_law 716 = .ok (.aload_n 0, 1) := by decide +kernel
theorem dL_law_717 : decode cL_law 717 = .ok (.iload_n 3, 1) := by decide +kernel
theorem dL_law_718 : decode cL_law 718 = .ok (.iconst 1, 1) := by decide +kernel
theorem dL_law_719 : decode cL_law 719 = .ok (.iadd, 1) := by decide +kernel
theorem dL_law_720 : decode cL_law 720 = .ok (.iaload, 1) := by decide +kernel
theorem dL_law_721 : decode cL_law 721 = .ok (.invokevirtual 88, 3) := by decide +kernel
theorem dL_law_724 : decode cL_law 724 = .ok (.aload_n 2, 1) := by decide +kernel
theorem dL_law_725 : decode cL_law 725 = .ok (.aload_n 0, 1) := by decide +kernel
theorem dL_law_726 : decode cL_law 726 = .ok (.iload_n 3, 1) := by decide +kernel
theorem dL_law_727 : decode cL_law 727 = .ok (.iconst 1, 1) := by decide +kernel
theorem dL_law_728 : decode cL_law 728 = .ok (.iadd, 1) := by decide +kernel
theorem dL_law_729 : decode cL_law 729 = .ok (.iaload, 1) := by decide +kernel
theorem dL_law_730 : decode cL_law 730 = .ok (.invokevirtual 91, 3) := by decide +kernel
theorem dL_law_733 : decode cL_law 733 = .ok (.if_icmp .eq 298, 3) := by decide +kernel
theorem dL_law_736 : decode cL_law 736 = .ok (.iconst 0, 1) := by decide +kernel
theorem dL_law_737 : decode cL_law 737 = .ok (.ireturn, 1) := by decide +kernel
theorem dL_law_738 : decode cL_law 738 = .ok (.aload_n 1, 1) := by decide +kernel
theorem dL_law_739 : decode cL_law 739 = .ok (.aload_n 0, 1) := by decide +kernel
theorem dL_law_740 : decode cL_law 740 = .ok (.iload_n 3, 1) := by decide +kernel
theorem dL_law_741 : decode cL_law 741 = .ok (.iconst 1, 1) := by decide +kernel
theorem dL_law_742 : decode cL_law 742 = .ok (.iadd, 1) := by decide +kernel
theorem dL_law_743 : decode cL_law 743 = .ok (.iaload, 1) := by decide +kernel
theorem dL_law_744 : decode cL_law 744 = .ok (.aload_n 0, 1) := by decide +kernel
theorem dL_law_745 : decode cL_law 745 = .ok (.iload_n 3, 1) := by decide +kernel
theorem dL_law_746 : decode cL_law 746 = .ok (.iconst 2, 1) := by decide +kernel
theorem dL_law_747 : decode cL_law 747 = .ok (.iadd, 1) := by decide +kernel
theorem dL_law_748 : decode cL_law 748 = .ok (.iaload, 1) := by decide +kernel
theorem dL_law_749 : decode cL_law 749 = .ok (.invokevirtual 92, 3) := by decide +kernel
theorem dL_law_752 : decode cL_law 752 = .ok (.aload_n 2, 1) := by decide +kernel
theorem dL_law_753 : decode cL_law 753 = .ok (.aload_n 0, 1) := by decide +kernel
theorem dL_law_754 : decode cL_law 754 = .ok (.iload_n 3, 1) := by decide +kernel
theorem dL_law_755 : decode cL_law 755 = .ok (.iconst 1, 1) := by decide +kernel
theorem dL_law_756 : decode cL_law 756 = .ok (.iadd, 1) := by decide +kernel
theorem dL_law_757 : decode cL_law 757 = .ok (.iaload, 1) := by decide +kernel
theorem dL_law_758 : decode cL_law 758 = .ok (.aload_n 0, 1) := by decide +kernel
theorem dL_law_759 : decode cL_law 759 = .ok (.iload_n 3, 1) := by decide +kernel
theorem dL_law_760 : decode cL_law 760 = .ok (.iconst 2, 1) := by decide +kernel
theorem dL_law_761 : decode cL_law 761 = .ok (.iadd, 1) := by decide +kernel
theorem dL_law_762 : decode cL_law 762 = .ok (.iaload, 1) := by decide +kernel
theorem dL_law_763 : decode cL_law 763 = .ok (.invokevirtual 95, 3) := by decide +kernel
theorem dL_law_766 : decode cL_law 766 = .ok (.if_icmp .eq 265, 3) := by decide +kernel
theorem dL_law_769 : decode cL_law 769 = .ok (.iconst 0, 1) := by decide +kernel
theorem dL_law_770 : decode cL_law 770 = .ok (.ireturn, 1) := by decide +kernel
theorem dL_law_771 : decode cL_law 771 = .ok (.aload_n 1, 1) := by decide +kernel
theorem dL_law_772 : decode cL_law 772 = .ok (.aload_n 0, 1) := by decide +kernel
theorem dL_law_773 : decode cL_law 773 = .ok (.iload_n 3, 1) := by decide +kernel
theorem dL_law_774 : decode cL_law 774 = .ok (.iconst 1, 1) := by decide +kernel
theorem dL_law_775 : decode cL_law 775 = .ok (.iadd, 1) := by decide +kernel
theorem dL_law_776 : decode cL_law 776 = .ok (.iaload, 1) := by decide +kernel
theorem dL_law_777 : decode cL_law 777 = .ok (.invokevirtual 96, 3) := by decide +kernel
theorem dL_law_780 : decode cL_law 780 = .ok (.aload_n 2, 1) := by decide +kernel
theorem dL_law_781 : decode cL_law 781 = .ok (.aload_n 0, 1) := by decide +kernel
theorem dL_law_782 : decode cL_law 782 = .ok (.iload_n 3, 1) := by decide +kernel
theorem dL_law_783 : decode cL_law 783 = .ok (.iconst 1, 1) := by decide +kernel
theorem dL_law_784 : decode cL_law 784 = .ok (.iadd, 1) := by decide +kernel
theorem dL_law_785 : decode cL_law 785 = .ok (.iaload, 1) := by decide +kernel
theorem dL_law_786 : decode cL_law 786 = .ok (.invokevirtual 99, 3) := by decide +kernel
theorem dL_law_789 : decode cL_law 789 = .ok (.if_icmp .eq 242, 3) := by decide +kernel
theorem dL_law_792 : decode cL_law 792 = .ok (.iconst 0, 1) := by decide +kernel
theorem dL_law_793 : decode cL_law 793 = .ok (.ireturn, 1) := by decide +kernel
theorem dL_law_794 : decode cL_law 794 = .ok (.aload_n 1, 1) := by decide +kernel
theorem dL_law_795 : decode cL_law 795 = .ok (.aload_n 0, 1) := by decide +kernel
theorem dL_law_796 : decode cL_law 796 = .ok (.iload_n 3, 1) := by decide +kernel
theorem dL_law_797 : decode cL_law 797 = .ok (.iconst 1, 1) := by decide +kernel
theorem dL_law_798 : decode cL_law 798 = .ok (.iadd, 1) := by decide +kernel
theorem dL_law_799 : decode cL_law 799 = .ok (.iaload, 1) := by decide +kernel
theorem dL_law_800 : decode cL_law 800 = .ok (.invokevirtual 100, 3) := by decide +kernel
theorem dL_law_803 : decode cL_law 803 = .ok (.aload_n 2, 1) := by decide +kernel
theorem dL_law_804 : decode cL_law 804 = .ok (.aload_n 0, 1) := by decide +kernel
theorem dL_law_805 : decode cL_law 805 = .ok (.iload_n 3, 1) := by decide +kernel
theorem dL_law_806 : decode cL_law 806 = .ok (.iconst 1, 1) := by decide +kernel
theorem dL_law_807 : decode cL_law 807 = .ok (.iadd, 1) := by decide +kernel
theorem dL_law_808 : decode cL_law 808 = .ok (.iaload, 1) := by decide +kernel
theorem dL_law_809 : decode cL_law 809 = .ok (.invokevirtual 103, 3) := by decide +kernel
theorem dL_law_812 : decode cL_law 812 = .ok (.if_icmp .eq 219, 3) := by decide +kernel
theorem dL_law_815 : decode cL_law 815 = .ok (.iconst 0, 1) := by decide +kernel
theorem dL_law_816 : decode cL_law 816 = .ok (.ireturn, 1) := by decide +kernel
theorem dL_law_817 : decode cL_law 817 = .ok (.aload_n 1, 1) := by decide +kernel
theorem dL_law_818 : decode cL_law 818 = .ok (.aload_n 0, 1) := by decide +kernel
theorem dL_law_819 : decode cL_law 819 = .ok (.iload_n 3, 1) := by decide +kernel
theorem dL_law_820 : decode cL_law 820 = .ok (.iconst 1, 1) := by decide +kernel
theorem dL_law_821 : decode cL_law 821 = .ok (.iadd, 1) := by decide +kernel
theorem dL_law_822 : decode cL_law 822 = .ok (.iaload, 1) := by decide +kernel
theorem dL_law_823 : decode cL_law 823 = .ok (.aload_n 0, 1) := by decide +kernel
theorem dL_law_824 : decode cL_law 824 = .ok (.iload_n 3, 1) := by decide +kernel
theorem dL_law_825 : decode cL_law 825 = .ok (.iconst 2, 1) := by decide +kernel
theorem dL_law_826 : decode cL_law 826 = .ok (.iadd, 1) := by decide +kernel
theorem dL_law_827 : decode cL_law 827 = .ok (.iaload, 1) := by decide +kernel
theorem dL_law_828 : decode cL_law 828 = .ok (.aload_n 0, 1) := by decide +kernel
theorem dL_law_829 : decode cL_law 829 = .ok (.iload_n 3, 1) := by decide +kernel
theorem dL_law_830 : decode cL_law 830 = .ok (.iconst 3, 1) := by decide +kernel
theorem dL_law_831 : decode cL_law 831 = .ok (.iadd, 1) := by decide +kernel
theorem dL_law_832 : decode cL_law 832 = .ok (.iaload, 1) := by decide +kernel
theorem dL_law_833 : decode cL_law 833 = .ok (.invokevirtual 104, 3) := by decide +kernel
theorem dL_law_836 : decode cL_law 836 = .ok (.aload_n 2, 1) := by decide +kernel
theorem dL_law_837 : decode cL_law 837 = .ok (.aload_n 0, 1) := by decide +kernel
theorem dL_law_838 : decode cL_law 838 = .ok (.iload_n 3, 1) := by decide +kernel
theorem dL_law_839 : decode cL_law 839 = .ok (.iconst 1, 1) := by decide +kernel
theorem dL_law_840 : decode cL_law 840 = .ok (.iadd, 1) := by decide +kernel
theorem dL_law_841 : decode cL_law 841 = .ok (.iaload, 1) := by decide +kernel
theorem dL_law_842 : decode cL_law 842 = .ok (.aload_n 0, 1) := by decide +kernel
theorem dL_law_843 : decode cL_law 843 = .ok (.iload_n 3, 1) := by decide +kernel
theorem dL_law_844 : decode cL_law 844 = .ok (.iconst 2, 1) := by decide +kernel
theorem dL_law_845 : decode cL_law 845 = .ok (.iadd, 1) := by decide +kernel
theorem dL_law_846 : decode cL_law 846 = .ok (.iaload, 1) := by decide +kernel
theorem dL_law_847 : decode cL_law 847 = .ok (.aload_n 0, 1) := by decide +kernel
theorem dL_law_848 : decode cL_law 848 = .ok (.iload_n 3, 1) := by decide +kernel
theorem dL_law_849 : decode cL_law 849 = .ok (.iconst 3, 1) := by decide +kernel
theorem dL_law_850 : decode cL_law 850 = .ok (.iadd, 1) := by decide +kernel
theorem dL_law_851 : decode cL_law 851 = .ok (.iaload, 1) := by decide +kernel
theorem dL_law_852 : decode cL_law 852 = .ok (.invokevirtual 107, 3) := by decide +kernel
theorem dL_law_855 : decode cL_law 855 = .ok (.if_icmp .eq 176, 3) := by decide +kernel
theorem dL_law_858 : decode cL_law 858 = .ok (.iconst 0, 1) := by decide +kernel
theorem dL_law_859 : decode cL_law 859 = .ok (.ireturn, 1) := by decide +kernel
theorem dL_law_860 : decode cL_law 860 = .ok (.aload_n 1, 1) := by decide +kernel
theorem dL_law_861 : decode cL_law 861 = .ok (.aload_n 0, 1) := by decide +kernel
theorem dL_law_862 : decode cL_law 862 = .ok (.iload_n 3, 1) := by decide +kernel
theorem dL_law_863 : decode cL_law 863 = .ok (.iconst 1, 1) := by decide +kernel
theorem dL_law_864 : decode cL_law 864 = .ok (.iadd, 1) := by decide +kernel
theorem dL_law_865 : decode cL_law 865 = .ok (.iaload, 1) := by decide +kernel
theorem dL_law_866 : decode cL_law 866 = .ok (.invokevirtual 108, 3) := by decide +kernel
theorem dL_law_869 : decode cL_law 869 = .ok (.aload_n 2, 1) := by decide +kernel
theorem dL_law_870 : decode cL_law 870 = .ok (.aload_n 0, 1) := by decide +kernel
theorem dL_law_871 : decode cL_law 871 = .ok (.iload_n 3, 1) := by decide +kernel
theorem dL_law_872 : decode cL_law 872 = .ok (.iconst 1, 1) := by decide +kernel
theorem dL_law_873 : decode cL_law 873 = .ok (.iadd, 1) := by decide +kernel
theorem dL_law_874 : decode cL_law 874 = .ok (.iaload, 1) := by decide +kernel
theorem dL_law_875 : decode cL_law 875 = .ok (.invokevirtual 112, 3) := by decide +kernel
theorem dL_law_878 : decode cL_law 878 = .ok (.if_icmp .eq 153, 3) := by decide +kernel
theorem dL_law_881 : decode cL_law 881 = .ok (.iconst 0, 1) := by decide +kernel
theorem dL_law_882 : decode cL_law 882 = .ok (.ireturn, 1) := by decide +kernel
theorem dL_law_883 : decode cL_law 883 = .ok (.aload_n 1, 1) := by decide +kernel
theorem dL_law_884 : decode cL_law 884 = .ok (.aload_n 0, 1) := by decide +kernel
theorem dL_law_885 : decode cL_law 885 = .ok (.iload_n 3, 1) := by decide +kernel
theorem dL_law_886 : decode cL_law 886 = .ok (.iconst 1, 1) := by decide +kernel
theorem dL_law_887 : decode cL_law 887 = .ok (.iadd, 1) := by decide +kernel
theorem dL_law_888 : decode cL_law 888 = .ok (.iaload, 1) := by decide +kernel
theorem dL_law_889 : decode cL_law 889 = .ok (.invokevirtual 113, 3) := by decide +kernel
theorem dL_law_892 : decode cL_law 892 = .ok (.aload_n 2, 1) := by decide +kernel
theorem dL_law_893 : decode cL_law 893 = .ok (.aload_n 0, 1) := by decide +kernel
theorem dL_law_894 : decode cL_law 894 = .ok (.iload_n 3, 1) := by decide +kernel
theorem dL_law_895 : decode cL_law 895 = .ok (.iconst 1, 1) := by decide +kernel
theorem dL_law_896 : decode cL_law 896 = .ok (.iadd, 1) := by decide +kernel
theorem dL_law_897 : decode cL_law 897 = .ok (.iaload, 1) := by decide +kernel
theorem dL_law_898 : decode cL_law 898 = .ok (.invokevirtual 116, 3) := by decide +kernel
theorem dL_law_901 : decode cL_law 901 = .ok (.if_icmp .eq 130, 3) := by decide +kernel
theorem dL_law_904 : decode cL_law 904 = .ok (.iconst 0, 1) := by decide +kernel
theorem dL_law_905 : decode cL_law 905 = .ok (.ireturn, 1) := by decide +kernel
theorem dL_law_906 : decode cL_law 906 = .ok (.aload_n 1, 1) := by decide +kernel
theorem dL_law_907 : decode cL_law 907 = .ok (.aload_n 0, 1) := by decide +kernel
theorem dL_law_908 : decode cL_law 908 = .ok (.iload_n 3, 1) := by decide +kernel
theorem dL_law_909 : decode cL_law 909 = .ok (.iconst 1, 1) := by decide +kernel
theorem dL_law_910 : decode cL_law 910 = .ok (.iadd, 1) := by decide +kernel
theorem dL_law_911 : decode cL_law 911 = .ok (.iaload, 1) := by decide +kernel
theorem dL_law_912 : decode cL_law 912 = .ok (.aload_n 0, 1) := by decide +kernel
theorem dL_law_913 : decode cL_law 913 = .ok (.iload_n 3, 1) := by decide +kernel
theorem dL_law_914 : decode cL_law 914 = .ok (.iconst 2, 1) := by decide +kernel
theorem dL_law_915 : decode cL_law 915 = .ok (.iadd, 1) := by decide +kernel
theorem dL_law_916 : decode cL_law 916 = .ok (.iaload, 1) := by decide +kernel
theorem dL_law_917 : decode cL_law 917 = .ok (.invokevirtual 117, 3) := by decide +kernel
theorem dL_law_920 : decode cL_law 920 = .ok (.aload_n 2, 1) := by decide +kernel
theorem dL_law_921 : decode cL_law 921 = .ok (.aload_n 0, 1) := by decide +kernel
theorem dL_law_922 : decode cL_law 922 = .ok (.iload_n 3, 1) := by decide +kernel
theorem dL_law_923 : decode cL_law 923 = .ok (.iconst 1, 1) := by decide +kernel
theorem dL_law_924 : decode cL_law 924 = .ok (.iadd, 1) := by decide +kernel
theorem dL_law_925 : decode cL_law 925 = .ok (.iaload, 1) := by decide +kernel
theorem dL_law_926 : decode cL_law 926 = .ok (.aload_n 0, 1) := by decide +kernel
theorem dL_law_927 : decode cL_law 927 = .ok (.iload_n 3, 1) := by decide +kernel
theorem dL_law_928 : decode cL_law 928 = .ok (.iconst 2, 1) := by decide +kernel
theorem dL_law_929 : decode cL_law 929 = .ok (.iadd, 1) := by decide +kernel
theorem dL_law_930 : decode cL_law 930 = .ok (.iaload, 1) := by decide +kernel
theorem dL_law_931 : decode cL_law 931 = .ok (.invokevirtual 120, 3) := by decide +kernel
theorem dL_law_934 : decode cL_law 934 = .ok (.if_icmp .eq 97, 3) := by decide +kernel
theorem dL_law_937 : decode cL_law 937 = .ok (.iconst 0, 1) := by decide +kernel
theorem dL_law_938 : decode cL_law 938 = .ok (.ireturn, 1) := by decide +kernel
theorem dL_law_939 : decode cL_law 939 = .ok (.aload_n 1, 1) := by decide +kernel
theorem dL_law_940 : decode cL_law 940 = .ok (.aload_n 0, 1) := by decide +kernel
theorem dL_law_941 : decode cL_law 941 = .ok (.iload_n 3, 1) := by decide +kernel
theorem dL_law_942 : decode cL_law 942 = .ok (.iconst 1, 1) := by decide +kernel
theorem dL_law_943 : decode cL_law 943 = .ok (.iadd, 1) := by decide +kernel
theorem dL_law_944 : decode cL_law 944 = .ok (.iaload, 1) := by decide +kernel
theorem dL_law_945 : decode cL_law 945 = .ok (.invokevirtual 121, 3) := by decide +kernel
theorem dL_law_948 : decode cL_law 948 = .ok (.aload_n 2, 1) := by decide +kernel
theorem dL_law_949 : decode cL_law 949 = .ok (.aload_n 0, 1) := by decide +kernel
theorem dL_law_950 : decode cL_law 950 = .ok (.iload_n 3, 1) := by decide +kernel
theorem dL_law_951 : decode cL_law 951 = .ok (.iconst 1, 1) := by decide +kernel
theorem dL_law_952 : decode cL_law 952 = .ok (.iadd, 1) := by decide +kernel
theorem dL_law_953 : decode cL_law 953 = .ok (.iaload, 1) := by decide +kernel
theorem dL_law_954 : decode cL_law 954 = .ok (.invokevirtual 124, 3) := by decide +kernel
theorem dL_law_957 : decode cL_law 957 = .ok (.if_icmp .eq 74, 3) := by decide +kernel
theorem dL_law_960 : decode cL_law 960 = .ok (.iconst 0, 1) := by decide +kernel
theorem dL_law_961 : decode cL_law 961 = .ok (.ireturn, 1) := by decide +kernel
theorem dL_law_962 : decode cL_law 962 = .ok (.aload_n 1, 1) := by decide +kernel
theorem dL_law_963 : decode cL_law 963 = .ok (.aload_n 0, 1) := by decide +kernel
theorem dL_law_964 : decode cL_law 964 = .ok (.iload_n 3, 1) := by decide +kernel
theorem dL_law_965 : decode cL_law 965 = .ok (.iconst 1, 1) := by decide +kernel
theorem dL_law_966 : decode cL_law 966 = .ok (.iadd, 1) := by decide +kernel
theorem dL_law_967 : decode cL_law 967 = .ok (.iaload, 1) := by decide +kernel
theorem dL_law_968 : decode cL_law 968 = .ok (.invokevirtual 125, 3) := by decide +kernel
theorem dL_law_971 : decode cL_law 971 = .ok (.aload_n 2, 1) := by decide +kernel
theorem dL_law_972 : decode cL_law 972 = .ok (.aload_n 0, 1) := by decide +kernel
theorem dL_law_973 : decode cL_law 973 = .ok (.iload_n 3, 1) := by decide +kernel
theorem dL_law_974 : decode cL_law 974 = .ok (.iconst 1, 1) := by decide +kernel
theorem dL_law_975 : decode cL_law 975 = .ok (.iadd, 1) := by decide +kernel
theorem dL_law_976 : decode cL_law 976 = .ok (.iaload, 1) := by decide +kernel
theorem dL_law_977 : decode cL_law 977 = .ok (.invokevirtual 128, 3) := by decide +kernel
theorem dL_law_980 : decode cL_law 980 = .ok (.if_icmp .eq 51, 3) := by decide +kernel
theorem dL_law_983 : decode cL_law 983 = .ok (.iconst 0, 1) := by decide +kernel
theorem dL_law_984 : decode cL_law 984 = .ok (.ireturn, 1) := by decide +kernel
theorem dL_law_985 : decode cL_law 985 = .ok (.aload_n 1, 1) := by decide +kernel
theorem dL_law_986 : decode cL_law 986 = .ok (.aload_n 0, 1) := by decide +kernel
theorem dL_law_987 : decode cL_law 987 = .ok (.iload_n 3, 1) := by decide +kernel
theorem dL_law_988 : decode cL_law 988 = .ok (.iconst 1, 1) := by decide +kernel
theorem dL_law_989 : decode cL_law 989 = .ok (.iadd, 1) := by decide +kernel
theorem dL_law_990 : decode cL_law 990 = .ok (.iaload, 1) := by decide +kernel
theorem dL_law_991 : decode cL_law 991 = .ok (.invokevirtual 129, 3) := by decide +kernel
theorem dL_law_994 : decode cL_law 994 = .ok (.aload_n 2, 1) := by decide +kernel
theorem dL_law_995 : decode cL_law 995 = .ok (.aload_n 0, 1) := by decide +kernel
theorem dL_law_996 : decode cL_law 996 = .ok (.iload_n 3, 1) := by decide +kernel
theorem dL_law_997 : decode cL_law 997 = .ok (.iconst 1, 1) := by decide +kernel
theorem dL_law_998 : decode cL_law 998 = .ok (.iadd, 1) := by decide +kernel
theorem dL_law_999 : decode cL_law 999 = .ok (.iaload, 1) := by decide +kernel
theorem dL_law_1000 : decode cL_law 1000 = .ok (.invokevirtual 132, 3) := by decide +kernel
theorem dL_law_1003 : decode cL_law 1003 = .ok (.if_icmp .eq 28, 3) := by decide +kernel
theorem dL_law_1006 : decode cL_law 1006 = .ok (.iconst 0, 1) := by decide +kernel
theorem dL_law_1007 : decode cL_law 1007 = .ok (.ireturn, 1) := by decide +kernel
theorem dL_law_1008 : decode cL_law 1008 = .ok (.aload_n 1, 1) := by decide +kernel
theorem dL_law_1009 : decode cL_law 1009 = .ok (.aload_n 0, 1) := by decide +kernel
theorem dL_law_1010 : decode cL_law 1010 = .ok (.iload_n 3, 1) := by decide +kernel
theorem dL_law_1011 : decode cL_law 1011 = .ok (.iconst 1, 1) := by decide +kernel
theorem dL_law_1012 : decode cL_law 1012 = .ok (.iadd, 1) := by decide +kernel
theorem dL_law_1013 : decode cL_law 1013 = .ok (.iaload, 1) := by decide +kernel
theorem dL_law_1014 : decode cL_law 1014 = .ok (.invokevirtual 133, 3) := by decide +kernel
theorem dL_law_1017 : decode cL_law 1017 = .ok (.aload_n 2, 1) := by decide +kernel
theorem dL_law_1018 : decode cL_law 1018 = .ok (.aload_n 0, 1) := by decide +kernel
theorem dL_law_1019 : decode cL_law 1019 = .ok (.iload_n 3, 1) := by decide +kernel
theorem dL_law_1020 : decode cL_law 1020 = .ok (.iconst 1, 1) := by decide +kernel
theorem dL_law_1021 : decode cL_law 1021 = .ok (.iadd, 1) := by decide +kernel
theorem dL_law_1022 : decode cL_law 1022 = .ok (.iaload, 1) := by decide +kernel
theorem dL_law_1023 : decode cL_law 1023 = .ok (.invokevirtual 136, 3) := by decide +kernel
theorem dL_law_1026 : decode cL_law 1026 = .ok (.if_icmp .eq 5, 3) := by decide +kernel
theorem dL_law_1029 : decode cL_law 1029 = .ok (.iconst 0, 1) := by decide +kernel
theorem dL_law_1030 : decode cL_law 1030 = .ok (.ireturn, 1) := by decide +kernel
theorem dL_law_1031 : decode cL_law 1031 = .ok (.iinc 3 6, 3) := by decide +kernel
theorem dL_law_1034 : decode cL_law 1034 = .ok (.goto (-1016), 3) := by decide +kernel
theorem dL_law_1037 : decode cL_law 1037 = .ok (.iconst 1, 1) := by decide +kernel
theorem dL_law_1038 : decode cL_law 1038 = .ok (.ireturn, 1) := by decide +kernel
