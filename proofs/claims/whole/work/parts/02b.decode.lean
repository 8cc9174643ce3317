theorem dX5_payFor_78 : decode cX5_payFor 78 = .ok (.getfield 24, 3) := by decide +kernel
theorem dX5_payFor_81 : decode cX5_payFor 81 = .ok (.iload 5, 2) := by decide +kernel
theorem dX5_payFor_83 : decode cX5_payFor 83 = .ok (.iload_n 2, 1) := by decide +kernel
theorem dX5_payFor_84 : decode cX5_payFor 84 = .ok (.invokevirtual 110, 3) := by decide +kernel
theorem dX5_payFor_87 : decode cX5_payFor 87 = .ok (.ifCond .eq 30, 3) := by decide +kernel
theorem dX5_payFor_90 : decode cX5_payFor 90 = .ok (.iinc 4 1, 3) := by decide +kernel
theorem dX5_payFor_93 : decode cX5_payFor 93 = .ok (.aload_n 0, 1) := by decide +kernel
theorem dX5_payFor_94 : decode cX5_payFor 94 = .ok (.getfield 24, 3) := by decide +kernel
theorem dX5_payFor_97 : decode cX5_payFor 97 = .ok (.getfield 120, 3) := by decide +kernel
theorem dX5_payFor_100 : decode cX5_payFor 100 = .ok (.iconst 2, 1) := by decide +kernel
theorem dX5_payFor_101 : decode cX5_payFor 101 = .ok (.if_icmp .eq 16, 3) := by decide +kernel
theorem dX5_payFor_104 : decode cX5_payFor 104 = .ok (.aload_n 0, 1) := by decide +kernel
theorem dX5_payFor_105 : decode cX5_payFor 105 = .ok (.iload 5, 2) := by decide +kernel
theorem dX5_payFor_107 : decode cX5_payFor 107 = .ok (.iload_n 1, 1) := by decide +kernel
theorem dX5_payFor_108 : decode cX5_payFor 108 = .ok (.iload_n 2, 1) := by decide +kernel
theorem dX5_payFor_109 : decode cX5_payFor 109 = .ok (.invokevirtual 123, 3) := by decide +kernel
theorem dX5_payFor_112 : decode cX5_payFor 112 = .ok (.ifCond .eq 5, 3) := by decide +kernel
theorem dX5_payFor_115 : decode cX5_payFor 115 = .ok (.iconst 0, 1) := by decide +kernel
theorem dX5_payFor_116 : decode cX5_payFor 116 = .ok (.ireturn, 1) := by decide +kernel
theorem dX5_payFor_117 : decode cX5_payFor 117 = .ok (.iinc 5 1, 3) := by decide +kernel
theorem dX5_payFor_120 : decode cX5_payFor 120 = .ok (.goto (-72), 3) := by decide +kernel
theorem dX5_payFor_123 : decode cX5_payFor 123 = .ok (.aload_n 0, 1) := by decide +kernel
theorem dX5_payFor_124 : decode cX5_payFor 124 = .ok (.getfield 24, 3) := by decide +kernel
theorem dX5_payFor_127 : decode cX5_payFor 127 = .ok (.getfield 120, 3) := by decide +kernel
theorem dX5_payFor_130 : decode cX5_payFor 130 = .ok (.iconst 2, 1) := by decide +kernel
theorem dX5_payFor_131 : decode cX5_payFor 131 = .ok (.if_icmp .ne 10, 3) := by decide +kernel
theorem dX5_payFor_134 : decode cX5_payFor 134 = .ok (.iload_n 3, 1) := by decide +kernel
theorem dX5_payFor_135 : decode cX5_payFor 135 = .ok (.iload 4, 2) := by decide +kernel
theorem dX5_payFor_137 : decode cX5_payFor 137 = .ok (.idiv, 1) := by decide +kernel
theorem dX5_payFor_138 : decode cX5_payFor 138 = .ok (.goto 4, 3) := by decide +kernel
theorem dX5_payFor_141 : decode cX5_payFor 141 = .ok (.iload_n 3, 1) := by decide +kernel
theorem dX5_payFor_142 : decode cX5_payFor 142 = .ok (.ireturn, 1) := by decide +kernel
theorem dX5_isAhead_0 : decode cX5_isAhead 0 = .ok (.aload_n 0, 1) := by decide +kernel
theorem dX5_isAhead_1 : decode cX5_isAhead 1 = .ok (.getfield 24, 3) := by decide +kernel
theorem dX5_isAhead_4 : decode cX5_isAhead 4 = .ok (.getfield 127, 3) := by decide +kernel
theorem dX5_isAhead_7 : decode cX5_isAhead 7 = .ok (.iload_n 1, 1) := by decide +kernel
theorem dX5_isAhead_8 : decode cX5_isAhead 8 = .ok (.iaload, 1) := by decide +kernel
theorem dX5_isAhead_9 : decode cX5_isAhead 9 = .ok (.aload_n 0, 1) := by decide +kernel
theorem dX5_isAhead_10 : decode cX5_isAhead 10 = .ok (.getfield 24, 3) := by decide +kernel
theorem dX5_isAhead_13 : decode cX5_isAhead 13 = .ok (.getfield 127, 3) := by decide +kernel
theorem dX5_isAhead_16 : decode cX5_isAhead 16 = .ok (.iload_n 2, 1) := by decide +kernel
theorem dX5_isAhead_17 : decode cX5_isAhead 17 = .ok (.iaload, 1) := by decide +kernel
theorem dX5_isAhead_18 : decode cX5_isAhead 18 = .ok (.isub, 1) := by decide +kernel
theorem dX5_isAhead_19 : decode cX5_isAhead 19 = .ok (.istore 4, 2) := by decide +kernel
theorem dX5_isAhead_21 : decode cX5_isAhead 21 = .ok (.aload_n 0, 1) := by decide +kernel
theorem dX5_isAhead_22 : decode cX5_isAhead 22 = .ok (.getfield 24, 3) := by decide +kernel
theorem dX5_isAhead_25 : decode cX5_isAhead 25 = .ok (.getfield 120, 3) := by decide +kernel
theorem dX5_isAhead_28 : decode cX5_isAhead 28 = .ok (.ifCond .ne 18, 3) := by decide +kernel
theorem dX5_isAhead_31 : decode cX5_isAhead 31 = .ok (.aload_n 0, 1) := by decide +kernel
theorem dX5_isAhead_32 : decode cX5_isAhead 32 = .ok (.iload_n 2, 1) := by decide +kernel
theorem dX5_isAhead_33 : decode cX5_isAhead 33 = .ok (.iload_n 3, 1) := by decide +kernel
theorem dX5_isAhead_34 : decode cX5_isAhead 34 = .ok (.invokevirtual 79, 3) := by decide +kernel
theorem dX5_isAhead_37 : decode cX5_isAhead 37 = .ok (.aload_n 0, 1) := by decide +kernel
theorem dX5_isAhead_38 : decode cX5_isAhead 38 = .ok (.iload_n 1, 1) := by decide +kernel
theorem dX5_isAhead_39 : decode cX5_isAhead 39 = .ok (.iload_n 3, 1) := by decide +kernel
theorem dX5_isAhead_40 : decode cX5_isAhead 40 = .ok (.invokevirtual 79, 3) := by decide +kernel
theorem dX5_isAhead_43 : decode cX5_isAhead 43 = .ok (.isub, 1) := by decide +kernel
theorem dX5_isAhead_44 : decode cX5_isAhead 44 = .ok (.istore 4, 2) := by decide +kernel
theorem dX5_isAhead_46 : decode cX5_isAhead 46 = .ok (.iload 4, 2) := by decide +kernel
theorem dX5_isAhead_48 : decode cX5_isAhead 48 = .ok (.ifCond .gt 13, 3) := by decide +kernel
theorem dX5_isAhead_51 : decode cX5_isAhead 51 = .ok (.iload 4, 2) := by decide +kernel
theorem dX5_isAhead_53 : decode cX5_isAhead 53 = .ok (.ifCond .ne 12, 3) := by decide +kernel
theorem dX5_isAhead_56 : decode cX5_isAhead 56 = .ok (.iload_n 1, 1) := by decide +kernel
theorem dX5_isAhead_57 : decode cX5_isAhead 57 = .ok (.iload_n 2, 1) := by decide +kernel
theorem dX5_isAhead_58 : decode cX5_isAhead 58 = .ok (.if_icmp .ge 7, 3) := by decide +kernel
theorem dX5_isAhead_61 : decode cX5_isAhead 61 = .ok (.iconst 1, 1) := by decide +kernel
theorem dX5_isAhead_62 : decode cX5_isAhead 62 = .ok (.goto 4, 3) := by decide +kernel
theorem dX5_isAhead_65 : decode cX5_isAhead 65 = .ok (.iconst 0, 1) := by decide +kernel
theorem dX5_isAhead_66 : decode cX5_isAhead 66 = .ok (.ireturn, 1) := by decide +kernel
theorem dX5_walk_0 : decode cX5_walk 0 = .ok (.aload_n 0, 1) := by decide +kernel
theorem dX5_walk_1 : decode cX5_walk 1 = .ok (.getfield 24, 3) := by decide +kernel
theorem dX5_walk_4 : decode cX5_walk 4 = .ok (.getfield 82, 3) := by decide +kernel
theorem dX5_walk_7 : decode cX5_walk 7 = .ok (.aload_n 0, 1) := by decide +kernel
theorem dX5_walk_8 : decode cX5_walk 8 = .ok (.getfield 28, 3) := by decide +kernel
theorem dX5_walk_11 : decode cX5_walk 11 = .ok (.getfield 130, 3) := by decide +kernel
theorem dX5_walk_14 : decode cX5_walk 14 = .ok (.iload_n 1, 1) := by decide +kernel
theorem dX5_walk_15 : decode cX5_walk 15 = .ok (.iaload, 1) := by decide +kernel
theorem dX5_walk_16 : decode cX5_walk 16 = .ok (.aload_n 0, 1) := by decide +kernel
theorem dX5_walk_17 : decode cX5_walk 17 = .ok (.getfield 24, 3) := by decide +kernel
theorem dX5_walk_20 : decode cX5_walk 20 = .ok (.getfield 76, 3) := by decide +kernel
theorem dX5_walk_23 : decode cX5_walk 23 = .ok (.iload_n 2, 1) := by decide +kernel
theorem dX5_walk_24 : decode cX5_walk 24 = .ok (.iaload, 1) := by decide +kernel
theorem dX5_walk_25 : decode cX5_walk 25 = .ok (.invokevirtual 133, 3) := by decide +kernel
theorem dX5_walk_28 : decode cX5_walk 28 = .ok (.ireturn, 1) := by decide +kernel
theorem dX5_payOfAll_0 : decode cX5_payOfAll 0 = .ok (.iconst 0, 1) := by decide +kernel
theorem dX5_payOfAll_1 : decode cX5_payOfAll 1 = .ok (.istore_n 1, 1) := by decide +kernel
theorem dX5_payOfAll_2 : decode cX5_payOfAll 2 = .ok (.iconst 0, 1) := by decide +kernel
theorem dX5_payOfAll_3 : decode cX5_payOfAll 3 = .ok (.istore_n 2, 1) := by decide +kernel
theorem dX5_payOfAll_4 : decode cX5_payOfAll 4 = .ok (.iload_n 2, 1) := by decide +kernel
theorem dX5_payOfAll_5 : decode cX5_payOfAll 5 = .ok (.aload_n 0, 1) := by decide +kernel
theorem dX5_payOfAll_6 : decode cX5_payOfAll 6 = .ok (.getfield 24, 3) := by decide +kernel
theorem dX5_payOfAll_9 : decode cX5_payOfAll 9 = .ok (.getfield 32, 3) := by decide +kernel
theorem dX5_payOfAll_12 : decode cX5_payOfAll 12 = .ok (.if_icmp .ge 23, 3) := by decide +kernel
theorem dX5_payOfAll_15 : decode cX5_payOfAll 15 = .ok (.iload_n 1, 1) := by decide +kernel
theorem dX5_payOfAll_16 : decode cX5_payOfAll 16 = .ok (.aload_n 0, 1) := by decide +kernel
theorem dX5_payOfAll_17 : decode cX5_payOfAll 17 = .ok (.iload_n 2, 1) := by decide +kernel
theorem dX5_payOfAll_18 : decode cX5_payOfAll 18 = .ok (.aload_n 0, 1) := by decide +kernel
theorem dX5_payOfAll_19 : decode cX5_payOfAll 19 = .ok (.getfield 21, 3) := by decide +kernel
theorem dX5_payOfAll_22 : decode cX5_payOfAll 22 = .ok (.iload_n 2, 1) := by decide +kernel
theorem dX5_payOfAll_23 : decode cX5_payOfAll 23 = .ok (.iaload, 1) := by decide +kernel
theorem dX5_payOfAll_24 : decode cX5_payOfAll 24 = .ok (.invokevirtual 107, 3) := by decide +kernel
theorem dX5_payOfAll_27 : decode cX5_payOfAll 27 = .ok (.iadd, 1) := by decide +kernel
theorem dX5_payOfAll_28 : decode cX5_payOfAll 28 = .ok (.istore_n 1, 1) := by decide +kernel
theorem dX5_payOfAll_29 : decode cX5_payOfAll 29 = .ok (.iinc 2 1, 3) := by decide +kernel
theorem dX5_payOfAll_32 : decode cX5_payOfAll 32 = .ok (.goto (-28), 3) := by decide +kernel
theorem dX5_payOfAll_35 : decode cX5_payOfAll 35 = .ok (.iload_n 1, 1) := by decide +kernel
theorem dX5_payOfAll_36 : decode cX5_payOfAll 36 = .ok (.ireturn, 1) := by decide +kernel
theorem dX5_lost_0 : decode cX5_lost 0 = .ok (.iconst 0, 1) := by decide +kernel
theorem dX5_lost_1 : decode cX5_lost 1 = .ok (.istore_n 1, 1) := by decide +kernel
theorem dX5_lost_2 : decode cX5_lost 2 = .ok (.iconst 0, 1) := by decide +kernel
theorem dX5_lost_3 : decode cX5_lost 3 = .ok (.istore_n 2, 1) := by decide +kernel
theorem dX5_lost_4 : decode cX5_lost 4 = .ok (.iload_n 2, 1) := by decide +kernel
theorem dX5_lost_5 : decode cX5_lost 5 = .ok (.aload_n 0, 1) := by decide +kernel
theorem dX5_lost_6 : decode cX5_lost 6 = .ok (.getfield 24, 3) := by decide +kernel
theorem dX5_lost_9 : decode cX5_lost 9 = .ok (.getfield 38, 3) := by decide +kernel
theorem dX5_lost_12 : decode cX5_lost 12 = .ok (.if_icmp .ge 111, 3) := by decide +kernel
theorem dX5_lost_15 : decode cX5_lost 15 = .ok (.iconst 0, 1) := by decide +kernel
theorem dX5_lost_16 : decode cX5_lost 16 = .ok (.istore_n 3, 1) := by decide +kernel
theorem dX5_lost_17 : decode cX5_lost 17 = .ok (.iconst 0, 1) := by decide +kernel
theorem dX5_lost_18 : decode cX5_lost 18 = .ok (.istore 4, 2) := by decide +kernel
theorem dX5_lost_20 : decode cX5_lost 20 = .ok (.iconst 0, 1) := by decide +kernel
theorem dX5_lost_21 : decode cX5_lost 21 = .ok (.istore 5, 2) := by decide +kernel
theorem dX5_lost_23 : decode cX5_lost 23 = .ok (.iconst 0, 1) := by decide +kernel
theorem dX5_lost_24 : decode cX5_lost 24 = .ok (.istore 6, 2) := by decide +kernel
theorem dX5_lost_26 : decode cX5_lost 26 = .ok (.iload 6, 2) := by decide +kernel
theorem dX5_lost_28 : decode cX5_lost 28 = .ok (.aload_n 0, 1) := by decide +kernel
theorem dX5_lost_29 : decode cX5_lost 29 = .ok (.getfield 24, 3) := by decide +kernel
theorem dX5_lost_32 : decode cX5_lost 32 = .ok (.getfield 32, 3) := by decide +kernel
theorem dX5_lost_35 : decode cX5_lost 35 = .ok (.if_icmp .ge 62, 3) := by decide +kernel
theorem dX5_lost_38 : decode cX5_lost 38 = .ok (.aload_n 0, 1) := by decide +kernel
theorem dX5_lost_39 : decode cX5_lost 39 = .ok (.getfield 21, 3) := by decide +kernel
theorem dX5_lost_42 : decode cX5_lost 42 = .ok (.iload 6, 2) := by decide +kernel
theorem dX5_lost_44 : decode cX5_lost 44 = .ok (.iaload, 1) := by decide +kernel
theorem dX5_lost_45 : decode cX5_lost 45 = .ok (.iload_n 2, 1) := by decide +kernel
theorem dX5_lost_46 : decode cX5_lost 46 = .ok (.if_icmp .ne 45, 3) := by decide +kernel
theorem dX5_lost_49 : decode cX5_lost 49 = .ok (.iinc 3 1, 3) := by decide +kernel
theorem dX5_lost_52 : decode cX5_lost 52 = .ok (.iload 4, 2) := by decide +kernel
theorem dX5_lost_54 : decode cX5_lost 54 = .ok (.aload_n 0, 1) := by decide +kernel
theorem dX5_lost_55 : decode cX5_lost 55 = .ok (.getfield 24, 3) := by decide +kernel
theorem dX5_lost_58 : decode cX5_lost 58 = .ok (.iload 6, 2) := by decide +kernel
theorem dX5_lost_60 : decode cX5_lost 60 = .ok (.iload_n 2, 1) := by decide +kernel
theorem dX5_lost_61 : decode cX5_lost 61 = .ok (.invokevirtual 110, 3) := by decide +kernel
theorem dX5_lost_64 : decode cX5_lost 64 = .ok (.ior, 1) := by decide +kernel
theorem dX5_lost_65 : decode cX5_lost 65 = .ok (.istore 4, 2) := by decide +kernel
theorem dX5_lost_67 : decode cX5_lost 67 = .ok (.iload 5, 2) := by decide +kernel
theorem dX5_lost_69 : decode cX5_lost 69 = .ok (.aload_n 0, 1) := by decide +kernel
theorem dX5_lost_70 : decode cX5_lost 70 = .ok (.getfield 28, 3) := by decide +kernel
theorem dX5_lost_73 : decode cX5_lost 73 = .ok (.getfield 136, 3) := by decide +kernel
theorem dX5_lost_76 : decode cX5_lost 76 = .ok (.iload_n 2, 1) := by decide +kernel
theorem dX5_lost_77 : decode cX5_lost 77 = .ok (.iaload, 1) := by decide +kernel
theorem dX5_lost_78 : decode cX5_lost 78 = .ok (.iload 6, 2) := by decide +kernel
theorem dX5_lost_80 : decode cX5_lost 80 = .ok (.if_icmp .ne 7, 3) := by decide +kernel
theorem dX5_lost_83 : decode cX5_lost 83 = .ok (.iconst 1, 1) := by decide +kernel
theorem dX5_lost_84 : decode cX5_lost 84 = .ok (.goto 4, 3) := by decide +kernel
theorem dX5_lost_87 : decode cX5_lost 87 = .ok (.iconst 0, 1) := by decide +kernel
theorem dX5_lost_88 : decode cX5_lost 88 = .ok (.ior, 1) := by decide +kernel
theorem dX5_lost_89 : decode cX5_lost 89 = .ok (.istore 5, 2) := by decide +kernel
theorem dX5_lost_91 : decode cX5_lost 91 = .ok (.iinc 6 1, 3) := by decide +kernel
theorem dX5_lost_94 : decode cX5_lost 94 = .ok (.goto (-68), 3) := by decide +kernel
theorem dX5_lost_97 : decode cX5_lost 97 = .ok (.iload_n 1, 1) := by decide +kernel
theorem dX5_lost_98 : decode cX5_lost 98 = .ok (.iload 4, 2) := by decide +kernel
theorem dX5_lost_100 : decode cX5_lost 100 = .ok (.ifCond .ne 8, 3) := by decide +kernel
theorem dX5_lost_103 : decode cX5_lost 103 = .ok (.iload 5, 2) := by decide +kernel
theorem dX5_lost_105 : decode cX5_lost 105 = .ok (.ifCond .eq 9, 3) := by decide +kernel
theorem dX5_lost_108 : decode cX5_lost 108 = .ok (.iload_n 3, 1) := by decide +kernel
theorem dX5_lost_109 : decode cX5_lost 109 = .ok (.iconst 1, 1) := by decide +kernel
theorem dX5_lost_110 : decode cX5_lost 110 = .ok (.isub, 1) := by decide +kernel
theorem dX5_lost_111 : decode cX5_lost 111 = .ok (.goto 4, 3) := by decide +kernel
theorem dX5_lost_114 : decode cX5_lost 114 = .ok (.iload_n 3, 1) := by decide +kernel
theorem dX5_lost_115 : decode cX5_lost 115 = .ok (.iadd, 1) := by decide +kernel
theorem dX5_lost_116 : decode cX5_lost 116 = .ok (.istore_n 1, 1) := by decide +kernel
theorem dX5_lost_117 : decode cX5_lost 117 = .ok (.iinc 2 1, 3) := by decide +kernel
theorem dX5_lost_120 : decode cX5_lost 120 = .ok (.goto (-116), 3) := by decide +kernel
theorem dX5_lost_123 : decode cX5_lost 123 = .ok (.iload_n 1, 1) := by decide +kernel
theorem dX5_lost_124 : decode cX5_lost 124 = .ok (.ireturn, 1) := by decide +kernel
theorem dX6_init_0 : decode cX6_init 0 = .ok (.aload_n 0, 1) := by decide +kernel
theorem dX6_init_1 : decode cX6_init 1 = .ok (.invokespecial 3, 3) := by decide +kernel
theorem dX6_init_4 : decode cX6_init 4 = .ok (.aload_n 0, 1) := by decide +kernel
theorem dX6_init_5 : decode cX6_init 5 = .ok (.bipush 40, 2) := by decide +kernel
theorem dX6_init_7 : decode cX6_init 7 = .ok (.newarray .int, 2) := by decide +kernel
theorem dX6_init_9 : decode cX6_init 9 = .ok (.putfield 9, 3) := by decide +kernel
theorem dX6_init_12 : decode cX6_init 12 = .ok (.aload_n 0, 1) := by decide +kernel
theorem dX6_init_13 : decode cX6_init 13 = .ok (.bipush 40, 2) := by decide +kernel
theorem dX6_init_15 : decode cX6_init 15 = .ok (.newarray .int, 2) := by decide +kernel
theorem dX6_init_17 : decode cX6_init 17 = .ok (.putfield 15, 3) := by decide +kernel
theorem dX6_init_20 : decode cX6_init 20 = .ok (.aload_n 0, 1) := by decide +kernel
theorem dX6_init_21 : decode cX6_init 21 = .ok (.bipush 40, 2) := by decide +kernel
theorem dX6_init_23 : decode cX6_init 23 = .ok (.newarray .int, 2) := by decide +kernel
theorem dX6_init_25 : decode cX6_init 25 = .ok (.putfield 18, 3) := by decide +kernel
theorem dX6_init_28 : decode cX6_init 28 = .ok (.aload_n 0, 1) := by decide +kernel
theorem dX6_init_29 : decode cX6_init 29 = .ok (.bipush 40, 2) := by decide +kernel
theorem dX6_init_31 : decode cX6_init 31 = .ok (.newarray .int, 2) := by decide +kernel
theorem dX6_init_33 : decode cX6_init 33 = .ok (.putfield 21, 3) := by decide +kernel
theorem dX6_init_36 : decode cX6_init 36 = .ok (.aload_n 0, 1) := by decide +kernel
theorem dX6_init_37 : decode cX6_init 37 = .ok (.bipush 40, 2) := by decide +kernel
theorem dX6_init_39 : decode cX6_init 39 = .ok (.newarray .int, 2) := by decide +kernel
theorem dX6_init_41 : decode cX6_init 41 = .ok (.putfield 24, 3) := by decide +kernel
theorem dX6_init_44 : decode cX6_init 44 = .ok (.return_, 1) := by decide +kernel
theorem dX6_add_0 : decode cX6_add 0 = .ok (.aload_n 0, 1) := by decide +kernel
theorem dX6_add_1 : decode cX6_add 1 = .ok (.getfield 27, 3) := by decide +kernel
theorem dX6_add_4 : decode cX6_add 4 = .ok (.bipush 40, 2) := by decide +kernel
theorem dX6_add_6 : decode cX6_add 6 = .ok (.if_icmp .lt 5, 3) := by decide +kernel
theorem dX6_add_9 : decode cX6_add 9 = .ok (.iconst (-1), 1) := by decide +kernel
theorem dX6_add_10 : decode cX6_add 10 = .ok (.ireturn, 1) := by decide +kernel
theorem dX6_add_11 : decode cX6_add 11 = .ok (.aload_n 0, 1) := by decide +kernel
theorem dX6_add_12 : decode cX6_add 12 = .ok (.getfield 9, 3) := by decide +kernel
theorem dX6_add_15 : decode cX6_add 15 = .ok (.aload_n 0, 1) := by decide +kernel
theorem dX6_add_16 : decode cX6_add 16 = .ok (.getfield 27, 3) := by decide +kernel
theorem dX6_add_19 : decode cX6_add 19 = .ok (.iload_n 1, 1) := by decide +kernel
theorem dX6_add_20 : decode cX6_add 20 = .ok (.iastore, 1) := by decide +kernel
theorem dX6_add_21 : decode cX6_add 21 = .ok (.aload_n 0, 1) := by decide +kernel
theorem dX6_add_22 : decode cX6_add 22 = .ok (.getfield 15, 3) := by decide +kernel
theorem dX6_add_25 : decode cX6_add 25 = .ok (.aload_n 0, 1) := by decide +kernel
theorem dX6_add_26 : decode cX6_add 26 = .ok (.getfield 27, 3) := by decide +kernel
theorem dX6_add_29 : decode cX6_add 29 = .ok (.iload_n 2, 1) := by decide +kernel
theorem dX6_add_30 : decode cX6_add 30 = .ok (.iastore, 1) := by decide +kernel
theorem dX6_add_31 : decode cX6_add 31 = .ok (.aload_n 0, 1) := by decide +kernel
theorem dX6_add_32 : decode cX6_add 32 = .ok (.getfield 18, 3) := by decide +kernel
theorem dX6_add_35 : decode cX6_add 35 = .ok (.aload_n 0, 1) := by decide +kernel
theorem dX6_add_36 : decode cX6_add 36 = .ok (.getfield 27, 3) := by decide +kernel
theorem dX6_add_39 : decode cX6_add 39 = .ok (.iload_n 3, 1) := by decide +kernel
theorem dX6_add_40 : decode cX6_add 40 = .ok (.iastore, 1) := by decide +kernel
theorem dX6_add_41 : decode cX6_add 41 = .ok (.aload_n 0, 1) := by decide +kernel
theorem dX6_add_42 : decode cX6_add 42 = .ok (.getfield 21, 3) := by decide +kernel
theorem dX6_add_45 : decode cX6_add 45 = .ok (.aload_n 0, 1) := by decide +kernel
theorem dX6_add_46 : decode cX6_add 46 = .ok (.getfield 27, 3) := by decide +kernel
theorem dX6_add_49 : decode cX6_add 49 = .ok (.iload 4, 2) := by decide +kernel
theorem dX6_add_51 : decode cX6_add 51 = .ok (.iastore, 1) := by decide +kernel
theorem dX6_add_52 : decode cX6_add 52 = .ok (.aload_n 0, 1) := by decide +kernel
theorem dX6_add_53 : decode cX6_add 53 = .ok (.getfield 24, 3) := by decide +kernel
theorem dX6_add_56 : decode cX6_add 56 = .ok (.aload_n 0, 1) := by decide +kernel
theorem dX6_add_57 : decode cX6_add 57 = .ok (.getfield 27, 3) := by decide +kernel
theorem dX6_add_60 : decode cX6_add 60 = .ok (.iconst (-1), 1) := by decide +kernel
theorem dX6_add_61 : decode cX6_add 61 = .ok (.iastore, 1) := by decide +kernel
theorem dX6_add_62 : decode cX6_add 62 = .ok (.aload_n 0, 1) := by decide +kernel
theorem dX6_add_63 : decode cX6_add 63 = .ok (.dup, 1) := by decide +kernel
theorem dX6_add_64 : decode cX6_add 64 = .ok (.getfield 27, 3) := by decide +kernel
theorem dX6_add_67 : decode cX6_add 67 = .ok (.iconst 1, 1) := by decide +kernel
theorem dX6_add_68 : decode cX6_add 68 = .ok (.iadd, 1) := by decide +kernel
theorem dX6_add_69 : decode cX6_add 69 = .ok (.putfield 27, 3) := by decide +kernel
theorem dX6_add_72 : decode cX6_add 72 = .ok (.aload_n 0, 1) := by decide +kernel
theorem dX6_add_73 : decode cX6_add 73 = .ok (.getfield 27, 3) := by decide +kernel
theorem dX6_add_76 : decode cX6_add 76 = .ok (.iconst 1, 1) := by decide +kernel
theorem dX6_add_77 : decode cX6_add 77 = .ok (.isub, 1) := by decide +kernel
theorem dX6_add_78 : decode cX6_add 78 = .ok (.ireturn, 1) := by decide +kernel
theorem dX6_takeBack_0 : decode cX6_takeBack 0 = .ok (.iload_n 1, 1) := by decide +kernel
theorem dX6_takeBack_1 : decode cX6_takeBack 1 = .ok (.ifCond .lt 21, 3) := by decide +kernel
theorem dX6_takeBack_4 : decode cX6_takeBack 4 = .ok (.iload_n 1, 1) := by decide +kernel
theorem dX6_takeBack_5 : decode cX6_takeBack 5 = .ok (.aload_n 0, 1) := by decide +kernel
theorem dX6_takeBack_6 : decode cX6_takeBack 6 = .ok (.getfield 27, 3) := by decide +kernel
theorem dX6_takeBack_9 : decode cX6_takeBack 9 = .ok (.if_icmp .ge 13, 3) := by decide +kernel
theorem dX6_takeBack_12 : decode cX6_takeBack 12 = .ok (.aload_n 0, 1) := by decide +kernel
theorem dX6_takeBack_13 : decode cX6_takeBack 13 = .ok (.getfield 24, 3) := by decide +kernel
theorem dX6_takeBack_16 : decode cX6_takeBack 16 = .ok (.iload_n 1, 1) := by decide +kernel
theorem dX6_takeBack_17 : decode cX6_takeBack 17 = .ok (.iaload, 1) := by decide +kernel
theorem dX6_takeBack_18 : decode cX6_takeBack 18 = .ok (.iconst (-1), 1) := by decide +kernel
theorem dX6_takeBack_19 : decode cX6_takeBack 19 = .ok (.if_icmp .eq 5, 3) := by decide +kernel
theorem dX6_takeBack_22 : decode cX6_takeBack 22 = .ok (.iconst 0, 1) := by decide +kernel
theorem dX6_takeBack_23 : decode cX6_takeBack 23 = .ok (.ireturn, 1) := by decide +kernel
theorem dX6_takeBack_24 : decode cX6_takeBack 24 = .ok (.aload_n 0, 1) := by decide +kernel
theorem dX6_takeBack_25 : decode cX6_takeBack 25 = .ok (.getfield 24, 3) := by decide +kernel
theorem dX6_takeBack_28 : decode cX6_takeBack 28 = .ok (.iload_n 1, 1) := by decide +kernel
theorem dX6_takeBack_29 : decode cX6_takeBack 29 = .ok (.iload_n 2, 1) := by decide +kernel
theorem dX6_takeBack_30 : decode cX6_takeBack 30 = .ok (.iastore, 1) := by decide +kernel
theorem dX6_takeBack_31 : decode cX6_takeBack 31 = .ok (.iconst 1, 1) := by decide +kernel
theorem dX6_takeBack_32 : decode cX6_takeBack 32 = .ok (.ireturn, 1) := by decide +kernel
theorem dX6_counts_0 : decode cX6_counts 0 = .ok (.aload_n 0, 1) := by decide +kernel
theorem dX6_counts_1 : decode cX6_counts 1 = .ok (.getfield 21, 3) := by decide +kernel
theorem dX6_counts_4 : decode cX6_counts 4 = .ok (.iload_n 1, 1) := by decide +kernel
theorem dX6_counts_5 : decode cX6_counts 5 = .ok (.iaload, 1) := by decide +kernel
theorem dX6_counts_6 : decode cX6_counts 6 = .ok (.iload_n 2, 1) := by decide +kernel
theorem dX6_counts_7 : decode cX6_counts 7 = .ok (.if_icmp .gt 27, 3) := by decide +kernel
theorem dX6_counts_10 : decode cX6_counts 10 = .ok (.aload_n 0, 1) := by decide +kernel
theorem dX6_counts_11 : decode cX6_counts 11 = .ok (.getfield 24, 3) := by decide +kernel
theorem dX6_counts_14 : decode cX6_counts 14 = .ok (.iload_n 1, 1) := by decide +kernel
theorem dX6_counts_15 : decode cX6_counts 15 = .ok (.iaload, 1) := by decide +kernel
theorem dX6_counts_16 : decode cX6_counts 16 = .ok (.iconst (-1), 1) := by decide +kernel
theorem dX6_counts_17 : decode cX6_counts 17 = .ok (.if_icmp .eq 13, 3) := by decide +kernel
theorem dX6_counts_20 : decode cX6_counts 20 = .ok (.aload_n 0, 1) := by decide +kernel
theorem dX6_counts_21 : decode cX6_counts 21 = .ok (.getfield 24, 3) := by decide +kernel
theorem dX6_counts_24 : decode cX6_counts 24 = .ok (.iload_n 1, 1) := by decide +kernel
theorem dX6_counts_25 : decode cX6_counts 25 = .ok (.iaload, 1) := by decide +kernel
theorem dX6_counts_26 : decode cX6_counts 26 = .ok (.iload_n 2, 1) := by decide +kernel
theorem dX6_counts_27 : decode cX6_counts 27 = .ok (.if_icmp .le 7, 3) := by decide +kernel
theorem dX6_counts_30 : decode cX6_counts 30 = .ok (.iconst 1, 1) := by decide +kernel
theorem dX6_counts_31 : decode cX6_counts 31 = .ok (.goto 4, 3) := by decide +kernel
theorem dX6_counts_34 : decode cX6_counts 34 = .ok (.iconst 0, 1) := by decide +kernel
theorem dX6_counts_35 : decode cX6_counts 35 = .ok (.ireturn, 1) := by decide +kernel
theorem dX6_isFalse_0 : decode cX6_isFalse 0 = .ok (.aload_n 0, 1) := by decide +kernel
theorem dX6_isFalse_1 : decode cX6_isFalse 1 = .ok (.getfield 9, 3) := by decide +kernel
theorem dX6_isFalse_4 : decode cX6_isFalse 4 = .ok (.iload_n 1, 1) := by decide +kernel
theorem dX6_isFalse_5 : decode cX6_isFalse 5 = .ok (.iaload, 1) := by decide +kernel
theorem dX6_isFalse_6 : decode cX6_isFalse 6 = .ok (.aload_n 2, 1) := by decide +kernel
theorem dX6_isFalse_7 : decode cX6_isFalse 7 = .ok (.getfield 31, 3) := by decide +kernel
theorem dX6_isFalse_10 : decode cX6_isFalse 10 = .ok (.if_icmp .gt 32, 3) := by decide +kernel
theorem dX6_isFalse_13 : decode cX6_isFalse 13 = .ok (.aload_n 2, 1) := by decide +kernel
theorem dX6_isFalse_14 : decode cX6_isFalse 14 = .ok (.aload_n 0, 1) := by decide +kernel
theorem dX6_isFalse_15 : decode cX6_isFalse 15 = .ok (.getfield 9, 3) := by decide +kernel
theorem dX6_isFalse_18 : decode cX6_isFalse 18 = .ok (.iload_n 1, 1) := by decide +kernel
theorem dX6_isFalse_19 : decode cX6_isFalse 19 = .ok (.iaload, 1) := by decide +kernel
theorem dX6_isFalse_20 : decode cX6_isFalse 20 = .ok (.aload_n 0, 1) := by decide +kernel
theorem dX6_isFalse_21 : decode cX6_isFalse 21 = .ok (.getfield 15, 3) := by decide +kernel
theorem dX6_isFalse_24 : decode cX6_isFalse 24 = .ok (.iload_n 1, 1) := by decide +kernel
theorem dX6_isFalse_25 : decode cX6_isFalse 25 = .ok (.iaload, 1) := by decide +kernel
theorem dX6_isFalse_26 : decode cX6_isFalse 26 = .ok (.invokevirtual 36, 3) := by decide +kernel
theorem dX6_isFalse_29 : decode cX6_isFalse 29 = .ok (.aload_n 0, 1) := by decide +kernel
theorem dX6_isFalse_30 : decode cX6_isFalse 30 = .ok (.getfield 18, 3) := by decide +kernel
theorem dX6_isFalse_33 : decode cX6_isFalse 33 = .ok (.iload_n 1, 1) := by decide +kernel
theorem dX6_isFalse_34 : decode cX6_isFalse 34 = .ok (.iaload, 1) := by decide +kernel
theorem dX6_isFalse_35 : decode cX6_isFalse 35 = .ok (.if_icmp .eq 7, 3) := by decide +kernel
theorem dX6_isFalse_38 : decode cX6_isFalse 38 = .ok (.iconst 1, 1) := by decide +kernel
theorem dX6_isFalse_39 : decode cX6_isFalse 39 = .ok (.goto 4, 3) := by decide +kernel
theorem dX6_isFalse_42 : decode cX6_isFalse 42 = .ok (.iconst 0, 1) := by decide +kernel
theorem dX6_isFalse_43 : decode cX6_isFalse 43 = .ok (.ireturn, 1) := by decide +kernel
theorem dX6_countFalse_0 : decode cX6_countFalse 0 = .ok (.iconst 0, 1) := by decide +kernel
theorem dX6_countFalse_1 : decode cX6_countFalse 1 = .ok (.istore_n 3, 1) := by decide +kernel
theorem dX6_countFalse_2 : decode cX6_countFalse 2 = .ok (.iconst 0, 1) := by decide +kernel
theorem dX6_countFalse_3 : decode cX6_countFalse 3 = .ok (.istore 4, 2) := by decide +kernel
theorem dX6_countFalse_5 : decode cX6_countFalse 5 = .ok (.iload 4, 2) := by decide +kernel
theorem dX6_countFalse_7 : decode cX6_countFalse 7 = .ok (.aload_n 0, 1) := by decide +kernel
theorem dX6_countFalse_8 : decode cX6_countFalse 8 = .ok (.getfield 27, 3) := by decide +kernel
theorem dX6_countFalse_11 : decode cX6_countFalse 11 = .ok (.if_icmp .ge 32, 3) := by decide +kernel
theorem dX6_countFalse_14 : decode cX6_countFalse 14 = .ok (.aload_n 0, 1) := by decide +kernel
theorem dX6_countFalse_15 : decode cX6_countFalse 15 = .ok (.iload 4, 2) := by decide +kernel
theorem dX6_countFalse_17 : decode cX6_countFalse 17 = .ok (.iload_n 2, 1) := by decide +kernel
theorem dX6_countFalse_18 : decode cX6_countFalse 18 = .ok (.invokevirtual 40, 3) := by decide +kernel
theorem dX6_countFalse_21 : decode cX6_countFalse 21 = .ok (.ifCond .eq 16, 3) := by decide +kernel
theorem dX6_countFalse_24 : decode cX6_countFalse 24 = .ok (.aload_n 0, 1) := by decide +kernel
theorem dX6_countFalse_25 : decode cX6_countFalse 25 = .ok (.iload 4, 2) := by decide +kernel
theorem dX6_countFalse_27 : decode cX6_countFalse 27 = .ok (.aload_n 1, 1) := by decide +kernel
theorem dX6_countFalse_28 : decode cX6_countFalse 28 = .ok (.invokevirtual 44, 3) := by decide +kernel
theorem dX6_countFalse_31 : decode cX6_countFalse 31 = .ok (.ifCond .eq 6, 3) := by decide +kernel
theorem dX6_countFalse_34 : decode cX6_countFalse 34 = .ok (.iinc 3 1, 3) := by decide +kernel
theorem dX6_countFalse_37 : decode cX6_countFalse 37 = .ok (.iinc 4 1, 3) := by decide +kernel
theorem dX6_countFalse_40 : decode cX6_countFalse 40 = .ok (.goto (-35), 3) := by decide +kernel
theorem dX6_countFalse_43 : decode cX6_countFalse 43 = .ok (.iload_n 3, 1) := by decide +kernel
theorem dX6_countFalse_44 : decode cX6_countFalse 44 = .ok (.ireturn, 1) := by decide +kernel
theorem dX6_countOpen_0 : decode cX6_countOpen 0 = .ok (.iconst 0, 1) := by decide +kernel
theorem dX6_countOpen_1 : decode cX6_countOpen 1 = .ok (.istore_n 3, 1) := by decide +kernel
theorem dX6_countOpen_2 : decode cX6_countOpen 2 = .ok (.iconst 0, 1) := by decide +kernel
theorem dX6_countOpen_3 : decode cX6_countOpen 3 = .ok (.istore 4, 2) := by decide +kernel
theorem dX6_countOpen_5 : decode cX6_countOpen 5 = .ok (.iload 4, 2) := by decide +kernel
theorem dX6_countOpen_7 : decode cX6_countOpen 7 = .ok (.aload_n 0, 1) := by decide +kernel
theorem dX6_countOpen_8 : decode cX6_countOpen 8 = .ok (.getfield 27, 3) := by decide +kernel
theorem dX6_countOpen_11 : decode cX6_countOpen 11 = .ok (.if_icmp .ge 36, 3) := by decide +kernel
theorem dX6_countOpen_14 : decode cX6_countOpen 14 = .ok (.aload_n 0, 1) := by decide +kernel
theorem dX6_countOpen_15 : decode cX6_countOpen 15 = .ok (.iload 4, 2) := by decide +kernel
theorem dX6_countOpen_17 : decode cX6_countOpen 17 = .ok (.iload_n 2, 1) := by decide +kernel
theorem dX6_countOpen_18 : decode cX6_countOpen 18 = .ok (.invokevirtual 40, 3) := by decide +kernel
theorem dX6_countOpen_21 : decode cX6_countOpen 21 = .ok (.ifCond .eq 20, 3) := by decide +kernel
theorem dX6_countOpen_24 : decode cX6_countOpen 24 = .ok (.aload_n 0, 1) := by decide +kernel
theorem dX6_countOpen_25 : decode cX6_countOpen 25 = .ok (.getfield 9, 3) := by decide +kernel
theorem dX6_countOpen_28 : decode cX6_countOpen 28 = .ok (.iload 4, 2) := by decide +kernel
theorem dX6_countOpen_30 : decode cX6_countOpen 30 = .ok (.iaload, 1) := by decide +kernel
theorem dX6_countOpen_31 : decode cX6_countOpen 31 = .ok (.aload_n 1, 1) := by decide +kernel
theorem dX6_countOpen_32 : decode cX6_countOpen 32 = .ok (.getfield 31, 3) := by decide +kernel
theorem dX6_countOpen_35 : decode cX6_countOpen 35 = .ok (.if_icmp .le 6, 3) := by decide +kernel
theorem dX6_countOpen_38 : decode cX6_countOpen 38 = .ok (.iinc 3 1, 3) := by decide +kernel
theorem dX6_countOpen_41 : decode cX6_countOpen 41 = .ok (.iinc 4 1, 3) := by decide +kernel
theorem dX6_countOpen_44 : decode cX6_countOpen 44 = .ok (.goto (-39), 3) := by decide +kernel
theorem dX6_countOpen_47 : decode cX6_countOpen 47 = .ok (.iload_n 3, 1) := by decide +kernel
theorem dX6_countOpen_48 : decode cX6_countOpen 48 = .ok (.ireturn, 1) := by decide +kernel
theorem dX6_firstFalse_0 : decode cX6_firstFalse 0 = .ok (.iconst 0, 1) := by decide +kernel
theorem dX6_firstFalse_1 : decode cX6_firstFalse 1 = .ok (.istore_n 3, 1) := by decide +kernel
theorem dX6_firstFalse_2 : decode cX6_firstFalse 2 = .ok (.iload_n 3, 1) := by decide +kernel
theorem dX6_firstFalse_3 : decode cX6_firstFalse 3 = .ok (.aload_n 0, 1) := by decide +kernel
theorem dX6_firstFalse_4 : decode cX6_firstFalse 4 = .ok (.getfield 27, 3) := by decide +kernel
theorem dX6_firstFalse_7 : decode cX6_firstFalse 7 = .ok (.if_icmp .ge 29, 3) := by decide +kernel
theorem dX6_firstFalse_10 : decode cX6_firstFalse 10 = .ok (.aload_n 0, 1) := by decide +kernel
theorem dX6_firstFalse_11 : decode cX6_firstFalse 11 = .ok (.iload_n 3, 1) := by decide +kernel
theorem dX6_firstFalse_12 : decode cX6_firstFalse 12 = .ok (.iload_n 2, 1) := by decide +kernel
theorem dX6_firstFalse_13 : decode cX6_firstFalse 13 = .ok (.invokevirtual 40, 3) := by decide +kernel
theorem dX6_firstFalse_16 : decode cX6_firstFalse 16 = .ok (.ifCond .eq 14, 3) := by decide +kernel
theorem dX6_firstFalse_19 : decode cX6_firstFalse 19 = .ok (.aload_n 0, 1) := by decide +kernel
theorem dX6_firstFalse_20 : decode cX6_firstFalse 20 = .ok (.iload_n 3, 1) := by decide +kernel
theorem dX6_firstFalse_21 : decode cX6_firstFalse 21 = .ok (.aload_n 1, 1) := by decide +kernel
theorem dX6_firstFalse_22 : decode cX6_firstFalse 22 = .ok (.invokevirtual 44, 3) := by decide +kernel
theorem dX6_firstFalse_25 : decode cX6_firstFalse 25 = .ok (.ifCond .eq 5, 3) := by decide +kernel
theorem dX6_firstFalse_28 : decode cX6_firstFalse 28 = .ok (.iload_n 3, 1) := by decide +kernel
theorem dX6_firstFalse_29 : decode cX6_firstFalse 29 = .ok (.ireturn, 1) := by decide +kernel
theorem dX6_firstFalse_30 : decode cX6_firstFalse 30 = .ok (.iinc 3 1, 3) := by decide +kernel
theorem dX6_firstFalse_33 : decode cX6_firstFalse 33 = .ok (.goto (-31), 3) := by decide +kernel
theorem dX6_firstFalse_36 : decode cX6_firstFalse 36 = .ok (.iconst (-1), 1) := by decide +kernel
theorem dX6_firstFalse_37 : decode cX6_firstFalse 37 = .ok (.ireturn, 1) := by decide +kernel
theorem dX6_firstDouble_0 : decode cX6_firstDouble 0 = .ok (.iconst 0, 1) := by decide +kernel
theorem dX6_firstDouble_1 : decode cX6_firstDouble 1 = .ok (.istore_n 2, 1) := by decide +kernel
theorem dX6_firstDouble_2 : decode cX6_firstDouble 2 = .ok (.iload_n 2, 1) := by decide +kernel
theorem dX6_firstDouble_3 : decode cX6_firstDouble 3 = .ok (.aload_n 0, 1) := by decide +kernel
theorem dX6_firstDouble_4 : decode cX6_firstDouble 4 = .ok (.getfield 27, 3) := by decide +kernel
theorem dX6_firstDouble_7 : decode cX6_firstDouble 7 = .ok (.if_icmp .ge 29, 3) := by decide +kernel
theorem dX6_firstDouble_10 : decode cX6_firstDouble 10 = .ok (.aload_n 0, 1) := by decide +kernel
theorem dX6_firstDouble_11 : decode cX6_firstDouble 11 = .ok (.iload_n 2, 1) := by decide +kernel
theorem dX6_firstDouble_12 : decode cX6_firstDouble 12 = .ok (.iload_n 1, 1) := by decide +kernel
theorem dX6_firstDouble_13 : decode cX6_firstDouble 13 = .ok (.invokevirtual 40, 3) := by decide +kernel
theorem dX6_firstDouble_16 : decode cX6_firstDouble 16 = .ok (.ifCond .eq 14, 3) := by decide +kernel
theorem dX6_firstDouble_19 : decode cX6_firstDouble 19 = .ok (.aload_n 0, 1) := by decide +kernel
theorem dX6_firstDouble_20 : decode cX6_firstDouble 20 = .ok (.iload_n 2, 1) := by decide +kernel
theorem dX6_firstDouble_21 : decode cX6_firstDouble 21 = .ok (.iload_n 1, 1) := by decide +kernel
theorem dX6_firstDouble_22 : decode cX6_firstDouble 22 = .ok (.invokevirtual 48, 3) := by decide +kernel
theorem dX6_firstDouble_25 : decode cX6_firstDouble 25 = .ok (.ifCond .eq 5, 3) := by decide +kernel
theorem dX6_firstDouble_28 : decode cX6_firstDouble 28 = .ok (.iload_n 2, 1) := by decide +kernel
theorem dX6_firstDouble_29 : decode cX6_firstDouble 29 = .ok (.ireturn, 1) := by decide +kernel
theorem dX6_firstDouble_30 : decode cX6_firstDouble 30 = .ok (.iinc 2 1, 3) := by decide +kernel
theorem dX6_firstDouble_33 : decode cX6_firstDouble 33 = .ok (.goto (-31), 3) := by decide +kernel
theorem dX6_firstDouble_36 : decode cX6_firstDouble 36 = .ok (.iconst (-1), 1) := by decide +kernel
theorem dX6_firstDouble_37 : decode cX6_firstDouble 37 = .ok (.ireturn, 1) := by decide +kernel
theorem dX6_contradictsEarlier_0 : decode cX6_contradictsEarlier 0 = .ok (.iconst 0, 1) := by decide +kernel
theorem dX6_contradictsEarlier_1 : decode cX6_contradictsEarlier 1 = .ok (.istore_n 3, 1) := by decide +kernel
theorem dX6_contradictsEarlier_2 : decode cX6_contradictsEarlier 2 = .ok (.iload_n 3, 1) := by decide +kernel
theorem dX6_contradictsEarlier_3 : decode cX6_contradictsEarlier 3 = .ok (.iload_n 1, 1) := by decide +kernel
theorem dX6_contradictsEarlier_4 : decode cX6_contradictsEarlier 4 = .ok (.if_icmp .ge 77, 3) := by decide +kernel
theorem dX6_contradictsEarlier_7 : decode cX6_contradictsEarlier 7 = .ok (.aload_n 0, 1) := by decide +kernel
theorem dX6_contradictsEarlier_8 : decode cX6_contradictsEarlier 8 = .ok (.getfield 9, 3) := by decide +kernel
theorem dX6_contradictsEarlier_11 : decode cX6_contradictsEarlier 11 = .ok (.iload_n 3, 1) := by decide +kernel
theorem dX6_contradictsEarlier_12 : decode cX6_contradictsEarlier 12 = .ok (.iaload, 1) := by decide +kernel
theorem dX6_contradictsEarlier_13 : decode cX6_contradictsEarlier 13 = .ok (.aload_n 0, 1) := by decide +kernel
theorem dX6_contradictsEarlier_14 : decode cX6_contradictsEarlier 14 = .ok (.getfield 9, 3) := by decide +kernel
theorem dX6_contradictsEarlier_17 : decode cX6_contradictsEarlier 17 = .ok (.iload_n 1, 1) := by decide +kernel
theorem dX6_contradictsEarlier_18 : decode cX6_contradictsEarlier 18 = .ok (.iaload, 1) := by decide +kernel
theorem dX6_contradictsEarlier_19 : decode cX6_contradictsEarlier 19 = .ok (.if_icmp .ne 22, 3) := by decide +kernel
theorem dX6_contradictsEarlier_22 : decode cX6_contradictsEarlier 22 = .ok (.aload_n 0, 1) := by decide +kernel
theorem dX6_contradictsEarlier_23 : decode cX6_contradictsEarlier 23 = .ok (.getfield 15, 3) := by decide +kernel
theorem dX6_contradictsEarlier_26 : decode cX6_contradictsEarlier 26 = .ok (.iload_n 3, 1) := by decide +kernel
theorem dX6_contradictsEarlier_27 : decode cX6_contradictsEarlier 27 = .ok (.iaload, 1) := by decide +kernel
theorem dX6_contradictsEarlier_28 : decode cX6_contradictsEarlier 28 = .ok (.aload_n 0, 1) := by decide +kernel
theorem dX6_contradictsEarlier_29 : decode cX6_contradictsEarlier 29 = .ok (.getfield 15, 3) := by decide +kernel
theorem dX6_contradictsEarlier_32 : decode cX6_contradictsEarlier 32 = .ok (.iload_n 1, 1) := by decide +kernel
theorem dX6_contradictsEarlier_33 : decode cX6_contradictsEarlier 33 = .ok (.iaload, 1) := by decide +kernel
theorem dX6_contradictsEarlier_34 : decode cX6_contradictsEarlier 34 = .ok (.if_icmp .ne 7, 3) := by decide +kernel
theorem dX6_contradictsEarlier_37 : decode cX6_contradictsEarlier 37 = .ok (.iconst 1, 1) := by decide +kernel
theorem dX6_contradictsEarlier_38 : decode cX6_contradictsEarlier 38 = .ok (.goto 4, 3) := by decide +kernel
theorem dX6_contradictsEarlier_41 : decode cX6_contradictsEarlier 41 = .ok (.iconst 0, 1) := by decide +kernel
theorem dX6_contradictsEarlier_42 : decode cX6_contradictsEarlier 42 = .ok (.istore 4, 2) := by decide +kernel
theorem dX6_contradictsEarlier_44 : decode cX6_contradictsEarlier 44 = .ok (.iload 4, 2) := by decide +kernel
theorem dX6_contradictsEarlier_46 : decode cX6_contradictsEarlier 46 = .ok (.ifCond .eq 29, 3) := by decide +kernel
theorem dX6_contradictsEarlier_49 : decode cX6_contradictsEarlier 49 = .ok (.aload_n 0, 1) := by decide +kernel
theorem dX6_contradictsEarlier_50 : decode cX6_contradictsEarlier 50 = .ok (.iload_n 3, 1) := by decide +kernel
theorem dX6_contradictsEarlier_51 : decode cX6_contradictsEarlier 51 = .ok (.iload_n 2, 1) := by decide +kernel
theorem dX6_contradictsEarlier_52 : decode cX6_contradictsEarlier 52 = .ok (.invokevirtual 40, 3) := by decide +kernel
theorem dX6_contradictsEarlier_55 : decode cX6_contradictsEarlier 55 = .ok (.ifCond .eq 20, 3) := by decide +kernel
theorem dX6_contradictsEarlier_58 : decode cX6_contradictsEarlier 58 = .ok (.aload_n 0, 1) := by decide +kernel
theorem dX6_contradictsEarlier_59 : decode cX6_contradictsEarlier 59 = .ok (.getfield 18, 3) := by decide +kernel
theorem dX6_contradictsEarlier_62 : decode cX6_contradictsEarlier 62 = .ok (.iload_n 3, 1) := by decide +kernel
theorem dX6_contradictsEarlier_63 : decode cX6_contradictsEarlier 63 = .ok (.iaload, 1) := by decide +kernel
theorem dX6_contradictsEarlier_64 : decode cX6_contradictsEarlier 64 = .ok (.aload_n 0, 1) := by decide +kernel
theorem dX6_contradictsEarlier_65 : decode cX6_contradictsEarlier 65 = .ok (.getfield 18, 3) := by decide +kernel
theorem dX6_contradictsEarlier_68 : decode cX6_contradictsEarlier 68 = .ok (.iload_n 1, 1) := by decide +kernel
theorem dX6_contradictsEarlier_69 : decode cX6_contradictsEarlier 69 = .ok (.iaload, 1) := by decide +kernel
theorem dX6_contradictsEarlier_70 : decode cX6_contradictsEarlier 70 = .ok (.if_icmp .eq 5, 3) := by decide +kernel
theorem dX6_contradictsEarlier_73 : decode cX6_contradictsEarlier 73 = .ok (.iconst 1, 1) := by decide +kernel
theorem dX6_contradictsEarlier_74 : decode cX6_contradictsEarlier 74 = .ok (.ireturn, 1) := by decide +kernel
theorem dX6_contradictsEarlier_75 : decode cX6_contradictsEarlier 75 = .ok (.iinc 3 1, 3) := by decide +kernel
theorem dX6_contradictsEarlier_78 : decode cX6_contradictsEarlier 78 = .ok (.goto (-76), 3) := by decide +kernel
theorem dX6_contradictsEarlier_81 : decode cX6_contradictsEarlier 81 = .ok (.iconst 0, 1) := by decide +kernel
theorem dX6_contradictsEarlier_82 : decode cX6_contradictsEarlier 82 = .ok (.ireturn, 1) := by decide +kernel
theorem dX7_init_0 : decode cX7_init 0 = .ok (.aload_n 0, 1) := by decide +kernel
theorem dX7_init_1 : decode cX7_init 1 = .ok (.invokespecial 3, 3) := by decide +kernel
theorem dX7_init_4 : decode cX7_init 4 = .ok (.aload_n 0, 1) := by decide +kernel
theorem dX7_init_5 : decode cX7_init 5 = .ok (.sipush 1700, 3) := by decide +kernel
theorem dX7_init_8 : decode cX7_init 8 = .ok (.newarray .byte, 2) := by decide +kernel
theorem dX7_init_10 : decode cX7_init 10 = .ok (.putfield 9, 3) := by decide +kernel
theorem dX7_init_13 : decode cX7_init 13 = .ok (.return_, 1) := by decide +kernel
theorem dX7_add_0 : decode cX7_add 0 = .ok (.bipush 24, 2) := by decide +kernel
theorem dX7_add_2 : decode cX7_add 2 = .ok (.istore_n 2, 1) := by decide +kernel
theorem dX7_add_3 : decode cX7_add 3 = .ok (.iload_n 2, 1) := by decide +kernel
theorem dX7_add_4 : decode cX7_add 4 = .ok (.ifCond .lt 42, 3) := by decide +kernel
theorem dX7_add_7 : decode cX7_add 7 = .ok (.aload_n 0, 1) := by decide +kernel
theorem dX7_add_8 : decode cX7_add 8 = .ok (.getfield 15, 3) := by decide +kernel
theorem dX7_add_11 : decode cX7_add 11 = .ok (.sipush 1700, 3) := by decide +kernel
theorem dX7_add_14 : decode cX7_add 14 = .ok (.if_icmp .ge 32, 3) := by decide +kernel
theorem dX7_add_17 : decode cX7_add 17 = .ok (.aload_n 0, 1) := by decide +kernel
theorem dX7_add_18 : decode cX7_add 18 = .ok (.getfield 9, 3) := by decide +kernel
theorem dX7_add_21 : decode cX7_add 21 = .ok (.aload_n 0, 1) := by decide +kernel
theorem dX7_add_22 : decode cX7_add 22 = .ok (.getfield 15, 3) := by decide +kernel
theorem dX7_add_25 : decode cX7_add 25 = .ok (.iload_n 1, 1) := by decide +kernel
theorem dX7_add_26 : decode cX7_add 26 = .ok (.iload_n 2, 1) := by decide +kernel
theorem dX7_add_27 : decode cX7_add 27 = .ok (.iushr, 1) := by decide +kernel
theorem dX7_add_28 : decode cX7_add 28 = .ok (.i2b, 1) := by decide +kernel
theorem dX7_add_29 : decode cX7_add 29 = .ok (.bastore, 1) := by decide +kernel
theorem dX7_add_30 : decode cX7_add 30 = .ok (.aload_n 0, 1) := by decide +kernel
theorem dX7_add_31 : decode cX7_add 31 = .ok (.dup, 1) := by decide +kernel
theorem dX7_add_32 : decode cX7_add 32 = .ok (.getfield 15, 3) := by decide +kernel
theorem dX7_add_35 : decode cX7_add 35 = .ok (.iconst 1, 1) := by decide +kernel
theorem dX7_add_36 : decode cX7_add 36 = .ok (.iadd, 1) := by decide +kernel
theorem dX7_add_37 : decode cX7_add 37 = .ok (.putfield 15, 3) := by decide +kernel
theorem dX7_add_40 : decode cX7_add 40 = .ok (.iinc 2 (-8), 3) := by decide +kernel
theorem dX7_add_43 : decode cX7_add 43 = .ok (.goto (-40), 3) := by decide +kernel
theorem dX7_add_46 : decode cX7_add 46 = .ok (.return_, 1) := by decide +kernel
theorem dX7_byteAt_0 : decode cX7_byteAt 0 = .ok (.iload_n 1, 1) := by decide +kernel
theorem dX7_byteAt_1 : decode cX7_byteAt 1 = .ok (.ifCond .lt 24, 3) := by decide +kernel
theorem dX7_byteAt_4 : decode cX7_byteAt 4 = .ok (.iload_n 1, 1) := by decide +kernel
theorem dX7_byteAt_5 : decode cX7_byteAt 5 = .ok (.aload_n 0, 1) := by decide +kernel
theorem dX7_byteAt_6 : decode cX7_byteAt 6 = .ok (.getfield 15, 3) := by decide +kernel
theorem dX7_byteAt_9 : decode cX7_byteAt 9 = .ok (.if_icmp .ge 16, 3) := by decide +kernel
theorem dX7_byteAt_12 : decode cX7_byteAt 12 = .ok (.aload_n 0, 1) := by decide +kernel
theorem dX7_byteAt_13 : decode cX7_byteAt 13 = .ok (.getfield 9, 3) := by decide +kernel
theorem dX7_byteAt_16 : decode cX7_byteAt 16 = .ok (.iload_n 1, 1) := by decide +kernel
theorem dX7_byteAt_17 : decode cX7_byteAt 17 = .ok (.baload, 1) := by decide +kernel
theorem dX7_byteAt_18 : decode cX7_byteAt 18 = .ok (.sipush 255, 3) := by decide +kernel
theorem dX7_byteAt_21 : decode cX7_byteAt 21 = .ok (.iand, 1) := by decide +kernel
theorem dX7_byteAt_22 : decode cX7_byteAt 22 = .ok (.goto 4, 3) := by decide +kernel
theorem dX7_byteAt_25 : decode cX7_byteAt 25 = .ok (.iconst (-1), 1) := by decide +kernel
theorem dX7_byteAt_26 : decode cX7_byteAt 26 = .ok (.ireturn, 1) := by decide +kernel
theorem dX8_init_0 : decode cX8_init 0 = .ok (.aload_n 0, 1) := by decide +kernel
theorem dX8_init_1 : decode cX8_init 1 = .ok (.invokespecial 3, 3) := by decide +kernel
theorem dX8_init_4 : decode cX8_init 4 = .ok (.aload_n 0, 1) := by decide +kernel
theorem dX8_init_5 : decode cX8_init 5 = .ok (.bipush 28, 2) := by decide +kernel
theorem dX8_init_7 : decode cX8_init 7 = .ok (.newarray .long, 2) := by decide +kernel
theorem dX8_init_9 : decode cX8_init 9 = .ok (.putfield 9, 3) := by decide +kernel
theorem dX8_init_12 : decode cX8_init 12 = .ok (.aload_n 0, 1) := by decide +kernel
theorem dX8_init_13 : decode cX8_init 13 = .ok (.aload_n 1, 1) := by decide +kernel
theorem dX8_init_14 : decode cX8_init 14 = .ok (.putfield 15, 3) := by decide +kernel
theorem dX8_init_17 : decode cX8_init 17 = .ok (.iconst 0, 1) := by decide +kernel
theorem dX8_init_18 : decode cX8_init 18 = .ok (.istore_n 2, 1) := by decide +kernel
theorem dX8_init_19 : decode cX8_init 19 = .ok (.iload_n 2, 1) := by decide +kernel
theorem dX8_init_20 : decode cX8_init 20 = .ok (.sipush 224, 3) := by decide +kernel
theorem dX8_init_23 : decode cX8_init 23 = .ok (.if_icmp .ge 47, 3) := by decide +kernel
theorem dX8_init_26 : decode cX8_init 26 = .ok (.ldc 19, 2) := by decide +kernel
theorem dX8_init_28 : decode cX8_init 28 = .ok (.iload_n 2, 1) := by decide +kernel
theorem dX8_init_29 : decode cX8_init 29 = .ok (.invokevirtual 21, 3) := by decide +kernel
theorem dX8_init_32 : decode cX8_init 32 = .ok (.invokestatic 27, 3) := by decide +kernel
theorem dX8_init_35 : decode cX8_init 35 = .ok (.ifCond .eq 29, 3) := by decide +kernel
theorem dX8_init_38 : decode cX8_init 38 = .ok (.iload_n 2, 1) := by decide +kernel
theorem dX8_init_39 : decode cX8_init 39 = .ok (.bipush 8, 2) := by decide +kernel
theorem dX8_init_41 : decode cX8_init 41 = .ok (.idiv, 1) := by decide +kernel
theorem dX8_init_42 : decode cX8_init 42 = .ok (.istore_n 3, 1) := by decide +kernel
theorem dX8_init_43 : decode cX8_init 43 = .ok (.aload_n 0, 1) := by decide +kernel
theorem dX8_init_44 : decode cX8_init 44 = .ok (.getfield 9, 3) := by decide +kernel
theorem dX8_init_47 : decode cX8_init 47 = .ok (.iload_n 3, 1) := by decide +kernel
theorem dX8_init_48 : decode cX8_init 48 = .ok (.aload_n 0, 1) := by decide +kernel
theorem dX8_init_49 : decode cX8_init 49 = .ok (.getfield 9, 3) := by decide +kernel
theorem dX8_init_52 : decode cX8_init 52 = .ok (.iload_n 3, 1) := by decide +kernel
theorem dX8_init_53 : decode cX8_init 53 = .ok (.laload, 1) := by decide +kernel
theorem dX8_init_54 : decode cX8_init 54 = .ok (.ldc 19, 2) := by decide +kernel
theorem dX8_init_56 : decode cX8_init 56 = .ok (.iload_n 2, 1) := by decide +kernel
theorem dX8_init_57 : decode cX8_init 57 = .ok (.invokevirtual 21, 3) := by decide +kernel
theorem dX8_init_60 : decode cX8_init 60 = .ok (.invokestatic 31, 3) := by decide +kernel
theorem dX8_init_63 : decode cX8_init 63 = .ok (.lastore, 1) := by decide +kernel
theorem dX8_init_64 : decode cX8_init 64 = .ok (.iinc 2 1, 3) := by decide +kernel
theorem dX8_init_67 : decode cX8_init 67 = .ok (.goto (-48), 3) := by decide +kernel
theorem dX8_init_70 : decode cX8_init 70 = .ok (.return_, 1) := by decide +kernel
theorem dX8_begin_0 : decode cX8_begin 0 = .ok (.aload_n 0, 1) := by decide +kernel
theorem dX8_begin_1 : decode cX8_begin 1 = .ok (.iconst 0, 1) := by decide +kernel
theorem dX8_begin_2 : decode cX8_begin 2 = .ok (.putfield 35, 3) := by decide +kernel
theorem dX8_begin_5 : decode cX8_begin 5 = .ok (.aload_n 0, 1) := by decide +kernel
theorem dX8_begin_6 : decode cX8_begin 6 = .ok (.invokevirtual 39, 3) := by decide +kernel
theorem dX8_begin_9 : decode cX8_begin 9 = .ok (.return_, 1) := by decide +kernel
theorem dX8_step_0 : decode cX8_step 0 = .ok (.aload_n 0, 1) := by decide +kernel
theorem dX8_step_1 : decode cX8_step 1 = .ok (.invokevirtual 42, 3) := by decide +kernel
theorem dX8_step_4 : decode cX8_step 4 = .ok (.aload_n 0, 1) := by decide +kernel
theorem dX8_step_5 : decode cX8_step 5 = .ok (.aload_n 0, 1) := by decide +kernel
theorem dX8_step_6 : decode cX8_step 6 = .ok (.getfield 35, 3) := by decide +kernel
theorem dX8_step_9 : decode cX8_step 9 = .ok (.putfield 45, 3) := by decide +kernel
theorem dX8_step_12 : decode cX8_step 12 = .ok (.aload_n 0, 1) := by decide +kernel
theorem dX8_step_13 : decode cX8_step 13 = .ok (.getfield 15, 3) := by decide +kernel
theorem dX8_step_16 : decode cX8_step 16 = .ok (.aload_n 0, 1) := by decide +kernel
theorem dX8_step_17 : decode cX8_step 17 = .ok (.getfield 35, 3) := by decide +kernel
theorem dX8_step_20 : decode cX8_step 20 = .ok (.invokevirtual 48, 3) := by decide +kernel
theorem dX8_step_23 : decode cX8_step 23 = .ok (.istore_n 1, 1) := by decide +kernel
theorem dX8_step_24 : decode cX8_step 24 = .ok (.iload_n 1, 1) := by decide +kernel
theorem dX8_step_25 : decode cX8_step 25 = .ok (.iconst (-1), 1) := by decide +kernel
theorem dX8_step_26 : decode cX8_step 26 = .ok (.if_icmp .ne 11, 3) := by decide +kernel
theorem dX8_step_29 : decode cX8_step 29 = .ok (.aload_n 0, 1) := by decide +kernel
theorem dX8_step_30 : decode cX8_step 30 = .ok (.iconst 0, 1) := by decide +kernel
theorem dX8_step_31 : decode cX8_step 31 = .ok (.putfield 54, 3) := by decide +kernel
theorem dX8_step_34 : decode cX8_step 34 = .ok (.goto 62, 3) := by decide +kernel
theorem dX8_step_37 : decode cX8_step 37 = .ok (.iload_n 1, 1) := by decide +kernel
theorem dX8_step_38 : decode cX8_step 38 = .ok (.invokestatic 27, 3) := by decide +kernel
theorem dX8_step_41 : decode cX8_step 41 = .ok (.ifCond .eq 10, 3) := by decide +kernel
theorem dX8_step_44 : decode cX8_step 44 = .ok (.aload_n 0, 1) := by decide +kernel
theorem dX8_step_45 : decode cX8_step 45 = .ok (.invokevirtual 57, 3) := by decide +kernel
theorem dX8_step_48 : decode cX8_step 48 = .ok (.goto 48, 3) := by decide +kernel
theorem dX8_step_51 : decode cX8_step 51 = .ok (.iload_n 1, 1) := by decide +kernel
theorem dX8_step_52 : decode cX8_step 52 = .ok (.invokestatic 60, 3) := by decide +kernel
theorem dX8_step_55 : decode cX8_step 55 = .ok (.ifCond .eq 10, 3) := by decide +kernel
theorem dX8_step_58 : decode cX8_step 58 = .ok (.aload_n 0, 1) := by decide +kernel
theorem dX8_step_59 : decode cX8_step 59 = .ok (.invokevirtual 63, 3) := by decide +kernel
theorem dX8_step_62 : decode cX8_step 62 = .ok (.goto 34, 3) := by decide +kernel
theorem dX8_step_65 : decode cX8_step 65 = .ok (.aload_n 0, 1) := by decide +kernel
theorem dX8_step_66 : decode cX8_step 66 = .ok (.iload_n 1, 1) := by decide +kernel
theorem dX8_step_67 : decode cX8_step 67 = .ok (.invokestatic 66, 3) := by decide +kernel
theorem dX8_step_70 : decode cX8_step 70 = .ok (.ifCond .eq 7, 3) := by decide +kernel
theorem dX8_step_73 : decode cX8_step 73 = .ok (.iconst 5, 1) := by decide +kernel
theorem dX8_step_74 : decode cX8_step 74 = .ok (.goto 4, 3) := by decide +kernel
theorem dX8_step_77 : decode cX8_step 77 = .ok (.iconst 1, 1) := by decide +kernel
theorem dX8_step_78 : decode cX8_step 78 = .ok (.putfield 54, 3) := by decide +kernel
theorem dX8_step_81 : decode cX8_step 81 = .ok (.aload_n 0, 1) := by decide +kernel
theorem dX8_step_82 : decode cX8_step 82 = .ok (.iload_n 1, 1) := by decide +kernel
theorem dX8_step_83 : decode cX8_step 83 = .ok (.putfield 69, 3) := by decide +kernel
theorem dX8_step_86 : decode cX8_step 86 = .ok (.aload_n 0, 1) := by decide +kernel
theorem dX8_step_87 : decode cX8_step 87 = .ok (.dup, 1) := by decide +kernel
theorem dX8_step_88 : decode cX8_step 88 = .ok (.getfield 35, 3) := by decide +kernel
theorem dX8_step_91 : decode cX8_step 91 = .ok (.iconst 1, 1) := by decide +kernel
theorem dX8_step_92 : decode cX8_step 92 = .ok (.iadd, 1) := by decide +kernel
theorem dX8_step_93 : decode cX8_step 93 = .ok (.putfield 35, 3) := by decide +kernel
theorem dX8_step_96 : decode cX8_step 96 = .ok (.return_, 1) := by decide +kernel
theorem dX8_isWord_0 : decode cX8_isWord 0 = .ok (.aload_n 0, 1) := by decide +kernel
theorem dX8_isWord_1 : decode cX8_isWord 1 = .ok (.getfield 54, 3) := by decide +kernel
theorem dX8_isWord_4 : decode cX8_isWord 4 = .ok (.iconst 2, 1) := by decide +kernel
theorem dX8_isWord_5 : decode cX8_isWord 5 = .ok (.if_icmp .ne 15, 3) := by decide +kernel
theorem dX8_isWord_8 : decode cX8_isWord 8 = .ok (.aload_n 0, 1) := by decide +kernel
theorem dX8_isWord_9 : decode cX8_isWord 9 = .ok (.getfield 69, 3) := by decide +kernel
theorem dX8_isWord_12 : decode cX8_isWord 12 = .ok (.iload_n 1, 1) := by decide +kernel
theorem dX8_isWord_13 : decode cX8_isWord 13 = .ok (.if_icmp .ne 7, 3) := by decide +kernel
theorem dX8_isWord_16 : decode cX8_isWord 16 = .ok (.iconst 1, 1) := by decide +kernel
theorem dX8_isWord_17 : decode cX8_isWord 17 = .ok (.goto 4, 3) := by decide +kernel
theorem dX8_isWord_20 : decode cX8_isWord 20 = .ok (.iconst 0, 1) := by decide +kernel
theorem dX8_isWord_21 : decode cX8_isWord 21 = .ok (.ireturn, 1) := by decide +kernel
theorem dX8_isSign_0 : decode cX8_isSign 0 = .ok (.aload_n 0, 1) := by decide +kernel
theorem dX8_isSign_1 : decode cX8_isSign 1 = .ok (.getfield 54, 3) := by decide +kernel
theorem dX8_isSign_4 : decode cX8_isSign 4 = .ok (.iconst 5, 1) := by decide +kernel
theorem dX8_isSign_5 : decode cX8_isSign 5 = .ok (.if_icmp .ne 15, 3) := by decide +kernel
theorem dX8_isSign_8 : decode cX8_isSign 8 = .ok (.aload_n 0, 1) := by decide +kernel
theorem dX8_isSign_9 : decode cX8_isSign 9 = .ok (.getfield 69, 3) := by decide +kernel
theorem dX8_isSign_12 : decode cX8_isSign 12 = .ok (.iload_n 1, 1) := by decide +kernel
theorem dX8_isSign_13 : decode cX8_isSign 13 = .ok (.if_icmp .ne 7, 3) := by decide +kernel
theorem dX8_isSign_16 : decode cX8_isSign 16 = .ok (.iconst 1, 1) := by decide +kernel
theorem dX8_isSign_17 : decode cX8_isSign 17 = .ok (.goto 4, 3) := by decide +kernel
theorem dX8_isSign_20 : decode cX8_isSign 20 = .ok (.iconst 0, 1) := by decide +kernel
theorem dX8_isSign_21 : decode cX8_isSign 21 = .ok (.ireturn, 1) := by decide +kernel
theorem dX8_skipBlanks_0 : decode cX8_skipBlanks 0 = .ok (.aload_n 0, 1) := by decide +kernel
theorem dX8_skipBlanks_1 : decode cX8_skipBlanks 1 = .ok (.getfield 35, 3) := by decide +kernel
theorem dX8_skipBlanks_4 : decode cX8_skipBlanks 4 = .ok (.aload_n 0, 1) := by decide +kernel
theorem dX8_skipBlanks_5 : decode cX8_skipBlanks 5 = .ok (.getfield 15, 3) := by decide +kernel
theorem dX8_skipBlanks_8 : decode cX8_skipBlanks 8 = .ok (.getfield 72, 3) := by decide +kernel
theorem dX8_skipBlanks_11 : decode cX8_skipBlanks 11 = .ok (.if_icmp .ge 48, 3) := by decide +kernel
theorem dX8_skipBlanks_14 : decode cX8_skipBlanks 14 = .ok (.aload_n 0, 1) := by decide +kernel
theorem dX8_skipBlanks_15 : decode cX8_skipBlanks 15 = .ok (.getfield 15, 3) := by decide +kernel
theorem dX8_skipBlanks_18 : decode cX8_skipBlanks 18 = .ok (.aload_n 0, 1) := by decide +kernel
theorem dX8_skipBlanks_19 : decode cX8_skipBlanks 19 = .ok (.getfield 35, 3) := by decide +kernel
theorem dX8_skipBlanks_22 : decode cX8_skipBlanks 22 = .ok (.invokevirtual 48, 3) := by decide +kernel
theorem dX8_skipBlanks_25 : decode cX8_skipBlanks 25 = .ok (.bipush 32, 2) := by decide +kernel
theorem dX8_skipBlanks_27 : decode cX8_skipBlanks 27 = .ok (.if_icmp .eq 19, 3) := by decide +kernel
theorem dX8_skipBlanks_30 : decode cX8_skipBlanks 30 = .ok (.aload_n 0, 1) := by decide +kernel
theorem dX8_skipBlanks_31 : decode cX8_skipBlanks 31 = .ok (.getfield 15, 3) := by decide +kernel
theorem dX8_skipBlanks_34 : decode cX8_skipBlanks 34 = .ok (.aload_n 0, 1) := by decide +kernel
theorem dX8_skipBlanks_35 : decode cX8_skipBlanks 35 = .ok (.getfield 35, 3) := by decide +kernel
theorem dX8_skipBlanks_38 : decode cX8_skipBlanks 38 = .ok (.invokevirtual 48, 3) := by decide +kernel
theorem dX8_skipBlanks_41 : decode cX8_skipBlanks 41 = .ok (.bipush 10, 2) := by decide +kernel
theorem dX8_skipBlanks_43 : decode cX8_skipBlanks 43 = .ok (.if_icmp .ne 16, 3) := by decide +kernel
theorem dX8_skipBlanks_46 : decode cX8_skipBlanks 46 = .ok (.aload_n 0, 1) := by decide +kernel
theorem dX8_skipBlanks_47 : decode cX8_skipBlanks 47 = .ok (.dup, 1) := by decide +kernel
theorem dX8_skipBlanks_48 : decode cX8_skipBlanks 48 = .ok (.getfield 35, 3) := by decide +kernel
theorem dX8_skipBlanks_51 : decode cX8_skipBlanks 51 = .ok (.iconst 1, 1) := by decide +kernel
theorem dX8_skipBlanks_52 : decode cX8_skipBlanks 52 = .ok (.iadd, 1) := by decide +kernel
theorem dX8_skipBlanks_53 : decode cX8_skipBlanks 53 = .ok (.putfield 35, 3) := by decide +kernel
theorem dX8_skipBlanks_56 : decode cX8_skipBlanks 56 = .ok (.goto (-56), 3) := by decide +kernel
theorem dX8_skipBlanks_59 : decode cX8_skipBlanks 59 = .ok (.return_, 1) := by decide +kernel
theorem dX8_readWord_0 : decode cX8_readWord 0 = .ok (.aload_n 0, 1) := by decide +kernel
theorem dX8_readWord_1 : decode cX8_readWord 1 = .ok (.lconst 0, 1) := by decide +kernel
theorem dX8_readWord_2 : decode cX8_readWord 2 = .ok (.putfield 75, 3) := by decide +kernel
theorem dX8_readWord_5 : decode cX8_readWord 5 = .ok (.aload_n 0, 1) := by decide +kernel
theorem dX8_readWord_6 : decode cX8_readWord 6 = .ok (.getfield 35, 3) := by decide +kernel
theorem dX8_readWord_9 : decode cX8_readWord 9 = .ok (.aload_n 0, 1) := by decide +kernel
theorem dX8_readWord_10 : decode cX8_readWord 10 = .ok (.getfield 15, 3) := by decide +kernel
theorem dX8_readWord_13 : decode cX8_readWord 13 = .ok (.getfield 72, 3) := by decide +kernel
theorem dX8_readWord_16 : decode cX8_readWord 16 = .ok (.if_icmp .ge 55, 3) := by decide +kernel
theorem dX8_readWord_19 : decode cX8_readWord 19 = .ok (.aload_n 0, 1) := by decide +kernel
theorem dX8_readWord_20 : decode cX8_readWord 20 = .ok (.getfield 15, 3) := by decide +kernel
theorem dX8_readWord_23 : decode cX8_readWord 23 = .ok (.aload_n 0, 1) := by decide +kernel
theorem dX8_readWord_24 : decode cX8_readWord 24 = .ok (.getfield 35, 3) := by decide +kernel
theorem dX8_readWord_27 : decode cX8_readWord 27 = .ok (.invokevirtual 48, 3) := by decide +kernel
theorem dX8_readWord_30 : decode cX8_readWord 30 = .ok (.invokestatic 27, 3) := by decide +kernel
theorem dX8_readWord_33 : decode cX8_readWord 33 = .ok (.ifCond .eq 38, 3) := by decide +kernel
theorem dX8_readWord_36 : decode cX8_readWord 36 = .ok (.aload_n 0, 1) := by decide +kernel
theorem dX8_readWord_37 : decode cX8_readWord 37 = .ok (.aload_n 0, 1) := by decide +kernel
theorem dX8_readWord_38 : decode cX8_readWord 38 = .ok (.getfield 75, 3) := by decide +kernel
theorem dX8_readWord_41 : decode cX8_readWord 41 = .ok (.aload_n 0, 1) := by decide +kernel
theorem dX8_readWord_42 : decode cX8_readWord 42 = .ok (.getfield 15, 3) := by decide +kernel
theorem dX8_readWord_45 : decode cX8_readWord 45 = .ok (.aload_n 0, 1) := by decide +kernel
theorem dX8_readWord_46 : decode cX8_readWord 46 = .ok (.getfield 35, 3) := by decide +kernel
theorem dX8_readWord_49 : decode cX8_readWord 49 = .ok (.invokevirtual 48, 3) := by decide +kernel
theorem dX8_readWord_52 : decode cX8_readWord 52 = .ok (.invokestatic 31, 3) := by decide +kernel
theorem dX8_readWord_55 : decode cX8_readWord 55 = .ok (.putfield 75, 3) := by decide +kernel
theorem dX8_readWord_58 : decode cX8_readWord 58 = .ok (.aload_n 0, 1) := by decide +kernel
theorem dX8_readWord_59 : decode cX8_readWord 59 = .ok (.dup, 1) := by decide +kernel
theorem dX8_readWord_60 : decode cX8_readWord 60 = .ok (.getfield 35, 3) := by decide +kernel
theorem dX8_readWord_63 : decode cX8_readWord 63 = .ok (.iconst 1, 1) := by decide +kernel
theorem dX8_readWord_64 : decode cX8_readWord 64 = .ok (.iadd, 1) := by decide +kernel
theorem dX8_readWord_65 : decode cX8_readWord 65 = .ok (.putfield 35, 3) := by decide +kernel
theorem dX8_readWord_68 : decode cX8_readWord 68 = .ok (.goto (-63), 3) := by decide +kernel
theorem dX8_readWord_71 : decode cX8_readWord 71 = .ok (.aload_n 0, 1) := by decide +kernel
theorem dX8_readWord_72 : decode cX8_readWord 72 = .ok (.getfield 35, 3) := by decide +kernel
theorem dX8_readWord_75 : decode cX8_readWord 75 = .ok (.aload_n 0, 1) := by decide +kernel
theorem dX8_readWord_76 : decode cX8_readWord 76 = .ok (.getfield 45, 3) := by decide +kernel
theorem dX8_readWord_79 : decode cX8_readWord 79 = .ok (.isub, 1) := by decide +kernel
theorem dX8_readWord_80 : decode cX8_readWord 80 = .ok (.bipush 8, 2) := by decide +kernel
theorem dX8_readWord_82 : decode cX8_readWord 82 = .ok (.if_icmp .le 9, 3) := by decide +kernel
theorem dX8_readWord_85 : decode cX8_readWord 85 = .ok (.aload_n 0, 1) := by decide +kernel
theorem dX8_readWord_86 : decode cX8_readWord 86 = .ok (.iconst 1, 1) := by decide +kernel
theorem dX8_readWord_87 : decode cX8_readWord 87 = .ok (.putfield 54, 3) := by decide +kernel
theorem dX8_readWord_90 : decode cX8_readWord 90 = .ok (.return_, 1) := by decide +kernel
theorem dX8_readWord_91 : decode cX8_readWord 91 = .ok (.aload_n 0, 1) := by decide +kernel
theorem dX8_readWord_92 : decode cX8_readWord 92 = .ok (.iconst 3, 1) := by decide +kernel
theorem dX8_readWord_93 : decode cX8_readWord 93 = .ok (.putfield 54, 3) := by decide +kernel
theorem dX8_readWord_96 : decode cX8_readWord 96 = .ok (.iconst 0, 1) := by decide +kernel
theorem dX8_readWord_97 : decode cX8_readWord 97 = .ok (.istore_n 1, 1) := by decide +kernel
theorem dX8_readWord_98 : decode cX8_readWord 98 = .ok (.iload_n 1, 1) := by decide +kernel
theorem dX8_readWord_99 : decode cX8_readWord 99 = .ok (.bipush 28, 2) := by decide +kernel
theorem dX8_readWord_101 : decode cX8_readWord 101 = .ok (.if_icmp .ge 33, 3) := by decide +kernel
theorem dX8_readWord_104 : decode cX8_readWord 104 = .ok (.aload_n 0, 1) := by decide +kernel
theorem dX8_readWord_105 : decode cX8_readWord 105 = .ok (.getfield 9, 3) := by decide +kernel
theorem dX8_readWord_108 : decode cX8_readWord 108 = .ok (.iload_n 1, 1) := by decide +kernel
theorem dX8_readWord_109 : decode cX8_readWord 109 = .ok (.laload, 1) := by decide +kernel
theorem dX8_readWord_110 : decode cX8_readWord 110 = .ok (.aload_n 0, 1) := by decide +kernel
theorem dX8_readWord_111 : decode cX8_readWord 111 = .ok (.getfield 75, 3) := by decide +kernel
theorem dX8_readWord_114 : decode cX8_readWord 114 = .ok (.lcmp, 1) := by decide +kernel
theorem dX8_readWord_115 : decode cX8_readWord 115 = .ok (.ifCond .ne 13, 3) := by decide +kernel
theorem dX8_readWord_118 : decode cX8_readWord 118 = .ok (.aload_n 0, 1) := by decide +kernel
theorem dX8_readWord_119 : decode cX8_readWord 119 = .ok (.iconst 2, 1) := by decide +kernel
theorem dX8_readWord_120 : decode cX8_readWord 120 = .ok (.putfield 54, 3) := by decide +kernel
theorem dX8_readWord_123 : decode cX8_readWord 123 = .ok (.aload_n 0, 1) := by decide +kernel
theorem dX8_readWord_124 : decode cX8_readWord 124 = .ok (.iload_n 1, 1) := by decide +kernel
theorem dX8_readWord_125 : decode cX8_readWord 125 = .ok (.putfield 69, 3) := by decide +kernel
theorem dX8_readWord_128 : decode cX8_readWord 128 = .ok (.iinc 1 1, 3) := by decide +kernel
theorem dX8_readWord_131 : decode cX8_readWord 131 = .ok (.goto (-33), 3) := by decide +kernel
theorem dX8_readWord_134 : decode cX8_readWord 134 = .ok (.return_, 1) := by decide +kernel
theorem dX8_readNumber_0 : decode cX8_readNumber 0 = .ok (.aload_n 0, 1) := by decide +kernel
theorem dX8_readNumber_1 : decode cX8_readNumber 1 = .ok (.iconst 0, 1) := by decide +kernel
theorem dX8_readNumber_2 : decode cX8_readNumber 2 = .ok (.putfield 69, 3) := by decide +kernel
theorem dX8_readNumber_5 : decode cX8_readNumber 5 = .ok (.aload_n 0, 1) := by decide +kernel
theorem dX8_readNumber_6 : decode cX8_readNumber 6 = .ok (.getfield 35, 3) := by decide +kernel
theorem dX8_readNumber_9 : decode cX8_readNumber 9 = .ok (.aload_n 0, 1) := by decide +kernel
theorem dX8_readNumber_10 : decode cX8_readNumber 10 = .ok (.getfield 15, 3) := by decide +kernel
theorem dX8_readNumber_13 : decode cX8_readNumber 13 = .ok (.getfield 72, 3) := by decide +kernel
theorem dX8_readNumber_16 : decode cX8_readNumber 16 = .ok (.if_icmp .ge 59, 3) := by decide +kernel
theorem dX8_readNumber_19 : decode cX8_readNumber 19 = .ok (.aload_n 0, 1) := by decide +kernel
theorem dX8_readNumber_20 : decode cX8_readNumber 20 = .ok (.getfield 15, 3) := by decide +kernel
theorem dX8_readNumber_23 : decode cX8_readNumber 23 = .ok (.aload_n 0, 1) := by decide +kernel
theorem dX8_readNumber_24 : decode cX8_readNumber 24 = .ok (.getfield 35, 3) := by decide +kernel
theorem dX8_readNumber_27 : decode cX8_readNumber 27 = .ok (.invokevirtual 48, 3) := by decide +kernel
theorem dX8_readNumber_30 : decode cX8_readNumber 30 = .ok (.invokestatic 60, 3) := by decide +kernel
theorem dX8_readNumber_33 : decode cX8_readNumber 33 = .ok (.ifCond .eq 42, 3) := by decide +kernel
theorem dX8_readNumber_36 : decode cX8_readNumber 36 = .ok (.aload_n 0, 1) := by decide +kernel
theorem dX8_readNumber_37 : decode cX8_readNumber 37 = .ok (.aload_n 0, 1) := by decide +kernel
theorem dX8_readNumber_38 : decode cX8_readNumber 38 = .ok (.getfield 69, 3) := by decide +kernel
theorem dX8_readNumber_41 : decode cX8_readNumber 41 = .ok (.bipush 10, 2) := by decide +kernel
theorem dX8_readNumber_43 : decode cX8_readNumber 43 = .ok (.imul, 1) := by decide +kernel
theorem dX8_readNumber_44 : decode cX8_readNumber 44 = .ok (.aload_n 0, 1) := by decide +kernel
theorem dX8_readNumber_45 : decode cX8_readNumber 45 = .ok (.getfield 15, 3) := by decide +kernel
theorem dX8_readNumber_48 : decode cX8_readNumber 48 = .ok (.aload_n 0, 1) := by decide +kernel
theorem dX8_readNumber_49 : decode cX8_readNumber 49 = .ok (.getfield 35, 3) := by decide +kernel
theorem dX8_readNumber_52 : decode cX8_readNumber 52 = .ok (.invokevirtual 48, 3) := by decide +kernel
theorem dX8_readNumber_55 : decode cX8_readNumber 55 = .ok (.bipush 48, 2) := by decide +kernel
theorem dX8_readNumber_57 : decode cX8_readNumber 57 = .ok (.isub, 1) := by decide +kernel
theorem dX8_readNumber_58 : decode cX8_readNumber 58 = .ok (.iadd, 1) := by decide +kernel
theorem dX8_readNumber_59 : decode cX8_readNumber 59 = .ok (.putfield 69, 3) := by decide +kernel
theorem dX8_readNumber_62 : decode cX8_readNumber 62 = .ok (.aload_n 0, 1) := by decide +kernel
theorem dX8_readNumber_63 : decode cX8_readNumber 63 = .ok (.dup, 1) := by decide +kernel
theorem dX8_readNumber_64 : decode cX8_readNumber 64 = .ok (.getfield 35, 3) := by decide +kernel
theorem dX8_readNumber_67 : decode cX8_readNumber 67 = .ok (.iconst 1, 1) := by decide +kernel
theorem dX8_readNumber_68 : decode cX8_readNumber 68 = .ok (.iadd, 1) := by decide +kernel
theorem dX8_readNumber_69 : decode cX8_readNumber 69 = .ok (.putfield 35, 3) := by decide +kernel
theorem dX8_readNumber_72 : decode cX8_readNumber 72 = .ok (.goto (-67), 3) := by decide +kernel
theorem dX8_readNumber_75 : decode cX8_readNumber 75 = .ok (.aload_n 0, 1) := by decide +kernel
theorem dX8_readNumber_76 : decode cX8_readNumber 76 = .ok (.getfield 35, 3) := by decide +kernel
theorem dX8_readNumber_79 : decode cX8_readNumber 79 = .ok (.aload_n 0, 1) := by decide +kernel
theorem dX8_readNumber_80 : decode cX8_readNumber 80 = .ok (.getfield 45, 3) := by decide +kernel
theorem dX8_readNumber_83 : decode cX8_readNumber 83 = .ok (.isub, 1) := by decide +kernel
theorem dX8_readNumber_84 : decode cX8_readNumber 84 = .ok (.iconst 4, 1) := by decide +kernel
theorem dX8_readNumber_85 : decode cX8_readNumber 85 = .ok (.if_icmp .gt 24, 3) := by decide +kernel
theorem dX8_readNumber_88 : decode cX8_readNumber 88 = .ok (.aload_n 0, 1) := by decide +kernel
theorem dX8_readNumber_89 : decode cX8_readNumber 89 = .ok (.getfield 15, 3) := by decide +kernel
theorem dX8_readNumber_92 : decode cX8_readNumber 92 = .ok (.aload_n 0, 1) := by decide +kernel
theorem dX8_readNumber_93 : decode cX8_readNumber 93 = .ok (.getfield 35, 3) := by decide +kernel
theorem dX8_readNumber_96 : decode cX8_readNumber 96 = .ok (.invokevirtual 48, 3) := by decide +kernel
theorem dX8_readNumber_99 : decode cX8_readNumber 99 = .ok (.invokestatic 27, 3) := by decide +kernel
theorem dX8_readNumber_102 : decode cX8_readNumber 102 = .ok (.ifCond .ne 7, 3) := by decide +kernel
theorem dX8_readNumber_105 : decode cX8_readNumber 105 = .ok (.iconst 1, 1) := by decide +kernel
theorem dX8_readNumber_106 : decode cX8_readNumber 106 = .ok (.goto 4, 3) := by decide +kernel
theorem dX8_readNumber_109 : decode cX8_readNumber 109 = .ok (.iconst 0, 1) := by decide +kernel
theorem dX8_readNumber_110 : decode cX8_readNumber 110 = .ok (.istore_n 1, 1) := by decide +kernel
theorem dX8_readNumber_111 : decode cX8_readNumber 111 = .ok (.aload_n 0, 1) := by decide +kernel
theorem dX8_readNumber_112 : decode cX8_readNumber 112 = .ok (.iload_n 1, 1) := by decide +kernel
theorem dX8_readNumber_113 : decode cX8_readNumber 113 = .ok (.ifCond .eq 7, 3) := by decide +kernel
theorem dX8_readNumber_116 : decode cX8_readNumber 116 = .ok (.iconst 4, 1) := by decide +kernel
theorem dX8_readNumber_117 : decode cX8_readNumber 117 = .ok (.goto 4, 3) := by decide +kernel
theorem dX8_readNumber_120 : decode cX8_readNumber 120 = .ok (.iconst 1, 1) := by decide +kernel
theorem dX8_readNumber_121 : decode cX8_readNumber 121 = .ok (.putfield 54, 3) := by decide +kernel
theorem dX8_readNumber_124 : decode cX8_readNumber 124 = .ok (.return_, 1) := by decide +kernel
theorem dX8_withLetter_0 : decode cX8_withLetter 0 = .ok (.lload_n 0, 1) := by decide +kernel
theorem dX8_withLetter_1 : decode cX8_withLetter 1 = .ok (.ldc2_w 79, 3) := by decide +kernel
theorem dX8_withLetter_4 : decode cX8_withLetter 4 = .ok (.lmul, 1) := by decide +kernel
theorem dX8_withLetter_5 : decode cX8_withLetter 5 = .ok (.iload_n 2, 1) := by decide +kernel
theorem dX8_withLetter_6 : decode cX8_withLetter 6 = .ok (.bipush 97, 2) := by decide +kernel
theorem dX8_withLetter_8 : decode cX8_withLetter 8 = .ok (.isub, 1) := by decide +kernel
theorem dX8_withLetter_9 : decode cX8_withLetter 9 = .ok (.iconst 1, 1) := by decide +kernel
theorem dX8_withLetter_10 : decode cX8_withLetter 10 = .ok (.iadd, 1) := by decide +kernel
theorem dX8_withLetter_11 : decode cX8_withLetter 11 = .ok (.i2l, 1) := by decide +kernel
theorem dX8_withLetter_12 : decode cX8_withLetter 12 = .ok (.ladd, 1) := by decide +kernel
theorem dX8_withLetter_13 : decode cX8_withLetter 13 = .ok (.lreturn, 1) := by decide +kernel
theorem dX8_isLetter_0 : decode cX8_isLetter 0 = .ok (.iload_n 0, 1) := by decide +kernel
theorem dX8_isLetter_1 : decode cX8_isLetter 1 = .ok (.bipush 97, 2) := by decide +kernel
theorem dX8_isLetter_3 : decode cX8_isLetter 3 = .ok (.if_icmp .lt 13, 3) := by decide +kernel
theorem dX8_isLetter_6 : decode cX8_isLetter 6 = .ok (.iload_n 0, 1) := by decide +kernel
theorem dX8_isLetter_7 : decode cX8_isLetter 7 = .ok (.bipush 122, 2) := by decide +kernel
theorem dX8_isLetter_9 : decode cX8_isLetter 9 = .ok (.if_icmp .gt 7, 3) := by decide +kernel
theorem dX8_isLetter_12 : decode cX8_isLetter 12 = .ok (.iconst 1, 1) := by decide +kernel
theorem dX8_isLetter_13 : decode cX8_isLetter 13 = .ok (.goto 4, 3) := by decide +kernel
theorem dX8_isLetter_16 : decode cX8_isLetter 16 = .ok (.iconst 0, 1) := by decide +kernel
theorem dX8_isLetter_17 : decode cX8_isLetter 17 = .ok (.ireturn, 1) := by decide +kernel
theorem dX8_isDigit_0 : decode cX8_isDigit 0 = .ok (.iload_n 0, 1) := by decide +kernel
theorem dX8_isDigit_1 : decode cX8_isDigit 1 = .ok (.bipush 48, 2) := by decide +kernel
theorem dX8_isDigit_3 : decode cX8_isDigit 3 = .ok (.if_icmp .lt 13, 3) := by decide +kernel
theorem dX8_isDigit_6 : decode cX8_isDigit 6 = .ok (.iload_n 0, 1) := by decide +kernel
theorem dX8_isDigit_7 : decode cX8_isDigit 7 = .ok (.bipush 57, 2) := by decide +kernel
theorem dX8_isDigit_9 : decode cX8_isDigit 9 = .ok (.if_icmp .gt 7, 3) := by decide +kernel
theorem dX8_isDigit_12 : decode cX8_isDigit 12 = .ok (.iconst 1, 1) := by decide +kernel
theorem dX8_isDigit_13 : decode cX8_isDigit 13 = .ok (.goto 4, 3) := by decide +kernel
theorem dX8_isDigit_16 : decode cX8_isDigit 16 = .ok (.iconst 0, 1) := by decide +kernel
theorem dX8_isDigit_17 : decode cX8_isDigit 17 = .ok (.ireturn, 1) := by decide +kernel
theorem dX8_isSignByte_0 : decode cX8_isSignByte 0 = .ok (.iload_n 0, 1) := by decide +kernel
theorem dX8_isSignByte_1 : decode cX8_isSignByte 1 = .ok (.tableswitch 109 40 62 #[107, 107, 107, 107, 109, 107, 109, 109, 109, 109, 109, 109, 109, 109, 109, 109, 109, 109, 109, 107, 107, 107, 107], 107) := by decide +kernel
theorem dX8_isSignByte_108 : decode cX8_isSignByte 108 = .ok (.iconst 1, 1) := by decide +kernel
theorem dX8_isSignByte_109 : decode cX8_isSignByte 109 = .ok (.ireturn, 1) := by decide +kernel
theorem dX8_isSignByte_110 : decode cX8_isSignByte 110 = .ok (.iconst 0, 1) := by decide +kernel
theorem dX8_isSignByte_111 : decode cX8_isSignByte 111 = .ok (.ireturn, 1) := by decide +kernel
theorem dX9_init_0 : decode cX9_init 0 = .ok (.aload_n 0, 1) := by decide +kernel
theorem dX9_init_1 : decode cX9_init 1 = .ok (.invokespecial 3, 3) := by decide +kernel
theorem dX9_init_4 : decode cX9_init 4 = .ok (.aload_n 0, 1) := by decide +kernel
theorem dX9_init_5 : decode cX9_init 5 = .ok (.new 9, 3) := by decide +kernel
theorem dX9_init_8 : decode cX9_init 8 = .ok (.dup, 1) := by decide +kernel
theorem dX9_init_9 : decode cX9_init 9 = .ok (.invokespecial 11, 3) := by decide +kernel
theorem dX9_init_12 : decode cX9_init 12 = .ok (.putfield 12, 3) := by decide +kernel
theorem dX9_init_15 : decode cX9_init 15 = .ok (.aload_n 0, 1) := by decide +kernel
theorem dX9_init_16 : decode cX9_init 16 = .ok (.bipush 101, 2) := by decide +kernel
theorem dX9_init_18 : decode cX9_init 18 = .ok (.newarray .long, 2) := by decide +kernel
theorem dX9_init_20 : decode cX9_init 20 = .ok (.putfield 18, 3) := by decide +kernel
theorem dX9_init_23 : decode cX9_init 23 = .ok (.aload_n 0, 1) := by decide +kernel
theorem dX9_init_24 : decode cX9_init 24 = .ok (.aload_n 1, 1) := by decide +kernel
theorem dX9_init_25 : decode cX9_init 25 = .ok (.putfield 22, 3) := by decide +kernel
theorem dX9_init_28 : decode cX9_init 28 = .ok (.aload_n 0, 1) := by decide +kernel
theorem dX9_init_29 : decode cX9_init 29 = .ok (.aload_n 2, 1) := by decide +kernel
theorem dX9_init_30 : decode cX9_init 30 = .ok (.putfield 26, 3) := by decide +kernel
theorem dX9_init_33 : decode cX9_init 33 = .ok (.return_, 1) := by decide +kernel
theorem dX9_madeBy_0 : decode cX9_madeBy 0 = .ok (.aload_n 0, 1) := by decide +kernel
theorem dX9_madeBy_1 : decode cX9_madeBy 1 = .ok (.getfield 12, 3) := by decide +kernel
theorem dX9_madeBy_4 : decode cX9_madeBy 4 = .ok (.aload_n 1, 1) := by decide +kernel
theorem dX9_madeBy_5 : decode cX9_madeBy 5 = .ok (.invokevirtual 30, 3) := by decide +kernel
theorem dX9_madeBy_8 : decode cX9_madeBy 8 = .ok (.iconst 0, 1) := by decide +kernel
theorem dX9_madeBy_9 : decode cX9_madeBy 9 = .ok (.istore 4, 2) := by decide +kernel
theorem dX9_madeBy_11 : decode cX9_madeBy 11 = .ok (.iconst 0, 1) := by decide +kernel
theorem dX9_madeBy_12 : decode cX9_madeBy 12 = .ok (.istore 5, 2) := by decide +kernel
theorem dX9_madeBy_14 : decode cX9_madeBy 14 = .ok (.iload 5, 2) := by decide +kernel
theorem dX9_madeBy_16 : decode cX9_madeBy 16 = .ok (.iload_n 2, 1) := by decide +kernel
theorem dX9_madeBy_17 : decode cX9_madeBy 17 = .ok (.if_icmp .ge 26, 3) := by decide +kernel
theorem dX9_madeBy_20 : decode cX9_madeBy 20 = .ok (.iload 4, 2) := by decide +kernel
theorem dX9_madeBy_22 : decode cX9_madeBy 22 = .ok (.aload_n 0, 1) := by decide +kernel
theorem dX9_madeBy_23 : decode cX9_madeBy 23 = .ok (.getfield 26, 3) := by decide +kernel
theorem dX9_madeBy_26 : decode cX9_madeBy 26 = .ok (.aload_n 0, 1) := by decide +kernel
theorem dX9_madeBy_27 : decode cX9_madeBy 27 = .ok (.getfield 12, 3) := by decide +kernel
theorem dX9_madeBy_30 : decode cX9_madeBy 30 = .ok (.iload_n 3, 1) := by decide +kernel
theorem dX9_madeBy_31 : decode cX9_madeBy 31 = .ok (.invokevirtual 34, 3) := by decide +kernel
theorem dX9_madeBy_34 : decode cX9_madeBy 34 = .ok (.iadd, 1) := by decide +kernel
theorem dX9_madeBy_35 : decode cX9_madeBy 35 = .ok (.istore 4, 2) := by decide +kernel
theorem dX9_madeBy_37 : decode cX9_madeBy 37 = .ok (.iinc 5 1, 3) := by decide +kernel
theorem dX9_madeBy_40 : decode cX9_madeBy 40 = .ok (.goto (-26), 3) := by decide +kernel
theorem dX9_madeBy_43 : decode cX9_madeBy 43 = .ok (.iload 4, 2) := by decide +kernel
theorem dX9_madeBy_45 : decode cX9_madeBy 45 = .ok (.ireturn, 1) := by decide +kernel
theorem dX9_madeKept_0 : decode cX9_madeKept 0 = .ok (.aload_n 0, 1) := by decide +kernel
theorem dX9_madeKept_1 : decode cX9_madeKept 1 = .ok (.getfield 12, 3) := by decide +kernel
theorem dX9_madeKept_4 : decode cX9_madeKept 4 = .ok (.aload_n 1, 1) := by decide +kernel
theorem dX9_madeKept_5 : decode cX9_madeKept 5 = .ok (.invokevirtual 30, 3) := by decide +kernel
theorem dX9_madeKept_8 : decode cX9_madeKept 8 = .ok (.iconst 0, 1) := by decide +kernel
theorem dX9_madeKept_9 : decode cX9_madeKept 9 = .ok (.istore_n 3, 1) := by decide +kernel
theorem dX9_madeKept_10 : decode cX9_madeKept 10 = .ok (.iconst 0, 1) := by decide +kernel
theorem dX9_madeKept_11 : decode cX9_madeKept 11 = .ok (.istore 4, 2) := by decide +kernel
theorem dX9_madeKept_13 : decode cX9_madeKept 13 = .ok (.iload 4, 2) := by decide +kernel
theorem dX9_madeKept_15 : decode cX9_madeKept 15 = .ok (.iload_n 2, 1) := by decide +kernel
theorem dX9_madeKept_16 : decode cX9_madeKept 16 = .ok (.if_icmp .ge 34, 3) := by decide +kernel
theorem dX9_madeKept_19 : decode cX9_madeKept 19 = .ok (.iload_n 3, 1) := by decide +kernel
theorem dX9_madeKept_20 : decode cX9_madeKept 20 = .ok (.aload_n 0, 1) := by decide +kernel
theorem dX9_madeKept_21 : decode cX9_madeKept 21 = .ok (.getfield 26, 3) := by decide +kernel
theorem dX9_madeKept_24 : decode cX9_madeKept 24 = .ok (.aload_n 0, 1) := by decide +kernel
theorem dX9_madeKept_25 : decode cX9_madeKept 25 = .ok (.getfield 12, 3) := by decide +kernel
theorem dX9_madeKept_28 : decode cX9_madeKept 28 = .ok (.invokevirtual 40, 3) := by decide +kernel
theorem dX9_madeKept_31 : decode cX9_madeKept 31 = .ok (.iadd, 1) := by decide +kernel
theorem dX9_madeKept_32 : decode cX9_madeKept 32 = .ok (.istore_n 3, 1) := by decide +kernel
theorem dX9_madeKept_33 : decode cX9_madeKept 33 = .ok (.aload_n 0, 1) := by decide +kernel
theorem dX9_madeKept_34 : decode cX9_madeKept 34 = .ok (.getfield 26, 3) := by decide +kernel
theorem dX9_madeKept_37 : decode cX9_madeKept 37 = .ok (.aload_n 0, 1) := by decide +kernel
theorem dX9_madeKept_38 : decode cX9_madeKept 38 = .ok (.getfield 12, 3) := by decide +kernel
theorem dX9_madeKept_41 : decode cX9_madeKept 41 = .ok (.invokevirtual 44, 3) := by decide +kernel
theorem dX9_madeKept_44 : decode cX9_madeKept 44 = .ok (.iinc 4 1, 3) := by decide +kernel
theorem dX9_madeKept_47 : decode cX9_madeKept 47 = .ok (.goto (-34), 3) := by decide +kernel
theorem dX9_madeKept_50 : decode cX9_madeKept 50 = .ok (.iload_n 3, 1) := by decide +kernel
theorem dX9_madeKept_51 : decode cX9_madeKept 51 = .ok (.ireturn, 1) := by decide +kernel
theorem dX9_weigh_0 : decode cX9_weigh 0 = .ok (.aload_n 0, 1) := by decide +kernel
theorem dX9_weigh_1 : decode cX9_weigh 1 = .ok (.aload_n 1, 1) := by decide +kernel
theorem dX9_weigh_2 : decode cX9_weigh 2 = .ok (.iload_n 2, 1) := by decide +kernel
theorem dX9_weigh_3 : decode cX9_weigh 3 = .ok (.iload 4, 2) := by decide +kernel
theorem dX9_weigh_5 : decode cX9_weigh 5 = .ok (.invokevirtual 47, 3) := by decide +kernel
theorem dX9_weigh_8 : decode cX9_weigh 8 = .ok (.aload_n 0, 1) := by decide +kernel
theorem dX9_weigh_9 : decode cX9_weigh 9 = .ok (.getfield 12, 3) := by decide +kernel
theorem dX9_weigh_12 : decode cX9_weigh 12 = .ok (.getfield 51, 3) := by decide +kernel
theorem dX9_weigh_15 : decode cX9_weigh 15 = .ok (.iload_n 2, 1) := by decide +kernel
theorem dX9_weigh_16 : decode cX9_weigh 16 = .ok (.baload, 1) := by decide +kernel
theorem dX9_weigh_17 : decode cX9_weigh 17 = .ok (.ifCond .eq 5, 3) := by decide +kernel
theorem dX9_weigh_20 : decode cX9_weigh 20 = .ok (.iconst 0, 1) := by decide +kernel
theorem dX9_weigh_21 : decode cX9_weigh 21 = .ok (.ireturn, 1) := by decide +kernel
theorem dX9_weigh_22 : decode cX9_weigh 22 = .ok (.aload_n 0, 1) := by decide +kernel
theorem dX9_weigh_23 : decode cX9_weigh 23 = .ok (.getfield 26, 3) := by decide +kernel
theorem dX9_weigh_26 : decode cX9_weigh 26 = .ok (.aload_n 0, 1) := by decide +kernel
theorem dX9_weigh_27 : decode cX9_weigh 27 = .ok (.getfield 12, 3) := by decide +kernel
theorem dX9_weigh_30 : decode cX9_weigh 30 = .ok (.aload_n 0, 1) := by decide +kernel
theorem dX9_weigh_31 : decode cX9_weigh 31 = .ok (.getfield 22, 3) := by decide +kernel
theorem dX9_weigh_34 : decode cX9_weigh 34 = .ok (.getfield 55, 3) := by decide +kernel
theorem dX9_weigh_37 : decode cX9_weigh 37 = .ok (.iconst 0, 1) := by decide +kernel
theorem dX9_weigh_38 : decode cX9_weigh 38 = .ok (.invokevirtual 61, 3) := by decide +kernel
theorem dX9_weigh_41 : decode cX9_weigh 41 = .ok (.aload_n 0, 1) := by decide +kernel
theorem dX9_weigh_42 : decode cX9_weigh 42 = .ok (.iload_n 2, 1) := by decide +kernel
theorem dX9_weigh_43 : decode cX9_weigh 43 = .ok (.iload_n 3, 1) := by decide +kernel
theorem dX9_weigh_44 : decode cX9_weigh 44 = .ok (.invokevirtual 65, 3) := by decide +kernel
theorem dX9_weigh_47 : decode cX9_weigh 47 = .ok (.ifCond .eq 7, 3) := by decide +kernel
theorem dX9_weigh_50 : decode cX9_weigh 50 = .ok (.iconst 1, 1) := by decide +kernel
theorem dX9_weigh_51 : decode cX9_weigh 51 = .ok (.goto 4, 3) := by decide +kernel
theorem dX9_weigh_54 : decode cX9_weigh 54 = .ok (.iconst 0, 1) := by decide +kernel
theorem dX9_weigh_55 : decode cX9_weigh 55 = .ok (.istore 5, 2) := by decide +kernel
theorem dX9_weigh_57 : decode cX9_weigh 57 = .ok (.aload_n 0, 1) := by decide +kernel
theorem dX9_weigh_58 : decode cX9_weigh 58 = .ok (.iload_n 2, 1) := by decide +kernel
theorem dX9_weigh_59 : decode cX9_weigh 59 = .ok (.invokevirtual 69, 3) := by decide +kernel
theorem dX9_weigh_62 : decode cX9_weigh 62 = .ok (.istore 6, 2) := by decide +kernel
theorem dX9_weigh_64 : decode cX9_weigh 64 = .ok (.aload_n 0, 1) := by decide +kernel
theorem dX9_weigh_65 : decode cX9_weigh 65 = .ok (.aload_n 1, 1) := by decide +kernel
theorem dX9_weigh_66 : decode cX9_weigh 66 = .ok (.iload_n 2, 1) := by decide +kernel
theorem dX9_weigh_67 : decode cX9_weigh 67 = .ok (.iload 4, 2) := by decide +kernel
theorem dX9_weigh_69 : decode cX9_weigh 69 = .ok (.invokevirtual 47, 3) := by decide +kernel
theorem dX9_weigh_72 : decode cX9_weigh 72 = .ok (.aload_n 0, 1) := by decide +kernel
theorem dX9_weigh_73 : decode cX9_weigh 73 = .ok (.getfield 26, 3) := by decide +kernel
theorem dX9_weigh_76 : decode cX9_weigh 76 = .ok (.aload_n 0, 1) := by decide +kernel
theorem dX9_weigh_77 : decode cX9_weigh 77 = .ok (.getfield 12, 3) := by decide +kernel
theorem dX9_weigh_80 : decode cX9_weigh 80 = .ok (.aload_n 0, 1) := by decide +kernel
theorem dX9_weigh_81 : decode cX9_weigh 81 = .ok (.getfield 22, 3) := by decide +kernel
theorem dX9_weigh_84 : decode cX9_weigh 84 = .ok (.getfield 55, 3) := by decide +kernel
theorem dX9_weigh_87 : decode cX9_weigh 87 = .ok (.iconst 1, 1) := by decide +kernel
theorem dX9_weigh_88 : decode cX9_weigh 88 = .ok (.invokevirtual 61, 3) := by decide +kernel
theorem dX9_weigh_91 : decode cX9_weigh 91 = .ok (.aload_n 0, 1) := by decide +kernel
theorem dX9_weigh_92 : decode cX9_weigh 92 = .ok (.iload_n 2, 1) := by decide +kernel
theorem dX9_weigh_93 : decode cX9_weigh 93 = .ok (.iload_n 3, 1) := by decide +kernel
theorem dX9_weigh_94 : decode cX9_weigh 94 = .ok (.invokevirtual 65, 3) := by decide +kernel
theorem dX9_weigh_97 : decode cX9_weigh 97 = .ok (.ifCond .eq 7, 3) := by decide +kernel
theorem dX9_weigh_100 : decode cX9_weigh 100 = .ok (.iconst 1, 1) := by decide +kernel
theorem dX9_weigh_101 : decode cX9_weigh 101 = .ok (.goto 4, 3) := by decide +kernel
theorem dX9_weigh_104 : decode cX9_weigh 104 = .ok (.iconst 0, 1) := by decide +kernel
theorem dX9_weigh_105 : decode cX9_weigh 105 = .ok (.istore 7, 2) := by decide +kernel
theorem dX9_weigh_107 : decode cX9_weigh 107 = .ok (.aload_n 0, 1) := by decide +kernel
theorem dX9_weigh_108 : decode cX9_weigh 108 = .ok (.iload_n 2, 1) := by decide +kernel
theorem dX9_weigh_109 : decode cX9_weigh 109 = .ok (.invokevirtual 69, 3) := by decide +kernel
theorem dX9_weigh_112 : decode cX9_weigh 112 = .ok (.istore 8, 2) := by decide +kernel
theorem dX9_weigh_114 : decode cX9_weigh 114 = .ok (.aload_n 0, 1) := by decide +kernel
theorem dX9_weigh_115 : decode cX9_weigh 115 = .ok (.getfield 22, 3) := by decide +kernel
theorem dX9_weigh_118 : decode cX9_weigh 118 = .ok (.getfield 73, 3) := by decide +kernel
theorem dX9_weigh_121 : decode cX9_weigh 121 = .ok (.istore 9, 2) := by decide +kernel
theorem dX9_weigh_123 : decode cX9_weigh 123 = .ok (.aload_n 0, 1) := by decide +kernel
theorem dX9_weigh_124 : decode cX9_weigh 124 = .ok (.bipush 100, 2) := by decide +kernel
theorem dX9_weigh_126 : decode cX9_weigh 126 = .ok (.iload 9, 2) := by decide +kernel
theorem dX9_weigh_128 : decode cX9_weigh 128 = .ok (.isub, 1) := by decide +kernel
theorem dX9_weigh_129 : decode cX9_weigh 129 = .ok (.iload 5, 2) := by decide +kernel
theorem dX9_weigh_131 : decode cX9_weigh 131 = .ok (.imul, 1) := by decide +kernel
theorem dX9_weigh_132 : decode cX9_weigh 132 = .ok (.iload 8, 2) := by decide +kernel
theorem dX9_weigh_134 : decode cX9_weigh 134 = .ok (.imul, 1) := by decide +kernel
theorem dX9_weigh_135 : decode cX9_weigh 135 = .ok (.iload 9, 2) := by decide +kernel
theorem dX9_weigh_137 : decode cX9_weigh 137 = .ok (.iload 7, 2) := by decide +kernel
theorem dX9_weigh_139 : decode cX9_weigh 139 = .ok (.imul, 1) := by decide +kernel
theorem dX9_weigh_140 : decode cX9_weigh 140 = .ok (.iload 6, 2) := by decide +kernel
theorem dX9_weigh_142 : decode cX9_weigh 142 = .ok (.imul, 1) := by decide +kernel
theorem dX9_weigh_143 : decode cX9_weigh 143 = .ok (.iadd, 1) := by decide +kernel
theorem dX9_weigh_144 : decode cX9_weigh 144 = .ok (.putfield 76, 3) := by decide +kernel
theorem dX9_weigh_147 : decode cX9_weigh 147 = .ok (.aload_n 0, 1) := by decide +kernel
theorem dX9_weigh_148 : decode cX9_weigh 148 = .ok (.bipush 100, 2) := by decide +kernel
theorem dX9_weigh_150 : decode cX9_weigh 150 = .ok (.iload 6, 2) := by decide +kernel
theorem dX9_weigh_152 : decode cX9_weigh 152 = .ok (.imul, 1) := by decide +kernel
theorem dX9_weigh_153 : decode cX9_weigh 153 = .ok (.iload 8, 2) := by decide +kernel
theorem dX9_weigh_155 : decode cX9_weigh 155 = .ok (.imul, 1) := by decide +kernel
theorem dX9_weigh_156 : decode cX9_weigh 156 = .ok (.putfield 79, 3) := by decide +kernel
theorem dX9_weigh_159 : decode cX9_weigh 159 = .ok (.aload_n 0, 1) := by decide +kernel
theorem dX9_weigh_160 : decode cX9_weigh 160 = .ok (.getfield 76, 3) := by decide +kernel
theorem dX9_weigh_163 : decode cX9_weigh 163 = .ok (.aload_n 0, 1) := by decide +kernel
theorem dX9_weigh_164 : decode cX9_weigh 164 = .ok (.getfield 79, 3) := by decide +kernel
theorem dX9_weigh_167 : decode cX9_weigh 167 = .ok (.invokestatic 82, 3) := by decide +kernel
theorem dX9_weigh_170 : decode cX9_weigh 170 = .ok (.istore 10, 2) := by decide +kernel
theorem dX9_weigh_172 : decode cX9_weigh 172 = .ok (.iload 10, 2) := by decide +kernel
theorem dX9_weigh_174 : decode cX9_weigh 174 = .ok (.iconst 1, 1) := by decide +kernel
theorem dX9_weigh_175 : decode cX9_weigh 175 = .ok (.if_icmp .le 25, 3) := by decide +kernel
theorem dX9_weigh_178 : decode cX9_weigh 178 = .ok (.aload_n 0, 1) := by decide +kernel
theorem dX9_weigh_179 : decode cX9_weigh 179 = .ok (.dup, 1) := by decide +kernel
theorem dX9_weigh_180 : decode cX9_weigh 180 = .ok (.getfield 76, 3) := by decide +kernel
theorem dX9_weigh_183 : decode cX9_weigh 183 = .ok (.iload 10, 2) := by decide +kernel
theorem dX9_weigh_185 : decode cX9_weigh 185 = .ok (.idiv, 1) := by decide +kernel
theorem dX9_weigh_186 : decode cX9_weigh 186 = .ok (.putfield 76, 3) := by decide +kernel
theorem dX9_weigh_189 : decode cX9_weigh 189 = .ok (.aload_n 0, 1) := by decide +kernel
theorem dX9_weigh_190 : decode cX9_weigh 190 = .ok (.dup, 1) := by decide +kernel
theorem dX9_weigh_191 : decode cX9_weigh 191 = .ok (.getfield 79, 3) := by decide +kernel
theorem dX9_weigh_194 : decode cX9_weigh 194 = .ok (.iload 10, 2) := by decide +kernel
theorem dX9_weigh_196 : decode cX9_weigh 196 = .ok (.idiv, 1) := by decide +kernel
theorem dX9_weigh_197 : decode cX9_weigh 197 = .ok (.putfield 79, 3) := by decide +kernel
theorem dX9_weigh_200 : decode cX9_weigh 200 = .ok (.iconst 1, 1) := by decide +kernel
theorem dX9_weigh_201 : decode cX9_weigh 201 = .ok (.ireturn, 1) := by decide +kernel
theorem dX9_beginDay_0 : decode cX9_beginDay 0 = .ok (.aload_n 0, 1) := by decide +kernel
theorem dX9_beginDay_1 : decode cX9_beginDay 1 = .ok (.getfield 12, 3) := by decide +kernel
theorem dX9_beginDay_4 : decode cX9_beginDay 4 = .ok (.aload_n 1, 1) := by decide +kernel
theorem dX9_beginDay_5 : decode cX9_beginDay 5 = .ok (.invokevirtual 30, 3) := by decide +kernel
theorem dX9_beginDay_8 : decode cX9_beginDay 8 = .ok (.aload_n 0, 1) := by decide +kernel
theorem dX9_beginDay_9 : decode cX9_beginDay 9 = .ok (.getfield 12, 3) := by decide +kernel
theorem dX9_beginDay_12 : decode cX9_beginDay 12 = .ok (.getfield 86, 3) := by decide +kernel
theorem dX9_beginDay_15 : decode cX9_beginDay 15 = .ok (.iload_n 2, 1) := by decide +kernel
theorem dX9_beginDay_16 : decode cX9_beginDay 16 = .ok (.dup2, 1) := by decide +kernel
theorem dX9_beginDay_17 : decode cX9_beginDay 17 = .ok (.iaload, 1) := by decide +kernel
theorem dX9_beginDay_18 : decode cX9_beginDay 18 = .ok (.iload_n 3, 1) := by decide +kernel
theorem dX9_beginDay_19 : decode cX9_beginDay 19 = .ok (.isub, 1) := by decide +kernel
theorem dX9_beginDay_20 : decode cX9_beginDay 20 = .ok (.iastore, 1) := by decide +kernel
theorem dX9_beginDay_21 : decode cX9_beginDay 21 = .ok (.aload_n 0, 1) := by decide +kernel
theorem dX9_beginDay_22 : decode cX9_beginDay 22 = .ok (.getfield 26, 3) := by decide +kernel
theorem dX9_beginDay_25 : decode cX9_beginDay 25 = .ok (.aload_n 0, 1) := by decide +kernel
theorem dX9_beginDay_26 : decode cX9_beginDay 26 = .ok (.getfield 12, 3) := by decide +kernel
theorem dX9_beginDay_29 : decode cX9_beginDay 29 = .ok (.invokevirtual 40, 3) := by decide +kernel
theorem dX9_beginDay_32 : decode cX9_beginDay 32 = .ok (.pop, 1) := by decide +kernel
theorem dX9_beginDay_33 : decode cX9_beginDay 33 = .ok (.aload_n 0, 1) := by decide +kernel
theorem dX9_beginDay_34 : decode cX9_beginDay 34 = .ok (.getfield 26, 3) := by decide +kernel
theorem dX9_beginDay_37 : decode cX9_beginDay 37 = .ok (.aload_n 0, 1) := by decide +kernel
theorem dX9_beginDay_38 : decode cX9_beginDay 38 = .ok (.getfield 12, 3) := by decide +kernel
theorem dX9_beginDay_41 : decode cX9_beginDay 41 = .ok (.invokevirtual 44, 3) := by decide +kernel
theorem dX9_beginDay_44 : decode cX9_beginDay 44 = .ok (.return_, 1) := by decide +kernel
theorem dX9_isDrawn_0 : decode cX9_isDrawn 0 = .ok (.aload_n 0, 1) := by decide +kernel
theorem dX9_isDrawn_1 : decode cX9_isDrawn 1 = .ok (.getfield 22, 3) := by decide +kernel
theorem dX9_isDrawn_4 : decode cX9_isDrawn 4 = .ok (.getfield 55, 3) := by decide +kernel
theorem dX9_isDrawn_7 : decode cX9_isDrawn 7 = .ok (.iconst 2, 1) := by decide +kernel
theorem dX9_isDrawn_8 : decode cX9_isDrawn 8 = .ok (.if_icmp .ne 19, 3) := by decide +kernel
theorem dX9_isDrawn_11 : decode cX9_isDrawn 11 = .ok (.aload_n 0, 1) := by decide +kernel
theorem dX9_isDrawn_12 : decode cX9_isDrawn 12 = .ok (.getfield 26, 3) := by decide +kernel
theorem dX9_isDrawn_15 : decode cX9_isDrawn 15 = .ok (.getfield 90, 3) := by decide +kernel
theorem dX9_isDrawn_18 : decode cX9_isDrawn 18 = .ok (.iload_n 1, 1) := by decide +kernel
theorem dX9_isDrawn_19 : decode cX9_isDrawn 19 = .ok (.iaload, 1) := by decide +kernel
theorem dX9_isDrawn_20 : decode cX9_isDrawn 20 = .ok (.ifCond .eq 7, 3) := by decide +kernel
theorem dX9_isDrawn_23 : decode cX9_isDrawn 23 = .ok (.iconst 1, 1) := by decide +kernel
theorem dX9_isDrawn_24 : decode cX9_isDrawn 24 = .ok (.goto 4, 3) := by decide +kernel
theorem dX9_isDrawn_27 : decode cX9_isDrawn 27 = .ok (.iconst 0, 1) := by decide +kernel
theorem dX9_isDrawn_28 : decode cX9_isDrawn 28 = .ok (.ireturn, 1) := by decide +kernel
theorem dX9_lotsFor_0 : decode cX9_lotsFor 0 = .ok (.aload_n 0, 1) := by decide +kernel
theorem dX9_lotsFor_1 : decode cX9_lotsFor 1 = .ok (.iload_n 1, 1) := by decide +kernel
theorem dX9_lotsFor_2 : decode cX9_lotsFor 2 = .ok (.invokevirtual 93, 3) := by decide +kernel
theorem dX9_lotsFor_5 : decode cX9_lotsFor 5 = .ok (.ifCond .eq 18, 3) := by decide +kernel
theorem dX9_lotsFor_8 : decode cX9_lotsFor 8 = .ok (.aload_n 0, 1) := by decide +kernel
theorem dX9_lotsFor_9 : decode cX9_lotsFor 9 = .ok (.getfield 26, 3) := by decide +kernel
theorem dX9_lotsFor_12 : decode cX9_lotsFor 12 = .ok (.getfield 90, 3) := by decide +kernel
theorem dX9_lotsFor_15 : decode cX9_lotsFor 15 = .ok (.iload_n 1, 1) := by decide +kernel
theorem dX9_lotsFor_16 : decode cX9_lotsFor 16 = .ok (.iaload, 1) := by decide +kernel
theorem dX9_lotsFor_17 : decode cX9_lotsFor 17 = .ok (.invokestatic 97, 3) := by decide +kernel
theorem dX9_lotsFor_20 : decode cX9_lotsFor 20 = .ok (.goto 4, 3) := by decide +kernel
theorem dX9_lotsFor_23 : decode cX9_lotsFor 23 = .ok (.iconst 1, 1) := by decide +kernel
theorem dX9_lotsFor_24 : decode cX9_lotsFor 24 = .ok (.ireturn, 1) := by decide +kernel
theorem dX9_isHis_0 : decode cX9_isHis 0 = .ok (.aload_n 0, 1) := by decide +kernel
theorem dX9_isHis_1 : decode cX9_isHis 1 = .ok (.iload_n 1, 1) := by decide +kernel
theorem dX9_isHis_2 : decode cX9_isHis 2 = .ok (.invokevirtual 93, 3) := by decide +kernel
theorem dX9_isHis_5 : decode cX9_isHis 5 = .ok (.ifCond .eq 31, 3) := by decide +kernel
theorem dX9_isHis_8 : decode cX9_isHis 8 = .ok (.iload_n 2, 1) := by decide +kernel
theorem dX9_isHis_9 : decode cX9_isHis 9 = .ok (.iconst (-1), 1) := by decide +kernel
theorem dX9_isHis_10 : decode cX9_isHis 10 = .ok (.if_icmp .eq 24, 3) := by decide +kernel
theorem dX9_isHis_13 : decode cX9_isHis 13 = .ok (.aload_n 0, 1) := by decide +kernel
theorem dX9_isHis_14 : decode cX9_isHis 14 = .ok (.getfield 26, 3) := by decide +kernel
theorem dX9_isHis_17 : decode cX9_isHis 17 = .ok (.getfield 90, 3) := by decide +kernel
theorem dX9_isHis_20 : decode cX9_isHis 20 = .ok (.iload_n 1, 1) := by decide +kernel
theorem dX9_isHis_21 : decode cX9_isHis 21 = .ok (.iaload, 1) := by decide +kernel
theorem dX9_isHis_22 : decode cX9_isHis 22 = .ok (.iload_n 2, 1) := by decide +kernel
theorem dX9_isHis_23 : decode cX9_isHis 23 = .ok (.iushr, 1) := by decide +kernel
theorem dX9_isHis_24 : decode cX9_isHis 24 = .ok (.iconst 1, 1) := by decide +kernel
theorem dX9_isHis_25 : decode cX9_isHis 25 = .ok (.iand, 1) := by decide +kernel
theorem dX9_isHis_26 : decode cX9_isHis 26 = .ok (.iconst 1, 1) := by decide +kernel
theorem dX9_isHis_27 : decode cX9_isHis 27 = .ok (.if_icmp .ne 7, 3) := by decide +kernel
theorem dX9_isHis_30 : decode cX9_isHis 30 = .ok (.iconst 1, 1) := by decide +kernel
theorem dX9_isHis_31 : decode cX9_isHis 31 = .ok (.goto 4, 3) := by decide +kernel
theorem dX9_isHis_34 : decode cX9_isHis 34 = .ok (.iconst 0, 1) := by decide +kernel
theorem dX9_isHis_35 : decode cX9_isHis 35 = .ok (.ireturn, 1) := by decide +kernel
theorem dX9_isHis_36 : decode cX9_isHis 36 = .ok (.aload_n 0, 1) := by decide +kernel
theorem dX9_isHis_37 : decode cX9_isHis 37 = .ok (.getfield 12, 3) := by decide +kernel
theorem dX9_isHis_40 : decode cX9_isHis 40 = .ok (.getfield 102, 3) := by decide +kernel
theorem dX9_isHis_43 : decode cX9_isHis 43 = .ok (.iload_n 1, 1) := by decide +kernel
theorem dX9_isHis_44 : decode cX9_isHis 44 = .ok (.iaload, 1) := by decide +kernel
theorem dX9_isHis_45 : decode cX9_isHis 45 = .ok (.iload_n 2, 1) := by decide +kernel
theorem dX9_isHis_46 : decode cX9_isHis 46 = .ok (.if_icmp .ne 7, 3) := by decide +kernel
theorem dX9_isHis_49 : decode cX9_isHis 49 = .ok (.iconst 1, 1) := by decide +kernel
theorem dX9_isHis_50 : decode cX9_isHis 50 = .ok (.goto 4, 3) := by decide +kernel
theorem dX9_isHis_53 : decode cX9_isHis 53 = .ok (.iconst 0, 1) := by decide +kernel
theorem dX9_isHis_54 : decode cX9_isHis 54 = .ok (.ireturn, 1) := by decide +kernel
theorem dX9_commonDivisor_0 : decode cX9_commonDivisor 0 = .ok (.iload_n 0, 1) := by decide +kernel
theorem dX9_commonDivisor_1 : decode cX9_commonDivisor 1 = .ok (.istore_n 2, 1) := by decide +kernel
theorem dX9_commonDivisor_2 : decode cX9_commonDivisor 2 = .ok (.iload_n 1, 1) := by decide +kernel
theorem dX9_commonDivisor_3 : decode cX9_commonDivisor 3 = .ok (.istore_n 3, 1) := by decide +kernel
theorem dX9_commonDivisor_4 : decode cX9_commonDivisor 4 = .ok (.iconst 0, 1) := by decide +kernel
theorem dX9_commonDivisor_5 : decode cX9_commonDivisor 5 = .ok (.istore 4, 2) := by decide +kernel
theorem dX9_commonDivisor_7 : decode cX9_commonDivisor 7 = .ok (.iload 4, 2) := by decide +kernel
theorem dX9_commonDivisor_9 : decode cX9_commonDivisor 9 = .ok (.bipush 64, 2) := by decide +kernel
theorem dX9_commonDivisor_11 : decode cX9_commonDivisor 11 = .ok (.if_icmp .ge 23, 3) := by decide +kernel
theorem dX9_commonDivisor_14 : decode cX9_commonDivisor 14 = .ok (.iload_n 3, 1) := by decide +kernel
theorem dX9_commonDivisor_15 : decode cX9_commonDivisor 15 = .ok (.ifCond .eq 19, 3) := by decide +kernel
theorem dX9_commonDivisor_18 : decode cX9_commonDivisor 18 = .ok (.iload_n 2, 1) := by decide +kernel
theorem dX9_commonDivisor_19 : decode cX9_commonDivisor 19 = .ok (.iload_n 3, 1) := by decide +kernel
theorem dX9_commonDivisor_20 : decode cX9_commonDivisor 20 = .ok (.irem, 1) := by decide +kernel
theorem dX9_commonDivisor_21 : decode cX9_commonDivisor 21 = .ok (.istore 5, 2) := by decide +kernel
theorem dX9_commonDivisor_23 : decode cX9_commonDivisor 23 = .ok (.iload_n 3, 1) := by decide +kernel
theorem dX9_commonDivisor_24 : decode cX9_commonDivisor 24 = .ok (.istore_n 2, 1) := by decide +kernel
theorem dX9_commonDivisor_25 : decode cX9_commonDivisor 25 = .ok (.iload 5, 2) := by decide +kernel
theorem dX9_commonDivisor_27 : decode cX9_commonDivisor 27 = .ok (.istore_n 3, 1) := by decide +kernel
theorem dX9_commonDivisor_28 : decode cX9_commonDivisor 28 = .ok (.iinc 4 1, 3) := by decide +kernel
theorem dX9_commonDivisor_31 : decode cX9_commonDivisor 31 = .ok (.goto (-24), 3) := by decide +kernel
theorem dX9_commonDivisor_34 : decode cX9_commonDivisor 34 = .ok (.iload_n 2, 1) := by decide +kernel
theorem dX9_commonDivisor_35 : decode cX9_commonDivisor 35 = .ok (.ireturn, 1) := by decide +kernel
theorem dX9_useWell_0 : decode cX9_useWell 0 = .ok (.aload_n 1, 1) := by decide +kernel
theorem dX9_useWell_1 : decode cX9_useWell 1 = .ok (.getfield 105, 3) := by decide +kernel
theorem dX9_useWell_4 : decode cX9_useWell 4 = .ok (.iload_n 2, 1) := by decide +kernel
theorem dX9_useWell_5 : decode cX9_useWell 5 = .ok (.iaload, 1) := by decide +kernel
theorem dX9_useWell_6 : decode cX9_useWell 6 = .ok (.istore 5, 2) := by decide +kernel
theorem dX9_useWell_8 : decode cX9_useWell 8 = .ok (.iconst 0, 1) := by decide +kernel
theorem dX9_useWell_9 : decode cX9_useWell 9 = .ok (.istore 6, 2) := by decide +kernel
theorem dX9_useWell_11 : decode cX9_useWell 11 = .ok (.iload 6, 2) := by decide +kernel
theorem dX9_useWell_13 : decode cX9_useWell 13 = .ok (.iload 5, 2) := by decide +kernel
theorem dX9_useWell_15 : decode cX9_useWell 15 = .ok (.if_icmp .gt 17, 3) := by decide +kernel
theorem dX9_useWell_18 : decode cX9_useWell 18 = .ok (.aload_n 0, 1) := by decide +kernel
theorem dX9_useWell_19 : decode cX9_useWell 19 = .ok (.getfield 18, 3) := by decide +kernel
theorem dX9_useWell_22 : decode cX9_useWell 22 = .ok (.iload 6, 2) := by decide +kernel
theorem dX9_useWell_24 : decode cX9_useWell 24 = .ok (.lconst 0, 1) := by decide +kernel
theorem dX9_useWell_25 : decode cX9_useWell 25 = .ok (.lastore, 1) := by decide +kernel
theorem dX9_useWell_26 : decode cX9_useWell 26 = .ok (.iinc 6 1, 3) := by decide +kernel
theorem dX9_useWell_29 : decode cX9_useWell 29 = .ok (.goto (-18), 3) := by decide +kernel
theorem dX9_useWell_32 : decode cX9_useWell 32 = .ok (.iconst 1, 1) := by decide +kernel
theorem dX9_useWell_33 : decode cX9_useWell 33 = .ok (.istore 6, 2) := by decide +kernel
theorem dX9_useWell_35 : decode cX9_useWell 35 = .ok (.iload 6, 2) := by decide +kernel
theorem dX9_useWell_37 : decode cX9_useWell 37 = .ok (.iload_n 3, 1) := by decide +kernel
theorem dX9_useWell_38 : decode cX9_useWell 38 = .ok (.if_icmp .ge 41, 3) := by decide +kernel
theorem dX9_useWell_41 : decode cX9_useWell 41 = .ok (.iload 5, 2) := by decide +kernel
theorem dX9_useWell_43 : decode cX9_useWell 43 = .ok (.istore 7, 2) := by decide +kernel
theorem dX9_useWell_45 : decode cX9_useWell 45 = .ok (.iload 7, 2) := by decide +kernel
theorem dX9_useWell_47 : decode cX9_useWell 47 = .ok (.ifCond .lt 26, 3) := by decide +kernel
theorem dX9_useWell_50 : decode cX9_useWell 50 = .ok (.aload_n 0, 1) := by decide +kernel
theorem dX9_useWell_51 : decode cX9_useWell 51 = .ok (.getfield 18, 3) := by decide +kernel
theorem dX9_useWell_54 : decode cX9_useWell 54 = .ok (.iload 7, 2) := by decide +kernel
theorem dX9_useWell_56 : decode cX9_useWell 56 = .ok (.aload_n 0, 1) := by decide +kernel
theorem dX9_useWell_57 : decode cX9_useWell 57 = .ok (.aload_n 1, 1) := by decide +kernel
theorem dX9_useWell_58 : decode cX9_useWell 58 = .ok (.iload_n 2, 1) := by decide +kernel
theorem dX9_useWell_59 : decode cX9_useWell 59 = .ok (.iload 7, 2) := by decide +kernel
theorem dX9_useWell_61 : decode cX9_useWell 61 = .ok (.iload 4, 2) := by decide +kernel
theorem dX9_useWell_63 : decode cX9_useWell 63 = .ok (.invokevirtual 108, 3) := by decide +kernel
theorem dX9_useWell_66 : decode cX9_useWell 66 = .ok (.lastore, 1) := by decide +kernel
theorem dX9_useWell_67 : decode cX9_useWell 67 = .ok (.iinc 7 (-1), 3) := by decide +kernel
theorem dX9_useWell_70 : decode cX9_useWell 70 = .ok (.goto (-25), 3) := by decide +kernel
theorem dX9_useWell_73 : decode cX9_useWell 73 = .ok (.iinc 6 1, 3) := by decide +kernel
theorem dX9_useWell_76 : decode cX9_useWell 76 = .ok (.goto (-41), 3) := by decide +kernel
theorem dX9_useWell_79 : decode cX9_useWell 79 = .ok (.aload_n 0, 1) := by decide +kernel
theorem dX9_useWell_80 : decode cX9_useWell 80 = .ok (.aload_n 1, 1) := by decide +kernel
theorem dX9_useWell_81 : decode cX9_useWell 81 = .ok (.iload_n 2, 1) := by decide +kernel
theorem dX9_useWell_82 : decode cX9_useWell 82 = .ok (.iload 5, 2) := by decide +kernel
theorem dX9_useWell_84 : decode cX9_useWell 84 = .ok (.iload 4, 2) := by decide +kernel
theorem dX9_useWell_86 : decode cX9_useWell 86 = .ok (.invokevirtual 108, 3) := by decide +kernel
theorem dX9_useWell_89 : decode cX9_useWell 89 = .ok (.l2i, 1) := by decide +kernel
theorem dX9_useWell_90 : decode cX9_useWell 90 = .ok (.ireturn, 1) := by decide +kernel
theorem dX9_mostOfDay_0 : decode cX9_mostOfDay 0 = .ok (.ldc2_w 112, 3) := by decide +kernel
theorem dX9_mostOfDay_3 : decode cX9_mostOfDay 3 = .ok (.lstore 5, 2) := by decide +kernel
theorem dX9_mostOfDay_5 : decode cX9_mostOfDay 5 = .ok (.iconst 0, 1) := by decide +kernel
theorem dX9_mostOfDay_6 : decode cX9_mostOfDay 6 = .ok (.istore 7, 2) := by decide +kernel
theorem dX9_mostOfDay_8 : decode cX9_mostOfDay 8 = .ok (.iload 7, 2) := by decide +kernel
theorem dX9_mostOfDay_10 : decode cX9_mostOfDay 10 = .ok (.bipush 9, 2) := by decide +kernel
theorem dX9_mostOfDay_12 : decode cX9_mostOfDay 12 = .ok (.if_icmp .gt 104, 3) := by decide +kernel
theorem dX9_mostOfDay_15 : decode cX9_mostOfDay 15 = .ok (.aload_n 1, 1) := by decide +kernel
theorem dX9_mostOfDay_16 : decode cX9_mostOfDay 16 = .ok (.getfield 86, 3) := by decide +kernel
theorem dX9_mostOfDay_19 : decode cX9_mostOfDay 19 = .ok (.iload_n 2, 1) := by decide +kernel
theorem dX9_mostOfDay_20 : decode cX9_mostOfDay 20 = .ok (.iaload, 1) := by decide +kernel
theorem dX9_mostOfDay_21 : decode cX9_mostOfDay 21 = .ok (.iload_n 3, 1) := by decide +kernel
theorem dX9_mostOfDay_22 : decode cX9_mostOfDay 22 = .ok (.imul, 1) := by decide +kernel
theorem dX9_mostOfDay_23 : decode cX9_mostOfDay 23 = .ok (.iload 7, 2) := by decide +kernel
theorem dX9_mostOfDay_25 : decode cX9_mostOfDay 25 = .ok (.imul, 1) := by decide +kernel
theorem dX9_mostOfDay_26 : decode cX9_mostOfDay 26 = .ok (.bipush 10, 2) := by decide +kernel
theorem dX9_mostOfDay_28 : decode cX9_mostOfDay 28 = .ok (.imul, 1) := by decide +kernel
theorem dX9_mostOfDay_29 : decode cX9_mostOfDay 29 = .ok (.i2l, 1) := by decide +kernel
theorem dX9_mostOfDay_30 : decode cX9_mostOfDay 30 = .ok (.lstore 8, 2) := by decide +kernel
theorem dX9_mostOfDay_32 : decode cX9_mostOfDay 32 = .ok (.iload 7, 2) := by decide +kernel
theorem dX9_mostOfDay_34 : decode cX9_mostOfDay 34 = .ok (.ifCond .eq 15, 3) := by decide +kernel
theorem dX9_mostOfDay_37 : decode cX9_mostOfDay 37 = .ok (.aload_n 0, 1) := by decide +kernel
theorem dX9_mostOfDay_38 : decode cX9_mostOfDay 38 = .ok (.getfield 22, 3) := by decide +kernel
theorem dX9_mostOfDay_41 : decode cX9_mostOfDay 41 = .ok (.getfield 114, 3) := by decide +kernel
theorem dX9_mostOfDay_44 : decode cX9_mostOfDay 44 = .ok (.iload_n 2, 1) := by decide +kernel
theorem dX9_mostOfDay_45 : decode cX9_mostOfDay 45 = .ok (.baload, 1) := by decide +kernel
theorem dX9_mostOfDay_46 : decode cX9_mostOfDay 46 = .ok (.ifCond .ne 46, 3) := by decide +kernel
theorem dX9_mostOfDay_49 : decode cX9_mostOfDay 49 = .ok (.iconst 0, 1) := by decide +kernel
theorem dX9_mostOfDay_50 : decode cX9_mostOfDay 50 = .ok (.iload_n 3, 1) := by decide +kernel
theorem dX9_mostOfDay_51 : decode cX9_mostOfDay 51 = .ok (.aload_n 0, 1) := by decide +kernel
theorem dX9_mostOfDay_52 : decode cX9_mostOfDay 52 = .ok (.getfield 22, 3) := by decide +kernel
theorem dX9_mostOfDay_55 : decode cX9_mostOfDay 55 = .ok (.getfield 117, 3) := by decide +kernel
theorem dX9_mostOfDay_58 : decode cX9_mostOfDay 58 = .ok (.iload_n 2, 1) := by decide +kernel
theorem dX9_mostOfDay_59 : decode cX9_mostOfDay 59 = .ok (.iaload, 1) := by decide +kernel
theorem dX9_mostOfDay_60 : decode cX9_mostOfDay 60 = .ok (.iload 7, 2) := by decide +kernel
theorem dX9_mostOfDay_62 : decode cX9_mostOfDay 62 = .ok (.imul, 1) := by decide +kernel
theorem dX9_mostOfDay_63 : decode cX9_mostOfDay 63 = .ok (.bipush 10, 2) := by decide +kernel
theorem dX9_mostOfDay_65 : decode cX9_mostOfDay 65 = .ok (.idiv, 1) := by decide +kernel
theorem dX9_mostOfDay_66 : decode cX9_mostOfDay 66 = .ok (.isub, 1) := by decide +kernel
theorem dX9_mostOfDay_67 : decode cX9_mostOfDay 67 = .ok (.invokestatic 120, 3) := by decide +kernel
theorem dX9_mostOfDay_70 : decode cX9_mostOfDay 70 = .ok (.istore 10, 2) := by decide +kernel
theorem dX9_mostOfDay_72 : decode cX9_mostOfDay 72 = .ok (.lload 8, 2) := by decide +kernel
theorem dX9_mostOfDay_74 : decode cX9_mostOfDay 74 = .ok (.iload 4, 2) := by decide +kernel
theorem dX9_mostOfDay_76 : decode cX9_mostOfDay 76 = .ok (.i2l, 1) := by decide +kernel
theorem dX9_mostOfDay_77 : decode cX9_mostOfDay 77 = .ok (.aload_n 0, 1) := by decide +kernel
theorem dX9_mostOfDay_78 : decode cX9_mostOfDay 78 = .ok (.getfield 18, 3) := by decide +kernel
theorem dX9_mostOfDay_81 : decode cX9_mostOfDay 81 = .ok (.iload 10, 2) := by decide +kernel
theorem dX9_mostOfDay_83 : decode cX9_mostOfDay 83 = .ok (.laload, 1) := by decide +kernel
theorem dX9_mostOfDay_84 : decode cX9_mostOfDay 84 = .ok (.lmul, 1) := by decide +kernel
theorem dX9_mostOfDay_85 : decode cX9_mostOfDay 85 = .ok (.ldc2_w 125, 3) := by decide +kernel
theorem dX9_mostOfDay_88 : decode cX9_mostOfDay 88 = .ok (.ldiv, 1) := by decide +kernel
theorem dX9_mostOfDay_89 : decode cX9_mostOfDay 89 = .ok (.ladd, 1) := by decide +kernel
theorem dX9_mostOfDay_90 : decode cX9_mostOfDay 90 = .ok (.lstore 8, 2) := by decide +kernel
theorem dX9_mostOfDay_92 : decode cX9_mostOfDay 92 = .ok (.lload 8, 2) := by decide +kernel
theorem dX9_mostOfDay_94 : decode cX9_mostOfDay 94 = .ok (.lload 5, 2) := by decide +kernel
theorem dX9_mostOfDay_96 : decode cX9_mostOfDay 96 = .ok (.lcmp, 1) := by decide +kernel
theorem dX9_mostOfDay_97 : decode cX9_mostOfDay 97 = .ok (.ifCond .le 13, 3) := by decide +kernel
theorem dX9_mostOfDay_100 : decode cX9_mostOfDay 100 = .ok (.lload 8, 2) := by decide +kernel
theorem dX9_mostOfDay_102 : decode cX9_mostOfDay 102 = .ok (.lstore 5, 2) := by decide +kernel
theorem dX9_mostOfDay_104 : decode cX9_mostOfDay 104 = .ok (.aload_n 0, 1) := by decide +kernel
theorem dX9_mostOfDay_105 : decode cX9_mostOfDay 105 = .ok (.iload 7, 2) := by decide +kernel
theorem dX9_mostOfDay_107 : decode cX9_mostOfDay 107 = .ok (.putfield 127, 3) := by decide +kernel
theorem dX9_mostOfDay_110 : decode cX9_mostOfDay 110 = .ok (.iinc 7 1, 3) := by decide +kernel
theorem dX9_mostOfDay_113 : decode cX9_mostOfDay 113 = .ok (.goto (-105), 3) := by decide +kernel
theorem dX9_mostOfDay_116 : decode cX9_mostOfDay 116 = .ok (.lload 5, 2) := by decide +kernel
theorem dX9_mostOfDay_118 : decode cX9_mostOfDay 118 = .ok (.lreturn, 1) := by decide +kernel
theorem dX10_init_0 : decode cX10_init 0 = .ok (.aload_n 0, 1) := by decide +kernel
theorem dX10_init_1 : decode cX10_init 1 = .ok (.invokespecial 3, 3) := by decide +kernel
theorem dX10_init_4 : decode cX10_init 4 = .ok (.aload_n 0, 1) := by decide +kernel
theorem dX10_init_5 : decode cX10_init 5 = .ok (.new 9, 3) := by decide +kernel
theorem dX10_init_8 : decode cX10_init 8 = .ok (.dup, 1) := by decide +kernel
theorem dX10_init_9 : decode cX10_init 9 = .ok (.invokespecial 11, 3) := by decide +kernel
theorem dX10_init_12 : decode cX10_init 12 = .ok (.putfield 12, 3) := by decide +kernel
theorem dX10_init_15 : decode cX10_init 15 = .ok (.aload_n 0, 1) := by decide +kernel
theorem dX10_init_16 : decode cX10_init 16 = .ok (.new 18, 3) := by decide +kernel
theorem dX10_init_19 : decode cX10_init 19 = .ok (.dup, 1) := by decide +kernel
theorem dX10_init_20 : decode cX10_init 20 = .ok (.invokespecial 20, 3) := by decide +kernel
theorem dX10_init_23 : decode cX10_init 23 = .ok (.putfield 21, 3) := by decide +kernel
theorem dX10_init_26 : decode cX10_init 26 = .ok (.aload_n 0, 1) := by decide +kernel
theorem dX10_init_27 : decode cX10_init 27 = .ok (.bipush 10, 2) := by decide +kernel
theorem dX10_init_29 : decode cX10_init 29 = .ok (.newarray .long, 2) := by decide +kernel
theorem dX10_init_31 : decode cX10_init 31 = .ok (.putfield 25, 3) := by decide +kernel
theorem dX10_init_34 : decode cX10_init 34 = .ok (.aload_n 0, 1) := by decide +kernel
theorem dX10_init_35 : decode cX10_init 35 = .ok (.bipush 10, 2) := by decide +kernel
theorem dX10_init_37 : decode cX10_init 37 = .ok (.newarray .int, 2) := by decide +kernel
theorem dX10_init_39 : decode cX10_init 39 = .ok (.putfield 29, 3) := by decide +kernel
theorem dX10_init_42 : decode cX10_init 42 = .ok (.aload_n 0, 1) := by decide +kernel
theorem dX10_init_43 : decode cX10_init 43 = .ok (.bipush 10, 2) := by decide +kernel
theorem dX10_init_45 : decode cX10_init 45 = .ok (.newarray .int, 2) := by decide +kernel
theorem dX10_init_47 : decode cX10_init 47 = .ok (.putfield 33, 3) := by decide +kernel
theorem dX10_init_50 : decode cX10_init 50 = .ok (.aload_n 0, 1) := by decide +kernel
theorem dX10_init_51 : decode cX10_init 51 = .ok (.bipush 10, 2) := by decide +kernel
theorem dX10_init_53 : decode cX10_init 53 = .ok (.newarray .int, 2) := by decide +kernel
theorem dX10_init_55 : decode cX10_init 55 = .ok (.putfield 36, 3) := by decide +kernel
theorem dX10_init_58 : decode cX10_init 58 = .ok (.aload_n 0, 1) := by decide +kernel
theorem dX10_init_59 : decode cX10_init 59 = .ok (.bipush 10, 2) := by decide +kernel
theorem dX10_init_61 : decode cX10_init 61 = .ok (.newarray .int, 2) := by decide +kernel
theorem dX10_init_63 : decode cX10_init 63 = .ok (.putfield 39, 3) := by decide +kernel
theorem dX10_init_66 : decode cX10_init 66 = .ok (.aload_n 0, 1) := by decide +kernel
theorem dX10_init_67 : decode cX10_init 67 = .ok (.bipush 10, 2) := by decide +kernel
theorem dX10_init_69 : decode cX10_init 69 = .ok (.newarray .boolean, 2) := by decide +kernel
theorem dX10_init_71 : decode cX10_init 71 = .ok (.putfield 42, 3) := by decide +kernel
theorem dX10_init_74 : decode cX10_init 74 = .ok (.aload_n 0, 1) := by decide +kernel
theorem dX10_init_75 : decode cX10_init 75 = .ok (.bipush 6, 2) := by decide +kernel
theorem dX10_init_77 : decode cX10_init 77 = .ok (.newarray .long, 2) := by decide +kernel
theorem dX10_init_79 : decode cX10_init 79 = .ok (.putfield 46, 3) := by decide +kernel
theorem dX10_init_82 : decode cX10_init 82 = .ok (.aload_n 0, 1) := by decide +kernel
theorem dX10_init_83 : decode cX10_init 83 = .ok (.bipush 6, 2) := by decide +kernel
theorem dX10_init_85 : decode cX10_init 85 = .ok (.newarray .int, 2) := by decide +kernel
theorem dX10_init_87 : decode cX10_init 87 = .ok (.putfield 49, 3) := by decide +kernel
theorem dX10_init_90 : decode cX10_init 90 = .ok (.aload_n 0, 1) := by decide +kernel
theorem dX10_init_91 : decode cX10_init 91 = .ok (.bipush 6, 2) := by decide +kernel
theorem dX10_init_93 : decode cX10_init 93 = .ok (.newarray .int, 2) := by decide +kernel
theorem dX10_init_95 : decode cX10_init 95 = .ok (.putfield 52, 3) := by decide +kernel
theorem dX10_init_98 : decode cX10_init 98 = .ok (.aload_n 0, 1) := by decide +kernel
theorem dX10_init_99 : decode cX10_init 99 = .ok (.bipush 6, 2) := by decide +kernel
theorem dX10_init_101 : decode cX10_init 101 = .ok (.newarray .int, 2) := by decide +kernel
theorem dX10_init_103 : decode cX10_init 103 = .ok (.putfield 55, 3) := by decide +kernel
theorem dX10_init_106 : decode cX10_init 106 = .ok (.aload_n 0, 1) := by decide +kernel
theorem dX10_init_107 : decode cX10_init 107 = .ok (.bipush 6, 2) := by decide +kernel
theorem dX10_init_109 : decode cX10_init 109 = .ok (.newarray .int, 2) := by decide +kernel
theorem dX10_init_111 : decode cX10_init 111 = .ok (.putfield 58, 3) := by decide +kernel
theorem dX10_init_114 : decode cX10_init 114 = .ok (.return_, 1) := by decide +kernel
theorem dX10_clear_0 : decode cX10_clear 0 = .ok (.aload_n 0, 1) := by decide +kernel
theorem dX10_clear_1 : decode cX10_clear 1 = .ok (.getfield 12, 3) := by decide +kernel
theorem dX10_clear_4 : decode cX10_clear 4 = .ok (.invokevirtual 61, 3) := by decide +kernel
theorem dX10_clear_7 : decode cX10_clear 7 = .ok (.aload_n 0, 1) := by decide +kernel
theorem dX10_clear_8 : decode cX10_clear 8 = .ok (.getfield 21, 3) := by decide +kernel
theorem dX10_clear_11 : decode cX10_clear 11 = .ok (.invokevirtual 64, 3) := by decide +kernel
theorem dX10_clear_14 : decode cX10_clear 14 = .ok (.aload_n 0, 1) := by decide +kernel
theorem dX10_clear_15 : decode cX10_clear 15 = .ok (.iconst 0, 1) := by decide +kernel
theorem dX10_clear_16 : decode cX10_clear 16 = .ok (.putfield 65, 3) := by decide +kernel
theorem dX10_clear_19 : decode cX10_clear 19 = .ok (.aload_n 0, 1) := by decide +kernel
theorem dX10_clear_20 : decode cX10_clear 20 = .ok (.iconst 0, 1) := by decide +kernel
theorem dX10_clear_21 : decode cX10_clear 21 = .ok (.putfield 69, 3) := by decide +kernel
theorem dX10_clear_24 : decode cX10_clear 24 = .ok (.aload_n 0, 1) := by decide +kernel
theorem dX10_clear_25 : decode cX10_clear 25 = .ok (.iconst 0, 1) := by decide +kernel
theorem dX10_clear_26 : decode cX10_clear 26 = .ok (.putfield 72, 3) := by decide +kernel
theorem dX10_clear_29 : decode cX10_clear 29 = .ok (.aload_n 0, 1) := by decide +kernel
theorem dX10_clear_30 : decode cX10_clear 30 = .ok (.iconst 0, 1) := by decide +kernel
theorem dX10_clear_31 : decode cX10_clear 31 = .ok (.putfield 75, 3) := by decide +kernel
theorem dX10_clear_34 : decode cX10_clear 34 = .ok (.return_, 1) := by decide +kernel
theorem dX10_copyFrom_0 : decode cX10_copyFrom 0 = .ok (.aload_n 0, 1) := by decide +kernel
theorem dX10_copyFrom_1 : decode cX10_copyFrom 1 = .ok (.getfield 12, 3) := by decide +kernel
theorem dX10_copyFrom_4 : decode cX10_copyFrom 4 = .ok (.aload_n 1, 1) := by decide +kernel
theorem dX10_copyFrom_5 : decode cX10_copyFrom 5 = .ok (.getfield 12, 3) := by decide +kernel
theorem dX10_copyFrom_8 : decode cX10_copyFrom 8 = .ok (.invokevirtual 78, 3) := by decide +kernel
theorem dX10_copyFrom_11 : decode cX10_copyFrom 11 = .ok (.aload_n 0, 1) := by decide +kernel
theorem dX10_copyFrom_12 : decode cX10_copyFrom 12 = .ok (.getfield 21, 3) := by decide +kernel
theorem dX10_copyFrom_15 : decode cX10_copyFrom 15 = .ok (.aload_n 1, 1) := by decide +kernel
theorem dX10_copyFrom_16 : decode cX10_copyFrom 16 = .ok (.getfield 21, 3) := by decide +kernel
theorem dX10_copyFrom_19 : decode cX10_copyFrom 19 = .ok (.invokevirtual 82, 3) := by decide +kernel
theorem dX10_copyFrom_22 : decode cX10_copyFrom 22 = .ok (.aload_n 0, 1) := by decide +kernel
theorem dX10_copyFrom_23 : decode cX10_copyFrom 23 = .ok (.aload_n 1, 1) := by decide +kernel
theorem dX10_copyFrom_24 : decode cX10_copyFrom 24 = .ok (.getfield 65, 3) := by decide +kernel
theorem dX10_copyFrom_27 : decode cX10_copyFrom 27 = .ok (.putfield 65, 3) := by decide +kernel
theorem dX10_copyFrom_30 : decode cX10_copyFrom 30 = .ok (.aload_n 0, 1) := by decide +kernel
theorem dX10_copyFrom_31 : decode cX10_copyFrom 31 = .ok (.aload_n 1, 1) := by decide +kernel
theorem dX10_copyFrom_32 : decode cX10_copyFrom 32 = .ok (.getfield 69, 3) := by decide +kernel
theorem dX10_copyFrom_35 : decode cX10_copyFrom 35 = .ok (.putfield 69, 3) := by decide +kernel
theorem dX10_copyFrom_38 : decode cX10_copyFrom 38 = .ok (.aload_n 0, 1) := by decide +kernel
theorem dX10_copyFrom_39 : decode cX10_copyFrom 39 = .ok (.aload_n 1, 1) := by decide +kernel
theorem dX10_copyFrom_40 : decode cX10_copyFrom 40 = .ok (.getfield 72, 3) := by decide +kernel
theorem dX10_copyFrom_43 : decode cX10_copyFrom 43 = .ok (.putfield 72, 3) := by decide +kernel
theorem dX10_copyFrom_46 : decode cX10_copyFrom 46 = .ok (.aload_n 0, 1) := by decide +kernel
theorem dX10_copyFrom_47 : decode cX10_copyFrom 47 = .ok (.aload_n 1, 1) := by decide +kernel
theorem dX10_copyFrom_48 : decode cX10_copyFrom 48 = .ok (.getfield 75, 3) := by decide +kernel
theorem dX10_copyFrom_51 : decode cX10_copyFrom 51 = .ok (.putfield 75, 3) := by decide +kernel
theorem dX10_copyFrom_54 : decode cX10_copyFrom 54 = .ok (.aload_n 1, 1) := by decide +kernel
theorem dX10_copyFrom_55 : decode cX10_copyFrom 55 = .ok (.getfield 29, 3) := by decide +kernel
theorem dX10_copyFrom_58 : decode cX10_copyFrom 58 = .ok (.iconst 0, 1) := by decide +kernel
theorem dX10_copyFrom_59 : decode cX10_copyFrom 59 = .ok (.aload_n 0, 1) := by decide +kernel
theorem dX10_copyFrom_60 : decode cX10_copyFrom 60 = .ok (.getfield 29, 3) := by decide +kernel
theorem dX10_copyFrom_63 : decode cX10_copyFrom 63 = .ok (.iconst 0, 1) := by decide +kernel
theorem dX10_copyFrom_64 : decode cX10_copyFrom 64 = .ok (.bipush 10, 2) := by decide +kernel
theorem dX10_copyFrom_66 : decode cX10_copyFrom 66 = .ok (.invokestatic 85, 3) := by decide +kernel
theorem dX10_copyFrom_69 : decode cX10_copyFrom 69 = .ok (.aload_n 1, 1) := by decide +kernel
theorem dX10_copyFrom_70 : decode cX10_copyFrom 70 = .ok (.getfield 33, 3) := by decide +kernel
theorem dX10_copyFrom_73 : decode cX10_copyFrom 73 = .ok (.iconst 0, 1) := by decide +kernel
theorem dX10_copyFrom_74 : decode cX10_copyFrom 74 = .ok (.aload_n 0, 1) := by decide +kernel
theorem dX10_copyFrom_75 : decode cX10_copyFrom 75 = .ok (.getfield 33, 3) := by decide +kernel
theorem dX10_copyFrom_78 : decode cX10_copyFrom 78 = .ok (.iconst 0, 1) := by decide +kernel
theorem dX10_copyFrom_79 : decode cX10_copyFrom 79 = .ok (.bipush 10, 2) := by decide +kernel
theorem dX10_copyFrom_81 : decode cX10_copyFrom 81 = .ok (.invokestatic 85, 3) := by decide +kernel
theorem dX10_copyFrom_84 : decode cX10_copyFrom 84 = .ok (.aload_n 1, 1) := by decide +kernel
theorem dX10_copyFrom_85 : decode cX10_copyFrom 85 = .ok (.getfield 36, 3) := by decide +kernel
theorem dX10_copyFrom_88 : decode cX10_copyFrom 88 = .ok (.iconst 0, 1) := by decide +kernel
theorem dX10_copyFrom_89 : decode cX10_copyFrom 89 = .ok (.aload_n 0, 1) := by decide +kernel
theorem dX10_copyFrom_90 : decode cX10_copyFrom 90 = .ok (.getfield 36, 3) := by decide +kernel
theorem dX10_copyFrom_93 : decode cX10_copyFrom 93 = .ok (.iconst 0, 1) := by decide +kernel
theorem dX10_copyFrom_94 : decode cX10_copyFrom 94 = .ok (.bipush 10, 2) := by decide +kernel
theorem dX10_copyFrom_96 : decode cX10_copyFrom 96 = .ok (.invokestatic 85, 3) := by decide +kernel
theorem dX10_copyFrom_99 : decode cX10_copyFrom 99 = .ok (.aload_n 1, 1) := by decide +kernel
theorem dX10_copyFrom_100 : decode cX10_copyFrom 100 = .ok (.getfield 39, 3) := by decide +kernel
theorem dX10_copyFrom_103 : decode cX10_copyFrom 103 = .ok (.iconst 0, 1) := by decide +kernel
theorem dX10_copyFrom_104 : decode cX10_copyFrom 104 = .ok (.aload_n 0, 1) := by decide +kernel
theorem dX10_copyFrom_105 : decode cX10_copyFrom 105 = .ok (.getfield 39, 3) := by decide +kernel
theorem dX10_copyFrom_108 : decode cX10_copyFrom 108 = .ok (.iconst 0, 1) := by decide +kernel
theorem dX10_copyFrom_109 : decode cX10_copyFrom 109 = .ok (.bipush 10, 2) := by decide +kernel
theorem dX10_copyFrom_111 : decode cX10_copyFrom 111 = .ok (.invokestatic 85, 3) := by decide +kernel
theorem dX10_copyFrom_114 : decode cX10_copyFrom 114 = .ok (.iconst 0, 1) := by decide +kernel
theorem dX10_copyFrom_115 : decode cX10_copyFrom 115 = .ok (.istore_n 2, 1) := by decide +kernel
theorem dX10_copyFrom_116 : decode cX10_copyFrom 116 = .ok (.iload_n 2, 1) := by decide +kernel
theorem dX10_copyFrom_117 : decode cX10_copyFrom 117 = .ok (.bipush 10, 2) := by decide +kernel
theorem dX10_copyFrom_119 : decode cX10_copyFrom 119 = .ok (.if_icmp .ge 21, 3) := by decide +kernel
theorem dX10_copyFrom_122 : decode cX10_copyFrom 122 = .ok (.aload_n 0, 1) := by decide +kernel
theorem dX10_copyFrom_123 : decode cX10_copyFrom 123 = .ok (.getfield 42, 3) := by decide +kernel
theorem dX10_copyFrom_126 : decode cX10_copyFrom 126 = .ok (.iload_n 2, 1) := by decide +kernel
theorem dX10_copyFrom_127 : decode cX10_copyFrom 127 = .ok (.aload_n 1, 1) := by decide +kernel
theorem dX10_copyFrom_128 : decode cX10_copyFrom 128 = .ok (.getfield 42, 3) := by decide +kernel
theorem dX10_copyFrom_131 : decode cX10_copyFrom 131 = .ok (.iload_n 2, 1) := by decide +kernel
theorem dX10_copyFrom_132 : decode cX10_copyFrom 132 = .ok (.baload, 1) := by decide +kernel
theorem dX10_copyFrom_133 : decode cX10_copyFrom 133 = .ok (.bastore, 1) := by decide +kernel
theorem dX10_copyFrom_134 : decode cX10_copyFrom 134 = .ok (.iinc 2 1, 3) := by decide +kernel
theorem dX10_copyFrom_137 : decode cX10_copyFrom 137 = .ok (.goto (-21), 3) := by decide +kernel
theorem dX10_copyFrom_140 : decode cX10_copyFrom 140 = .ok (.aload_n 1, 1) := by decide +kernel
theorem dX10_copyFrom_141 : decode cX10_copyFrom 141 = .ok (.getfield 49, 3) := by decide +kernel
theorem dX10_copyFrom_144 : decode cX10_copyFrom 144 = .ok (.iconst 0, 1) := by decide +kernel
theorem dX10_copyFrom_145 : decode cX10_copyFrom 145 = .ok (.aload_n 0, 1) := by decide +kernel
theorem dX10_copyFrom_146 : decode cX10_copyFrom 146 = .ok (.getfield 49, 3) := by decide +kernel
theorem dX10_copyFrom_149 : decode cX10_copyFrom 149 = .ok (.iconst 0, 1) := by decide +kernel
theorem dX10_copyFrom_150 : decode cX10_copyFrom 150 = .ok (.bipush 6, 2) := by decide +kernel
theorem dX10_copyFrom_152 : decode cX10_copyFrom 152 = .ok (.invokestatic 85, 3) := by decide +kernel
theorem dX10_copyFrom_155 : decode cX10_copyFrom 155 = .ok (.aload_n 1, 1) := by decide +kernel
theorem dX10_copyFrom_156 : decode cX10_copyFrom 156 = .ok (.getfield 52, 3) := by decide +kernel
theorem dX10_copyFrom_159 : decode cX10_copyFrom 159 = .ok (.iconst 0, 1) := by decide +kernel
theorem dX10_copyFrom_160 : decode cX10_copyFrom 160 = .ok (.aload_n 0, 1) := by decide +kernel
theorem dX10_copyFrom_161 : decode cX10_copyFrom 161 = .ok (.getfield 52, 3) := by decide +kernel
theorem dX10_copyFrom_164 : decode cX10_copyFrom 164 = .ok (.iconst 0, 1) := by decide +kernel
theorem dX10_copyFrom_165 : decode cX10_copyFrom 165 = .ok (.bipush 6, 2) := by decide +kernel
theorem dX10_copyFrom_167 : decode cX10_copyFrom 167 = .ok (.invokestatic 85, 3) := by decide +kernel
theorem dX10_copyFrom_170 : decode cX10_copyFrom 170 = .ok (.aload_n 1, 1) := by decide +kernel
theorem dX10_copyFrom_171 : decode cX10_copyFrom 171 = .ok (.getfield 55, 3) := by decide +kernel
theorem dX10_copyFrom_174 : decode cX10_copyFrom 174 = .ok (.iconst 0, 1) := by decide +kernel
theorem dX10_copyFrom_175 : decode cX10_copyFrom 175 = .ok (.aload_n 0, 1) := by decide +kernel
theorem dX10_copyFrom_176 : decode cX10_copyFrom 176 = .ok (.getfield 55, 3) := by decide +kernel
theorem dX10_copyFrom_179 : decode cX10_copyFrom 179 = .ok (.iconst 0, 1) := by decide +kernel
theorem dX10_copyFrom_180 : decode cX10_copyFrom 180 = .ok (.bipush 6, 2) := by decide +kernel
theorem dX10_copyFrom_182 : decode cX10_copyFrom 182 = .ok (.invokestatic 85, 3) := by decide +kernel
theorem dX10_copyFrom_185 : decode cX10_copyFrom 185 = .ok (.aload_n 1, 1) := by decide +kernel
theorem dX10_copyFrom_186 : decode cX10_copyFrom 186 = .ok (.getfield 58, 3) := by decide +kernel
theorem dX10_copyFrom_189 : decode cX10_copyFrom 189 = .ok (.iconst 0, 1) := by decide +kernel
theorem dX10_copyFrom_190 : decode cX10_copyFrom 190 = .ok (.aload_n 0, 1) := by decide +kernel
theorem dX10_copyFrom_191 : decode cX10_copyFrom 191 = .ok (.getfield 58, 3) := by decide +kernel
theorem dX10_copyFrom_194 : decode cX10_copyFrom 194 = .ok (.iconst 0, 1) := by decide +kernel
theorem dX10_copyFrom_195 : decode cX10_copyFrom 195 = .ok (.bipush 6, 2) := by decide +kernel
theorem dX10_copyFrom_197 : decode cX10_copyFrom 197 = .ok (.invokestatic 85, 3) := by decide +kernel
theorem dX10_copyFrom_200 : decode cX10_copyFrom 200 = .ok (.return_, 1) := by decide +kernel
theorem dX10_isTaker_0 : decode cX10_isTaker 0 = .ok (.aload_n 0, 1) := by decide +kernel
theorem dX10_isTaker_1 : decode cX10_isTaker 1 = .ok (.getfield 55, 3) := by decide +kernel
theorem dX10_isTaker_4 : decode cX10_isTaker 4 = .ok (.iload_n 1, 1) := by decide +kernel
theorem dX10_isTaker_5 : decode cX10_isTaker 5 = .ok (.iaload, 1) := by decide +kernel
theorem dX10_isTaker_6 : decode cX10_isTaker 6 = .ok (.aload_n 0, 1) := by decide +kernel
theorem dX10_isTaker_7 : decode cX10_isTaker 7 = .ok (.getfield 39, 3) := by decide +kernel
theorem dX10_isTaker_10 : decode cX10_isTaker 10 = .ok (.iload_n 2, 1) := by decide +kernel
theorem dX10_isTaker_11 : decode cX10_isTaker 11 = .ok (.iaload, 1) := by decide +kernel
theorem dX10_isTaker_12 : decode cX10_isTaker 12 = .ok (.if_icmp .lt 7, 3) := by decide +kernel
theorem dX10_isTaker_15 : decode cX10_isTaker 15 = .ok (.iconst 1, 1) := by decide +kernel
theorem dX10_isTaker_16 : decode cX10_isTaker 16 = .ok (.goto 4, 3) := by decide +kernel
theorem dX10_isTaker_19 : decode cX10_isTaker 19 = .ok (.iconst 0, 1) := by decide +kernel
theorem dX10_isTaker_20 : decode cX10_isTaker 20 = .ok (.ireturn, 1) := by decide +kernel
theorem dX11_init_0 : decode cX11_init 0 = .ok (.aload_n 0, 1) := by decide +kernel
theorem dX11_init_1 : decode cX11_init 1 = .ok (.invokespecial 1, 3) := by decide +kernel
theorem dX11_init_4 : decode cX11_init 4 = .ok (.aload_n 0, 1) := by decide +kernel
theorem dX11_init_5 : decode cX11_init 5 = .ok (.new 7, 3) := by decide +kernel
theorem dX11_init_8 : decode cX11_init 8 = .ok (.dup, 1) := by decide +kernel
theorem dX11_init_9 : decode cX11_init 9 = .ok (.invokespecial 9, 3) := by decide +kernel
theorem dX11_init_12 : decode cX11_init 12 = .ok (.putfield 10, 3) := by decide +kernel
theorem dX11_init_15 : decode cX11_init 15 = .ok (.aload_n 0, 1) := by decide +kernel
theorem dX11_init_16 : decode cX11_init 16 = .ok (.new 16, 3) := by decide +kernel
theorem dX11_init_19 : decode cX11_init 19 = .ok (.dup, 1) := by decide +kernel
theorem dX11_init_20 : decode cX11_init 20 = .ok (.invokespecial 18, 3) := by decide +kernel
theorem dX11_init_23 : decode cX11_init 23 = .ok (.putfield 19, 3) := by decide +kernel
theorem dX11_init_26 : decode cX11_init 26 = .ok (.aload_n 0, 1) := by decide +kernel
theorem dX11_init_27 : decode cX11_init 27 = .ok (.new 16, 3) := by decide +kernel
theorem dX11_init_30 : decode cX11_init 30 = .ok (.dup, 1) := by decide +kernel
theorem dX11_init_31 : decode cX11_init 31 = .ok (.invokespecial 18, 3) := by decide +kernel
theorem dX11_init_34 : decode cX11_init 34 = .ok (.putfield 23, 3) := by decide +kernel
theorem dX11_init_37 : decode cX11_init 37 = .ok (.aload_n 0, 1) := by decide +kernel
theorem dX11_init_38 : decode cX11_init 38 = .ok (.new 26, 3) := by decide +kernel
theorem dX11_init_41 : decode cX11_init 41 = .ok (.dup, 1) := by decide +kernel
theorem dX11_init_42 : decode cX11_init 42 = .ok (.aload_n 0, 1) := by decide +kernel
theorem dX11_init_43 : decode cX11_init 43 = .ok (.getfield 10, 3) := by decide +kernel
theorem dX11_init_46 : decode cX11_init 46 = .ok (.aload_n 0, 1) := by decide +kernel
theorem dX11_init_47 : decode cX11_init 47 = .ok (.getfield 23, 3) := by decide +kernel
theorem dX11_init_50 : decode cX11_init 50 = .ok (.invokespecial 28, 3) := by decide +kernel
theorem dX11_init_53 : decode cX11_init 53 = .ok (.putfield 31, 3) := by decide +kernel
theorem dX11_init_56 : decode cX11_init 56 = .ok (.aload_n 0, 1) := by decide +kernel
theorem dX11_init_57 : decode cX11_init 57 = .ok (.new 35, 3) := by decide +kernel
theorem dX11_init_60 : decode cX11_init 60 = .ok (.dup, 1) := by decide +kernel
theorem dX11_init_61 : decode cX11_init 61 = .ok (.invokespecial 37, 3) := by decide +kernel
theorem dX11_init_64 : decode cX11_init 64 = .ok (.putfield 38, 3) := by decide +kernel
theorem dX11_init_67 : decode cX11_init 67 = .ok (.aload_n 0, 1) := by decide +kernel
theorem dX11_init_68 : decode cX11_init 68 = .ok (.new 42, 3) := by decide +kernel
theorem dX11_init_71 : decode cX11_init 71 = .ok (.dup, 1) := by decide +kernel
theorem dX11_init_72 : decode cX11_init 72 = .ok (.aload_n 0, 1) := by decide +kernel
theorem dX11_init_73 : decode cX11_init 73 = .ok (.getfield 19, 3) := by decide +kernel
theorem dX11_init_76 : decode cX11_init 76 = .ok (.invokespecial 44, 3) := by decide +kernel
theorem dX11_init_79 : decode cX11_init 79 = .ok (.putfield 47, 3) := by decide +kernel
theorem dX11_init_82 : decode cX11_init 82 = .ok (.aload_n 0, 1) := by decide +kernel
theorem dX11_init_83 : decode cX11_init 83 = .ok (.new 51, 3) := by decide +kernel
theorem dX11_init_86 : decode cX11_init 86 = .ok (.dup, 1) := by decide +kernel
theorem dX11_init_87 : decode cX11_init 87 = .ok (.aload_n 0, 1) := by decide +kernel
theorem dX11_init_88 : decode cX11_init 88 = .ok (.getfield 19, 3) := by decide +kernel
theorem dX11_init_91 : decode cX11_init 91 = .ok (.aload_n 0, 1) := by decide +kernel
theorem dX11_init_92 : decode cX11_init 92 = .ok (.getfield 47, 3) := by decide +kernel
theorem dX11_init_95 : decode cX11_init 95 = .ok (.invokespecial 53, 3) := by decide +kernel
theorem dX11_init_98 : decode cX11_init 98 = .ok (.putfield 56, 3) := by decide +kernel
theorem dX11_init_101 : decode cX11_init 101 = .ok (.aload_n 0, 1) := by decide +kernel
theorem dX11_init_102 : decode cX11_init 102 = .ok (.new 60, 3) := by decide +kernel
theorem dX11_init_105 : decode cX11_init 105 = .ok (.dup, 1) := by decide +kernel
theorem dX11_init_106 : decode cX11_init 106 = .ok (.aload_n 0, 1) := by decide +kernel
theorem dX11_init_107 : decode cX11_init 107 = .ok (.getfield 19, 3) := by decide +kernel
theorem dX11_init_110 : decode cX11_init 110 = .ok (.aload_n 0, 1) := by decide +kernel
theorem dX11_init_111 : decode cX11_init 111 = .ok (.getfield 38, 3) := by decide +kernel
theorem dX11_init_114 : decode cX11_init 114 = .ok (.invokespecial 62, 3) := by decide +kernel
theorem dX11_init_117 : decode cX11_init 117 = .ok (.putfield 65, 3) := by decide +kernel
theorem dX11_init_120 : decode cX11_init 120 = .ok (.aload_n 0, 1) := by decide +kernel
theorem dX11_init_121 : decode cX11_init 121 = .ok (.new 69, 3) := by decide +kernel
theorem dX11_init_124 : decode cX11_init 124 = .ok (.dup, 1) := by decide +kernel
theorem dX11_init_125 : decode cX11_init 125 = .ok (.invokespecial 71, 3) := by decide +kernel
theorem dX11_init_128 : decode cX11_init 128 = .ok (.putfield 72, 3) := by decide +kernel
theorem dX11_init_131 : decode cX11_init 131 = .ok (.aload_n 0, 1) := by decide +kernel
theorem dX11_init_132 : decode cX11_init 132 = .ok (.iconst 3, 1) := by decide +kernel
theorem dX11_init_133 : decode cX11_init 133 = .ok (.anewarray 35, 3) := by decide +kernel
theorem dX11_init_136 : decode cX11_init 136 = .ok (.putfield 76, 3) := by decide +kernel
theorem dX11_init_139 : decode cX11_init 139 = .ok (.aload_n 0, 1) := by decide +kernel
theorem dX11_init_140 : decode cX11_init 140 = .ok (.iconst 3, 1) := by decide +kernel
theorem dX11_init_141 : decode cX11_init 141 = .ok (.newarray .boolean, 2) := by decide +kernel
theorem dX11_init_143 : decode cX11_init 143 = .ok (.putfield 80, 3) := by decide +kernel
theorem dX11_init_146 : decode cX11_init 146 = .ok (.iconst 0, 1) := by decide +kernel
theorem dX11_init_147 : decode cX11_init 147 = .ok (.istore_n 1, 1) := by decide +kernel
theorem dX11_init_148 : decode cX11_init 148 = .ok (.iload_n 1, 1) := by decide +kernel
theorem dX11_init_149 : decode cX11_init 149 = .ok (.iconst 3, 1) := by decide +kernel
theorem dX11_init_150 : decode cX11_init 150 = .ok (.if_icmp .ge 22, 3) := by decide +kernel
theorem dX11_init_153 : decode cX11_init 153 = .ok (.aload_n 0, 1) := by decide +kernel
theorem dX11_init_154 : decode cX11_init 154 = .ok (.getfield 76, 3) := by decide +kernel
theorem dX11_init_157 : decode cX11_init 157 = .ok (.iload_n 1, 1) := by decide +kernel
theorem dX11_init_158 : decode cX11_init 158 = .ok (.new 35, 3) := by decide +kernel
theorem dX11_init_161 : decode cX11_init 161 = .ok (.dup, 1) := by decide +kernel
theorem dX11_init_162 : decode cX11_init 162 = .ok (.invokespecial 37, 3) := by decide +kernel
theorem dX11_init_165 : decode cX11_init 165 = .ok (.aastore, 1) := by decide +kernel
theorem dX11_init_166 : decode cX11_init 166 = .ok (.iinc 1 1, 3) := by decide +kernel
theorem dX11_init_169 : decode cX11_init 169 = .ok (.goto (-21), 3) := by decide +kernel
theorem dX11_init_172 : decode cX11_init 172 = .ok (.return_, 1) := by decide +kernel
theorem dX11_feed_0 : decode cX11_feed 0 = .ok (.aload_n 0, 1) := by decide +kernel
theorem dX11_feed_1 : decode cX11_feed 1 = .ok (.getfield 10, 3) := by decide +kernel
theorem dX11_feed_4 : decode cX11_feed 4 = .ok (.getfield 84, 3) := by decide +kernel
theorem dX11_feed_7 : decode cX11_feed 7 = .ok (.bipush 20, 2) := by decide +kernel
theorem dX11_feed_9 : decode cX11_feed 9 = .ok (.iadd, 1) := by decide +kernel
theorem dX11_feed_10 : decode cX11_feed 10 = .ok (.sipush 1700, 3) := by decide +kernel
theorem dX11_feed_13 : decode cX11_feed 13 = .ok (.if_icmp .le 5, 3) := by decide +kernel
theorem dX11_feed_16 : decode cX11_feed 16 = .ok (.iconst (-1), 1) := by decide +kernel
theorem dX11_feed_17 : decode cX11_feed 17 = .ok (.ireturn, 1) := by decide +kernel
theorem dX11_feed_18 : decode cX11_feed 18 = .ok (.aload_n 0, 1) := by decide +kernel
theorem dX11_feed_19 : decode cX11_feed 19 = .ok (.getfield 10, 3) := by decide +kernel
theorem dX11_feed_22 : decode cX11_feed 22 = .ok (.iload_n 1, 1) := by decide +kernel
theorem dX11_feed_23 : decode cX11_feed 23 = .ok (.invokevirtual 88, 3) := by decide +kernel
theorem dX11_feed_26 : decode cX11_feed 26 = .ok (.aload_n 0, 1) := by decide +kernel
theorem dX11_feed_27 : decode cX11_feed 27 = .ok (.getfield 10, 3) := by decide +kernel
theorem dX11_feed_30 : decode cX11_feed 30 = .ok (.iload_n 2, 1) := by decide +kernel
theorem dX11_feed_31 : decode cX11_feed 31 = .ok (.invokevirtual 88, 3) := by decide +kernel
theorem dX11_feed_34 : decode cX11_feed 34 = .ok (.aload_n 0, 1) := by decide +kernel
theorem dX11_feed_35 : decode cX11_feed 35 = .ok (.getfield 10, 3) := by decide +kernel
theorem dX11_feed_38 : decode cX11_feed 38 = .ok (.iload_n 3, 1) := by decide +kernel
theorem dX11_feed_39 : decode cX11_feed 39 = .ok (.invokevirtual 88, 3) := by decide +kernel
theorem dX11_feed_42 : decode cX11_feed 42 = .ok (.aload_n 0, 1) := by decide +kernel
theorem dX11_feed_43 : decode cX11_feed 43 = .ok (.getfield 10, 3) := by decide +kernel
theorem dX11_feed_46 : decode cX11_feed 46 = .ok (.iload 4, 2) := by decide +kernel
theorem dX11_feed_48 : decode cX11_feed 48 = .ok (.invokevirtual 88, 3) := by decide +kernel
theorem dX11_feed_51 : decode cX11_feed 51 = .ok (.aload_n 0, 1) := by decide +kernel
theorem dX11_feed_52 : decode cX11_feed 52 = .ok (.getfield 10, 3) := by decide +kernel
theorem dX11_feed_55 : decode cX11_feed 55 = .ok (.iload 5, 2) := by decide +kernel
theorem dX11_feed_57 : decode cX11_feed 57 = .ok (.invokevirtual 88, 3) := by decide +kernel
theorem dX11_feed_60 : decode cX11_feed 60 = .ok (.aload_n 0, 1) := by decide +kernel
theorem dX11_feed_61 : decode cX11_feed 61 = .ok (.getfield 10, 3) := by decide +kernel
theorem dX11_feed_64 : decode cX11_feed 64 = .ok (.getfield 84, 3) := by decide +kernel
theorem dX11_feed_67 : decode cX11_feed 67 = .ok (.ireturn, 1) := by decide +kernel
theorem dX11_end_0 : decode cX11_end 0 = .ok (.iload_n 1, 1) := by decide +kernel
theorem dX11_end_1 : decode cX11_end 1 = .ok (.ifCond .lt 14, 3) := by decide +kernel
theorem dX11_end_4 : decode cX11_end 4 = .ok (.iload_n 1, 1) := by decide +kernel
theorem dX11_end_5 : decode cX11_end 5 = .ok (.aload_n 0, 1) := by decide +kernel
theorem dX11_end_6 : decode cX11_end 6 = .ok (.getfield 10, 3) := by decide +kernel
theorem dX11_end_9 : decode cX11_end 9 = .ok (.getfield 84, 3) := by decide +kernel
theorem dX11_end_12 : decode cX11_end 12 = .ok (.if_icmp .le 5, 3) := by decide +kernel
theorem dX11_end_15 : decode cX11_end 15 = .ok (.iconst (-1), 1) := by decide +kernel
theorem dX11_end_16 : decode cX11_end 16 = .ok (.ireturn, 1) := by decide +kernel
theorem dX11_end_17 : decode cX11_end 17 = .ok (.aload_n 0, 1) := by decide +kernel
theorem dX11_end_18 : decode cX11_end 18 = .ok (.getfield 10, 3) := by decide +kernel
theorem dX11_end_21 : decode cX11_end 21 = .ok (.iload_n 1, 1) := by decide +kernel
theorem dX11_end_22 : decode cX11_end 22 = .ok (.putfield 84, 3) := by decide +kernel
theorem dX11_end_25 : decode cX11_end 25 = .ok (.iload_n 1, 1) := by decide +kernel
theorem dX11_end_26 : decode cX11_end 26 = .ok (.ireturn, 1) := by decide +kernel
theorem dX11_valley_0 : decode cX11_valley 0 = .ok (.aload_n 0, 1) := by decide +kernel
theorem dX11_valley_1 : decode cX11_valley 1 = .ok (.getfield 31, 3) := by decide +kernel
theorem dX11_valley_4 : decode cX11_valley 4 = .ok (.invokevirtual 92, 3) := by decide +kernel
theorem dX11_valley_7 : decode cX11_valley 7 = .ok (.istore_n 1, 1) := by decide +kernel
theorem dX11_valley_8 : decode cX11_valley 8 = .ok (.aload_n 0, 1) := by decide +kernel
theorem dX11_valley_9 : decode cX11_valley 9 = .ok (.getfield 10, 3) := by decide +kernel
theorem dX11_valley_12 : decode cX11_valley 12 = .ok (.iconst 0, 1) := by decide +kernel
theorem dX11_valley_13 : decode cX11_valley 13 = .ok (.putfield 84, 3) := by decide +kernel
theorem dX11_valley_16 : decode cX11_valley 16 = .ok (.iload_n 1, 1) := by decide +kernel
theorem dX11_valley_17 : decode cX11_valley 17 = .ok (.ifCond .ne 5, 3) := by decide +kernel
theorem dX11_valley_20 : decode cX11_valley 20 = .ok (.iconst (-1), 1) := by decide +kernel
theorem dX11_valley_21 : decode cX11_valley 21 = .ok (.ireturn, 1) := by decide +kernel
theorem dX11_valley_22 : decode cX11_valley 22 = .ok (.aload_n 0, 1) := by decide +kernel
theorem dX11_valley_23 : decode cX11_valley 23 = .ok (.getfield 19, 3) := by decide +kernel
theorem dX11_valley_26 : decode cX11_valley 26 = .ok (.aload_n 0, 1) := by decide +kernel
theorem dX11_valley_27 : decode cX11_valley 27 = .ok (.getfield 23, 3) := by decide +kernel
theorem dX11_valley_30 : decode cX11_valley 30 = .ok (.invokevirtual 96, 3) := by decide +kernel
theorem dX11_valley_33 : decode cX11_valley 33 = .ok (.aload_n 0, 1) := by decide +kernel
theorem dX11_valley_34 : decode cX11_valley 34 = .ok (.getfield 38, 3) := by decide +kernel
theorem dX11_valley_37 : decode cX11_valley 37 = .ok (.aload_n 0, 1) := by decide +kernel
theorem dX11_valley_38 : decode cX11_valley 38 = .ok (.getfield 19, 3) := by decide +kernel
theorem dX11_valley_41 : decode cX11_valley 41 = .ok (.invokevirtual 99, 3) := by decide +kernel
theorem dX11_valley_44 : decode cX11_valley 44 = .ok (.aload_n 0, 1) := by decide +kernel
theorem dX11_valley_45 : decode cX11_valley 45 = .ok (.getfield 72, 3) := by decide +kernel
theorem dX11_valley_48 : decode cX11_valley 48 = .ok (.iconst 0, 1) := by decide +kernel
theorem dX11_valley_49 : decode cX11_valley 49 = .ok (.putfield 102, 3) := by decide +kernel
theorem dX11_valley_52 : decode cX11_valley 52 = .ok (.iconst 0, 1) := by decide +kernel
theorem dX11_valley_53 : decode cX11_valley 53 = .ok (.istore_n 2, 1) := by decide +kernel
theorem dX11_valley_54 : decode cX11_valley 54 = .ok (.iload_n 2, 1) := by decide +kernel
theorem dX11_valley_55 : decode cX11_valley 55 = .ok (.iconst 3, 1) := by decide +kernel
theorem dX11_valley_56 : decode cX11_valley 56 = .ok (.if_icmp .ge 16, 3) := by decide +kernel
theorem dX11_valley_59 : decode cX11_valley 59 = .ok (.aload_n 0, 1) := by decide +kernel
theorem dX11_valley_60 : decode cX11_valley 60 = .ok (.getfield 80, 3) := by decide +kernel
theorem dX11_valley_63 : decode cX11_valley 63 = .ok (.iload_n 2, 1) := by decide +kernel
theorem dX11_valley_64 : decode cX11_valley 64 = .ok (.iconst 0, 1) := by decide +kernel
theorem dX11_valley_65 : decode cX11_valley 65 = .ok (.bastore, 1) := by decide +kernel
theorem dX11_valley_66 : decode cX11_valley 66 = .ok (.iinc 2 1, 3) := by decide +kernel
theorem dX11_valley_69 : decode cX11_valley 69 = .ok (.goto (-15), 3) := by decide +kernel
theorem dX11_valley_72 : decode cX11_valley 72 = .ok (.aload_n 0, 1) := by decide +kernel
theorem dX11_valley_73 : decode cX11_valley 73 = .ok (.getfield 19, 3) := by decide +kernel
theorem dX11_valley_76 : decode cX11_valley 76 = .ok (.getfield 105, 3) := by decide +kernel
theorem dX11_valley_79 : decode cX11_valley 79 = .ok (.ireturn, 1) := by decide +kernel
theorem dX11_fault_0 : decode cX11_fault 0 = .ok (.iload_n 1, 1) := by decide +kernel
theorem dX11_fault_1 : decode cX11_fault 1 = .ok (.lookupswitch 43 #[(0, 27), (1, 35)], 27) := by decide +kernel
theorem dX11_fault_28 : decode cX11_fault 28 = .ok (.aload_n 0, 1) := by decide +kernel
theorem dX11_fault_29 : decode cX11_fault 29 = .ok (.getfield 31, 3) := by decide +kernel
theorem dX11_fault_32 : decode cX11_fault 32 = .ok (.getfield 108, 3) := by decide +kernel
theorem dX11_fault_35 : decode cX11_fault 35 = .ok (.ireturn, 1) := by decide +kernel
theorem dX11_fault_36 : decode cX11_fault 36 = .ok (.aload_n 0, 1) := by decide +kernel
theorem dX11_fault_37 : decode cX11_fault 37 = .ok (.getfield 31, 3) := by decide +kernel
theorem dX11_fault_40 : decode cX11_fault 40 = .ok (.getfield 111, 3) := by decide +kernel
theorem dX11_fault_43 : decode cX11_fault 43 = .ok (.ireturn, 1) := by decide +kernel
theorem dX11_fault_44 : decode cX11_fault 44 = .ok (.iconst (-1), 1) := by decide +kernel
theorem dX11_fault_45 : decode cX11_fault 45 = .ok (.ireturn, 1) := by decide +kernel
theorem dX11_run_0 : decode cX11_run 0 = .ok (.iload_n 1, 1) := by decide +kernel
theorem dX11_run_1 : decode cX11_run 1 = .ok (.ifCond .lt 24, 3) := by decide +kernel
theorem dX11_run_4 : decode cX11_run 4 = .ok (.iload_n 1, 1) := by decide +kernel
theorem dX11_run_5 : decode cX11_run 5 = .ok (.bipush 100, 2) := by decide +kernel
theorem dX11_run_7 : decode cX11_run 7 = .ok (.if_icmp .gt 18, 3) := by decide +kernel
theorem dX11_run_10 : decode cX11_run 10 = .ok (.aload_n 0, 1) := by decide +kernel
theorem dX11_run_11 : decode cX11_run 11 = .ok (.getfield 38, 3) := by decide +kernel
theorem dX11_run_14 : decode cX11_run 14 = .ok (.getfield 114, 3) := by decide +kernel
theorem dX11_run_17 : decode cX11_run 17 = .ok (.iload_n 1, 1) := by decide +kernel
theorem dX11_run_18 : decode cX11_run 18 = .ok (.iadd, 1) := by decide +kernel
theorem dX11_run_19 : decode cX11_run 19 = .ok (.sipush 10000, 3) := by decide +kernel
theorem dX11_run_22 : decode cX11_run 22 = .ok (.if_icmp .le 5, 3) := by decide +kernel
theorem dX11_run_25 : decode cX11_run 25 = .ok (.iconst (-1), 1) := by decide +kernel
theorem dX11_run_26 : decode cX11_run 26 = .ok (.ireturn, 1) := by decide +kernel
theorem dX11_run_27 : decode cX11_run 27 = .ok (.iconst 0, 1) := by decide +kernel
theorem dX11_run_28 : decode cX11_run 28 = .ok (.istore_n 2, 1) := by decide +kernel
theorem dX11_run_29 : decode cX11_run 29 = .ok (.iconst 0, 1) := by decide +kernel
theorem dX11_run_30 : decode cX11_run 30 = .ok (.istore_n 3, 1) := by decide +kernel
theorem dX11_run_31 : decode cX11_run 31 = .ok (.iload_n 3, 1) := by decide +kernel
theorem dX11_run_32 : decode cX11_run 32 = .ok (.iload_n 1, 1) := by decide +kernel
theorem dX11_run_33 : decode cX11_run 33 = .ok (.if_icmp .ge 30, 3) := by decide +kernel
theorem dX11_run_36 : decode cX11_run 36 = .ok (.iload_n 2, 1) := by decide +kernel
theorem dX11_run_37 : decode cX11_run 37 = .ok (.aload_n 0, 1) := by decide +kernel
theorem dX11_run_38 : decode cX11_run 38 = .ok (.getfield 47, 3) := by decide +kernel
theorem dX11_run_41 : decode cX11_run 41 = .ok (.aload_n 0, 1) := by decide +kernel
theorem dX11_run_42 : decode cX11_run 42 = .ok (.getfield 38, 3) := by decide +kernel
theorem dX11_run_45 : decode cX11_run 45 = .ok (.aload_n 0, 1) := by decide +kernel
theorem dX11_run_46 : decode cX11_run 46 = .ok (.getfield 19, 3) := by decide +kernel
theorem dX11_run_49 : decode cX11_run 49 = .ok (.getfield 117, 3) := by decide +kernel
theorem dX11_run_52 : decode cX11_run 52 = .ok (.invokevirtual 120, 3) := by decide +kernel
theorem dX11_run_55 : decode cX11_run 55 = .ok (.iadd, 1) := by decide +kernel
theorem dX11_run_56 : decode cX11_run 56 = .ok (.istore_n 2, 1) := by decide +kernel
theorem dX11_run_57 : decode cX11_run 57 = .ok (.iinc 3 1, 3) := by decide +kernel
theorem dX11_run_60 : decode cX11_run 60 = .ok (.goto (-29), 3) := by decide +kernel
theorem dX11_run_63 : decode cX11_run 63 = .ok (.iload_n 2, 1) := by decide +kernel
theorem dX11_run_64 : decode cX11_run 64 = .ok (.ireturn, 1) := by decide +kernel
theorem dX11_thing_0 : decode cX11_thing 0 = .ok (.aload_n 0, 1) := by decide +kernel
theorem dX11_thing_1 : decode cX11_thing 1 = .ok (.iload_n 1, 1) := by decide +kernel
theorem dX11_thing_2 : decode cX11_thing 2 = .ok (.invokevirtual 124, 3) := by decide +kernel
theorem dX11_thing_5 : decode cX11_thing 5 = .ok (.ifCond .ne 6, 3) := by decide +kernel
theorem dX11_thing_8 : decode cX11_thing 8 = .ok (.bipush (-2), 2) := by decide +kernel
theorem dX11_thing_10 : decode cX11_thing 10 = .ok (.ireturn, 1) := by decide +kernel
theorem dX11_thing_11 : decode cX11_thing 11 = .ok (.iload_n 2, 1) := by decide +kernel
theorem dX11_thing_12 : decode cX11_thing 12 = .ok (.tableswitch 108 0 5 #[40, 50, 60, 70, 88, 98], 40) := by decide +kernel
theorem dX11_thing_52 : decode cX11_thing 52 = .ok (.aload_n 0, 1) := by decide +kernel
theorem dX11_thing_53 : decode cX11_thing 53 = .ok (.getfield 38, 3) := by decide +kernel
theorem dX11_thing_56 : decode cX11_thing 56 = .ok (.getfield 128, 3) := by decide +kernel
theorem dX11_thing_59 : decode cX11_thing 59 = .ok (.iload_n 1, 1) := by decide +kernel
theorem dX11_thing_60 : decode cX11_thing 60 = .ok (.iaload, 1) := by decide +kernel
theorem dX11_thing_61 : decode cX11_thing 61 = .ok (.ireturn, 1) := by decide +kernel
theorem dX11_thing_62 : decode cX11_thing 62 = .ok (.aload_n 0, 1) := by decide +kernel
theorem dX11_thing_63 : decode cX11_thing 63 = .ok (.getfield 38, 3) := by decide +kernel
theorem dX11_thing_66 : decode cX11_thing 66 = .ok (.getfield 132, 3) := by decide +kernel
theorem dX11_thing_69 : decode cX11_thing 69 = .ok (.iload_n 1, 1) := by decide +kernel
theorem dX11_thing_70 : decode cX11_thing 70 = .ok (.iaload, 1) := by decide +kernel
theorem dX11_thing_71 : decode cX11_thing 71 = .ok (.ireturn, 1) := by decide +kernel
theorem dX11_thing_72 : decode cX11_thing 72 = .ok (.aload_n 0, 1) := by decide +kernel
theorem dX11_thing_73 : decode cX11_thing 73 = .ok (.getfield 38, 3) := by decide +kernel
theorem dX11_thing_76 : decode cX11_thing 76 = .ok (.getfield 135, 3) := by decide +kernel
theorem dX11_thing_79 : decode cX11_thing 79 = .ok (.iload_n 1, 1) := by decide +kernel
theorem dX11_thing_80 : decode cX11_thing 80 = .ok (.iaload, 1) := by decide +kernel
theorem dX11_thing_81 : decode cX11_thing 81 = .ok (.ireturn, 1) := by decide +kernel
theorem dX11_thing_82 : decode cX11_thing 82 = .ok (.aload_n 0, 1) := by decide +kernel
theorem dX11_thing_83 : decode cX11_thing 83 = .ok (.getfield 38, 3) := by decide +kernel
theorem dX11_thing_86 : decode cX11_thing 86 = .ok (.getfield 138, 3) := by decide +kernel
theorem dX11_thing_89 : decode cX11_thing 89 = .ok (.iload_n 1, 1) := by decide +kernel
theorem dX11_thing_90 : decode cX11_thing 90 = .ok (.baload, 1) := by decide +kernel
theorem dX11_thing_91 : decode cX11_thing 91 = .ok (.ifCond .eq 7, 3) := by decide +kernel
theorem dX11_thing_94 : decode cX11_thing 94 = .ok (.iconst 1, 1) := by decide +kernel
theorem dX11_thing_95 : decode cX11_thing 95 = .ok (.goto 4, 3) := by decide +kernel
theorem dX11_thing_98 : decode cX11_thing 98 = .ok (.iconst 0, 1) := by decide +kernel
theorem dX11_thing_99 : decode cX11_thing 99 = .ok (.ireturn, 1) := by decide +kernel
theorem dX11_thing_100 : decode cX11_thing 100 = .ok (.aload_n 0, 1) := by decide +kernel
theorem dX11_thing_101 : decode cX11_thing 101 = .ok (.getfield 19, 3) := by decide +kernel
theorem dX11_thing_104 : decode cX11_thing 104 = .ok (.getfield 141, 3) := by decide +kernel
theorem dX11_thing_107 : decode cX11_thing 107 = .ok (.iload_n 1, 1) := by decide +kernel
theorem dX11_thing_108 : decode cX11_thing 108 = .ok (.iaload, 1) := by decide +kernel
theorem dX11_thing_109 : decode cX11_thing 109 = .ok (.ireturn, 1) := by decide +kernel
theorem dX11_thing_110 : decode cX11_thing 110 = .ok (.aload_n 0, 1) := by decide +kernel
theorem dX11_thing_111 : decode cX11_thing 111 = .ok (.getfield 38, 3) := by decide +kernel
theorem dX11_thing_114 : decode cX11_thing 114 = .ok (.getfield 144, 3) := by decide +kernel
theorem dX11_thing_117 : decode cX11_thing 117 = .ok (.iload_n 1, 1) := by decide +kernel
theorem dX11_thing_118 : decode cX11_thing 118 = .ok (.iaload, 1) := by decide +kernel
theorem dX11_thing_119 : decode cX11_thing 119 = .ok (.ireturn, 1) := by decide +kernel
theorem dX11_thing_120 : decode cX11_thing 120 = .ok (.bipush (-2), 2) := by decide +kernel
theorem dX11_thing_122 : decode cX11_thing 122 = .ok (.ireturn, 1) := by decide +kernel
theorem dX11_person_0 : decode cX11_person 0 = .ok (.aload_n 0, 1) := by decide +kernel
theorem dX11_person_1 : decode cX11_person 1 = .ok (.iload_n 1, 1) := by decide +kernel
theorem dX11_person_2 : decode cX11_person 2 = .ok (.invokevirtual 147, 3) := by decide +kernel
theorem dX11_person_5 : decode cX11_person 5 = .ok (.ifCond .ne 6, 3) := by decide +kernel
theorem dX11_person_8 : decode cX11_person 8 = .ok (.bipush (-2), 2) := by decide +kernel
theorem dX11_person_10 : decode cX11_person 10 = .ok (.ireturn, 1) := by decide +kernel
theorem dX11_person_11 : decode cX11_person 11 = .ok (.iload_n 2, 1) := by decide +kernel
theorem dX11_person_12 : decode cX11_person 12 = .ok (.tableswitch 84 0 3 #[32, 42, 52, 58], 32) := by decide +kernel
theorem dX11_person_44 : decode cX11_person 44 = .ok (.aload_n 0, 1) := by decide +kernel
theorem dX11_person_45 : decode cX11_person 45 = .ok (.getfield 38, 3) := by decide +kernel
theorem dX11_person_48 : decode cX11_person 48 = .ok (.getfield 150, 3) := by decide +kernel
theorem dX11_person_51 : decode cX11_person 51 = .ok (.iload_n 1, 1) := by decide +kernel
theorem dX11_person_52 : decode cX11_person 52 = .ok (.iaload, 1) := by decide +kernel
theorem dX11_person_53 : decode cX11_person 53 = .ok (.ireturn, 1) := by decide +kernel
theorem dX11_person_54 : decode cX11_person 54 = .ok (.aload_n 0, 1) := by decide +kernel
theorem dX11_person_55 : decode cX11_person 55 = .ok (.getfield 38, 3) := by decide +kernel
theorem dX11_person_58 : decode cX11_person 58 = .ok (.getfield 153, 3) := by decide +kernel
theorem dX11_person_61 : decode cX11_person 61 = .ok (.iload_n 1, 1) := by decide +kernel
theorem dX11_person_62 : decode cX11_person 62 = .ok (.iaload, 1) := by decide +kernel
theorem dX11_person_63 : decode cX11_person 63 = .ok (.ireturn, 1) := by decide +kernel
theorem dX11_person_64 : decode cX11_person 64 = .ok (.aload_n 0, 1) := by decide +kernel
theorem dX11_person_65 : decode cX11_person 65 = .ok (.iload_n 1, 1) := by decide +kernel
theorem dX11_person_66 : decode cX11_person 66 = .ok (.invokevirtual 156, 3) := by decide +kernel
theorem dX11_person_69 : decode cX11_person 69 = .ok (.ireturn, 1) := by decide +kernel
theorem dX11_person_70 : decode cX11_person 70 = .ok (.aload_n 0, 1) := by decide +kernel
theorem dX11_person_71 : decode cX11_person 71 = .ok (.getfield 47, 3) := by decide +kernel
theorem dX11_person_74 : decode cX11_person 74 = .ok (.aload_n 0, 1) := by decide +kernel
theorem dX11_person_75 : decode cX11_person 75 = .ok (.getfield 38, 3) := by decide +kernel
theorem dX11_person_78 : decode cX11_person 78 = .ok (.invokevirtual 160, 3) := by decide +kernel
theorem dX11_person_81 : decode cX11_person 81 = .ok (.aload_n 0, 1) := by decide +kernel
theorem dX11_person_82 : decode cX11_person 82 = .ok (.getfield 47, 3) := by decide +kernel
theorem dX11_person_85 : decode cX11_person 85 = .ok (.aload_n 0, 1) := by decide +kernel
theorem dX11_person_86 : decode cX11_person 86 = .ok (.getfield 38, 3) := by decide +kernel
theorem dX11_person_89 : decode cX11_person 89 = .ok (.iload_n 1, 1) := by decide +kernel
theorem dX11_person_90 : decode cX11_person 90 = .ok (.bipush (-60), 2) := by decide +kernel
theorem dX11_person_92 : decode cX11_person 92 = .ok (.invokevirtual 164, 3) := by decide +kernel
theorem dX11_person_95 : decode cX11_person 95 = .ok (.ireturn, 1) := by decide +kernel
theorem dX11_person_96 : decode cX11_person 96 = .ok (.bipush (-2), 2) := by decide +kernel
theorem dX11_person_98 : decode cX11_person 98 = .ok (.ireturn, 1) := by decide +kernel
theorem dX11_far_0 : decode cX11_far 0 = .ok (.aload_n 0, 1) := by decide +kernel
theorem dX11_far_1 : decode cX11_far 1 = .ok (.iload_n 1, 1) := by decide +kernel
theorem dX11_far_2 : decode cX11_far 2 = .ok (.invokevirtual 168, 3) := by decide +kernel
theorem dX11_far_5 : decode cX11_far 5 = .ok (.ifCond .eq 26, 3) := by decide +kernel
theorem dX11_far_8 : decode cX11_far 8 = .ok (.aload_n 0, 1) := by decide +kernel
theorem dX11_far_9 : decode cX11_far 9 = .ok (.iload_n 2, 1) := by decide +kernel
theorem dX11_far_10 : decode cX11_far 10 = .ok (.invokevirtual 168, 3) := by decide +kernel
theorem dX11_far_13 : decode cX11_far 13 = .ok (.ifCond .eq 18, 3) := by decide +kernel
theorem dX11_far_16 : decode cX11_far 16 = .ok (.aload_n 0, 1) := by decide +kernel
theorem dX11_far_17 : decode cX11_far 17 = .ok (.getfield 19, 3) := by decide +kernel
theorem dX11_far_20 : decode cX11_far 20 = .ok (.getfield 171, 3) := by decide +kernel
theorem dX11_far_23 : decode cX11_far 23 = .ok (.iload_n 1, 1) := by decide +kernel
theorem dX11_far_24 : decode cX11_far 24 = .ok (.iload_n 2, 1) := by decide +kernel
theorem dX11_far_25 : decode cX11_far 25 = .ok (.invokevirtual 175, 3) := by decide +kernel
theorem dX11_far_28 : decode cX11_far 28 = .ok (.goto 4, 3) := by decide +kernel
theorem dX11_far_31 : decode cX11_far 31 = .ok (.iconst (-1), 1) := by decide +kernel
theorem dX11_far_32 : decode cX11_far 32 = .ok (.ireturn, 1) := by decide +kernel
theorem dX11_give_0 : decode cX11_give 0 = .ok (.aload_n 0, 1) := by decide +kernel
theorem dX11_give_1 : decode cX11_give 1 = .ok (.iload_n 1, 1) := by decide +kernel
theorem dX11_give_2 : decode cX11_give 2 = .ok (.invokevirtual 124, 3) := by decide +kernel
theorem dX11_give_5 : decode cX11_give 5 = .ok (.ifCond .eq 23, 3) := by decide +kernel
theorem dX11_give_8 : decode cX11_give 8 = .ok (.aload_n 0, 1) := by decide +kernel
theorem dX11_give_9 : decode cX11_give 9 = .ok (.iload_n 2, 1) := by decide +kernel
theorem dX11_give_10 : decode cX11_give 10 = .ok (.invokevirtual 181, 3) := by decide +kernel
theorem dX11_give_13 : decode cX11_give 13 = .ok (.ifCond .eq 15, 3) := by decide +kernel
theorem dX11_give_16 : decode cX11_give 16 = .ok (.aload_n 0, 1) := by decide +kernel
theorem dX11_give_17 : decode cX11_give 17 = .ok (.getfield 38, 3) := by decide +kernel
theorem dX11_give_20 : decode cX11_give 20 = .ok (.getfield 138, 3) := by decide +kernel
theorem dX11_give_23 : decode cX11_give 23 = .ok (.iload_n 1, 1) := by decide +kernel
theorem dX11_give_24 : decode cX11_give 24 = .ok (.baload, 1) := by decide +kernel
theorem dX11_give_25 : decode cX11_give 25 = .ok (.ifCond .eq 5, 3) := by decide +kernel
theorem dX11_give_28 : decode cX11_give 28 = .ok (.iconst 0, 1) := by decide +kernel
theorem dX11_give_29 : decode cX11_give 29 = .ok (.ireturn, 1) := by decide +kernel
theorem dX11_give_30 : decode cX11_give 30 = .ok (.aload_n 0, 1) := by decide +kernel
theorem dX11_give_31 : decode cX11_give 31 = .ok (.getfield 38, 3) := by decide +kernel
theorem dX11_give_34 : decode cX11_give 34 = .ok (.getfield 128, 3) := by decide +kernel
theorem dX11_give_37 : decode cX11_give 37 = .ok (.iload_n 1, 1) := by decide +kernel
theorem dX11_give_38 : decode cX11_give 38 = .ok (.iload_n 2, 1) := by decide +kernel
theorem dX11_give_39 : decode cX11_give 39 = .ok (.iastore, 1) := by decide +kernel
theorem dX11_give_40 : decode cX11_give 40 = .ok (.iconst 1, 1) := by decide +kernel
theorem dX11_give_41 : decode cX11_give 41 = .ok (.ireturn, 1) := by decide +kernel
theorem dX11_chip_0 : decode cX11_chip 0 = .ok (.aload_n 0, 1) := by decide +kernel
theorem dX11_chip_1 : decode cX11_chip 1 = .ok (.iload_n 1, 1) := by decide +kernel
theorem dX11_chip_2 : decode cX11_chip 2 = .ok (.invokevirtual 124, 3) := by decide +kernel
theorem dX11_chip_5 : decode cX11_chip 5 = .ok (.ifCond .eq 20, 3) := by decide +kernel
theorem dX11_chip_8 : decode cX11_chip 8 = .ok (.iload_n 2, 1) := by decide +kernel
theorem dX11_chip_9 : decode cX11_chip 9 = .ok (.ifCond .lt 16, 3) := by decide +kernel
theorem dX11_chip_12 : decode cX11_chip 12 = .ok (.iload_n 2, 1) := by decide +kernel
theorem dX11_chip_13 : decode cX11_chip 13 = .ok (.aload_n 0, 1) := by decide +kernel
theorem dX11_chip_14 : decode cX11_chip 14 = .ok (.getfield 38, 3) := by decide +kernel
theorem dX11_chip_17 : decode cX11_chip 17 = .ok (.getfield 144, 3) := by decide +kernel
theorem dX11_chip_20 : decode cX11_chip 20 = .ok (.iload_n 1, 1) := by decide +kernel
theorem dX11_chip_21 : decode cX11_chip 21 = .ok (.iaload, 1) := by decide +kernel
theorem dX11_chip_22 : decode cX11_chip 22 = .ok (.if_icmp .le 5, 3) := by decide +kernel
theorem dX11_chip_25 : decode cX11_chip 25 = .ok (.iconst (-1), 1) := by decide +kernel
theorem dX11_chip_26 : decode cX11_chip 26 = .ok (.ireturn, 1) := by decide +kernel
theorem dX11_chip_27 : decode cX11_chip 27 = .ok (.aload_n 0, 1) := by decide +kernel
theorem dX11_chip_28 : decode cX11_chip 28 = .ok (.getfield 38, 3) := by decide +kernel
theorem dX11_chip_31 : decode cX11_chip 31 = .ok (.getfield 144, 3) := by decide +kernel
theorem dX11_chip_34 : decode cX11_chip 34 = .ok (.iload_n 1, 1) := by decide +kernel
theorem dX11_chip_35 : decode cX11_chip 35 = .ok (.dup2, 1) := by decide +kernel
theorem dX11_chip_36 : decode cX11_chip 36 = .ok (.iaload, 1) := by decide +kernel
theorem dX11_chip_37 : decode cX11_chip 37 = .ok (.iload_n 2, 1) := by decide +kernel
theorem dX11_chip_38 : decode cX11_chip 38 = .ok (.isub, 1) := by decide +kernel
theorem dX11_chip_39 : decode cX11_chip 39 = .ok (.iastore, 1) := by decide +kernel
theorem dX11_chip_40 : decode cX11_chip 40 = .ok (.aload_n 0, 1) := by decide +kernel
theorem dX11_chip_41 : decode cX11_chip 41 = .ok (.getfield 38, 3) := by decide +kernel
theorem dX11_chip_44 : decode cX11_chip 44 = .ok (.getfield 144, 3) := by decide +kernel
theorem dX11_chip_47 : decode cX11_chip 47 = .ok (.iload_n 1, 1) := by decide +kernel
theorem dX11_chip_48 : decode cX11_chip 48 = .ok (.iaload, 1) := by decide +kernel
theorem dX11_chip_49 : decode cX11_chip 49 = .ok (.ireturn, 1) := by decide +kernel
theorem dX11_asks_0 : decode cX11_asks 0 = .ok (.aload_n 0, 1) := by decide +kernel
theorem dX11_asks_1 : decode cX11_asks 1 = .ok (.iload_n 1, 1) := by decide +kernel
theorem dX11_asks_2 : decode cX11_asks 2 = .ok (.invokevirtual 147, 3) := by decide +kernel
theorem dX11_asks_5 : decode cX11_asks 5 = .ok (.ifCond .eq 11, 3) := by decide +kernel
theorem dX11_asks_8 : decode cX11_asks 8 = .ok (.aload_n 0, 1) := by decide +kernel
theorem dX11_asks_9 : decode cX11_asks 9 = .ok (.iload_n 2, 1) := by decide +kernel
theorem dX11_asks_10 : decode cX11_asks 10 = .ok (.invokevirtual 124, 3) := by decide +kernel
theorem dX11_asks_13 : decode cX11_asks 13 = .ok (.ifCond .ne 6, 3) := by decide +kernel
theorem dX11_asks_16 : decode cX11_asks 16 = .ok (.ldc 184, 2) := by decide +kernel
theorem dX11_asks_18 : decode cX11_asks 18 = .ok (.ireturn, 1) := by decide +kernel
theorem dX11_asks_19 : decode cX11_asks 19 = .ok (.aload_n 0, 1) := by decide +kernel
theorem dX11_asks_20 : decode cX11_asks 20 = .ok (.getfield 47, 3) := by decide +kernel
theorem dX11_asks_23 : decode cX11_asks 23 = .ok (.aload_n 0, 1) := by decide +kernel
theorem dX11_asks_24 : decode cX11_asks 24 = .ok (.getfield 38, 3) := by decide +kernel
theorem dX11_asks_27 : decode cX11_asks 27 = .ok (.invokevirtual 160, 3) := by decide +kernel
theorem dX11_asks_30 : decode cX11_asks 30 = .ok (.aload_n 0, 1) := by decide +kernel
theorem dX11_asks_31 : decode cX11_asks 31 = .ok (.getfield 47, 3) := by decide +kernel
theorem dX11_asks_34 : decode cX11_asks 34 = .ok (.aload_n 0, 1) := by decide +kernel
theorem dX11_asks_35 : decode cX11_asks 35 = .ok (.getfield 38, 3) := by decide +kernel
theorem dX11_asks_38 : decode cX11_asks 38 = .ok (.iload_n 1, 1) := by decide +kernel
theorem dX11_asks_39 : decode cX11_asks 39 = .ok (.iload_n 2, 1) := by decide +kernel
theorem dX11_asks_40 : decode cX11_asks 40 = .ok (.invokevirtual 185, 3) := by decide +kernel
theorem dX11_asks_43 : decode cX11_asks 43 = .ok (.ireturn, 1) := by decide +kernel
theorem dX11_chance_0 : decode cX11_chance 0 = .ok (.aload_n 0, 1) := by decide +kernel
theorem dX11_chance_1 : decode cX11_chance 1 = .ok (.iload_n 1, 1) := by decide +kernel
theorem dX11_chance_2 : decode cX11_chance 2 = .ok (.invokevirtual 124, 3) := by decide +kernel
theorem dX11_chance_5 : decode cX11_chance 5 = .ok (.ifCond .eq 20, 3) := by decide +kernel
theorem dX11_chance_8 : decode cX11_chance 8 = .ok (.aload_n 0, 1) := by decide +kernel
theorem dX11_chance_9 : decode cX11_chance 9 = .ok (.iload_n 2, 1) := by decide +kernel
theorem dX11_chance_10 : decode cX11_chance 10 = .ok (.invokevirtual 181, 3) := by decide +kernel
theorem dX11_chance_13 : decode cX11_chance 13 = .ok (.ifCond .eq 12, 3) := by decide +kernel
theorem dX11_chance_16 : decode cX11_chance 16 = .ok (.iload_n 3, 1) := by decide +kernel
theorem dX11_chance_17 : decode cX11_chance 17 = .ok (.ifCond .lt 8, 3) := by decide +kernel
theorem dX11_chance_20 : decode cX11_chance 20 = .ok (.iload_n 3, 1) := by decide +kernel
theorem dX11_chance_21 : decode cX11_chance 21 = .ok (.iconst 1, 1) := by decide +kernel
theorem dX11_chance_22 : decode cX11_chance 22 = .ok (.if_icmp .le 5, 3) := by decide +kernel
theorem dX11_chance_25 : decode cX11_chance 25 = .ok (.iconst (-1), 1) := by decide +kernel
theorem dX11_chance_26 : decode cX11_chance 26 = .ok (.ireturn, 1) := by decide +kernel
theorem dX11_chance_27 : decode cX11_chance 27 = .ok (.aload_n 0, 1) := by decide +kernel
theorem dX11_chance_28 : decode cX11_chance 28 = .ok (.getfield 56, 3) := by decide +kernel
theorem dX11_chance_31 : decode cX11_chance 31 = .ok (.aload_n 0, 1) := by decide +kernel
theorem dX11_chance_32 : decode cX11_chance 32 = .ok (.getfield 38, 3) := by decide +kernel
theorem dX11_chance_35 : decode cX11_chance 35 = .ok (.iload_n 1, 1) := by decide +kernel
theorem dX11_chance_36 : decode cX11_chance 36 = .ok (.iload_n 2, 1) := by decide +kernel
theorem dX11_chance_37 : decode cX11_chance 37 = .ok (.iconst 0, 1) := by decide +kernel
theorem dX11_chance_38 : decode cX11_chance 38 = .ok (.invokevirtual 188, 3) := by decide +kernel
theorem dX11_chance_41 : decode cX11_chance 41 = .ok (.ifCond .ne 5, 3) := by decide +kernel
theorem dX11_chance_44 : decode cX11_chance 44 = .ok (.iconst (-1), 1) := by decide +kernel
theorem dX11_chance_45 : decode cX11_chance 45 = .ok (.ireturn, 1) := by decide +kernel
theorem dX11_chance_46 : decode cX11_chance 46 = .ok (.iload_n 3, 1) := by decide +kernel
theorem dX11_chance_47 : decode cX11_chance 47 = .ok (.ifCond .ne 13, 3) := by decide +kernel
theorem dX11_chance_50 : decode cX11_chance 50 = .ok (.aload_n 0, 1) := by decide +kernel
theorem dX11_chance_51 : decode cX11_chance 51 = .ok (.getfield 56, 3) := by decide +kernel
theorem dX11_chance_54 : decode cX11_chance 54 = .ok (.getfield 192, 3) := by decide +kernel
theorem dX11_chance_57 : decode cX11_chance 57 = .ok (.goto 10, 3) := by decide +kernel
theorem dX11_chance_60 : decode cX11_chance 60 = .ok (.aload_n 0, 1) := by decide +kernel
theorem dX11_chance_61 : decode cX11_chance 61 = .ok (.getfield 56, 3) := by decide +kernel
theorem dX11_chance_64 : decode cX11_chance 64 = .ok (.getfield 195, 3) := by decide +kernel
theorem dX11_chance_67 : decode cX11_chance 67 = .ok (.ireturn, 1) := by decide +kernel
theorem dX11_rest_0 : decode cX11_rest 0 = .ok (.iload_n 1, 1) := by decide +kernel
theorem dX11_rest_1 : decode cX11_rest 1 = .ok (.ifCond .lt 8, 3) := by decide +kernel
theorem dX11_rest_4 : decode cX11_rest 4 = .ok (.iload_n 1, 1) := by decide +kernel
theorem dX11_rest_5 : decode cX11_rest 5 = .ok (.iconst 2, 1) := by decide +kernel
theorem dX11_rest_6 : decode cX11_rest 6 = .ok (.if_icmp .le 5, 3) := by decide +kernel
theorem dX11_rest_9 : decode cX11_rest 9 = .ok (.iconst (-1), 1) := by decide +kernel
theorem dX11_rest_10 : decode cX11_rest 10 = .ok (.ireturn, 1) := by decide +kernel
theorem dX11_rest_11 : decode cX11_rest 11 = .ok (.aload_n 0, 1) := by decide +kernel
theorem dX11_rest_12 : decode cX11_rest 12 = .ok (.getfield 65, 3) := by decide +kernel
theorem dX11_rest_15 : decode cX11_rest 15 = .ok (.invokevirtual 198, 3) := by decide +kernel
theorem dX11_rest_18 : decode cX11_rest 18 = .ok (.ifCond .eq 6, 3) := by decide +kernel
theorem dX11_rest_21 : decode cX11_rest 21 = .ok (.bipush (-2), 2) := by decide +kernel
theorem dX11_rest_23 : decode cX11_rest 23 = .ok (.ireturn, 1) := by decide +kernel
theorem dX11_rest_24 : decode cX11_rest 24 = .ok (.aload_n 0, 1) := by decide +kernel
theorem dX11_rest_25 : decode cX11_rest 25 = .ok (.getfield 65, 3) := by decide +kernel
theorem dX11_rest_28 : decode cX11_rest 28 = .ok (.iconst (-1), 1) := by decide +kernel
theorem dX11_rest_29 : decode cX11_rest 29 = .ok (.invokevirtual 201, 3) := by decide +kernel
theorem dX11_rest_32 : decode cX11_rest 32 = .ok (.pop, 1) := by decide +kernel
theorem dX11_rest_33 : decode cX11_rest 33 = .ok (.iload_n 1, 1) := by decide +kernel
theorem dX11_rest_34 : decode cX11_rest 34 = .ok (.ifCond .ne 11, 3) := by decide +kernel
theorem dX11_rest_37 : decode cX11_rest 37 = .ok (.aload_n 0, 1) := by decide +kernel
theorem dX11_rest_38 : decode cX11_rest 38 = .ok (.getfield 65, 3) := by decide +kernel
theorem dX11_rest_41 : decode cX11_rest 41 = .ok (.getfield 204, 3) := by decide +kernel
theorem dX11_rest_44 : decode cX11_rest 44 = .ok (.ireturn, 1) := by decide +kernel
theorem dX11_rest_45 : decode cX11_rest 45 = .ok (.aload_n 0, 1) := by decide +kernel
theorem dX11_rest_46 : decode cX11_rest 46 = .ok (.getfield 65, 3) := by decide +kernel
theorem dX11_rest_49 : decode cX11_rest 49 = .ok (.getfield 204, 3) := by decide +kernel
theorem dX11_rest_52 : decode cX11_rest 52 = .ok (.ifCond .ne 5, 3) := by decide +kernel
theorem dX11_rest_55 : decode cX11_rest 55 = .ok (.iconst (-1), 1) := by decide +kernel
theorem dX11_rest_56 : decode cX11_rest 56 = .ok (.ireturn, 1) := by decide +kernel
theorem dX11_rest_57 : decode cX11_rest 57 = .ok (.iload_n 1, 1) := by decide +kernel
theorem dX11_rest_58 : decode cX11_rest 58 = .ok (.iconst 1, 1) := by decide +kernel
theorem dX11_rest_59 : decode cX11_rest 59 = .ok (.if_icmp .ne 13, 3) := by decide +kernel
theorem dX11_rest_62 : decode cX11_rest 62 = .ok (.aload_n 0, 1) := by decide +kernel
theorem dX11_rest_63 : decode cX11_rest 63 = .ok (.getfield 65, 3) := by decide +kernel
theorem dX11_rest_66 : decode cX11_rest 66 = .ok (.getfield 205, 3) := by decide +kernel
theorem dX11_rest_69 : decode cX11_rest 69 = .ok (.goto 10, 3) := by decide +kernel
theorem dX11_rest_72 : decode cX11_rest 72 = .ok (.aload_n 0, 1) := by decide +kernel
theorem dX11_rest_73 : decode cX11_rest 73 = .ok (.getfield 65, 3) := by decide +kernel
theorem dX11_rest_76 : decode cX11_rest 76 = .ok (.getfield 208, 3) := by decide +kernel
theorem dX11_rest_79 : decode cX11_rest 79 = .ok (.ireturn, 1) := by decide +kernel
theorem dX11_stands_0 : decode cX11_stands 0 = .ok (.iload_n 1, 1) := by decide +kernel
theorem dX11_stands_1 : decode cX11_stands 1 = .ok (.ifCond .lt 11, 3) := by decide +kernel
theorem dX11_stands_4 : decode cX11_stands 4 = .ok (.aload_n 0, 1) := by decide +kernel
theorem dX11_stands_5 : decode cX11_stands 5 = .ok (.iload_n 2, 1) := by decide +kernel
theorem dX11_stands_6 : decode cX11_stands 6 = .ok (.invokevirtual 147, 3) := by decide +kernel
theorem dX11_stands_9 : decode cX11_stands 9 = .ok (.ifCond .ne 6, 3) := by decide +kernel
theorem dX11_stands_12 : decode cX11_stands 12 = .ok (.bipush (-3), 2) := by decide +kernel
theorem dX11_stands_14 : decode cX11_stands 14 = .ok (.ireturn, 1) := by decide +kernel
theorem dX11_stands_15 : decode cX11_stands 15 = .ok (.aload_n 0, 1) := by decide +kernel
theorem dX11_stands_16 : decode cX11_stands 16 = .ok (.getfield 65, 3) := by decide +kernel
theorem dX11_stands_19 : decode cX11_stands 19 = .ok (.invokevirtual 198, 3) := by decide +kernel
theorem dX11_stands_22 : decode cX11_stands 22 = .ok (.ifCond .eq 6, 3) := by decide +kernel
theorem dX11_stands_25 : decode cX11_stands 25 = .ok (.bipush (-2), 2) := by decide +kernel
theorem dX11_stands_27 : decode cX11_stands 27 = .ok (.ireturn, 1) := by decide +kernel
theorem dX11_stands_28 : decode cX11_stands 28 = .ok (.aload_n 0, 1) := by decide +kernel
theorem dX11_stands_29 : decode cX11_stands 29 = .ok (.getfield 65, 3) := by decide +kernel
theorem dX11_stands_32 : decode cX11_stands 32 = .ok (.iload_n 1, 1) := by decide +kernel
theorem dX11_stands_33 : decode cX11_stands 33 = .ok (.invokevirtual 201, 3) := by decide +kernel
theorem dX11_stands_36 : decode cX11_stands 36 = .ok (.ifCond .eq 15, 3) := by decide +kernel
theorem dX11_stands_39 : decode cX11_stands 39 = .ok (.aload_n 0, 1) := by decide +kernel
theorem dX11_stands_40 : decode cX11_stands 40 = .ok (.getfield 65, 3) := by decide +kernel
theorem dX11_stands_43 : decode cX11_stands 43 = .ok (.getfield 211, 3) := by decide +kernel
theorem dX11_stands_46 : decode cX11_stands 46 = .ok (.iload_n 2, 1) := by decide +kernel
theorem dX11_stands_47 : decode cX11_stands 47 = .ok (.iaload, 1) := by decide +kernel
theorem dX11_stands_48 : decode cX11_stands 48 = .ok (.goto 5, 3) := by decide +kernel
theorem dX11_stands_51 : decode cX11_stands 51 = .ok (.bipush (-3), 2) := by decide +kernel
theorem dX11_stands_53 : decode cX11_stands 53 = .ok (.ireturn, 1) := by decide +kernel
theorem dX11_made_0 : decode cX11_made 0 = .ok (.iload_n 1, 1) := by decide +kernel
theorem dX11_made_1 : decode cX11_made 1 = .ok (.ifCond .lt 18, 3) := by decide +kernel
theorem dX11_made_4 : decode cX11_made 4 = .ok (.iload_n 1, 1) := by decide +kernel
theorem dX11_made_5 : decode cX11_made 5 = .ok (.bipush 40, 2) := by decide +kernel
theorem dX11_made_7 : decode cX11_made 7 = .ok (.if_icmp .gt 12, 3) := by decide +kernel
theorem dX11_made_10 : decode cX11_made 10 = .ok (.iload_n 2, 1) := by decide +kernel
theorem dX11_made_11 : decode cX11_made 11 = .ok (.ifCond .lt 8, 3) := by decide +kernel
theorem dX11_made_14 : decode cX11_made 14 = .ok (.iload_n 2, 1) := by decide +kernel
theorem dX11_made_15 : decode cX11_made 15 = .ok (.iconst 4, 1) := by decide +kernel
theorem dX11_made_16 : decode cX11_made 16 = .ok (.if_icmp .le 5, 3) := by decide +kernel
theorem dX11_made_19 : decode cX11_made 19 = .ok (.iconst (-1), 1) := by decide +kernel
theorem dX11_made_20 : decode cX11_made 20 = .ok (.ireturn, 1) := by decide +kernel
theorem dX11_made_21 : decode cX11_made 21 = .ok (.iload_n 2, 1) := by decide +kernel
theorem dX11_made_22 : decode cX11_made 22 = .ok (.iconst 4, 1) := by decide +kernel
theorem dX11_made_23 : decode cX11_made 23 = .ok (.if_icmp .ne 16, 3) := by decide +kernel
theorem dX11_made_26 : decode cX11_made 26 = .ok (.aload_n 0, 1) := by decide +kernel
theorem dX11_made_27 : decode cX11_made 27 = .ok (.getfield 56, 3) := by decide +kernel
theorem dX11_made_30 : decode cX11_made 30 = .ok (.aload_n 0, 1) := by decide +kernel
theorem dX11_made_31 : decode cX11_made 31 = .ok (.getfield 38, 3) := by decide +kernel
theorem dX11_made_34 : decode cX11_made 34 = .ok (.iload_n 1, 1) := by decide +kernel
theorem dX11_made_35 : decode cX11_made 35 = .ok (.invokevirtual 214, 3) := by decide +kernel
theorem dX11_made_38 : decode cX11_made 38 = .ok (.ireturn, 1) := by decide +kernel
theorem dX11_made_39 : decode cX11_made 39 = .ok (.aload_n 0, 1) := by decide +kernel
theorem dX11_made_40 : decode cX11_made 40 = .ok (.getfield 56, 3) := by decide +kernel
theorem dX11_made_43 : decode cX11_made 43 = .ok (.aload_n 0, 1) := by decide +kernel
theorem dX11_made_44 : decode cX11_made 44 = .ok (.getfield 38, 3) := by decide +kernel
theorem dX11_made_47 : decode cX11_made 47 = .ok (.iload_n 1, 1) := by decide +kernel
theorem dX11_made_48 : decode cX11_made 48 = .ok (.iload_n 2, 1) := by decide +kernel
theorem dX11_made_49 : decode cX11_made 49 = .ok (.ifCond .ne 13, 3) := by decide +kernel
theorem dX11_made_52 : decode cX11_made 52 = .ok (.aload_n 0, 1) := by decide +kernel
theorem dX11_made_53 : decode cX11_made 53 = .ok (.getfield 19, 3) := by decide +kernel
theorem dX11_made_56 : decode cX11_made 56 = .ok (.getfield 117, 3) := by decide +kernel
theorem dX11_made_59 : decode cX11_made 59 = .ok (.goto 6, 3) := by decide +kernel
theorem dX11_made_62 : decode cX11_made 62 = .ok (.iload_n 2, 1) := by decide +kernel
theorem dX11_made_63 : decode cX11_made 63 = .ok (.iconst 1, 1) := by decide +kernel
theorem dX11_made_64 : decode cX11_made 64 = .ok (.isub, 1) := by decide +kernel
theorem dX11_made_65 : decode cX11_made 65 = .ok (.invokevirtual 217, 3) := by decide +kernel
theorem dX11_made_68 : decode cX11_made 68 = .ok (.ireturn, 1) := by decide +kernel
theorem dX11_law_0 : decode cX11_law 0 = .ok (.iload_n 1, 1) := by decide +kernel
theorem dX11_law_1 : decode cX11_law 1 = .ok (.ifCond .lt 9, 3) := by decide +kernel
theorem dX11_law_4 : decode cX11_law 4 = .ok (.iload_n 1, 1) := by decide +kernel
theorem dX11_law_5 : decode cX11_law 5 = .ok (.bipush 40, 2) := by decide +kernel
theorem dX11_law_7 : decode cX11_law 7 = .ok (.if_icmp .le 5, 3) := by decide +kernel
theorem dX11_law_10 : decode cX11_law 10 = .ok (.iconst (-1), 1) := by decide +kernel
theorem dX11_law_11 : decode cX11_law 11 = .ok (.ireturn, 1) := by decide +kernel
theorem dX11_law_12 : decode cX11_law 12 = .ok (.iconst 0, 1) := by decide +kernel
theorem dX11_law_13 : decode cX11_law 13 = .ok (.istore_n 2, 1) := by decide +kernel
theorem dX11_law_14 : decode cX11_law 14 = .ok (.aload_n 0, 1) := by decide +kernel
theorem dX11_law_15 : decode cX11_law 15 = .ok (.getfield 56, 3) := by decide +kernel
theorem dX11_law_18 : decode cX11_law 18 = .ok (.aload_n 0, 1) := by decide +kernel
theorem dX11_law_19 : decode cX11_law 19 = .ok (.getfield 38, 3) := by decide +kernel
theorem dX11_law_22 : decode cX11_law 22 = .ok (.iload_n 1, 1) := by decide +kernel
theorem dX11_law_23 : decode cX11_law 23 = .ok (.iconst 0, 1) := by decide +kernel
theorem dX11_law_24 : decode cX11_law 24 = .ok (.invokevirtual 217, 3) := by decide +kernel
theorem dX11_law_27 : decode cX11_law 27 = .ok (.istore_n 3, 1) := by decide +kernel
theorem dX11_law_28 : decode cX11_law 28 = .ok (.iconst 1, 1) := by decide +kernel
theorem dX11_law_29 : decode cX11_law 29 = .ok (.istore 4, 2) := by decide +kernel
theorem dX11_law_31 : decode cX11_law 31 = .ok (.iload 4, 2) := by decide +kernel
theorem dX11_law_33 : decode cX11_law 33 = .ok (.iconst 2, 1) := by decide +kernel
theorem dX11_law_34 : decode cX11_law 34 = .ok (.if_icmp .gt 37, 3) := by decide +kernel
theorem dX11_law_37 : decode cX11_law 37 = .ok (.aload_n 0, 1) := by decide +kernel
theorem dX11_law_38 : decode cX11_law 38 = .ok (.getfield 56, 3) := by decide +kernel
theorem dX11_law_41 : decode cX11_law 41 = .ok (.aload_n 0, 1) := by decide +kernel
theorem dX11_law_42 : decode cX11_law 42 = .ok (.getfield 38, 3) := by decide +kernel
theorem dX11_law_45 : decode cX11_law 45 = .ok (.iload_n 1, 1) := by decide +kernel
theorem dX11_law_46 : decode cX11_law 46 = .ok (.iload 4, 2) := by decide +kernel
theorem dX11_law_48 : decode cX11_law 48 = .ok (.invokevirtual 217, 3) := by decide +kernel
theorem dX11_law_51 : decode cX11_law 51 = .ok (.istore 5, 2) := by decide +kernel
theorem dX11_law_53 : decode cX11_law 53 = .ok (.iload 5, 2) := by decide +kernel
theorem dX11_law_55 : decode cX11_law 55 = .ok (.iload_n 3, 1) := by decide +kernel
theorem dX11_law_56 : decode cX11_law 56 = .ok (.if_icmp .le 9, 3) := by decide +kernel
theorem dX11_law_59 : decode cX11_law 59 = .ok (.iload 5, 2) := by decide +kernel
theorem dX11_law_61 : decode cX11_law 61 = .ok (.istore_n 3, 1) := by decide +kernel
theorem dX11_law_62 : decode cX11_law 62 = .ok (.iload 4, 2) := by decide +kernel
theorem dX11_law_64 : decode cX11_law 64 = .ok (.istore_n 2, 1) := by decide +kernel
theorem dX11_law_65 : decode cX11_law 65 = .ok (.iinc 4 1, 3) := by decide +kernel
theorem dX11_law_68 : decode cX11_law 68 = .ok (.goto (-37), 3) := by decide +kernel
theorem dX11_law_71 : decode cX11_law 71 = .ok (.iload_n 2, 1) := by decide +kernel
theorem dX11_law_72 : decode cX11_law 72 = .ok (.ireturn, 1) := by decide +kernel
theorem dX11_used_0 : decode cX11_used 0 = .ok (.aload_n 0, 1) := by decide +kernel
theorem dX11_used_1 : decode cX11_used 1 = .ok (.iload_n 1, 1) := by decide +kernel
theorem dX11_used_2 : decode cX11_used 2 = .ok (.invokevirtual 124, 3) := by decide +kernel
theorem dX11_used_5 : decode cX11_used 5 = .ok (.ifCond .eq 35, 3) := by decide +kernel
theorem dX11_used_8 : decode cX11_used 8 = .ok (.iload_n 2, 1) := by decide +kernel
theorem dX11_used_9 : decode cX11_used 9 = .ok (.iconst 1, 1) := by decide +kernel
theorem dX11_used_10 : decode cX11_used 10 = .ok (.if_icmp .lt 30, 3) := by decide +kernel
theorem dX11_used_13 : decode cX11_used 13 = .ok (.iload_n 2, 1) := by decide +kernel
theorem dX11_used_14 : decode cX11_used 14 = .ok (.bipush 30, 2) := by decide +kernel
theorem dX11_used_16 : decode cX11_used 16 = .ok (.if_icmp .gt 24, 3) := by decide +kernel
theorem dX11_used_19 : decode cX11_used 19 = .ok (.iload_n 3, 1) := by decide +kernel
theorem dX11_used_20 : decode cX11_used 20 = .ok (.ifCond .lt 20, 3) := by decide +kernel
theorem dX11_used_23 : decode cX11_used 23 = .ok (.iload_n 3, 1) := by decide +kernel
theorem dX11_used_24 : decode cX11_used 24 = .ok (.bipush 100, 2) := by decide +kernel
theorem dX11_used_26 : decode cX11_used 26 = .ok (.if_icmp .gt 14, 3) := by decide +kernel
theorem dX11_used_29 : decode cX11_used 29 = .ok (.iload 4, 2) := by decide +kernel
theorem dX11_used_31 : decode cX11_used 31 = .ok (.ifCond .lt 9, 3) := by decide +kernel
theorem dX11_used_34 : decode cX11_used 34 = .ok (.iload 4, 2) := by decide +kernel
theorem dX11_used_36 : decode cX11_used 36 = .ok (.iconst 1, 1) := by decide +kernel
theorem dX11_used_37 : decode cX11_used 37 = .ok (.if_icmp .le 5, 3) := by decide +kernel
theorem dX11_used_40 : decode cX11_used 40 = .ok (.iconst (-1), 1) := by decide +kernel
theorem dX11_used_41 : decode cX11_used 41 = .ok (.ireturn, 1) := by decide +kernel
theorem dX11_used_42 : decode cX11_used 42 = .ok (.aload_n 0, 1) := by decide +kernel
theorem dX11_used_43 : decode cX11_used 43 = .ok (.getfield 38, 3) := by decide +kernel
theorem dX11_used_46 : decode cX11_used 46 = .ok (.getfield 138, 3) := by decide +kernel
theorem dX11_used_49 : decode cX11_used 49 = .ok (.iload_n 1, 1) := by decide +kernel
theorem dX11_used_50 : decode cX11_used 50 = .ok (.baload, 1) := by decide +kernel
theorem dX11_used_51 : decode cX11_used 51 = .ok (.ifCond .eq 5, 3) := by decide +kernel
theorem dX11_used_54 : decode cX11_used 54 = .ok (.iconst (-1), 1) := by decide +kernel
theorem dX11_used_55 : decode cX11_used 55 = .ok (.ireturn, 1) := by decide +kernel
theorem dX11_used_56 : decode cX11_used 56 = .ok (.aload_n 0, 1) := by decide +kernel
theorem dX11_used_57 : decode cX11_used 57 = .ok (.getfield 56, 3) := by decide +kernel
theorem dX11_used_60 : decode cX11_used 60 = .ok (.aload_n 0, 1) := by decide +kernel
theorem dX11_used_61 : decode cX11_used 61 = .ok (.getfield 38, 3) := by decide +kernel
theorem dX11_used_64 : decode cX11_used 64 = .ok (.iload_n 1, 1) := by decide +kernel
theorem dX11_used_65 : decode cX11_used 65 = .ok (.iload_n 2, 1) := by decide +kernel
theorem dX11_used_66 : decode cX11_used 66 = .ok (.iload_n 3, 1) := by decide +kernel
theorem dX11_used_67 : decode cX11_used 67 = .ok (.invokevirtual 220, 3) := by decide +kernel
theorem dX11_used_70 : decode cX11_used 70 = .ok (.istore 5, 2) := by decide +kernel
theorem dX11_used_72 : decode cX11_used 72 = .ok (.iload 4, 2) := by decide +kernel
theorem dX11_used_74 : decode cX11_used 74 = .ok (.ifCond .ne 13, 3) := by decide +kernel
theorem dX11_used_77 : decode cX11_used 77 = .ok (.aload_n 0, 1) := by decide +kernel
theorem dX11_used_78 : decode cX11_used 78 = .ok (.getfield 56, 3) := by decide +kernel
theorem dX11_used_81 : decode cX11_used 81 = .ok (.getfield 224, 3) := by decide +kernel
theorem dX11_used_84 : decode cX11_used 84 = .ok (.goto 5, 3) := by decide +kernel
theorem dX11_used_87 : decode cX11_used 87 = .ok (.iload 5, 2) := by decide +kernel
theorem dX11_used_89 : decode cX11_used 89 = .ok (.ireturn, 1) := by decide +kernel
theorem dX11_keeps_0 : decode cX11_keeps 0 = .ok (.aload_n 0, 1) := by decide +kernel
theorem dX11_keeps_1 : decode cX11_keeps 1 = .ok (.iload_n 1, 1) := by decide +kernel
theorem dX11_keeps_2 : decode cX11_keeps 2 = .ok (.invokevirtual 124, 3) := by decide +kernel
theorem dX11_keeps_5 : decode cX11_keeps 5 = .ok (.ifCond .eq 16, 3) := by decide +kernel
theorem dX11_keeps_8 : decode cX11_keeps 8 = .ok (.aload_n 0, 1) := by decide +kernel
theorem dX11_keeps_9 : decode cX11_keeps 9 = .ok (.getfield 38, 3) := by decide +kernel
theorem dX11_keeps_12 : decode cX11_keeps 12 = .ok (.getfield 128, 3) := by decide +kernel
theorem dX11_keeps_15 : decode cX11_keeps 15 = .ok (.iload_n 1, 1) := by decide +kernel
theorem dX11_keeps_16 : decode cX11_keeps 16 = .ok (.iaload, 1) := by decide +kernel
theorem dX11_keeps_17 : decode cX11_keeps 17 = .ok (.iconst (-1), 1) := by decide +kernel
theorem dX11_keeps_18 : decode cX11_keeps 18 = .ok (.if_icmp .ne 5, 3) := by decide +kernel
theorem dX11_keeps_21 : decode cX11_keeps 21 = .ok (.iconst (-1), 1) := by decide +kernel
theorem dX11_keeps_22 : decode cX11_keeps 22 = .ok (.ireturn, 1) := by decide +kernel
theorem dX11_keeps_23 : decode cX11_keeps 23 = .ok (.aload_n 0, 1) := by decide +kernel
theorem dX11_keeps_24 : decode cX11_keeps 24 = .ok (.getfield 38, 3) := by decide +kernel
theorem dX11_keeps_27 : decode cX11_keeps 27 = .ok (.getfield 128, 3) := by decide +kernel
theorem dX11_keeps_30 : decode cX11_keeps 30 = .ok (.iload_n 1, 1) := by decide +kernel
theorem dX11_keeps_31 : decode cX11_keeps 31 = .ok (.iaload, 1) := by decide +kernel
theorem dX11_keeps_32 : decode cX11_keeps 32 = .ok (.istore_n 2, 1) := by decide +kernel
theorem dX11_keeps_33 : decode cX11_keeps 33 = .ok (.iconst 0, 1) := by decide +kernel
theorem dX11_keeps_34 : decode cX11_keeps 34 = .ok (.istore_n 3, 1) := by decide +kernel
theorem dX11_keeps_35 : decode cX11_keeps 35 = .ok (.iload_n 3, 1) := by decide +kernel
theorem dX11_keeps_36 : decode cX11_keeps 36 = .ok (.aload_n 0, 1) := by decide +kernel
theorem dX11_keeps_37 : decode cX11_keeps 37 = .ok (.getfield 38, 3) := by decide +kernel
theorem dX11_keeps_40 : decode cX11_keeps 40 = .ok (.getfield 144, 3) := by decide +kernel
theorem dX11_keeps_43 : decode cX11_keeps 43 = .ok (.iload_n 1, 1) := by decide +kernel
theorem dX11_keeps_44 : decode cX11_keeps 44 = .ok (.iaload, 1) := by decide +kernel
theorem dX11_keeps_45 : decode cX11_keeps 45 = .ok (.if_icmp .gt 45, 3) := by decide +kernel
theorem dX11_keeps_48 : decode cX11_keeps 48 = .ok (.aload_n 0, 1) := by decide +kernel
theorem dX11_keeps_49 : decode cX11_keeps 49 = .ok (.getfield 56, 3) := by decide +kernel
theorem dX11_keeps_52 : decode cX11_keeps 52 = .ok (.aload_n 0, 1) := by decide +kernel
theorem dX11_keeps_53 : decode cX11_keeps 53 = .ok (.getfield 38, 3) := by decide +kernel
theorem dX11_keeps_56 : decode cX11_keeps 56 = .ok (.iload_n 1, 1) := by decide +kernel
theorem dX11_keeps_57 : decode cX11_keeps 57 = .ok (.iload_n 2, 1) := by decide +kernel
theorem dX11_keeps_58 : decode cX11_keeps 58 = .ok (.iload_n 3, 1) := by decide +kernel
theorem dX11_keeps_59 : decode cX11_keeps 59 = .ok (.invokevirtual 188, 3) := by decide +kernel
theorem dX11_keeps_62 : decode cX11_keeps 62 = .ok (.ifCond .eq 22, 3) := by decide +kernel
theorem dX11_keeps_65 : decode cX11_keeps 65 = .ok (.aload_n 0, 1) := by decide +kernel
theorem dX11_keeps_66 : decode cX11_keeps 66 = .ok (.getfield 56, 3) := by decide +kernel
theorem dX11_keeps_69 : decode cX11_keeps 69 = .ok (.getfield 192, 3) := by decide +kernel
theorem dX11_keeps_72 : decode cX11_keeps 72 = .ok (.aload_n 0, 1) := by decide +kernel
theorem dX11_keeps_73 : decode cX11_keeps 73 = .ok (.getfield 56, 3) := by decide +kernel
theorem dX11_keeps_76 : decode cX11_keeps 76 = .ok (.getfield 195, 3) := by decide +kernel
theorem dX11_keeps_79 : decode cX11_keeps 79 = .ok (.if_icmp .ne 5, 3) := by decide +kernel
theorem dX11_keeps_82 : decode cX11_keeps 82 = .ok (.iload_n 3, 1) := by decide +kernel
theorem dX11_keeps_83 : decode cX11_keeps 83 = .ok (.ireturn, 1) := by decide +kernel
theorem dX11_keeps_84 : decode cX11_keeps 84 = .ok (.iinc 3 1, 3) := by decide +kernel
theorem dX11_keeps_87 : decode cX11_keeps 87 = .ok (.goto (-52), 3) := by decide +kernel
theorem dX11_keeps_90 : decode cX11_keeps 90 = .ok (.iconst (-1), 1) := by decide +kernel
theorem dX11_keeps_91 : decode cX11_keeps 91 = .ok (.ireturn, 1) := by decide +kernel
theorem dX11_lift_0 : decode cX11_lift 0 = .ok (.aload_n 0, 1) := by decide +kernel
theorem dX11_lift_1 : decode cX11_lift 1 = .ok (.iload_n 1, 1) := by decide +kernel
theorem dX11_lift_2 : decode cX11_lift 2 = .ok (.invokevirtual 147, 3) := by decide +kernel
theorem dX11_lift_5 : decode cX11_lift 5 = .ok (.ifCond .eq 16, 3) := by decide +kernel
theorem dX11_lift_8 : decode cX11_lift 8 = .ok (.aload_n 0, 1) := by decide +kernel
theorem dX11_lift_9 : decode cX11_lift 9 = .ok (.iload_n 2, 1) := by decide +kernel
theorem dX11_lift_10 : decode cX11_lift 10 = .ok (.invokevirtual 147, 3) := by decide +kernel
theorem dX11_lift_13 : decode cX11_lift 13 = .ok (.ifCond .eq 8, 3) := by decide +kernel
theorem dX11_lift_16 : decode cX11_lift 16 = .ok (.iload_n 1, 1) := by decide +kernel
theorem dX11_lift_17 : decode cX11_lift 17 = .ok (.iload_n 2, 1) := by decide +kernel
theorem dX11_lift_18 : decode cX11_lift 18 = .ok (.if_icmp .ne 5, 3) := by decide +kernel
theorem dX11_lift_21 : decode cX11_lift 21 = .ok (.iconst (-1), 1) := by decide +kernel
theorem dX11_lift_22 : decode cX11_lift 22 = .ok (.ireturn, 1) := by decide +kernel
theorem dX11_lift_23 : decode cX11_lift 23 = .ok (.iconst 0, 1) := by decide +kernel
theorem dX11_lift_24 : decode cX11_lift 24 = .ok (.istore_n 3, 1) := by decide +kernel
theorem dX11_lift_25 : decode cX11_lift 25 = .ok (.iconst 0, 1) := by decide +kernel
theorem dX11_lift_26 : decode cX11_lift 26 = .ok (.istore 4, 2) := by decide +kernel
theorem dX11_lift_28 : decode cX11_lift 28 = .ok (.iload 4, 2) := by decide +kernel
theorem dX11_lift_30 : decode cX11_lift 30 = .ok (.aload_n 0, 1) := by decide +kernel
theorem dX11_lift_31 : decode cX11_lift 31 = .ok (.getfield 19, 3) := by decide +kernel
theorem dX11_lift_34 : decode cX11_lift 34 = .ok (.getfield 227, 3) := by decide +kernel
theorem dX11_lift_37 : decode cX11_lift 37 = .ok (.if_icmp .ge 80, 3) := by decide +kernel
theorem dX11_lift_40 : decode cX11_lift 40 = .ok (.aload_n 0, 1) := by decide +kernel
theorem dX11_lift_41 : decode cX11_lift 41 = .ok (.getfield 19, 3) := by decide +kernel
theorem dX11_lift_44 : decode cX11_lift 44 = .ok (.getfield 230, 3) := by decide +kernel
theorem dX11_lift_47 : decode cX11_lift 47 = .ok (.iload 4, 2) := by decide +kernel
theorem dX11_lift_49 : decode cX11_lift 49 = .ok (.iaload, 1) := by decide +kernel
theorem dX11_lift_50 : decode cX11_lift 50 = .ok (.istore 5, 2) := by decide +kernel
theorem dX11_lift_52 : decode cX11_lift 52 = .ok (.iload 5, 2) := by decide +kernel
theorem dX11_lift_54 : decode cX11_lift 54 = .ok (.aload_n 0, 1) := by decide +kernel
theorem dX11_lift_55 : decode cX11_lift 55 = .ok (.getfield 19, 3) := by decide +kernel
theorem dX11_lift_58 : decode cX11_lift 58 = .ok (.getfield 233, 3) := by decide +kernel
theorem dX11_lift_61 : decode cX11_lift 61 = .ok (.iload_n 1, 1) := by decide +kernel
theorem dX11_lift_62 : decode cX11_lift 62 = .ok (.iaload, 1) := by decide +kernel
theorem dX11_lift_63 : decode cX11_lift 63 = .ok (.if_icmp .le 48, 3) := by decide +kernel
theorem dX11_lift_66 : decode cX11_lift 66 = .ok (.iload 5, 2) := by decide +kernel
theorem dX11_lift_68 : decode cX11_lift 68 = .ok (.aload_n 0, 1) := by decide +kernel
theorem dX11_lift_69 : decode cX11_lift 69 = .ok (.getfield 19, 3) := by decide +kernel
theorem dX11_lift_72 : decode cX11_lift 72 = .ok (.getfield 233, 3) := by decide +kernel
theorem dX11_lift_75 : decode cX11_lift 75 = .ok (.iload_n 2, 1) := by decide +kernel
theorem dX11_lift_76 : decode cX11_lift 76 = .ok (.iaload, 1) := by decide +kernel
theorem dX11_lift_77 : decode cX11_lift 77 = .ok (.if_icmp .le 34, 3) := by decide +kernel
theorem dX11_lift_80 : decode cX11_lift 80 = .ok (.iload 5, 2) := by decide +kernel
theorem dX11_lift_82 : decode cX11_lift 82 = .ok (.aload_n 0, 1) := by decide +kernel
theorem dX11_lift_83 : decode cX11_lift 83 = .ok (.getfield 19, 3) := by decide +kernel
theorem dX11_lift_86 : decode cX11_lift 86 = .ok (.getfield 233, 3) := by decide +kernel
theorem dX11_lift_89 : decode cX11_lift 89 = .ok (.iload_n 1, 1) := by decide +kernel
theorem dX11_lift_90 : decode cX11_lift 90 = .ok (.iaload, 1) := by decide +kernel
theorem dX11_lift_91 : decode cX11_lift 91 = .ok (.aload_n 0, 1) := by decide +kernel
theorem dX11_lift_92 : decode cX11_lift 92 = .ok (.getfield 19, 3) := by decide +kernel
theorem dX11_lift_95 : decode cX11_lift 95 = .ok (.getfield 233, 3) := by decide +kernel
theorem dX11_lift_98 : decode cX11_lift 98 = .ok (.iload_n 2, 1) := by decide +kernel
theorem dX11_lift_99 : decode cX11_lift 99 = .ok (.iaload, 1) := by decide +kernel
theorem dX11_lift_100 : decode cX11_lift 100 = .ok (.iadd, 1) := by decide +kernel
theorem dX11_lift_101 : decode cX11_lift 101 = .ok (.if_icmp .gt 10, 3) := by decide +kernel
theorem dX11_lift_104 : decode cX11_lift 104 = .ok (.iload_n 3, 1) := by decide +kernel
theorem dX11_lift_105 : decode cX11_lift 105 = .ok (.iconst 1, 1) := by decide +kernel
theorem dX11_lift_106 : decode cX11_lift 106 = .ok (.iload 4, 2) := by decide +kernel
theorem dX11_lift_108 : decode cX11_lift 108 = .ok (.ishl, 1) := by decide +kernel
theorem dX11_lift_109 : decode cX11_lift 109 = .ok (.ior, 1) := by decide +kernel
theorem dX11_lift_110 : decode cX11_lift 110 = .ok (.istore_n 3, 1) := by decide +kernel
theorem dX11_lift_111 : decode cX11_lift 111 = .ok (.iinc 4 1, 3) := by decide +kernel
theorem dX11_lift_114 : decode cX11_lift 114 = .ok (.goto (-86), 3) := by decide +kernel
theorem dX11_lift_117 : decode cX11_lift 117 = .ok (.iload_n 3, 1) := by decide +kernel
theorem dX11_lift_118 : decode cX11_lift 118 = .ok (.ireturn, 1) := by decide +kernel
theorem dX11_tour_0 : decode cX11_tour 0 = .ok (.aload_n 0, 1) := by decide +kernel
theorem dX11_tour_1 : decode cX11_tour 1 = .ok (.iload_n 1, 1) := by decide +kernel
theorem dX11_tour_2 : decode cX11_tour 2 = .ok (.invokevirtual 147, 3) := by decide +kernel
theorem dX11_tour_5 : decode cX11_tour 5 = .ok (.ifCond .ne 5, 3) := by decide +kernel
theorem dX11_tour_8 : decode cX11_tour 8 = .ok (.iconst (-1), 1) := by decide +kernel
theorem dX11_tour_9 : decode cX11_tour 9 = .ok (.ireturn, 1) := by decide +kernel
theorem dX11_tour_10 : decode cX11_tour 10 = .ok (.iconst 0, 1) := by decide +kernel
theorem dX11_tour_11 : decode cX11_tour 11 = .ok (.istore_n 2, 1) := by decide +kernel
theorem dX11_tour_12 : decode cX11_tour 12 = .ok (.iconst 0, 1) := by decide +kernel
theorem dX11_tour_13 : decode cX11_tour 13 = .ok (.istore_n 3, 1) := by decide +kernel
theorem dX11_tour_14 : decode cX11_tour 14 = .ok (.iload_n 3, 1) := by decide +kernel
theorem dX11_tour_15 : decode cX11_tour 15 = .ok (.aload_n 0, 1) := by decide +kernel
theorem dX11_tour_16 : decode cX11_tour 16 = .ok (.getfield 19, 3) := by decide +kernel
theorem dX11_tour_19 : decode cX11_tour 19 = .ok (.getfield 227, 3) := by decide +kernel
theorem dX11_tour_22 : decode cX11_tour 22 = .ok (.if_icmp .ge 35, 3) := by decide +kernel
theorem dX11_tour_25 : decode cX11_tour 25 = .ok (.aload_n 0, 1) := by decide +kernel
theorem dX11_tour_26 : decode cX11_tour 26 = .ok (.getfield 38, 3) := by decide +kernel
theorem dX11_tour_29 : decode cX11_tour 29 = .ok (.getfield 138, 3) := by decide +kernel
theorem dX11_tour_32 : decode cX11_tour 32 = .ok (.iload_n 3, 1) := by decide +kernel
theorem dX11_tour_33 : decode cX11_tour 33 = .ok (.baload, 1) := by decide +kernel
theorem dX11_tour_34 : decode cX11_tour 34 = .ok (.ifCond .ne 17, 3) := by decide +kernel
theorem dX11_tour_37 : decode cX11_tour 37 = .ok (.iload_n 2, 1) := by decide +kernel
theorem dX11_tour_38 : decode cX11_tour 38 = .ok (.iconst 1, 1) := by decide +kernel
theorem dX11_tour_39 : decode cX11_tour 39 = .ok (.aload_n 0, 1) := by decide +kernel
theorem dX11_tour_40 : decode cX11_tour 40 = .ok (.getfield 19, 3) := by decide +kernel
theorem dX11_tour_43 : decode cX11_tour 43 = .ok (.getfield 141, 3) := by decide +kernel
theorem dX11_tour_46 : decode cX11_tour 46 = .ok (.iload_n 3, 1) := by decide +kernel
theorem dX11_tour_47 : decode cX11_tour 47 = .ok (.iaload, 1) := by decide +kernel
theorem dX11_tour_48 : decode cX11_tour 48 = .ok (.ishl, 1) := by decide +kernel
theorem dX11_tour_49 : decode cX11_tour 49 = .ok (.ior, 1) := by decide +kernel
theorem dX11_tour_50 : decode cX11_tour 50 = .ok (.istore_n 2, 1) := by decide +kernel
theorem dX11_tour_51 : decode cX11_tour 51 = .ok (.iinc 3 1, 3) := by decide +kernel
theorem dX11_tour_54 : decode cX11_tour 54 = .ok (.goto (-40), 3) := by decide +kernel
theorem dX11_tour_57 : decode cX11_tour 57 = .ok (.aload_n 0, 1) := by decide +kernel
theorem dX11_tour_58 : decode cX11_tour 58 = .ok (.getfield 19, 3) := by decide +kernel
theorem dX11_tour_61 : decode cX11_tour 61 = .ok (.getfield 171, 3) := by decide +kernel
theorem dX11_tour_64 : decode cX11_tour 64 = .ok (.aload_n 0, 1) := by decide +kernel
theorem dX11_tour_65 : decode cX11_tour 65 = .ok (.getfield 38, 3) := by decide +kernel
theorem dX11_tour_68 : decode cX11_tour 68 = .ok (.getfield 150, 3) := by decide +kernel
theorem dX11_tour_71 : decode cX11_tour 71 = .ok (.iload_n 1, 1) := by decide +kernel
theorem dX11_tour_72 : decode cX11_tour 72 = .ok (.iaload, 1) := by decide +kernel
theorem dX11_tour_73 : decode cX11_tour 73 = .ok (.iload_n 2, 1) := by decide +kernel
theorem dX11_tour_74 : decode cX11_tour 74 = .ok (.invokevirtual 236, 3) := by decide +kernel
theorem dX11_tour_77 : decode cX11_tour 77 = .ok (.ireturn, 1) := by decide +kernel
theorem dX11_since_0 : decode cX11_since 0 = .ok (.aload_n 0, 1) := by decide +kernel
theorem dX11_since_1 : decode cX11_since 1 = .ok (.iload_n 1, 1) := by decide +kernel
theorem dX11_since_2 : decode cX11_since 2 = .ok (.invokevirtual 124, 3) := by decide +kernel
theorem dX11_since_5 : decode cX11_since 5 = .ok (.ifCond .eq 39, 3) := by decide +kernel
theorem dX11_since_8 : decode cX11_since 8 = .ok (.aload_n 0, 1) := by decide +kernel
theorem dX11_since_9 : decode cX11_since 9 = .ok (.getfield 38, 3) := by decide +kernel
theorem dX11_since_12 : decode cX11_since 12 = .ok (.getfield 128, 3) := by decide +kernel
theorem dX11_since_15 : decode cX11_since 15 = .ok (.iload_n 1, 1) := by decide +kernel
theorem dX11_since_16 : decode cX11_since 16 = .ok (.iaload, 1) := by decide +kernel
theorem dX11_since_17 : decode cX11_since 17 = .ok (.iconst (-1), 1) := by decide +kernel
theorem dX11_since_18 : decode cX11_since 18 = .ok (.if_icmp .eq 26, 3) := by decide +kernel
theorem dX11_since_21 : decode cX11_since 21 = .ok (.aload_n 0, 1) := by decide +kernel
theorem dX11_since_22 : decode cX11_since 22 = .ok (.getfield 38, 3) := by decide +kernel
theorem dX11_since_25 : decode cX11_since 25 = .ok (.getfield 114, 3) := by decide +kernel
theorem dX11_since_28 : decode cX11_since 28 = .ok (.iconst 1, 1) := by decide +kernel
theorem dX11_since_29 : decode cX11_since 29 = .ok (.if_icmp .lt 15, 3) := by decide +kernel
theorem dX11_since_32 : decode cX11_since 32 = .ok (.aload_n 0, 1) := by decide +kernel
theorem dX11_since_33 : decode cX11_since 33 = .ok (.getfield 38, 3) := by decide +kernel
theorem dX11_since_36 : decode cX11_since 36 = .ok (.getfield 114, 3) := by decide +kernel
theorem dX11_since_39 : decode cX11_since 39 = .ok (.bipush 60, 2) := by decide +kernel
theorem dX11_since_41 : decode cX11_since 41 = .ok (.if_icmp .le 5, 3) := by decide +kernel
theorem dX11_since_44 : decode cX11_since 44 = .ok (.iconst (-1), 1) := by decide +kernel
theorem dX11_since_45 : decode cX11_since 45 = .ok (.ireturn, 1) := by decide +kernel
theorem dX11_since_46 : decode cX11_since 46 = .ok (.iconst (-1), 1) := by decide +kernel
theorem dX11_since_47 : decode cX11_since 47 = .ok (.istore_n 2, 1) := by decide +kernel
theorem dX11_since_48 : decode cX11_since 48 = .ok (.aload_n 0, 1) := by decide +kernel
theorem dX11_since_49 : decode cX11_since 49 = .ok (.getfield 38, 3) := by decide +kernel
theorem dX11_since_52 : decode cX11_since 52 = .ok (.getfield 114, 3) := by decide +kernel
theorem dX11_since_55 : decode cX11_since 55 = .ok (.istore_n 3, 1) := by decide +kernel
theorem dX11_since_56 : decode cX11_since 56 = .ok (.iload_n 3, 1) := by decide +kernel
theorem dX11_since_57 : decode cX11_since 57 = .ok (.iconst 1, 1) := by decide +kernel
theorem dX11_since_58 : decode cX11_since 58 = .ok (.if_icmp .lt 32, 3) := by decide +kernel
theorem dX11_since_61 : decode cX11_since 61 = .ok (.aload_n 0, 1) := by decide +kernel
theorem dX11_since_62 : decode cX11_since 62 = .ok (.getfield 38, 3) := by decide +kernel
theorem dX11_since_65 : decode cX11_since 65 = .ok (.iload_n 3, 1) := by decide +kernel
theorem dX11_since_66 : decode cX11_since 66 = .ok (.iload_n 1, 1) := by decide +kernel
theorem dX11_since_67 : decode cX11_since 67 = .ok (.invokevirtual 239, 3) := by decide +kernel
theorem dX11_since_70 : decode cX11_since 70 = .ok (.aload_n 0, 1) := by decide +kernel
theorem dX11_since_71 : decode cX11_since 71 = .ok (.getfield 38, 3) := by decide +kernel
theorem dX11_since_74 : decode cX11_since 74 = .ok (.getfield 128, 3) := by decide +kernel
theorem dX11_since_77 : decode cX11_since 77 = .ok (.iload_n 1, 1) := by decide +kernel
theorem dX11_since_78 : decode cX11_since 78 = .ok (.iaload, 1) := by decide +kernel
theorem dX11_since_79 : decode cX11_since 79 = .ok (.if_icmp .ne 11, 3) := by decide +kernel
theorem dX11_since_82 : decode cX11_since 82 = .ok (.iload_n 3, 1) := by decide +kernel
theorem dX11_since_83 : decode cX11_since 83 = .ok (.istore_n 2, 1) := by decide +kernel
theorem dX11_since_84 : decode cX11_since 84 = .ok (.iinc 3 (-1), 3) := by decide +kernel
theorem dX11_since_87 : decode cX11_since 87 = .ok (.goto (-31), 3) := by decide +kernel
theorem dX11_since_90 : decode cX11_since 90 = .ok (.iload_n 2, 1) := by decide +kernel
theorem dX11_since_91 : decode cX11_since 91 = .ok (.ireturn, 1) := by decide +kernel
theorem dX11_tale_0 : decode cX11_tale 0 = .ok (.iload_n 1, 1) := by decide +kernel
theorem dX11_tale_1 : decode cX11_tale 1 = .ok (.iconst 1, 1) := by decide +kernel
theorem dX11_tale_2 : decode cX11_tale 2 = .ok (.if_icmp .lt 25, 3) := by decide +kernel
theorem dX11_tale_5 : decode cX11_tale 5 = .ok (.iload_n 1, 1) := by decide +kernel
theorem dX11_tale_6 : decode cX11_tale 6 = .ok (.bipush 60, 2) := by decide +kernel
theorem dX11_tale_8 : decode cX11_tale 8 = .ok (.if_icmp .gt 19, 3) := by decide +kernel
theorem dX11_tale_11 : decode cX11_tale 11 = .ok (.aload_n 0, 1) := by decide +kernel
theorem dX11_tale_12 : decode cX11_tale 12 = .ok (.iload_n 2, 1) := by decide +kernel
theorem dX11_tale_13 : decode cX11_tale 13 = .ok (.invokevirtual 124, 3) := by decide +kernel
theorem dX11_tale_16 : decode cX11_tale 16 = .ok (.ifCond .eq 11, 3) := by decide +kernel
theorem dX11_tale_19 : decode cX11_tale 19 = .ok (.aload_n 0, 1) := by decide +kernel
theorem dX11_tale_20 : decode cX11_tale 20 = .ok (.iload_n 3, 1) := by decide +kernel
theorem dX11_tale_21 : decode cX11_tale 21 = .ok (.invokevirtual 181, 3) := by decide +kernel
theorem dX11_tale_24 : decode cX11_tale 24 = .ok (.ifCond .ne 5, 3) := by decide +kernel
theorem dX11_tale_27 : decode cX11_tale 27 = .ok (.iconst (-1), 1) := by decide +kernel
theorem dX11_tale_28 : decode cX11_tale 28 = .ok (.ireturn, 1) := by decide +kernel
theorem dX11_tale_29 : decode cX11_tale 29 = .ok (.aload_n 0, 1) := by decide +kernel
theorem dX11_tale_30 : decode cX11_tale 30 = .ok (.getfield 72, 3) := by decide +kernel
theorem dX11_tale_33 : decode cX11_tale 33 = .ok (.iload_n 1, 1) := by decide +kernel
theorem dX11_tale_34 : decode cX11_tale 34 = .ok (.iload_n 2, 1) := by decide +kernel
theorem dX11_tale_35 : decode cX11_tale 35 = .ok (.iload_n 3, 1) := by decide +kernel
theorem dX11_tale_36 : decode cX11_tale 36 = .ok (.aload_n 0, 1) := by decide +kernel
theorem dX11_tale_37 : decode cX11_tale 37 = .ok (.getfield 242, 3) := by decide +kernel
theorem dX11_tale_40 : decode cX11_tale 40 = .ok (.invokevirtual 245, 3) := by decide +kernel
theorem dX11_tale_43 : decode cX11_tale 43 = .ok (.ireturn, 1) := by decide +kernel
theorem dX11_untell_0 : decode cX11_untell 0 = .ok (.aload_n 0, 1) := by decide +kernel
theorem dX11_untell_1 : decode cX11_untell 1 = .ok (.getfield 72, 3) := by decide +kernel
theorem dX11_untell_4 : decode cX11_untell 4 = .ok (.iload_n 1, 1) := by decide +kernel
theorem dX11_untell_5 : decode cX11_untell 5 = .ok (.aload_n 0, 1) := by decide +kernel
theorem dX11_untell_6 : decode cX11_untell 6 = .ok (.getfield 242, 3) := by decide +kernel
theorem dX11_untell_9 : decode cX11_untell 9 = .ok (.invokevirtual 248, 3) := by decide +kernel
theorem dX11_untell_12 : decode cX11_untell 12 = .ok (.ireturn, 1) := by decide +kernel
theorem dX11_later_0 : decode cX11_later 0 = .ok (.iload_n 1, 1) := by decide +kernel
theorem dX11_later_1 : decode cX11_later 1 = .ok (.ifCond .lt 21, 3) := by decide +kernel
theorem dX11_later_4 : decode cX11_later 4 = .ok (.iload_n 1, 1) := by decide +kernel
theorem dX11_later_5 : decode cX11_later 5 = .ok (.sipush 1000, 3) := by decide +kernel
theorem dX11_later_8 : decode cX11_later 8 = .ok (.if_icmp .gt 14, 3) := by decide +kernel
theorem dX11_later_11 : decode cX11_later 11 = .ok (.aload_n 0, 1) := by decide +kernel
theorem dX11_later_12 : decode cX11_later 12 = .ok (.getfield 242, 3) := by decide +kernel
theorem dX11_later_15 : decode cX11_later 15 = .ok (.iload_n 1, 1) := by decide +kernel
theorem dX11_later_16 : decode cX11_later 16 = .ok (.iadd, 1) := by decide +kernel
theorem dX11_later_17 : decode cX11_later 17 = .ok (.ldc 252, 2) := by decide +kernel
theorem dX11_later_19 : decode cX11_later 19 = .ok (.if_icmp .le 5, 3) := by decide +kernel
theorem dX11_later_22 : decode cX11_later 22 = .ok (.iconst (-1), 1) := by decide +kernel
theorem dX11_later_23 : decode cX11_later 23 = .ok (.ireturn, 1) := by decide +kernel
theorem dX11_later_24 : decode cX11_later 24 = .ok (.aload_n 0, 1) := by decide +kernel
theorem dX11_later_25 : decode cX11_later 25 = .ok (.dup, 1) := by decide +kernel
theorem dX11_later_26 : decode cX11_later 26 = .ok (.getfield 242, 3) := by decide +kernel
theorem dX11_later_29 : decode cX11_later 29 = .ok (.iload_n 1, 1) := by decide +kernel
theorem dX11_later_30 : decode cX11_later 30 = .ok (.iadd, 1) := by decide +kernel
theorem dX11_later_31 : decode cX11_later 31 = .ok (.putfield 242, 3) := by decide +kernel
theorem dX11_later_34 : decode cX11_later 34 = .ok (.aload_n 0, 1) := by decide +kernel
theorem dX11_later_35 : decode cX11_later 35 = .ok (.getfield 242, 3) := by decide +kernel
theorem dX11_later_38 : decode cX11_later 38 = .ok (.ireturn, 1) := by decide +kernel
theorem dX11_judge_0 : decode cX11_judge 0 = .ok (.iload_n 1, 1) := by decide +kernel
theorem dX11_judge_1 : decode cX11_judge 1 = .ok (.tableswitch 79 0 3 #[31, 44, 57, 70], 31) := by decide +kernel
theorem dX11_judge_32 : decode cX11_judge 32 = .ok (.aload_n 0, 1) := by decide +kernel
theorem dX11_judge_33 : decode cX11_judge 33 = .ok (.getfield 72, 3) := by decide +kernel
theorem dX11_judge_36 : decode cX11_judge 36 = .ok (.aload_n 0, 1) := by decide +kernel
theorem dX11_judge_37 : decode cX11_judge 37 = .ok (.getfield 38, 3) := by decide +kernel
theorem dX11_judge_40 : decode cX11_judge 40 = .ok (.iload_n 2, 1) := by decide +kernel
theorem dX11_judge_41 : decode cX11_judge 41 = .ok (.invokevirtual 253, 3) := by decide +kernel
theorem dX11_judge_44 : decode cX11_judge 44 = .ok (.ireturn, 1) := by decide +kernel
theorem dX11_judge_45 : decode cX11_judge 45 = .ok (.aload_n 0, 1) := by decide +kernel
theorem dX11_judge_46 : decode cX11_judge 46 = .ok (.getfield 72, 3) := by decide +kernel
theorem dX11_judge_49 : decode cX11_judge 49 = .ok (.aload_n 0, 1) := by decide +kernel
theorem dX11_judge_50 : decode cX11_judge 50 = .ok (.getfield 38, 3) := by decide +kernel
theorem dX11_judge_53 : decode cX11_judge 53 = .ok (.iload_n 2, 1) := by decide +kernel
theorem dX11_judge_54 : decode cX11_judge 54 = .ok (.invokevirtual 256, 3) := by decide +kernel
theorem dX11_judge_57 : decode cX11_judge 57 = .ok (.ireturn, 1) := by decide +kernel
theorem dX11_judge_58 : decode cX11_judge 58 = .ok (.aload_n 0, 1) := by decide +kernel
theorem dX11_judge_59 : decode cX11_judge 59 = .ok (.getfield 72, 3) := by decide +kernel
theorem dX11_judge_62 : decode cX11_judge 62 = .ok (.aload_n 0, 1) := by decide +kernel
theorem dX11_judge_63 : decode cX11_judge 63 = .ok (.getfield 38, 3) := by decide +kernel
theorem dX11_judge_66 : decode cX11_judge 66 = .ok (.iload_n 2, 1) := by decide +kernel
theorem dX11_judge_67 : decode cX11_judge 67 = .ok (.invokevirtual 259, 3) := by decide +kernel
theorem dX11_judge_70 : decode cX11_judge 70 = .ok (.ireturn, 1) := by decide +kernel
theorem dX11_judge_71 : decode cX11_judge 71 = .ok (.aload_n 0, 1) := by decide +kernel
theorem dX11_judge_72 : decode cX11_judge 72 = .ok (.getfield 72, 3) := by decide +kernel
theorem dX11_judge_75 : decode cX11_judge 75 = .ok (.iload_n 2, 1) := by decide +kernel
theorem dX11_judge_76 : decode cX11_judge 76 = .ok (.invokevirtual 262, 3) := by decide +kernel
theorem dX11_judge_79 : decode cX11_judge 79 = .ok (.ireturn, 1) := by decide +kernel
theorem dX11_judge_80 : decode cX11_judge 80 = .ok (.iconst (-1), 1) := by decide +kernel
theorem dX11_judge_81 : decode cX11_judge 81 = .ok (.ireturn, 1) := by decide +kernel
theorem dX11_seed_0 : decode cX11_seed 0 = .ok (.aload_n 0, 1) := by decide +kernel
theorem dX11_seed_1 : decode cX11_seed 1 = .ok (.getfield 38, 3) := by decide +kernel
theorem dX11_seed_4 : decode cX11_seed 4 = .ok (.getfield 265, 3) := by decide +kernel
theorem dX11_seed_7 : decode cX11_seed 7 = .ok (.istore_n 2, 1) := by decide +kernel
theorem dX11_seed_8 : decode cX11_seed 8 = .ok (.aload_n 0, 1) := by decide +kernel
theorem dX11_seed_9 : decode cX11_seed 9 = .ok (.getfield 38, 3) := by decide +kernel
theorem dX11_seed_12 : decode cX11_seed 12 = .ok (.iload_n 1, 1) := by decide +kernel
theorem dX11_seed_13 : decode cX11_seed 13 = .ok (.putfield 265, 3) := by decide +kernel
theorem dX11_seed_16 : decode cX11_seed 16 = .ok (.iload_n 2, 1) := by decide +kernel
theorem dX11_seed_17 : decode cX11_seed 17 = .ok (.ireturn, 1) := by decide +kernel
theorem dX11_image_0 : decode cX11_image 0 = .ok (.iload_n 1, 1) := by decide +kernel
theorem dX11_image_1 : decode cX11_image 1 = .ok (.ifCond .lt 8, 3) := by decide +kernel
theorem dX11_image_4 : decode cX11_image 4 = .ok (.iload_n 1, 1) := by decide +kernel
theorem dX11_image_5 : decode cX11_image 5 = .ok (.iconst 3, 1) := by decide +kernel
theorem dX11_image_6 : decode cX11_image 6 = .ok (.if_icmp .lt 5, 3) := by decide +kernel
theorem dX11_image_9 : decode cX11_image 9 = .ok (.iconst (-1), 1) := by decide +kernel
theorem dX11_image_10 : decode cX11_image 10 = .ok (.ireturn, 1) := by decide +kernel
theorem dX11_image_11 : decode cX11_image 11 = .ok (.aload_n 0, 1) := by decide +kernel
theorem dX11_image_12 : decode cX11_image 12 = .ok (.getfield 76, 3) := by decide +kernel
theorem dX11_image_15 : decode cX11_image 15 = .ok (.iload_n 1, 1) := by decide +kernel
theorem dX11_image_16 : decode cX11_image 16 = .ok (.aaload, 1) := by decide +kernel
theorem dX11_image_17 : decode cX11_image 17 = .ok (.aload_n 0, 1) := by decide +kernel
theorem dX11_image_18 : decode cX11_image 18 = .ok (.getfield 38, 3) := by decide +kernel
theorem dX11_image_21 : decode cX11_image 21 = .ok (.invokevirtual 268, 3) := by decide +kernel
theorem dX11_image_24 : decode cX11_image 24 = .ok (.aload_n 0, 1) := by decide +kernel
theorem dX11_image_25 : decode cX11_image 25 = .ok (.getfield 80, 3) := by decide +kernel
theorem dX11_image_28 : decode cX11_image 28 = .ok (.iload_n 1, 1) := by decide +kernel
theorem dX11_image_29 : decode cX11_image 29 = .ok (.iconst 1, 1) := by decide +kernel
theorem dX11_image_30 : decode cX11_image 30 = .ok (.bastore, 1) := by decide +kernel
theorem dX11_image_31 : decode cX11_image 31 = .ok (.aload_n 0, 1) := by decide +kernel
theorem dX11_image_32 : decode cX11_image 32 = .ok (.getfield 38, 3) := by decide +kernel
theorem dX11_image_35 : decode cX11_image 35 = .ok (.getfield 114, 3) := by decide +kernel
theorem dX11_image_38 : decode cX11_image 38 = .ok (.ireturn, 1) := by decide +kernel
theorem dX11_back_0 : decode cX11_back 0 = .ok (.iload_n 1, 1) := by decide +kernel
theorem dX11_back_1 : decode cX11_back 1 = .ok (.ifCond .lt 17, 3) := by decide +kernel
theorem dX11_back_4 : decode cX11_back 4 = .ok (.iload_n 1, 1) := by decide +kernel
theorem dX11_back_5 : decode cX11_back 5 = .ok (.iconst 3, 1) := by decide +kernel
theorem dX11_back_6 : decode cX11_back 6 = .ok (.if_icmp .ge 12, 3) := by decide +kernel
theorem dX11_back_9 : decode cX11_back 9 = .ok (.aload_n 0, 1) := by decide +kernel
theorem dX11_back_10 : decode cX11_back 10 = .ok (.getfield 80, 3) := by decide +kernel
theorem dX11_back_13 : decode cX11_back 13 = .ok (.iload_n 1, 1) := by decide +kernel
theorem dX11_back_14 : decode cX11_back 14 = .ok (.baload, 1) := by decide +kernel
theorem dX11_back_15 : decode cX11_back 15 = .ok (.ifCond .ne 5, 3) := by decide +kernel
theorem dX11_back_18 : decode cX11_back 18 = .ok (.iconst (-1), 1) := by decide +kernel
theorem dX11_back_19 : decode cX11_back 19 = .ok (.ireturn, 1) := by decide +kernel
theorem dX11_back_20 : decode cX11_back 20 = .ok (.aload_n 0, 1) := by decide +kernel
theorem dX11_back_21 : decode cX11_back 21 = .ok (.getfield 38, 3) := by decide +kernel
theorem dX11_back_24 : decode cX11_back 24 = .ok (.aload_n 0, 1) := by decide +kernel
theorem dX11_back_25 : decode cX11_back 25 = .ok (.getfield 76, 3) := by decide +kernel
theorem dX11_back_28 : decode cX11_back 28 = .ok (.iload_n 1, 1) := by decide +kernel
theorem dX11_back_29 : decode cX11_back 29 = .ok (.aaload, 1) := by decide +kernel
theorem dX11_back_30 : decode cX11_back 30 = .ok (.invokevirtual 268, 3) := by decide +kernel
theorem dX11_back_33 : decode cX11_back 33 = .ok (.aload_n 0, 1) := by decide +kernel
theorem dX11_back_34 : decode cX11_back 34 = .ok (.getfield 38, 3) := by decide +kernel
theorem dX11_back_37 : decode cX11_back 37 = .ok (.getfield 114, 3) := by decide +kernel
theorem dX11_back_40 : decode cX11_back 40 = .ok (.ireturn, 1) := by decide +kernel
theorem dX11_about_0 : decode cX11_about 0 = .ok (.iload_n 1, 1) := by decide +kernel
theorem dX11_about_1 : decode cX11_about 1 = .ok (.tableswitch 153 0 10 #[59, 70, 81, 89, 97, 105, 113, 118, 126, 134, 145], 59) := by decide +kernel
theorem dX11_about_60 : decode cX11_about 60 = .ok (.aload_n 0, 1) := by decide +kernel
theorem dX11_about_61 : decode cX11_about 61 = .ok (.getfield 19, 3) := by decide +kernel
theorem dX11_about_64 : decode cX11_about 64 = .ok (.getfield 171, 3) := by decide +kernel
theorem dX11_about_67 : decode cX11_about 67 = .ok (.getfield 270, 3) := by decide +kernel
theorem dX11_about_70 : decode cX11_about 70 = .ok (.ireturn, 1) := by decide +kernel
theorem dX11_about_71 : decode cX11_about 71 = .ok (.aload_n 0, 1) := by decide +kernel
theorem dX11_about_72 : decode cX11_about 72 = .ok (.getfield 19, 3) := by decide +kernel
theorem dX11_about_75 : decode cX11_about 75 = .ok (.getfield 171, 3) := by decide +kernel
theorem dX11_about_78 : decode cX11_about 78 = .ok (.getfield 273, 3) := by decide +kernel
theorem dX11_about_81 : decode cX11_about 81 = .ok (.ireturn, 1) := by decide +kernel
theorem dX11_about_82 : decode cX11_about 82 = .ok (.aload_n 0, 1) := by decide +kernel
theorem dX11_about_83 : decode cX11_about 83 = .ok (.getfield 19, 3) := by decide +kernel
theorem dX11_about_86 : decode cX11_about 86 = .ok (.getfield 227, 3) := by decide +kernel
theorem dX11_about_89 : decode cX11_about 89 = .ok (.ireturn, 1) := by decide +kernel
theorem dX11_about_90 : decode cX11_about 90 = .ok (.aload_n 0, 1) := by decide +kernel
theorem dX11_about_91 : decode cX11_about 91 = .ok (.getfield 19, 3) := by decide +kernel
theorem dX11_about_94 : decode cX11_about 94 = .ok (.getfield 105, 3) := by decide +kernel
theorem dX11_about_97 : decode cX11_about 97 = .ok (.ireturn, 1) := by decide +kernel
theorem dX11_about_98 : decode cX11_about 98 = .ok (.aload_n 0, 1) := by decide +kernel
theorem dX11_about_99 : decode cX11_about 99 = .ok (.getfield 38, 3) := by decide +kernel
theorem dX11_about_102 : decode cX11_about 102 = .ok (.getfield 114, 3) := by decide +kernel
theorem dX11_about_105 : decode cX11_about 105 = .ok (.ireturn, 1) := by decide +kernel
theorem dX11_about_106 : decode cX11_about 106 = .ok (.aload_n 0, 1) := by decide +kernel
theorem dX11_about_107 : decode cX11_about 107 = .ok (.getfield 72, 3) := by decide +kernel
theorem dX11_about_110 : decode cX11_about 110 = .ok (.getfield 102, 3) := by decide +kernel
theorem dX11_about_113 : decode cX11_about 113 = .ok (.ireturn, 1) := by decide +kernel
theorem dX11_about_114 : decode cX11_about 114 = .ok (.aload_n 0, 1) := by decide +kernel
theorem dX11_about_115 : decode cX11_about 115 = .ok (.getfield 242, 3) := by decide +kernel
theorem dX11_about_118 : decode cX11_about 118 = .ok (.ireturn, 1) := by decide +kernel
theorem dX11_about_119 : decode cX11_about 119 = .ok (.aload_n 0, 1) := by decide +kernel
theorem dX11_about_120 : decode cX11_about 120 = .ok (.getfield 10, 3) := by decide +kernel
theorem dX11_about_123 : decode cX11_about 123 = .ok (.getfield 84, 3) := by decide +kernel
theorem dX11_about_126 : decode cX11_about 126 = .ok (.ireturn, 1) := by decide +kernel
theorem dX11_about_127 : decode cX11_about 127 = .ok (.aload_n 0, 1) := by decide +kernel
theorem dX11_about_128 : decode cX11_about 128 = .ok (.getfield 38, 3) := by decide +kernel
theorem dX11_about_131 : decode cX11_about 131 = .ok (.getfield 265, 3) := by decide +kernel
theorem dX11_about_134 : decode cX11_about 134 = .ok (.ireturn, 1) := by decide +kernel
theorem dX11_about_135 : decode cX11_about 135 = .ok (.aload_n 0, 1) := by decide +kernel
theorem dX11_about_136 : decode cX11_about 136 = .ok (.getfield 19, 3) := by decide +kernel
theorem dX11_about_139 : decode cX11_about 139 = .ok (.getfield 276, 3) := by decide +kernel
theorem dX11_about_142 : decode cX11_about 142 = .ok (.getfield 280, 3) := by decide +kernel
theorem dX11_about_145 : decode cX11_about 145 = .ok (.ireturn, 1) := by decide +kernel
theorem dX11_about_146 : decode cX11_about 146 = .ok (.aload_n 0, 1) := by decide +kernel
theorem dX11_about_147 : decode cX11_about 147 = .ok (.getfield 38, 3) := by decide +kernel
theorem dX11_about_150 : decode cX11_about 150 = .ok (.getfield 285, 3) := by decide +kernel
theorem dX11_about_153 : decode cX11_about 153 = .ok (.ireturn, 1) := by decide +kernel
theorem dX11_about_154 : decode cX11_about 154 = .ok (.iconst (-1), 1) := by decide +kernel
theorem dX11_about_155 : decode cX11_about 155 = .ok (.ireturn, 1) := by decide +kernel
theorem dX11_isPlace_0 : decode cX11_isPlace 0 = .ok (.iload_n 1, 1) := by decide +kernel
theorem dX11_isPlace_1 : decode cX11_isPlace 1 = .ok (.ifCond .lt 21, 3) := by decide +kernel
theorem dX11_isPlace_4 : decode cX11_isPlace 4 = .ok (.iload_n 1, 1) := by decide +kernel
theorem dX11_isPlace_5 : decode cX11_isPlace 5 = .ok (.aload_n 0, 1) := by decide +kernel
theorem dX11_isPlace_6 : decode cX11_isPlace 6 = .ok (.getfield 19, 3) := by decide +kernel
theorem dX11_isPlace_9 : decode cX11_isPlace 9 = .ok (.getfield 171, 3) := by decide +kernel
theorem dX11_isPlace_12 : decode cX11_isPlace 12 = .ok (.getfield 270, 3) := by decide +kernel
theorem dX11_isPlace_15 : decode cX11_isPlace 15 = .ok (.if_icmp .ge 7, 3) := by decide +kernel
theorem dX11_isPlace_18 : decode cX11_isPlace 18 = .ok (.iconst 1, 1) := by decide +kernel
theorem dX11_isPlace_19 : decode cX11_isPlace 19 = .ok (.goto 4, 3) := by decide +kernel
theorem dX11_isPlace_22 : decode cX11_isPlace 22 = .ok (.iconst 0, 1) := by decide +kernel
theorem dX11_isPlace_23 : decode cX11_isPlace 23 = .ok (.ireturn, 1) := by decide +kernel
theorem dX11_isThing_0 : decode cX11_isThing 0 = .ok (.iload_n 1, 1) := by decide +kernel
theorem dX11_isThing_1 : decode cX11_isThing 1 = .ok (.ifCond .lt 18, 3) := by decide +kernel
theorem dX11_isThing_4 : decode cX11_isThing 4 = .ok (.iload_n 1, 1) := by decide +kernel
theorem dX11_isThing_5 : decode cX11_isThing 5 = .ok (.aload_n 0, 1) := by decide +kernel
theorem dX11_isThing_6 : decode cX11_isThing 6 = .ok (.getfield 19, 3) := by decide +kernel
theorem dX11_isThing_9 : decode cX11_isThing 9 = .ok (.getfield 227, 3) := by decide +kernel
theorem dX11_isThing_12 : decode cX11_isThing 12 = .ok (.if_icmp .ge 7, 3) := by decide +kernel
theorem dX11_isThing_15 : decode cX11_isThing 15 = .ok (.iconst 1, 1) := by decide +kernel
theorem dX11_isThing_16 : decode cX11_isThing 16 = .ok (.goto 4, 3) := by decide +kernel
theorem dX11_isThing_19 : decode cX11_isThing 19 = .ok (.iconst 0, 1) := by decide +kernel
theorem dX11_isThing_20 : decode cX11_isThing 20 = .ok (.ireturn, 1) := by decide +kernel
theorem dX11_isPerson_0 : decode cX11_isPerson 0 = .ok (.iload_n 1, 1) := by decide +kernel
theorem dX11_isPerson_1 : decode cX11_isPerson 1 = .ok (.ifCond .lt 18, 3) := by decide +kernel
theorem dX11_isPerson_4 : decode cX11_isPerson 4 = .ok (.iload_n 1, 1) := by decide +kernel
theorem dX11_isPerson_5 : decode cX11_isPerson 5 = .ok (.aload_n 0, 1) := by decide +kernel
theorem dX11_isPerson_6 : decode cX11_isPerson 6 = .ok (.getfield 19, 3) := by decide +kernel
theorem dX11_isPerson_9 : decode cX11_isPerson 9 = .ok (.getfield 105, 3) := by decide +kernel
theorem dX11_isPerson_12 : decode cX11_isPerson 12 = .ok (.if_icmp .ge 7, 3) := by decide +kernel
theorem dX11_isPerson_15 : decode cX11_isPerson 15 = .ok (.iconst 1, 1) := by decide +kernel
theorem dX11_isPerson_16 : decode cX11_isPerson 16 = .ok (.goto 4, 3) := by decide +kernel
theorem dX11_isPerson_19 : decode cX11_isPerson 19 = .ok (.iconst 0, 1) := by decide +kernel
theorem dX11_isPerson_20 : decode cX11_isPerson 20 = .ok (.ireturn, 1) := by decide +kernel
theorem dX11_isPersonOrNobody_0 : decode cX11_isPersonOrNobody 0 = .ok (.iload_n 1, 1) := by decide +kernel
theorem dX11_isPersonOrNobody_1 : decode cX11_isPersonOrNobody 1 = .ok (.iconst (-1), 1) := by decide +kernel
theorem dX11_isPersonOrNobody_2 : decode cX11_isPersonOrNobody 2 = .ok (.if_icmp .eq 11, 3) := by decide +kernel
theorem dX11_isPersonOrNobody_5 : decode cX11_isPersonOrNobody 5 = .ok (.aload_n 0, 1) := by decide +kernel
theorem dX11_isPersonOrNobody_6 : decode cX11_isPersonOrNobody 6 = .ok (.iload_n 1, 1) := by decide +kernel
theorem dX11_isPersonOrNobody_7 : decode cX11_isPersonOrNobody 7 = .ok (.invokevirtual 147, 3) := by decide +kernel
theorem dX11_isPersonOrNobody_10 : decode cX11_isPersonOrNobody 10 = .ok (.ifCond .eq 7, 3) := by decide +kernel
theorem dX11_isPersonOrNobody_13 : decode cX11_isPersonOrNobody 13 = .ok (.iconst 1, 1) := by decide +kernel
theorem dX11_isPersonOrNobody_14 : decode cX11_isPersonOrNobody 14 = .ok (.goto 4, 3) := by decide +kernel
theorem dX11_isPersonOrNobody_17 : decode cX11_isPersonOrNobody 17 = .ok (.iconst 0, 1) := by decide +kernel
theorem dX11_isPersonOrNobody_18 : decode cX11_isPersonOrNobody 18 = .ok (.ireturn, 1) := by decide +kernel
theorem dX11_thingsOf_0 : decode cX11_thingsOf 0 = .ok (.iconst 0, 1) := by decide +kernel
theorem dX11_thingsOf_1 : decode cX11_thingsOf 1 = .ok (.istore_n 2, 1) := by decide +kernel
theorem dX11_thingsOf_2 : decode cX11_thingsOf 2 = .ok (.iconst 0, 1) := by decide +kernel
theorem dX11_thingsOf_3 : decode cX11_thingsOf 3 = .ok (.istore_n 3, 1) := by decide +kernel
theorem dX11_thingsOf_4 : decode cX11_thingsOf 4 = .ok (.iload_n 3, 1) := by decide +kernel
theorem dX11_thingsOf_5 : decode cX11_thingsOf 5 = .ok (.aload_n 0, 1) := by decide +kernel
theorem dX11_thingsOf_6 : decode cX11_thingsOf 6 = .ok (.getfield 19, 3) := by decide +kernel
theorem dX11_thingsOf_9 : decode cX11_thingsOf 9 = .ok (.getfield 227, 3) := by decide +kernel
theorem dX11_thingsOf_12 : decode cX11_thingsOf 12 = .ok (.if_icmp .ge 25, 3) := by decide +kernel
theorem dX11_thingsOf_15 : decode cX11_thingsOf 15 = .ok (.aload_n 0, 1) := by decide +kernel
theorem dX11_thingsOf_16 : decode cX11_thingsOf 16 = .ok (.getfield 38, 3) := by decide +kernel
theorem dX11_thingsOf_19 : decode cX11_thingsOf 19 = .ok (.getfield 128, 3) := by decide +kernel
theorem dX11_thingsOf_22 : decode cX11_thingsOf 22 = .ok (.iload_n 3, 1) := by decide +kernel
theorem dX11_thingsOf_23 : decode cX11_thingsOf 23 = .ok (.iaload, 1) := by decide +kernel
theorem dX11_thingsOf_24 : decode cX11_thingsOf 24 = .ok (.iload_n 1, 1) := by decide +kernel
theorem dX11_thingsOf_25 : decode cX11_thingsOf 25 = .ok (.if_icmp .ne 6, 3) := by decide +kernel
theorem dX11_thingsOf_28 : decode cX11_thingsOf 28 = .ok (.iinc 2 1, 3) := by decide +kernel
theorem dX11_thingsOf_31 : decode cX11_thingsOf 31 = .ok (.iinc 3 1, 3) := by decide +kernel
theorem dX11_thingsOf_34 : decode cX11_thingsOf 34 = .ok (.goto (-30), 3) := by decide +kernel
theorem dX11_thingsOf_37 : decode cX11_thingsOf 37 = .ok (.iload_n 2, 1) := by decide +kernel
theorem dX11_thingsOf_38 : decode cX11_thingsOf 38 = .ok (.ireturn, 1) := by decide +kernel
theorem dX12_init_0 : decode cX12_init 0 = .ok (.aload_n 0, 1) := by decide +kernel
theorem dX12_init_1 : decode cX12_init 1 = .ok (.invokespecial 1, 3) := by decide +kernel
theorem dX12_init_4 : decode cX12_init 4 = .ok (.aload_n 0, 1) := by decide +kernel
theorem dX12_init_5 : decode cX12_init 5 = .ok (.sipush 1700, 3) := by decide +kernel
theorem dX12_init_8 : decode cX12_init 8 = .ok (.newarray .int, 2) := by decide +kernel
theorem dX12_init_10 : decode cX12_init 10 = .ok (.putfield 7, 3) := by decide +kernel
theorem dX12_init_13 : decode cX12_init 13 = .ok (.aload_n 0, 1) := by decide +kernel
theorem dX12_init_14 : decode cX12_init 14 = .ok (.iconst (-1), 1) := by decide +kernel
theorem dX12_init_15 : decode cX12_init 15 = .ok (.putfield 13, 3) := by decide +kernel
theorem dX12_init_18 : decode cX12_init 18 = .ok (.aload_n 0, 1) := by decide +kernel
theorem dX12_init_19 : decode cX12_init 19 = .ok (.sipush 640, 3) := by decide +kernel
theorem dX12_init_22 : decode cX12_init 22 = .ok (.newarray .int, 2) := by decide +kernel
theorem dX12_init_24 : decode cX12_init 24 = .ok (.putfield 17, 3) := by decide +kernel
theorem dX12_init_27 : decode cX12_init 27 = .ok (.aload_n 0, 1) := by decide +kernel
theorem dX12_init_28 : decode cX12_init 28 = .ok (.sipush 640, 3) := by decide +kernel
theorem dX12_init_31 : decode cX12_init 31 = .ok (.newarray .int, 2) := by decide +kernel
theorem dX12_init_33 : decode cX12_init 33 = .ok (.putfield 20, 3) := by decide +kernel
theorem dX12_init_36 : decode cX12_init 36 = .ok (.aload_n 0, 1) := by decide +kernel
theorem dX12_init_37 : decode cX12_init 37 = .ok (.bipush 7, 2) := by decide +kernel
theorem dX12_init_39 : decode cX12_init 39 = .ok (.newarray .int, 2) := by decide +kernel
theorem dX12_init_41 : decode cX12_init 41 = .ok (.putfield 23, 3) := by decide +kernel
theorem dX12_init_44 : decode cX12_init 44 = .ok (.aload_n 0, 1) := by decide +kernel
theorem dX12_init_45 : decode cX12_init 45 = .ok (.sipush 640, 3) := by decide +kernel
theorem dX12_init_48 : decode cX12_init 48 = .ok (.newarray .int, 2) := by decide +kernel
theorem dX12_init_50 : decode cX12_init 50 = .ok (.putfield 26, 3) := by decide +kernel
theorem dX12_init_53 : decode cX12_init 53 = .ok (.aload_n 0, 1) := by decide +kernel
theorem dX12_init_54 : decode cX12_init 54 = .ok (.sipush 640, 3) := by decide +kernel
theorem dX12_init_57 : decode cX12_init 57 = .ok (.newarray .int, 2) := by decide +kernel
theorem dX12_init_59 : decode cX12_init 59 = .ok (.putfield 29, 3) := by decide +kernel
theorem dX12_init_62 : decode cX12_init 62 = .ok (.aload_n 0, 1) := by decide +kernel
theorem dX12_init_63 : decode cX12_init 63 = .ok (.bipush 7, 2) := by decide +kernel
theorem dX12_init_65 : decode cX12_init 65 = .ok (.newarray .int, 2) := by decide +kernel
theorem dX12_init_67 : decode cX12_init 67 = .ok (.putfield 32, 3) := by decide +kernel
theorem dX12_init_70 : decode cX12_init 70 = .ok (.aload_n 0, 1) := by decide +kernel
theorem dX12_init_71 : decode cX12_init 71 = .ok (.sipush 300, 3) := by decide +kernel
theorem dX12_init_74 : decode cX12_init 74 = .ok (.newarray .int, 2) := by decide +kernel
theorem dX12_init_76 : decode cX12_init 76 = .ok (.putfield 35, 3) := by decide +kernel
theorem dX12_init_79 : decode cX12_init 79 = .ok (.aload_n 0, 1) := by decide +kernel
theorem dX12_init_80 : decode cX12_init 80 = .ok (.bipush 90, 2) := by decide +kernel
theorem dX12_init_82 : decode cX12_init 82 = .ok (.newarray .int, 2) := by decide +kernel
theorem dX12_init_84 : decode cX12_init 84 = .ok (.putfield 38, 3) := by decide +kernel
theorem dX12_init_87 : decode cX12_init 87 = .ok (.aload_n 0, 1) := by decide +kernel
theorem dX12_init_88 : decode cX12_init 88 = .ok (.bipush 12, 2) := by decide +kernel
theorem dX12_init_90 : decode cX12_init 90 = .ok (.newarray .int, 2) := by decide +kernel
theorem dX12_init_92 : decode cX12_init 92 = .ok (.putfield 41, 3) := by decide +kernel
theorem dX12_init_95 : decode cX12_init 95 = .ok (.aload_n 0, 1) := by decide +kernel
theorem dX12_init_96 : decode cX12_init 96 = .ok (.bipush 8, 2) := by decide +kernel
theorem dX12_init_98 : decode cX12_init 98 = .ok (.newarray .long, 2) := by decide +kernel
theorem dX12_init_100 : decode cX12_init 100 = .ok (.putfield 44, 3) := by decide +kernel
theorem dX12_init_103 : decode cX12_init 103 = .ok (.aload_n 0, 1) := by decide +kernel
theorem dX12_init_104 : decode cX12_init 104 = .ok (.bipush 10, 2) := by decide +kernel
theorem dX12_init_106 : decode cX12_init 106 = .ok (.newarray .long, 2) := by decide +kernel
theorem dX12_init_108 : decode cX12_init 108 = .ok (.putfield 48, 3) := by decide +kernel
theorem dX12_init_111 : decode cX12_init 111 = .ok (.aload_n 0, 1) := by decide +kernel
theorem dX12_init_112 : decode cX12_init 112 = .ok (.bipush 6, 2) := by decide +kernel
theorem dX12_init_114 : decode cX12_init 114 = .ok (.newarray .long, 2) := by decide +kernel
theorem dX12_init_116 : decode cX12_init 116 = .ok (.putfield 51, 3) := by decide +kernel
theorem dX12_init_119 : decode cX12_init 119 = .ok (.aload_n 0, 1) := by decide +kernel
theorem dX12_init_120 : decode cX12_init 120 = .ok (.bipush 8, 2) := by decide +kernel
theorem dX12_init_122 : decode cX12_init 122 = .ok (.newarray .int, 2) := by decide +kernel
theorem dX12_init_124 : decode cX12_init 124 = .ok (.putfield 54, 3) := by decide +kernel
theorem dX12_init_127 : decode cX12_init 127 = .ok (.aload_n 0, 1) := by decide +kernel
theorem dX12_init_128 : decode cX12_init 128 = .ok (.bipush 64, 2) := by decide +kernel
theorem dX12_init_130 : decode cX12_init 130 = .ok (.newarray .int, 2) := by decide +kernel
theorem dX12_init_132 : decode cX12_init 132 = .ok (.putfield 57, 3) := by decide +kernel
theorem dX12_init_135 : decode cX12_init 135 = .ok (.aload_n 0, 1) := by decide +kernel
theorem dX12_init_136 : decode cX12_init 136 = .ok (.bipush 50, 2) := by decide +kernel
theorem dX12_init_138 : decode cX12_init 138 = .ok (.newarray .int, 2) := by decide +kernel
theorem dX12_init_140 : decode cX12_init 140 = .ok (.putfield 60, 3) := by decide +kernel
theorem dX12_init_143 : decode cX12_init 143 = .ok (.aload_n 0, 1) := by decide +kernel
theorem dX12_init_144 : decode cX12_init 144 = .ok (.bipush 24, 2) := by decide +kernel
theorem dX12_init_146 : decode cX12_init 146 = .ok (.newarray .int, 2) := by decide +kernel
theorem dX12_init_148 : decode cX12_init 148 = .ok (.putfield 63, 3) := by decide +kernel
theorem dX12_init_151 : decode cX12_init 151 = .ok (.aload_n 0, 1) := by decide +kernel
theorem dX12_init_152 : decode cX12_init 152 = .ok (.bipush 8, 2) := by decide +kernel
theorem dX12_init_154 : decode cX12_init 154 = .ok (.newarray .int, 2) := by decide +kernel
theorem dX12_init_156 : decode cX12_init 156 = .ok (.putfield 66, 3) := by decide +kernel
theorem dX12_init_159 : decode cX12_init 159 = .ok (.aload_n 0, 1) := by decide +kernel
theorem dX12_init_160 : decode cX12_init 160 = .ok (.bipush 64, 2) := by decide +kernel
theorem dX12_init_162 : decode cX12_init 162 = .ok (.newarray .int, 2) := by decide +kernel
theorem dX12_init_164 : decode cX12_init 164 = .ok (.putfield 69, 3) := by decide +kernel
theorem dX12_init_167 : decode cX12_init 167 = .ok (.aload_n 0, 1) := by decide +kernel
theorem dX12_init_168 : decode cX12_init 168 = .ok (.bipush 64, 2) := by decide +kernel
theorem dX12_init_170 : decode cX12_init 170 = .ok (.newarray .int, 2) := by decide +kernel
theorem dX12_init_172 : decode cX12_init 172 = .ok (.putfield 72, 3) := by decide +kernel
theorem dX12_init_175 : decode cX12_init 175 = .ok (.aload_n 0, 1) := by decide +kernel
theorem dX12_init_176 : decode cX12_init 176 = .ok (.bipush 50, 2) := by decide +kernel
theorem dX12_init_178 : decode cX12_init 178 = .ok (.newarray .int, 2) := by decide +kernel
theorem dX12_init_180 : decode cX12_init 180 = .ok (.putfield 75, 3) := by decide +kernel
theorem dX12_init_183 : decode cX12_init 183 = .ok (.aload_n 0, 1) := by decide +kernel
theorem dX12_init_184 : decode cX12_init 184 = .ok (.bipush 24, 2) := by decide +kernel
theorem dX12_init_186 : decode cX12_init 186 = .ok (.newarray .int, 2) := by decide +kernel
theorem dX12_init_188 : decode cX12_init 188 = .ok (.putfield 78, 3) := by decide +kernel
theorem dX12_init_191 : decode cX12_init 191 = .ok (.aload_n 0, 1) := by decide +kernel
theorem dX12_init_192 : decode cX12_init 192 = .ok (.bipush 10, 2) := by decide +kernel
theorem dX12_init_194 : decode cX12_init 194 = .ok (.newarray .int, 2) := by decide +kernel
theorem dX12_init_196 : decode cX12_init 196 = .ok (.putfield 81, 3) := by decide +kernel
theorem dX12_init_199 : decode cX12_init 199 = .ok (.aload_n 0, 1) := by decide +kernel
theorem dX12_init_200 : decode cX12_init 200 = .ok (.bipush 10, 2) := by decide +kernel
theorem dX12_init_202 : decode cX12_init 202 = .ok (.newarray .int, 2) := by decide +kernel
theorem dX12_init_204 : decode cX12_init 204 = .ok (.putfield 84, 3) := by decide +kernel
theorem dX12_init_207 : decode cX12_init 207 = .ok (.aload_n 0, 1) := by decide +kernel
theorem dX12_init_208 : decode cX12_init 208 = .ok (.bipush 10, 2) := by decide +kernel
theorem dX12_init_210 : decode cX12_init 210 = .ok (.newarray .int, 2) := by decide +kernel
theorem dX12_init_212 : decode cX12_init 212 = .ok (.putfield 87, 3) := by decide +kernel
theorem dX12_init_215 : decode cX12_init 215 = .ok (.aload_n 0, 1) := by decide +kernel
theorem dX12_init_216 : decode cX12_init 216 = .ok (.bipush 10, 2) := by decide +kernel
theorem dX12_init_218 : decode cX12_init 218 = .ok (.newarray .int, 2) := by decide +kernel
theorem dX12_init_220 : decode cX12_init 220 = .ok (.putfield 90, 3) := by decide +kernel
theorem dX12_init_223 : decode cX12_init 223 = .ok (.aload_n 0, 1) := by decide +kernel
theorem dX12_init_224 : decode cX12_init 224 = .ok (.bipush 6, 2) := by decide +kernel
theorem dX12_init_226 : decode cX12_init 226 = .ok (.newarray .int, 2) := by decide +kernel
theorem dX12_init_228 : decode cX12_init 228 = .ok (.putfield 93, 3) := by decide +kernel
theorem dX12_init_231 : decode cX12_init 231 = .ok (.aload_n 0, 1) := by decide +kernel
theorem dX12_init_232 : decode cX12_init 232 = .ok (.bipush 6, 2) := by decide +kernel
theorem dX12_init_234 : decode cX12_init 234 = .ok (.newarray .int, 2) := by decide +kernel
theorem dX12_init_236 : decode cX12_init 236 = .ok (.putfield 96, 3) := by decide +kernel
theorem dX12_init_239 : decode cX12_init 239 = .ok (.aload_n 0, 1) := by decide +kernel
theorem dX12_init_240 : decode cX12_init 240 = .ok (.bipush 10, 2) := by decide +kernel
theorem dX12_init_242 : decode cX12_init 242 = .ok (.newarray .boolean, 2) := by decide +kernel
theorem dX12_init_244 : decode cX12_init 244 = .ok (.putfield 99, 3) := by decide +kernel
theorem dX12_init_247 : decode cX12_init 247 = .ok (.aload_n 0, 1) := by decide +kernel
theorem dX12_init_248 : decode cX12_init 248 = .ok (.iconst 1, 1) := by decide +kernel
theorem dX12_init_249 : decode cX12_init 249 = .ok (.putfield 103, 3) := by decide +kernel
theorem dX12_init_252 : decode cX12_init 252 = .ok (.aload_n 0, 1) := by decide +kernel
theorem dX12_init_253 : decode cX12_init 253 = .ok (.sipush 610, 3) := by decide +kernel
theorem dX12_init_256 : decode cX12_init 256 = .ok (.newarray .int, 2) := by decide +kernel
theorem dX12_init_258 : decode cX12_init 258 = .ok (.putfield 106, 3) := by decide +kernel
theorem dX12_init_261 : decode cX12_init 261 = .ok (.aload_n 0, 1) := by decide +kernel
theorem dX12_init_262 : decode cX12_init 262 = .ok (.bipush 10, 2) := by decide +kernel
theorem dX12_init_264 : decode cX12_init 264 = .ok (.newarray .int, 2) := by decide +kernel
theorem dX12_init_266 : decode cX12_init 266 = .ok (.putfield 109, 3) := by decide +kernel
theorem dX12_init_269 : decode cX12_init 269 = .ok (.aload_n 0, 1) := by decide +kernel
theorem dX12_init_270 : decode cX12_init 270 = .ok (.bipush 10, 2) := by decide +kernel
theorem dX12_init_272 : decode cX12_init 272 = .ok (.newarray .int, 2) := by decide +kernel
theorem dX12_init_274 : decode cX12_init 274 = .ok (.putfield 112, 3) := by decide +kernel
theorem dX12_init_277 : decode cX12_init 277 = .ok (.aload_n 0, 1) := by decide +kernel
theorem dX12_init_278 : decode cX12_init 278 = .ok (.bipush 10, 2) := by decide +kernel
theorem dX12_init_280 : decode cX12_init 280 = .ok (.newarray .int, 2) := by decide +kernel
theorem dX12_init_282 : decode cX12_init 282 = .ok (.putfield 115, 3) := by decide +kernel
theorem dX12_init_285 : decode cX12_init 285 = .ok (.aload_n 0, 1) := by decide +kernel
theorem dX12_init_286 : decode cX12_init 286 = .ok (.bipush 6, 2) := by decide +kernel
theorem dX12_init_288 : decode cX12_init 288 = .ok (.newarray .int, 2) := by decide +kernel
theorem dX12_init_290 : decode cX12_init 290 = .ok (.putfield 118, 3) := by decide +kernel
theorem dX12_init_293 : decode cX12_init 293 = .ok (.aload_n 0, 1) := by decide +kernel
theorem dX12_init_294 : decode cX12_init 294 = .ok (.bipush 6, 2) := by decide +kernel
theorem dX12_init_296 : decode cX12_init 296 = .ok (.newarray .int, 2) := by decide +kernel
theorem dX12_init_298 : decode cX12_init 298 = .ok (.putfield 121, 3) := by decide +kernel
theorem dX12_init_301 : decode cX12_init 301 = .ok (.aload_n 0, 1) := by decide +kernel
theorem dX12_init_302 : decode cX12_init 302 = .ok (.bipush 10, 2) := by decide +kernel
theorem dX12_init_304 : decode cX12_init 304 = .ok (.newarray .boolean, 2) := by decide +kernel
theorem dX12_init_306 : decode cX12_init 306 = .ok (.putfield 124, 3) := by decide +kernel
theorem dX12_init_309 : decode cX12_init 309 = .ok (.aload_n 0, 1) := by decide +kernel
theorem dX12_init_310 : decode cX12_init 310 = .ok (.bipush 10, 2) := by decide +kernel
theorem dX12_init_312 : decode cX12_init 312 = .ok (.newarray .int, 2) := by decide +kernel
theorem dX12_init_314 : decode cX12_init 314 = .ok (.putfield 127, 3) := by decide +kernel
theorem dX12_init_317 : decode cX12_init 317 = .ok (.aload_n 0, 1) := by decide +kernel
theorem dX12_init_318 : decode cX12_init 318 = .ok (.bipush 10, 2) := by decide +kernel
theorem dX12_init_320 : decode cX12_init 320 = .ok (.newarray .int, 2) := by decide +kernel
theorem dX12_init_322 : decode cX12_init 322 = .ok (.putfield 130, 3) := by decide +kernel
theorem dX12_init_325 : decode cX12_init 325 = .ok (.aload_n 0, 1) := by decide +kernel
theorem dX12_init_326 : decode cX12_init 326 = .ok (.bipush 6, 2) := by decide +kernel
theorem dX12_init_328 : decode cX12_init 328 = .ok (.newarray .int, 2) := by decide +kernel
theorem dX12_init_330 : decode cX12_init 330 = .ok (.putfield 133, 3) := by decide +kernel
theorem dX12_init_333 : decode cX12_init 333 = .ok (.aload_n 0, 1) := by decide +kernel
theorem dX12_init_334 : decode cX12_init 334 = .ok (.bipush 6, 2) := by decide +kernel
theorem dX12_init_336 : decode cX12_init 336 = .ok (.newarray .int, 2) := by decide +kernel
theorem dX12_init_338 : decode cX12_init 338 = .ok (.putfield 136, 3) := by decide +kernel
theorem dX12_init_341 : decode cX12_init 341 = .ok (.aload_n 0, 1) := by decide +kernel
theorem dX12_init_342 : decode cX12_init 342 = .ok (.iconst (-1), 1) := by decide +kernel
theorem dX12_init_343 : decode cX12_init 343 = .ok (.putfield 139, 3) := by decide +kernel
theorem dX12_init_346 : decode cX12_init 346 = .ok (.aload_n 0, 1) := by decide +kernel
theorem dX12_init_347 : decode cX12_init 347 = .ok (.bipush 101, 2) := by decide +kernel
theorem dX12_init_349 : decode cX12_init 349 = .ok (.newarray .long, 2) := by decide +kernel
theorem dX12_init_351 : decode cX12_init 351 = .ok (.putfield 142, 3) := by decide +kernel
theorem dX12_init_354 : decode cX12_init 354 = .ok (.aload_n 0, 1) := by decide +kernel
theorem dX12_init_355 : decode cX12_init 355 = .ok (.bipush 101, 2) := by decide +kernel
theorem dX12_init_357 : decode cX12_init 357 = .ok (.newarray .long, 2) := by decide +kernel
theorem dX12_init_359 : decode cX12_init 359 = .ok (.putfield 145, 3) := by decide +kernel
theorem dX12_init_362 : decode cX12_init 362 = .ok (.aload_n 0, 1) := by decide +kernel
theorem dX12_init_363 : decode cX12_init 363 = .ok (.bipush 8, 2) := by decide +kernel
theorem dX12_init_365 : decode cX12_init 365 = .ok (.newarray .int, 2) := by decide +kernel
theorem dX12_init_367 : decode cX12_init 367 = .ok (.putfield 148, 3) := by decide +kernel
theorem dX12_init_370 : decode cX12_init 370 = .ok (.aload_n 0, 1) := by decide +kernel
theorem dX12_init_371 : decode cX12_init 371 = .ok (.bipush 40, 2) := by decide +kernel
theorem dX12_init_373 : decode cX12_init 373 = .ok (.newarray .int, 2) := by decide +kernel
theorem dX12_init_375 : decode cX12_init 375 = .ok (.putfield 151, 3) := by decide +kernel
theorem dX12_init_378 : decode cX12_init 378 = .ok (.aload_n 0, 1) := by decide +kernel
theorem dX12_init_379 : decode cX12_init 379 = .ok (.bipush 40, 2) := by decide +kernel
theorem dX12_init_381 : decode cX12_init 381 = .ok (.newarray .int, 2) := by decide +kernel
theorem dX12_init_383 : decode cX12_init 383 = .ok (.putfield 154, 3) := by decide +kernel
theorem dX12_init_386 : decode cX12_init 386 = .ok (.aload_n 0, 1) := by decide +kernel
theorem dX12_init_387 : decode cX12_init 387 = .ok (.bipush 40, 2) := by decide +kernel
theorem dX12_init_389 : decode cX12_init 389 = .ok (.newarray .int, 2) := by decide +kernel
theorem dX12_init_391 : decode cX12_init 391 = .ok (.putfield 157, 3) := by decide +kernel
theorem dX12_init_394 : decode cX12_init 394 = .ok (.aload_n 0, 1) := by decide +kernel
theorem dX12_init_395 : decode cX12_init 395 = .ok (.bipush 40, 2) := by decide +kernel
theorem dX12_init_397 : decode cX12_init 397 = .ok (.newarray .int, 2) := by decide +kernel
theorem dX12_init_399 : decode cX12_init 399 = .ok (.putfield 160, 3) := by decide +kernel
theorem dX12_init_402 : decode cX12_init 402 = .ok (.aload_n 0, 1) := by decide +kernel
theorem dX12_init_403 : decode cX12_init 403 = .ok (.bipush 40, 2) := by decide +kernel
theorem dX12_init_405 : decode cX12_init 405 = .ok (.newarray .int, 2) := by decide +kernel
theorem dX12_init_407 : decode cX12_init 407 = .ok (.putfield 163, 3) := by decide +kernel
theorem dX12_init_410 : decode cX12_init 410 = .ok (.aload_n 0, 1) := by decide +kernel
theorem dX12_init_411 : decode cX12_init 411 = .ok (.iconst 3, 1) := by decide +kernel
theorem dX12_init_412 : decode cX12_init 412 = .ok (.newarray .boolean, 2) := by decide +kernel
theorem dX12_init_414 : decode cX12_init 414 = .ok (.putfield 166, 3) := by decide +kernel
theorem dX12_init_417 : decode cX12_init 417 = .ok (.aload_n 0, 1) := by decide +kernel
theorem dX12_init_418 : decode cX12_init 418 = .ok (.bipush 30, 2) := by decide +kernel
theorem dX12_init_420 : decode cX12_init 420 = .ok (.newarray .boolean, 2) := by decide +kernel
theorem dX12_init_422 : decode cX12_init 422 = .ok (.putfield 169, 3) := by decide +kernel
theorem dX12_init_425 : decode cX12_init 425 = .ok (.aload_n 0, 1) := by decide +kernel
theorem dX12_init_426 : decode cX12_init 426 = .ok (.bipush 120, 2) := by decide +kernel
theorem dX12_init_428 : decode cX12_init 428 = .ok (.newarray .int, 2) := by decide +kernel
theorem dX12_init_430 : decode cX12_init 430 = .ok (.putfield 172, 3) := by decide +kernel
theorem dX12_init_433 : decode cX12_init 433 = .ok (.aload_n 0, 1) := by decide +kernel
theorem dX12_init_434 : decode cX12_init 434 = .ok (.bipush 18, 2) := by decide +kernel
theorem dX12_init_436 : decode cX12_init 436 = .ok (.newarray .int, 2) := by decide +kernel
theorem dX12_init_438 : decode cX12_init 438 = .ok (.putfield 175, 3) := by decide +kernel
theorem dX12_init_441 : decode cX12_init 441 = .ok (.aload_n 0, 1) := by decide +kernel
theorem dX12_init_442 : decode cX12_init 442 = .ok (.bipush 18, 2) := by decide +kernel
theorem dX12_init_444 : decode cX12_init 444 = .ok (.newarray .int, 2) := by decide +kernel
theorem dX12_init_446 : decode cX12_init 446 = .ok (.putfield 178, 3) := by decide +kernel
theorem dX12_init_449 : decode cX12_init 449 = .ok (.aload_n 0, 1) := by decide +kernel
theorem dX12_init_450 : decode cX12_init 450 = .ok (.sipush 1830, 3) := by decide +kernel
theorem dX12_init_453 : decode cX12_init 453 = .ok (.newarray .int, 2) := by decide +kernel
theorem dX12_init_455 : decode cX12_init 455 = .ok (.putfield 181, 3) := by decide +kernel
theorem dX12_init_458 : decode cX12_init 458 = .ok (.aload_n 0, 1) := by decide +kernel
theorem dX12_init_459 : decode cX12_init 459 = .ok (.iconst 3, 1) := by decide +kernel
theorem dX12_init_460 : decode cX12_init 460 = .ok (.newarray .int, 2) := by decide +kernel
theorem dX12_init_462 : decode cX12_init 462 = .ok (.putfield 184, 3) := by decide +kernel
theorem dX12_init_465 : decode cX12_init 465 = .ok (.aload_n 0, 1) := by decide +kernel
theorem dX12_init_466 : decode cX12_init 466 = .ok (.iconst 3, 1) := by decide +kernel
theorem dX12_init_467 : decode cX12_init 467 = .ok (.newarray .int, 2) := by decide +kernel
theorem dX12_init_469 : decode cX12_init 469 = .ok (.putfield 187, 3) := by decide +kernel
theorem dX12_init_472 : decode cX12_init 472 = .ok (.aload_n 0, 1) := by decide +kernel
theorem dX12_init_473 : decode cX12_init 473 = .ok (.iconst 3, 1) := by decide +kernel
theorem dX12_init_474 : decode cX12_init 474 = .ok (.newarray .int, 2) := by decide +kernel
theorem dX12_init_476 : decode cX12_init 476 = .ok (.putfield 190, 3) := by decide +kernel
theorem dX12_init_479 : decode cX12_init 479 = .ok (.aload_n 0, 1) := by decide +kernel
theorem dX12_init_480 : decode cX12_init 480 = .ok (.invokevirtual 193, 3) := by decide +kernel
theorem dX12_init_483 : decode cX12_init 483 = .ok (.return_, 1) := by decide +kernel
theorem dX12_feed_0 : decode cX12_feed 0 = .ok (.aload_n 0, 1) := by decide +kernel
theorem dX12_feed_1 : decode cX12_feed 1 = .ok (.getfield 196, 3) := by decide +kernel
theorem dX12_feed_4 : decode cX12_feed 4 = .ok (.bipush 20, 2) := by decide +kernel
theorem dX12_feed_6 : decode cX12_feed 6 = .ok (.iadd, 1) := by decide +kernel
theorem dX12_feed_7 : decode cX12_feed 7 = .ok (.sipush 1700, 3) := by decide +kernel
theorem dX12_feed_10 : decode cX12_feed 10 = .ok (.if_icmp .le 5, 3) := by decide +kernel
theorem dX12_feed_13 : decode cX12_feed 13 = .ok (.iconst (-1), 1) := by decide +kernel
theorem dX12_feed_14 : decode cX12_feed 14 = .ok (.ireturn, 1) := by decide +kernel
theorem dX12_feed_15 : decode cX12_feed 15 = .ok (.aload_n 0, 1) := by decide +kernel
theorem dX12_feed_16 : decode cX12_feed 16 = .ok (.iload_n 1, 1) := by decide +kernel
theorem dX12_feed_17 : decode cX12_feed 17 = .ok (.invokevirtual 199, 3) := by decide +kernel
theorem dX12_feed_20 : decode cX12_feed 20 = .ok (.aload_n 0, 1) := by decide +kernel
theorem dX12_feed_21 : decode cX12_feed 21 = .ok (.iload_n 2, 1) := by decide +kernel
theorem dX12_feed_22 : decode cX12_feed 22 = .ok (.invokevirtual 199, 3) := by decide +kernel
theorem dX12_feed_25 : decode cX12_feed 25 = .ok (.aload_n 0, 1) := by decide +kernel
theorem dX12_feed_26 : decode cX12_feed 26 = .ok (.iload_n 3, 1) := by decide +kernel
theorem dX12_feed_27 : decode cX12_feed 27 = .ok (.invokevirtual 199, 3) := by decide +kernel
theorem dX12_feed_30 : decode cX12_feed 30 = .ok (.aload_n 0, 1) := by decide +kernel
theorem dX12_feed_31 : decode cX12_feed 31 = .ok (.iload 4, 2) := by decide +kernel
theorem dX12_feed_33 : decode cX12_feed 33 = .ok (.invokevirtual 199, 3) := by decide +kernel
theorem dX12_feed_36 : decode cX12_feed 36 = .ok (.aload_n 0, 1) := by decide +kernel
theorem dX12_feed_37 : decode cX12_feed 37 = .ok (.iload 5, 2) := by decide +kernel
theorem dX12_feed_39 : decode cX12_feed 39 = .ok (.invokevirtual 199, 3) := by decide +kernel
theorem dX12_feed_42 : decode cX12_feed 42 = .ok (.aload_n 0, 1) := by decide +kernel
theorem dX12_feed_43 : decode cX12_feed 43 = .ok (.getfield 196, 3) := by decide +kernel
theorem dX12_feed_46 : decode cX12_feed 46 = .ok (.ireturn, 1) := by decide +kernel
theorem dX12_four_0 : decode cX12_four 0 = .ok (.bipush 24, 2) := by decide +kernel
theorem dX12_four_2 : decode cX12_four 2 = .ok (.istore_n 2, 1) := by decide +kernel
theorem dX12_four_3 : decode cX12_four 3 = .ok (.iload_n 2, 1) := by decide +kernel
theorem dX12_four_4 : decode cX12_four 4 = .ok (.ifCond .lt 35, 3) := by decide +kernel
theorem dX12_four_7 : decode cX12_four 7 = .ok (.aload_n 0, 1) := by decide +kernel
theorem dX12_four_8 : decode cX12_four 8 = .ok (.getfield 7, 3) := by decide +kernel
theorem dX12_four_11 : decode cX12_four 11 = .ok (.aload_n 0, 1) := by decide +kernel
theorem dX12_four_12 : decode cX12_four 12 = .ok (.getfield 196, 3) := by decide +kernel
theorem dX12_four_15 : decode cX12_four 15 = .ok (.iload_n 1, 1) := by decide +kernel
theorem dX12_four_16 : decode cX12_four 16 = .ok (.iload_n 2, 1) := by decide +kernel
theorem dX12_four_17 : decode cX12_four 17 = .ok (.ishr, 1) := by decide +kernel
theorem dX12_four_18 : decode cX12_four 18 = .ok (.sipush 255, 3) := by decide +kernel
theorem dX12_four_21 : decode cX12_four 21 = .ok (.iand, 1) := by decide +kernel
theorem dX12_four_22 : decode cX12_four 22 = .ok (.iastore, 1) := by decide +kernel
theorem dX12_four_23 : decode cX12_four 23 = .ok (.aload_n 0, 1) := by decide +kernel
theorem dX12_four_24 : decode cX12_four 24 = .ok (.dup, 1) := by decide +kernel
theorem dX12_four_25 : decode cX12_four 25 = .ok (.getfield 196, 3) := by decide +kernel
theorem dX12_four_28 : decode cX12_four 28 = .ok (.iconst 1, 1) := by decide +kernel
theorem dX12_four_29 : decode cX12_four 29 = .ok (.iadd, 1) := by decide +kernel
theorem dX12_four_30 : decode cX12_four 30 = .ok (.putfield 196, 3) := by decide +kernel
theorem dX12_four_33 : decode cX12_four 33 = .ok (.iinc 2 (-8), 3) := by decide +kernel
theorem dX12_four_36 : decode cX12_four 36 = .ok (.goto (-33), 3) := by decide +kernel
theorem dX12_four_39 : decode cX12_four 39 = .ok (.return_, 1) := by decide +kernel
theorem dX12_end_0 : decode cX12_end 0 = .ok (.iload_n 1, 1) := by decide +kernel
theorem dX12_end_1 : decode cX12_end 1 = .ok (.ifCond .lt 11, 3) := by decide +kernel
theorem dX12_end_4 : decode cX12_end 4 = .ok (.iload_n 1, 1) := by decide +kernel
theorem dX12_end_5 : decode cX12_end 5 = .ok (.aload_n 0, 1) := by decide +kernel
theorem dX12_end_6 : decode cX12_end 6 = .ok (.getfield 196, 3) := by decide +kernel
theorem dX12_end_9 : decode cX12_end 9 = .ok (.if_icmp .le 5, 3) := by decide +kernel
theorem dX12_end_12 : decode cX12_end 12 = .ok (.iconst (-1), 1) := by decide +kernel
theorem dX12_end_13 : decode cX12_end 13 = .ok (.ireturn, 1) := by decide +kernel
theorem dX12_end_14 : decode cX12_end 14 = .ok (.aload_n 0, 1) := by decide +kernel
theorem dX12_end_15 : decode cX12_end 15 = .ok (.iload_n 1, 1) := by decide +kernel
theorem dX12_end_16 : decode cX12_end 16 = .ok (.putfield 196, 3) := by decide +kernel
theorem dX12_end_19 : decode cX12_end 19 = .ok (.iload_n 1, 1) := by decide +kernel
theorem dX12_end_20 : decode cX12_end 20 = .ok (.ireturn, 1) := by decide +kernel
theorem dX12_here_0 : decode cX12_here 0 = .ok (.aload_n 0, 1) := by decide +kernel
theorem dX12_here_1 : decode cX12_here 1 = .ok (.getfield 203, 3) := by decide +kernel
theorem dX12_here_4 : decode cX12_here 4 = .ok (.iload_n 1, 1) := by decide +kernel
theorem dX12_here_5 : decode cX12_here 5 = .ok (.iadd, 1) := by decide +kernel
theorem dX12_here_6 : decode cX12_here 6 = .ok (.aload_n 0, 1) := by decide +kernel
theorem dX12_here_7 : decode cX12_here 7 = .ok (.getfield 206, 3) := by decide +kernel
theorem dX12_here_10 : decode cX12_here 10 = .ok (.if_icmp .ge 17, 3) := by decide +kernel
theorem dX12_here_13 : decode cX12_here 13 = .ok (.aload_n 0, 1) := by decide +kernel
theorem dX12_here_14 : decode cX12_here 14 = .ok (.getfield 7, 3) := by decide +kernel
theorem dX12_here_17 : decode cX12_here 17 = .ok (.aload_n 0, 1) := by decide +kernel
theorem dX12_here_18 : decode cX12_here 18 = .ok (.getfield 203, 3) := by decide +kernel
theorem dX12_here_21 : decode cX12_here 21 = .ok (.iload_n 1, 1) := by decide +kernel
theorem dX12_here_22 : decode cX12_here 22 = .ok (.iadd, 1) := by decide +kernel
theorem dX12_here_23 : decode cX12_here 23 = .ok (.iaload, 1) := by decide +kernel
theorem dX12_here_24 : decode cX12_here 24 = .ok (.goto 4, 3) := by decide +kernel
theorem dX12_here_27 : decode cX12_here 27 = .ok (.iconst (-1), 1) := by decide +kernel
theorem dX12_here_28 : decode cX12_here 28 = .ok (.ireturn, 1) := by decide +kernel
theorem dX12_isLetter_0 : decode cX12_isLetter 0 = .ok (.iload_n 0, 1) := by decide +kernel
theorem dX12_isLetter_1 : decode cX12_isLetter 1 = .ok (.bipush 97, 2) := by decide +kernel
theorem dX12_isLetter_3 : decode cX12_isLetter 3 = .ok (.if_icmp .lt 13, 3) := by decide +kernel
theorem dX12_isLetter_6 : decode cX12_isLetter 6 = .ok (.iload_n 0, 1) := by decide +kernel
theorem dX12_isLetter_7 : decode cX12_isLetter 7 = .ok (.bipush 122, 2) := by decide +kernel
theorem dX12_isLetter_9 : decode cX12_isLetter 9 = .ok (.if_icmp .gt 7, 3) := by decide +kernel
theorem dX12_isLetter_12 : decode cX12_isLetter 12 = .ok (.iconst 1, 1) := by decide +kernel
theorem dX12_isLetter_13 : decode cX12_isLetter 13 = .ok (.goto 4, 3) := by decide +kernel
theorem dX12_isLetter_16 : decode cX12_isLetter 16 = .ok (.iconst 0, 1) := by decide +kernel
theorem dX12_isLetter_17 : decode cX12_isLetter 17 = .ok (.ireturn, 1) := by decide +kernel
theorem dX12_isDigit_0 : decode cX12_isDigit 0 = .ok (.iload_n 0, 1) := by decide +kernel
theorem dX12_isDigit_1 : decode cX12_isDigit 1 = .ok (.bipush 48, 2) := by decide +kernel
theorem dX12_isDigit_3 : decode cX12_isDigit 3 = .ok (.if_icmp .lt 13, 3) := by decide +kernel
theorem dX12_isDigit_6 : decode cX12_isDigit 6 = .ok (.iload_n 0, 1) := by decide +kernel
theorem dX12_isDigit_7 : decode cX12_isDigit 7 = .ok (.bipush 57, 2) := by decide +kernel
theorem dX12_isDigit_9 : decode cX12_isDigit 9 = .ok (.if_icmp .gt 7, 3) := by decide +kernel
theorem dX12_isDigit_12 : decode cX12_isDigit 12 = .ok (.iconst 1, 1) := by decide +kernel
theorem dX12_isDigit_13 : decode cX12_isDigit 13 = .ok (.goto 4, 3) := by decide +kernel
theorem dX12_isDigit_16 : decode cX12_isDigit 16 = .ok (.iconst 0, 1) := by decide +kernel
theorem dX12_isDigit_17 : decode cX12_isDigit 17 = .ok (.ireturn, 1) := by decide +kernel
theorem dX12_isSign_0 : decode cX12_isSign 0 = .ok (.iload_n 0, 1) := by decide +kernel
theorem dX12_isSign_1 : decode cX12_isSign 1 = .ok (.bipush 59, 2) := by decide +kernel
theorem dX12_isSign_3 : decode cX12_isSign 3 = .ok (.if_icmp .eq 51, 3) := by decide +kernel
theorem dX12_isSign_6 : decode cX12_isSign 6 = .ok (.iload_n 0, 1) := by decide +kernel
theorem dX12_isSign_7 : decode cX12_isSign 7 = .ok (.bipush 40, 2) := by decide +kernel
theorem dX12_isSign_9 : decode cX12_isSign 9 = .ok (.if_icmp .eq 45, 3) := by decide +kernel
theorem dX12_isSign_12 : decode cX12_isSign 12 = .ok (.iload_n 0, 1) := by decide +kernel
theorem dX12_isSign_13 : decode cX12_isSign 13 = .ok (.bipush 41, 2) := by decide +kernel
theorem dX12_isSign_15 : decode cX12_isSign 15 = .ok (.if_icmp .eq 39, 3) := by decide +kernel
theorem dX12_isSign_18 : decode cX12_isSign 18 = .ok (.iload_n 0, 1) := by decide +kernel
theorem dX12_isSign_19 : decode cX12_isSign 19 = .ok (.bipush 60, 2) := by decide +kernel
theorem dX12_isSign_21 : decode cX12_isSign 21 = .ok (.if_icmp .eq 33, 3) := by decide +kernel
theorem dX12_isSign_24 : decode cX12_isSign 24 = .ok (.iload_n 0, 1) := by decide +kernel
theorem dX12_isSign_25 : decode cX12_isSign 25 = .ok (.bipush 62, 2) := by decide +kernel
theorem dX12_isSign_27 : decode cX12_isSign 27 = .ok (.if_icmp .eq 27, 3) := by decide +kernel
theorem dX12_isSign_30 : decode cX12_isSign 30 = .ok (.iload_n 0, 1) := by decide +kernel
theorem dX12_isSign_31 : decode cX12_isSign 31 = .ok (.bipush 61, 2) := by decide +kernel
theorem dX12_isSign_33 : decode cX12_isSign 33 = .ok (.if_icmp .eq 21, 3) := by decide +kernel
theorem dX12_isSign_36 : decode cX12_isSign 36 = .ok (.iload_n 0, 1) := by decide +kernel
theorem dX12_isSign_37 : decode cX12_isSign 37 = .ok (.bipush 43, 2) := by decide +kernel
theorem dX12_isSign_39 : decode cX12_isSign 39 = .ok (.if_icmp .eq 15, 3) := by decide +kernel
theorem dX12_isSign_42 : decode cX12_isSign 42 = .ok (.iload_n 0, 1) := by decide +kernel
theorem dX12_isSign_43 : decode cX12_isSign 43 = .ok (.bipush 45, 2) := by decide +kernel
theorem dX12_isSign_45 : decode cX12_isSign 45 = .ok (.if_icmp .eq 9, 3) := by decide +kernel
theorem dX12_isSign_48 : decode cX12_isSign 48 = .ok (.iload_n 0, 1) := by decide +kernel
theorem dX12_isSign_49 : decode cX12_isSign 49 = .ok (.bipush 42, 2) := by decide +kernel
theorem dX12_isSign_51 : decode cX12_isSign 51 = .ok (.if_icmp .ne 7, 3) := by decide +kernel
theorem dX12_isSign_54 : decode cX12_isSign 54 = .ok (.iconst 1, 1) := by decide +kernel
theorem dX12_isSign_55 : decode cX12_isSign 55 = .ok (.goto 4, 3) := by decide +kernel
theorem dX12_isSign_58 : decode cX12_isSign 58 = .ok (.iconst 0, 1) := by decide +kernel
theorem dX12_isSign_59 : decode cX12_isSign 59 = .ok (.ireturn, 1) := by decide +kernel
theorem dX12_token_0 : decode cX12_token 0 = .ok (.aload_n 0, 1) := by decide +kernel
theorem dX12_token_1 : decode cX12_token 1 = .ok (.iconst 0, 1) := by decide +kernel
theorem dX12_token_2 : decode cX12_token 2 = .ok (.invokevirtual 209, 3) := by decide +kernel
theorem dX12_token_5 : decode cX12_token 5 = .ok (.bipush 32, 2) := by decide +kernel
theorem dX12_token_7 : decode cX12_token 7 = .ok (.if_icmp .eq 13, 3) := by decide +kernel
theorem dX12_token_10 : decode cX12_token 10 = .ok (.aload_n 0, 1) := by decide +kernel
theorem dX12_token_11 : decode cX12_token 11 = .ok (.iconst 0, 1) := by decide +kernel
theorem dX12_token_12 : decode cX12_token 12 = .ok (.invokevirtual 209, 3) := by decide +kernel
theorem dX12_token_15 : decode cX12_token 15 = .ok (.bipush 10, 2) := by decide +kernel
theorem dX12_token_17 : decode cX12_token 17 = .ok (.if_icmp .ne 16, 3) := by decide +kernel
theorem dX12_token_20 : decode cX12_token 20 = .ok (.aload_n 0, 1) := by decide +kernel
theorem dX12_token_21 : decode cX12_token 21 = .ok (.dup, 1) := by decide +kernel
theorem dX12_token_22 : decode cX12_token 22 = .ok (.getfield 203, 3) := by decide +kernel
theorem dX12_token_25 : decode cX12_token 25 = .ok (.iconst 1, 1) := by decide +kernel
theorem dX12_token_26 : decode cX12_token 26 = .ok (.iadd, 1) := by decide +kernel
theorem dX12_token_27 : decode cX12_token 27 = .ok (.putfield 203, 3) := by decide +kernel
theorem dX12_token_30 : decode cX12_token 30 = .ok (.goto (-30), 3) := by decide +kernel
theorem dX12_token_33 : decode cX12_token 33 = .ok (.aload_n 0, 1) := by decide +kernel
theorem dX12_token_34 : decode cX12_token 34 = .ok (.aload_n 0, 1) := by decide +kernel
theorem dX12_token_35 : decode cX12_token 35 = .ok (.getfield 203, 3) := by decide +kernel
theorem dX12_token_38 : decode cX12_token 38 = .ok (.putfield 213, 3) := by decide +kernel
theorem dX12_token_41 : decode cX12_token 41 = .ok (.aload_n 0, 1) := by decide +kernel
theorem dX12_token_42 : decode cX12_token 42 = .ok (.iconst 0, 1) := by decide +kernel
theorem dX12_token_43 : decode cX12_token 43 = .ok (.invokevirtual 209, 3) := by decide +kernel
theorem dX12_token_46 : decode cX12_token 46 = .ok (.istore_n 1, 1) := by decide +kernel
theorem dX12_token_47 : decode cX12_token 47 = .ok (.iconst 0, 1) := by decide +kernel
theorem dX12_token_48 : decode cX12_token 48 = .ok (.istore_n 2, 1) := by decide +kernel
theorem dX12_token_49 : decode cX12_token 49 = .ok (.aload_n 0, 1) := by decide +kernel
theorem dX12_token_50 : decode cX12_token 50 = .ok (.lconst 0, 1) := by decide +kernel
theorem dX12_token_51 : decode cX12_token 51 = .ok (.putfield 216, 3) := by decide +kernel
theorem dX12_token_54 : decode cX12_token 54 = .ok (.aload_n 0, 1) := by decide +kernel
theorem dX12_token_55 : decode cX12_token 55 = .ok (.iconst 0, 1) := by decide +kernel
theorem dX12_token_56 : decode cX12_token 56 = .ok (.putfield 220, 3) := by decide +kernel
theorem dX12_token_59 : decode cX12_token 59 = .ok (.iload_n 1, 1) := by decide +kernel
theorem dX12_token_60 : decode cX12_token 60 = .ok (.ifCond .ge 11, 3) := by decide +kernel
theorem dX12_token_63 : decode cX12_token 63 = .ok (.aload_n 0, 1) := by decide +kernel
theorem dX12_token_64 : decode cX12_token 64 = .ok (.iconst 0, 1) := by decide +kernel
theorem dX12_token_65 : decode cX12_token 65 = .ok (.putfield 223, 3) := by decide +kernel
theorem dX12_token_68 : decode cX12_token 68 = .ok (.goto 164, 3) := by decide +kernel
theorem dX12_token_71 : decode cX12_token 71 = .ok (.iload_n 1, 1) := by decide +kernel
theorem dX12_token_72 : decode cX12_token 72 = .ok (.invokestatic 226, 3) := by decide +kernel
theorem dX12_token_75 : decode cX12_token 75 = .ok (.ifCond .eq 62, 3) := by decide +kernel
theorem dX12_token_78 : decode cX12_token 78 = .ok (.aload_n 0, 1) := by decide +kernel
theorem dX12_token_79 : decode cX12_token 79 = .ok (.iload_n 2, 1) := by decide +kernel
theorem dX12_token_80 : decode cX12_token 80 = .ok (.invokevirtual 209, 3) := by decide +kernel
theorem dX12_token_83 : decode cX12_token 83 = .ok (.invokestatic 226, 3) := by decide +kernel
theorem dX12_token_86 : decode cX12_token 86 = .ok (.ifCond .eq 33, 3) := by decide +kernel
theorem dX12_token_89 : decode cX12_token 89 = .ok (.iload_n 2, 1) := by decide +kernel
theorem dX12_token_90 : decode cX12_token 90 = .ok (.bipush 8, 2) := by decide +kernel
theorem dX12_token_92 : decode cX12_token 92 = .ok (.if_icmp .ge 21, 3) := by decide +kernel
theorem dX12_token_95 : decode cX12_token 95 = .ok (.aload_n 0, 1) := by decide +kernel
theorem dX12_token_96 : decode cX12_token 96 = .ok (.aload_n 0, 1) := by decide +kernel
theorem dX12_token_97 : decode cX12_token 97 = .ok (.getfield 216, 3) := by decide +kernel
theorem dX12_token_100 : decode cX12_token 100 = .ok (.bipush 8, 2) := by decide +kernel
theorem dX12_token_102 : decode cX12_token 102 = .ok (.lshl, 1) := by decide +kernel
theorem dX12_token_103 : decode cX12_token 103 = .ok (.aload_n 0, 1) := by decide +kernel
theorem dX12_token_104 : decode cX12_token 104 = .ok (.iload_n 2, 1) := by decide +kernel
theorem dX12_token_105 : decode cX12_token 105 = .ok (.invokevirtual 209, 3) := by decide +kernel
theorem dX12_token_108 : decode cX12_token 108 = .ok (.i2l, 1) := by decide +kernel
theorem dX12_token_109 : decode cX12_token 109 = .ok (.lor, 1) := by decide +kernel
theorem dX12_token_110 : decode cX12_token 110 = .ok (.putfield 216, 3) := by decide +kernel
theorem dX12_token_113 : decode cX12_token 113 = .ok (.iinc 2 1, 3) := by decide +kernel
theorem dX12_token_116 : decode cX12_token 116 = .ok (.goto (-38), 3) := by decide +kernel
theorem dX12_token_119 : decode cX12_token 119 = .ok (.aload_n 0, 1) := by decide +kernel
theorem dX12_token_120 : decode cX12_token 120 = .ok (.iload_n 2, 1) := by decide +kernel
theorem dX12_token_121 : decode cX12_token 121 = .ok (.bipush 8, 2) := by decide +kernel
theorem dX12_token_123 : decode cX12_token 123 = .ok (.if_icmp .le 7, 3) := by decide +kernel
theorem dX12_token_126 : decode cX12_token 126 = .ok (.iconst 3, 1) := by decide +kernel
theorem dX12_token_127 : decode cX12_token 127 = .ok (.goto 4, 3) := by decide +kernel
theorem dX12_token_130 : decode cX12_token 130 = .ok (.iconst 1, 1) := by decide +kernel
theorem dX12_token_131 : decode cX12_token 131 = .ok (.putfield 223, 3) := by decide +kernel
theorem dX12_token_134 : decode cX12_token 134 = .ok (.goto 98, 3) := by decide +kernel
theorem dX12_token_137 : decode cX12_token 137 = .ok (.iload_n 1, 1) := by decide +kernel
theorem dX12_token_138 : decode cX12_token 138 = .ok (.invokestatic 230, 3) := by decide +kernel
theorem dX12_token_141 : decode cX12_token 141 = .ok (.ifCond .eq 73, 3) := by decide +kernel
