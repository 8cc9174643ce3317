theorem dX0_init_0 : decode cX0_init 0 = .ok (.aload_n 0, 1) := by decide +kernel
theorem dX0_init_1 : decode cX0_init 1 = .ok (.invokespecial 3, 3) := by decide +kernel
theorem dX0_init_4 : decode cX0_init 4 = .ok (.aload_n 0, 1) := by decide +kernel
theorem dX0_init_5 : decode cX0_init 5 = .ok (.bipush 11, 2) := by decide +kernel
theorem dX0_init_7 : decode cX0_init 7 = .ok (.newarray .int, 2) := by decide +kernel
theorem dX0_init_9 : decode cX0_init 9 = .ok (.putfield 9, 3) := by decide +kernel
theorem dX0_init_12 : decode cX0_init 12 = .ok (.aload_n 0, 1) := by decide +kernel
theorem dX0_init_13 : decode cX0_init 13 = .ok (.bipush 10, 2) := by decide +kernel
theorem dX0_init_15 : decode cX0_init 15 = .ok (.newarray .int, 2) := by decide +kernel
theorem dX0_init_17 : decode cX0_init 17 = .ok (.putfield 15, 3) := by decide +kernel
theorem dX0_init_20 : decode cX0_init 20 = .ok (.aload_n 0, 1) := by decide +kernel
theorem dX0_init_21 : decode cX0_init 21 = .ok (.bipush 10, 2) := by decide +kernel
theorem dX0_init_23 : decode cX0_init 23 = .ok (.newarray .int, 2) := by decide +kernel
theorem dX0_init_25 : decode cX0_init 25 = .ok (.putfield 18, 3) := by decide +kernel
theorem dX0_init_28 : decode cX0_init 28 = .ok (.aload_n 0, 1) := by decide +kernel
theorem dX0_init_29 : decode cX0_init 29 = .ok (.bipush 6, 2) := by decide +kernel
theorem dX0_init_31 : decode cX0_init 31 = .ok (.newarray .int, 2) := by decide +kernel
theorem dX0_init_33 : decode cX0_init 33 = .ok (.putfield 21, 3) := by decide +kernel
theorem dX0_init_36 : decode cX0_init 36 = .ok (.aload_n 0, 1) := by decide +kernel
theorem dX0_init_37 : decode cX0_init 37 = .ok (.bipush 6, 2) := by decide +kernel
theorem dX0_init_39 : decode cX0_init 39 = .ok (.newarray .int, 2) := by decide +kernel
theorem dX0_init_41 : decode cX0_init 41 = .ok (.putfield 24, 3) := by decide +kernel
theorem dX0_init_44 : decode cX0_init 44 = .ok (.aload_n 0, 1) := by decide +kernel
theorem dX0_init_45 : decode cX0_init 45 = .ok (.bipush 10, 2) := by decide +kernel
theorem dX0_init_47 : decode cX0_init 47 = .ok (.newarray .int, 2) := by decide +kernel
theorem dX0_init_49 : decode cX0_init 49 = .ok (.putfield 27, 3) := by decide +kernel
theorem dX0_init_52 : decode cX0_init 52 = .ok (.aload_n 0, 1) := by decide +kernel
theorem dX0_init_53 : decode cX0_init 53 = .ok (.aload_n 1, 1) := by decide +kernel
theorem dX0_init_54 : decode cX0_init 54 = .ok (.putfield 30, 3) := by decide +kernel
theorem dX0_init_57 : decode cX0_init 57 = .ok (.return_, 1) := by decide +kernel
theorem dX0_live_0 : decode cX0_live 0 = .ok (.aload_n 0, 1) := by decide +kernel
theorem dX0_live_1 : decode cX0_live 1 = .ok (.aload_n 1, 1) := by decide +kernel
theorem dX0_live_2 : decode cX0_live 2 = .ok (.invokevirtual 34, 3) := by decide +kernel
theorem dX0_live_5 : decode cX0_live 5 = .ok (.istore_n 3, 1) := by decide +kernel
theorem dX0_live_6 : decode cX0_live 6 = .ok (.aload_n 0, 1) := by decide +kernel
theorem dX0_live_7 : decode cX0_live 7 = .ok (.aload_n 1, 1) := by decide +kernel
theorem dX0_live_8 : decode cX0_live 8 = .ok (.invokevirtual 38, 3) := by decide +kernel
theorem dX0_live_11 : decode cX0_live 11 = .ok (.aload_n 0, 1) := by decide +kernel
theorem dX0_live_12 : decode cX0_live 12 = .ok (.getfield 30, 3) := by decide +kernel
theorem dX0_live_15 : decode cX0_live 15 = .ok (.getfield 42, 3) := by decide +kernel
theorem dX0_live_18 : decode cX0_live 18 = .ok (.ifCond .eq 23, 3) := by decide +kernel
theorem dX0_live_21 : decode cX0_live 21 = .ok (.aload_n 1, 1) := by decide +kernel
theorem dX0_live_22 : decode cX0_live 22 = .ok (.bipush 100, 2) := by decide +kernel
theorem dX0_live_24 : decode cX0_live 24 = .ok (.invokevirtual 48, 3) := by decide +kernel
theorem dX0_live_27 : decode cX0_live 27 = .ok (.aload_n 0, 1) := by decide +kernel
theorem dX0_live_28 : decode cX0_live 28 = .ok (.getfield 30, 3) := by decide +kernel
theorem dX0_live_31 : decode cX0_live 31 = .ok (.getfield 42, 3) := by decide +kernel
theorem dX0_live_34 : decode cX0_live 34 = .ok (.if_icmp .ge 7, 3) := by decide +kernel
theorem dX0_live_37 : decode cX0_live 37 = .ok (.iconst 1, 1) := by decide +kernel
theorem dX0_live_38 : decode cX0_live 38 = .ok (.goto 4, 3) := by decide +kernel
theorem dX0_live_41 : decode cX0_live 41 = .ok (.iconst 0, 1) := by decide +kernel
theorem dX0_live_42 : decode cX0_live 42 = .ok (.istore 4, 2) := by decide +kernel
theorem dX0_live_44 : decode cX0_live 44 = .ok (.iload 4, 2) := by decide +kernel
theorem dX0_live_46 : decode cX0_live 46 = .ok (.ifCond .eq 13, 3) := by decide +kernel
theorem dX0_live_49 : decode cX0_live 49 = .ok (.aload_n 1, 1) := by decide +kernel
theorem dX0_live_50 : decode cX0_live 50 = .ok (.dup, 1) := by decide +kernel
theorem dX0_live_51 : decode cX0_live 51 = .ok (.getfield 54, 3) := by decide +kernel
theorem dX0_live_54 : decode cX0_live 54 = .ok (.iconst 1, 1) := by decide +kernel
theorem dX0_live_55 : decode cX0_live 55 = .ok (.iadd, 1) := by decide +kernel
theorem dX0_live_56 : decode cX0_live 56 = .ok (.putfield 54, 3) := by decide +kernel
theorem dX0_live_59 : decode cX0_live 59 = .ok (.aload_n 0, 1) := by decide +kernel
theorem dX0_live_60 : decode cX0_live 60 = .ok (.aload_n 1, 1) := by decide +kernel
theorem dX0_live_61 : decode cX0_live 61 = .ok (.iload_n 2, 1) := by decide +kernel
theorem dX0_live_62 : decode cX0_live 62 = .ok (.iload 4, 2) := by decide +kernel
theorem dX0_live_64 : decode cX0_live 64 = .ok (.invokevirtual 57, 3) := by decide +kernel
theorem dX0_live_67 : decode cX0_live 67 = .ok (.aload_n 1, 1) := by decide +kernel
theorem dX0_live_68 : decode cX0_live 68 = .ok (.invokevirtual 61, 3) := by decide +kernel
theorem dX0_live_71 : decode cX0_live 71 = .ok (.iload_n 3, 1) := by decide +kernel
theorem dX0_live_72 : decode cX0_live 72 = .ok (.ireturn, 1) := by decide +kernel
theorem dX0_use_0 : decode cX0_use 0 = .ok (.iconst 0, 1) := by decide +kernel
theorem dX0_use_1 : decode cX0_use 1 = .ok (.istore_n 2, 1) := by decide +kernel
theorem dX0_use_2 : decode cX0_use 2 = .ok (.iconst 0, 1) := by decide +kernel
theorem dX0_use_3 : decode cX0_use 3 = .ok (.istore_n 3, 1) := by decide +kernel
theorem dX0_use_4 : decode cX0_use 4 = .ok (.iload_n 3, 1) := by decide +kernel
theorem dX0_use_5 : decode cX0_use 5 = .ok (.aload_n 0, 1) := by decide +kernel
theorem dX0_use_6 : decode cX0_use 6 = .ok (.getfield 30, 3) := by decide +kernel
theorem dX0_use_9 : decode cX0_use 9 = .ok (.getfield 64, 3) := by decide +kernel
theorem dX0_use_12 : decode cX0_use 12 = .ok (.if_icmp .ge 100, 3) := by decide +kernel
theorem dX0_use_15 : decode cX0_use 15 = .ok (.aload_n 0, 1) := by decide +kernel
theorem dX0_use_16 : decode cX0_use 16 = .ok (.getfield 30, 3) := by decide +kernel
theorem dX0_use_19 : decode cX0_use 19 = .ok (.getfield 67, 3) := by decide +kernel
theorem dX0_use_22 : decode cX0_use 22 = .ok (.iload_n 3, 1) := by decide +kernel
theorem dX0_use_23 : decode cX0_use 23 = .ok (.iaload, 1) := by decide +kernel
theorem dX0_use_24 : decode cX0_use 24 = .ok (.istore 4, 2) := by decide +kernel
theorem dX0_use_26 : decode cX0_use 26 = .ok (.iconst 0, 1) := by decide +kernel
theorem dX0_use_27 : decode cX0_use 27 = .ok (.istore 5, 2) := by decide +kernel
theorem dX0_use_29 : decode cX0_use 29 = .ok (.iload 5, 2) := by decide +kernel
theorem dX0_use_31 : decode cX0_use 31 = .ok (.aload_n 0, 1) := by decide +kernel
theorem dX0_use_32 : decode cX0_use 32 = .ok (.getfield 30, 3) := by decide +kernel
theorem dX0_use_35 : decode cX0_use 35 = .ok (.getfield 70, 3) := by decide +kernel
theorem dX0_use_38 : decode cX0_use 38 = .ok (.if_icmp .ge 68, 3) := by decide +kernel
theorem dX0_use_41 : decode cX0_use 41 = .ok (.aload_n 1, 1) := by decide +kernel
theorem dX0_use_42 : decode cX0_use 42 = .ok (.getfield 73, 3) := by decide +kernel
theorem dX0_use_45 : decode cX0_use 45 = .ok (.iload 5, 2) := by decide +kernel
theorem dX0_use_47 : decode cX0_use 47 = .ok (.iaload, 1) := by decide +kernel
theorem dX0_use_48 : decode cX0_use 48 = .ok (.iload_n 3, 1) := by decide +kernel
theorem dX0_use_49 : decode cX0_use 49 = .ok (.if_icmp .ne 51, 3) := by decide +kernel
theorem dX0_use_52 : decode cX0_use 52 = .ok (.aload_n 1, 1) := by decide +kernel
theorem dX0_use_53 : decode cX0_use 53 = .ok (.getfield 76, 3) := by decide +kernel
theorem dX0_use_56 : decode cX0_use 56 = .ok (.iload 5, 2) := by decide +kernel
theorem dX0_use_58 : decode cX0_use 58 = .ok (.iaload, 1) := by decide +kernel
theorem dX0_use_59 : decode cX0_use 59 = .ok (.aload_n 1, 1) := by decide +kernel
theorem dX0_use_60 : decode cX0_use 60 = .ok (.getfield 79, 3) := by decide +kernel
theorem dX0_use_63 : decode cX0_use 63 = .ok (.iload 5, 2) := by decide +kernel
theorem dX0_use_65 : decode cX0_use 65 = .ok (.iaload, 1) := by decide +kernel
theorem dX0_use_66 : decode cX0_use 66 = .ok (.imul, 1) := by decide +kernel
theorem dX0_use_67 : decode cX0_use 67 = .ok (.iload 4, 2) := by decide +kernel
theorem dX0_use_69 : decode cX0_use 69 = .ok (.imul, 1) := by decide +kernel
theorem dX0_use_70 : decode cX0_use 70 = .ok (.bipush 100, 2) := by decide +kernel
theorem dX0_use_72 : decode cX0_use 72 = .ok (.idiv, 1) := by decide +kernel
theorem dX0_use_73 : decode cX0_use 73 = .ok (.istore 6, 2) := by decide +kernel
theorem dX0_use_75 : decode cX0_use 75 = .ok (.aload_n 1, 1) := by decide +kernel
theorem dX0_use_76 : decode cX0_use 76 = .ok (.getfield 82, 3) := by decide +kernel
theorem dX0_use_79 : decode cX0_use 79 = .ok (.iload_n 3, 1) := by decide +kernel
theorem dX0_use_80 : decode cX0_use 80 = .ok (.dup2, 1) := by decide +kernel
theorem dX0_use_81 : decode cX0_use 81 = .ok (.iaload, 1) := by decide +kernel
theorem dX0_use_82 : decode cX0_use 82 = .ok (.iload 6, 2) := by decide +kernel
theorem dX0_use_84 : decode cX0_use 84 = .ok (.iadd, 1) := by decide +kernel
theorem dX0_use_85 : decode cX0_use 85 = .ok (.iastore, 1) := by decide +kernel
theorem dX0_use_86 : decode cX0_use 86 = .ok (.iload_n 2, 1) := by decide +kernel
theorem dX0_use_87 : decode cX0_use 87 = .ok (.iload 6, 2) := by decide +kernel
theorem dX0_use_89 : decode cX0_use 89 = .ok (.iadd, 1) := by decide +kernel
theorem dX0_use_90 : decode cX0_use 90 = .ok (.istore_n 2, 1) := by decide +kernel
theorem dX0_use_91 : decode cX0_use 91 = .ok (.aload_n 0, 1) := by decide +kernel
theorem dX0_use_92 : decode cX0_use 92 = .ok (.aload_n 1, 1) := by decide +kernel
theorem dX0_use_93 : decode cX0_use 93 = .ok (.iload 5, 2) := by decide +kernel
theorem dX0_use_95 : decode cX0_use 95 = .ok (.iload 4, 2) := by decide +kernel
theorem dX0_use_97 : decode cX0_use 97 = .ok (.invokevirtual 85, 3) := by decide +kernel
theorem dX0_use_100 : decode cX0_use 100 = .ok (.iinc 5 1, 3) := by decide +kernel
theorem dX0_use_103 : decode cX0_use 103 = .ok (.goto (-74), 3) := by decide +kernel
theorem dX0_use_106 : decode cX0_use 106 = .ok (.iinc 3 1, 3) := by decide +kernel
theorem dX0_use_109 : decode cX0_use 109 = .ok (.goto (-105), 3) := by decide +kernel
theorem dX0_use_112 : decode cX0_use 112 = .ok (.iload_n 2, 1) := by decide +kernel
theorem dX0_use_113 : decode cX0_use 113 = .ok (.ireturn, 1) := by decide +kernel
theorem dX0_wearDown_0 : decode cX0_wearDown 0 = .ok (.aload_n 1, 1) := by decide +kernel
theorem dX0_wearDown_1 : decode cX0_wearDown 1 = .ok (.getfield 79, 3) := by decide +kernel
theorem dX0_wearDown_4 : decode cX0_wearDown 4 = .ok (.iload_n 2, 1) := by decide +kernel
theorem dX0_wearDown_5 : decode cX0_wearDown 5 = .ok (.iconst 0, 1) := by decide +kernel
theorem dX0_wearDown_6 : decode cX0_wearDown 6 = .ok (.aload_n 1, 1) := by decide +kernel
theorem dX0_wearDown_7 : decode cX0_wearDown 7 = .ok (.getfield 79, 3) := by decide +kernel
theorem dX0_wearDown_10 : decode cX0_wearDown 10 = .ok (.iload_n 2, 1) := by decide +kernel
theorem dX0_wearDown_11 : decode cX0_wearDown 11 = .ok (.iaload, 1) := by decide +kernel
theorem dX0_wearDown_12 : decode cX0_wearDown 12 = .ok (.aload_n 0, 1) := by decide +kernel
theorem dX0_wearDown_13 : decode cX0_wearDown 13 = .ok (.getfield 30, 3) := by decide +kernel
theorem dX0_wearDown_16 : decode cX0_wearDown 16 = .ok (.getfield 89, 3) := by decide +kernel
theorem dX0_wearDown_19 : decode cX0_wearDown 19 = .ok (.iload_n 2, 1) := by decide +kernel
theorem dX0_wearDown_20 : decode cX0_wearDown 20 = .ok (.iaload, 1) := by decide +kernel
theorem dX0_wearDown_21 : decode cX0_wearDown 21 = .ok (.iload_n 3, 1) := by decide +kernel
theorem dX0_wearDown_22 : decode cX0_wearDown 22 = .ok (.imul, 1) := by decide +kernel
theorem dX0_wearDown_23 : decode cX0_wearDown 23 = .ok (.bipush 10, 2) := by decide +kernel
theorem dX0_wearDown_25 : decode cX0_wearDown 25 = .ok (.idiv, 1) := by decide +kernel
theorem dX0_wearDown_26 : decode cX0_wearDown 26 = .ok (.isub, 1) := by decide +kernel
theorem dX0_wearDown_27 : decode cX0_wearDown 27 = .ok (.invokestatic 92, 3) := by decide +kernel
theorem dX0_wearDown_30 : decode cX0_wearDown 30 = .ok (.iastore, 1) := by decide +kernel
theorem dX0_wearDown_31 : decode cX0_wearDown 31 = .ok (.aload_n 0, 1) := by decide +kernel
theorem dX0_wearDown_32 : decode cX0_wearDown 32 = .ok (.getfield 30, 3) := by decide +kernel
theorem dX0_wearDown_35 : decode cX0_wearDown 35 = .ok (.getfield 98, 3) := by decide +kernel
theorem dX0_wearDown_38 : decode cX0_wearDown 38 = .ok (.iload_n 2, 1) := by decide +kernel
theorem dX0_wearDown_39 : decode cX0_wearDown 39 = .ok (.baload, 1) := by decide +kernel
theorem dX0_wearDown_40 : decode cX0_wearDown 40 = .ok (.ifCond .eq 21, 3) := by decide +kernel
theorem dX0_wearDown_43 : decode cX0_wearDown 43 = .ok (.iload_n 3, 1) := by decide +kernel
theorem dX0_wearDown_44 : decode cX0_wearDown 44 = .ok (.ifCond .eq 17, 3) := by decide +kernel
theorem dX0_wearDown_47 : decode cX0_wearDown 47 = .ok (.aload_n 1, 1) := by decide +kernel
theorem dX0_wearDown_48 : decode cX0_wearDown 48 = .ok (.getfield 102, 3) := by decide +kernel
theorem dX0_wearDown_51 : decode cX0_wearDown 51 = .ok (.iload_n 2, 1) := by decide +kernel
theorem dX0_wearDown_52 : decode cX0_wearDown 52 = .ok (.iconst 1, 1) := by decide +kernel
theorem dX0_wearDown_53 : decode cX0_wearDown 53 = .ok (.bastore, 1) := by decide +kernel
theorem dX0_wearDown_54 : decode cX0_wearDown 54 = .ok (.aload_n 1, 1) := by decide +kernel
theorem dX0_wearDown_55 : decode cX0_wearDown 55 = .ok (.getfield 73, 3) := by decide +kernel
theorem dX0_wearDown_58 : decode cX0_wearDown 58 = .ok (.iload_n 2, 1) := by decide +kernel
theorem dX0_wearDown_59 : decode cX0_wearDown 59 = .ok (.iconst (-1), 1) := by decide +kernel
theorem dX0_wearDown_60 : decode cX0_wearDown 60 = .ok (.iastore, 1) := by decide +kernel
theorem dX0_wearDown_61 : decode cX0_wearDown 61 = .ok (.return_, 1) := by decide +kernel
theorem dX0_mend_0 : decode cX0_mend 0 = .ok (.iconst 0, 1) := by decide +kernel
theorem dX0_mend_1 : decode cX0_mend 1 = .ok (.istore_n 2, 1) := by decide +kernel
theorem dX0_mend_2 : decode cX0_mend 2 = .ok (.iload_n 2, 1) := by decide +kernel
theorem dX0_mend_3 : decode cX0_mend 3 = .ok (.aload_n 0, 1) := by decide +kernel
theorem dX0_mend_4 : decode cX0_mend 4 = .ok (.getfield 30, 3) := by decide +kernel
theorem dX0_mend_7 : decode cX0_mend 7 = .ok (.getfield 64, 3) := by decide +kernel
theorem dX0_mend_10 : decode cX0_mend 10 = .ok (.if_icmp .ge 111, 3) := by decide +kernel
theorem dX0_mend_13 : decode cX0_mend 13 = .ok (.iconst (-1), 1) := by decide +kernel
theorem dX0_mend_14 : decode cX0_mend 14 = .ok (.istore_n 3, 1) := by decide +kernel
theorem dX0_mend_15 : decode cX0_mend 15 = .ok (.iconst 0, 1) := by decide +kernel
theorem dX0_mend_16 : decode cX0_mend 16 = .ok (.istore 4, 2) := by decide +kernel
theorem dX0_mend_18 : decode cX0_mend 18 = .ok (.iload 4, 2) := by decide +kernel
theorem dX0_mend_20 : decode cX0_mend 20 = .ok (.aload_n 0, 1) := by decide +kernel
theorem dX0_mend_21 : decode cX0_mend 21 = .ok (.getfield 30, 3) := by decide +kernel
theorem dX0_mend_24 : decode cX0_mend 24 = .ok (.getfield 70, 3) := by decide +kernel
theorem dX0_mend_27 : decode cX0_mend 27 = .ok (.if_icmp .ge 56, 3) := by decide +kernel
theorem dX0_mend_30 : decode cX0_mend 30 = .ok (.aload_n 1, 1) := by decide +kernel
theorem dX0_mend_31 : decode cX0_mend 31 = .ok (.getfield 73, 3) := by decide +kernel
theorem dX0_mend_34 : decode cX0_mend 34 = .ok (.iload 4, 2) := by decide +kernel
theorem dX0_mend_36 : decode cX0_mend 36 = .ok (.iaload, 1) := by decide +kernel
theorem dX0_mend_37 : decode cX0_mend 37 = .ok (.iload_n 2, 1) := by decide +kernel
theorem dX0_mend_38 : decode cX0_mend 38 = .ok (.if_icmp .ne 7, 3) := by decide +kernel
theorem dX0_mend_41 : decode cX0_mend 41 = .ok (.iconst 1, 1) := by decide +kernel
theorem dX0_mend_42 : decode cX0_mend 42 = .ok (.goto 4, 3) := by decide +kernel
theorem dX0_mend_45 : decode cX0_mend 45 = .ok (.iconst 0, 1) := by decide +kernel
theorem dX0_mend_46 : decode cX0_mend 46 = .ok (.istore 5, 2) := by decide +kernel
theorem dX0_mend_48 : decode cX0_mend 48 = .ok (.iload 5, 2) := by decide +kernel
theorem dX0_mend_50 : decode cX0_mend 50 = .ok (.ifCond .eq 27, 3) := by decide +kernel
theorem dX0_mend_53 : decode cX0_mend 53 = .ok (.iload_n 3, 1) := by decide +kernel
theorem dX0_mend_54 : decode cX0_mend 54 = .ok (.iconst (-1), 1) := by decide +kernel
theorem dX0_mend_55 : decode cX0_mend 55 = .ok (.if_icmp .eq 19, 3) := by decide +kernel
theorem dX0_mend_58 : decode cX0_mend 58 = .ok (.aload_n 1, 1) := by decide +kernel
theorem dX0_mend_59 : decode cX0_mend 59 = .ok (.getfield 79, 3) := by decide +kernel
theorem dX0_mend_62 : decode cX0_mend 62 = .ok (.iload 4, 2) := by decide +kernel
theorem dX0_mend_64 : decode cX0_mend 64 = .ok (.iaload, 1) := by decide +kernel
theorem dX0_mend_65 : decode cX0_mend 65 = .ok (.aload_n 1, 1) := by decide +kernel
theorem dX0_mend_66 : decode cX0_mend 66 = .ok (.getfield 79, 3) := by decide +kernel
theorem dX0_mend_69 : decode cX0_mend 69 = .ok (.iload_n 3, 1) := by decide +kernel
theorem dX0_mend_70 : decode cX0_mend 70 = .ok (.iaload, 1) := by decide +kernel
theorem dX0_mend_71 : decode cX0_mend 71 = .ok (.if_icmp .ge 6, 3) := by decide +kernel
theorem dX0_mend_74 : decode cX0_mend 74 = .ok (.iload 4, 2) := by decide +kernel
theorem dX0_mend_76 : decode cX0_mend 76 = .ok (.istore_n 3, 1) := by decide +kernel
theorem dX0_mend_77 : decode cX0_mend 77 = .ok (.iinc 4 1, 3) := by decide +kernel
theorem dX0_mend_80 : decode cX0_mend 80 = .ok (.goto (-62), 3) := by decide +kernel
theorem dX0_mend_83 : decode cX0_mend 83 = .ok (.iload_n 3, 1) := by decide +kernel
theorem dX0_mend_84 : decode cX0_mend 84 = .ok (.iconst (-1), 1) := by decide +kernel
theorem dX0_mend_85 : decode cX0_mend 85 = .ok (.if_icmp .eq 30, 3) := by decide +kernel
theorem dX0_mend_88 : decode cX0_mend 88 = .ok (.aload_n 1, 1) := by decide +kernel
theorem dX0_mend_89 : decode cX0_mend 89 = .ok (.getfield 79, 3) := by decide +kernel
theorem dX0_mend_92 : decode cX0_mend 92 = .ok (.iload_n 3, 1) := by decide +kernel
theorem dX0_mend_93 : decode cX0_mend 93 = .ok (.bipush 100, 2) := by decide +kernel
theorem dX0_mend_95 : decode cX0_mend 95 = .ok (.aload_n 1, 1) := by decide +kernel
theorem dX0_mend_96 : decode cX0_mend 96 = .ok (.getfield 79, 3) := by decide +kernel
theorem dX0_mend_99 : decode cX0_mend 99 = .ok (.iload_n 3, 1) := by decide +kernel
theorem dX0_mend_100 : decode cX0_mend 100 = .ok (.iaload, 1) := by decide +kernel
theorem dX0_mend_101 : decode cX0_mend 101 = .ok (.aload_n 0, 1) := by decide +kernel
theorem dX0_mend_102 : decode cX0_mend 102 = .ok (.getfield 30, 3) := by decide +kernel
theorem dX0_mend_105 : decode cX0_mend 105 = .ok (.getfield 105, 3) := by decide +kernel
theorem dX0_mend_108 : decode cX0_mend 108 = .ok (.iload_n 2, 1) := by decide +kernel
theorem dX0_mend_109 : decode cX0_mend 109 = .ok (.iaload, 1) := by decide +kernel
theorem dX0_mend_110 : decode cX0_mend 110 = .ok (.iadd, 1) := by decide +kernel
theorem dX0_mend_111 : decode cX0_mend 111 = .ok (.invokestatic 108, 3) := by decide +kernel
theorem dX0_mend_114 : decode cX0_mend 114 = .ok (.iastore, 1) := by decide +kernel
theorem dX0_mend_115 : decode cX0_mend 115 = .ok (.iinc 2 1, 3) := by decide +kernel
theorem dX0_mend_118 : decode cX0_mend 118 = .ok (.goto (-116), 3) := by decide +kernel
theorem dX0_mend_121 : decode cX0_mend 121 = .ok (.return_, 1) := by decide +kernel
theorem dX0_noons_0 : decode cX0_noons 0 = .ok (.aload_n 0, 1) := by decide +kernel
theorem dX0_noons_1 : decode cX0_noons 1 = .ok (.aload_n 1, 1) := by decide +kernel
theorem dX0_noons_2 : decode cX0_noons 2 = .ok (.invokevirtual 111, 3) := by decide +kernel
theorem dX0_noons_5 : decode cX0_noons 5 = .ok (.iload_n 3, 1) := by decide +kernel
theorem dX0_noons_6 : decode cX0_noons 6 = .ok (.ifCond .eq 8, 3) := by decide +kernel
theorem dX0_noons_9 : decode cX0_noons 9 = .ok (.bipush (-70), 2) := by decide +kernel
theorem dX0_noons_11 : decode cX0_noons 11 = .ok (.goto 5, 3) := by decide +kernel
theorem dX0_noons_14 : decode cX0_noons 14 = .ok (.bipush (-60), 2) := by decide +kernel
theorem dX0_noons_16 : decode cX0_noons 16 = .ok (.istore 4, 2) := by decide +kernel
theorem dX0_noons_18 : decode cX0_noons 18 = .ok (.iconst 0, 1) := by decide +kernel
theorem dX0_noons_19 : decode cX0_noons 19 = .ok (.istore 5, 2) := by decide +kernel
theorem dX0_noons_21 : decode cX0_noons 21 = .ok (.iload 5, 2) := by decide +kernel
theorem dX0_noons_23 : decode cX0_noons 23 = .ok (.aload_n 0, 1) := by decide +kernel
theorem dX0_noons_24 : decode cX0_noons 24 = .ok (.getfield 30, 3) := by decide +kernel
theorem dX0_noons_27 : decode cX0_noons 27 = .ok (.getfield 64, 3) := by decide +kernel
theorem dX0_noons_30 : decode cX0_noons 30 = .ok (.if_icmp .ge 18, 3) := by decide +kernel
theorem dX0_noons_33 : decode cX0_noons 33 = .ok (.aload_n 0, 1) := by decide +kernel
theorem dX0_noons_34 : decode cX0_noons 34 = .ok (.aload_n 1, 1) := by decide +kernel
theorem dX0_noons_35 : decode cX0_noons 35 = .ok (.iload 5, 2) := by decide +kernel
theorem dX0_noons_37 : decode cX0_noons 37 = .ok (.iload 4, 2) := by decide +kernel
theorem dX0_noons_39 : decode cX0_noons 39 = .ok (.invokevirtual 114, 3) := by decide +kernel
theorem dX0_noons_42 : decode cX0_noons 42 = .ok (.iinc 5 1, 3) := by decide +kernel
theorem dX0_noons_45 : decode cX0_noons 45 = .ok (.goto (-24), 3) := by decide +kernel
theorem dX0_noons_48 : decode cX0_noons 48 = .ok (.iconst 0, 1) := by decide +kernel
theorem dX0_noons_49 : decode cX0_noons 49 = .ok (.istore 5, 2) := by decide +kernel
theorem dX0_noons_51 : decode cX0_noons 51 = .ok (.iload 5, 2) := by decide +kernel
theorem dX0_noons_53 : decode cX0_noons 53 = .ok (.aload_n 0, 1) := by decide +kernel
theorem dX0_noons_54 : decode cX0_noons 54 = .ok (.getfield 30, 3) := by decide +kernel
theorem dX0_noons_57 : decode cX0_noons 57 = .ok (.getfield 117, 3) := by decide +kernel
theorem dX0_noons_60 : decode cX0_noons 60 = .ok (.getfield 121, 3) := by decide +kernel
theorem dX0_noons_63 : decode cX0_noons 63 = .ok (.if_icmp .ge 130, 3) := by decide +kernel
theorem dX0_noons_66 : decode cX0_noons 66 = .ok (.aload_n 0, 1) := by decide +kernel
theorem dX0_noons_67 : decode cX0_noons 67 = .ok (.getfield 30, 3) := by decide +kernel
theorem dX0_noons_70 : decode cX0_noons 70 = .ok (.getfield 117, 3) := by decide +kernel
theorem dX0_noons_73 : decode cX0_noons 73 = .ok (.getfield 126, 3) := by decide +kernel
theorem dX0_noons_76 : decode cX0_noons 76 = .ok (.iload 5, 2) := by decide +kernel
theorem dX0_noons_78 : decode cX0_noons 78 = .ok (.iaload, 1) := by decide +kernel
theorem dX0_noons_79 : decode cX0_noons 79 = .ok (.istore 6, 2) := by decide +kernel
theorem dX0_noons_81 : decode cX0_noons 81 = .ok (.iconst 0, 1) := by decide +kernel
theorem dX0_noons_82 : decode cX0_noons 82 = .ok (.istore 7, 2) := by decide +kernel
theorem dX0_noons_84 : decode cX0_noons 84 = .ok (.iload 7, 2) := by decide +kernel
theorem dX0_noons_86 : decode cX0_noons 86 = .ok (.aload_n 0, 1) := by decide +kernel
theorem dX0_noons_87 : decode cX0_noons 87 = .ok (.getfield 30, 3) := by decide +kernel
theorem dX0_noons_90 : decode cX0_noons 90 = .ok (.getfield 70, 3) := by decide +kernel
theorem dX0_noons_93 : decode cX0_noons 93 = .ok (.if_icmp .ge 42, 3) := by decide +kernel
theorem dX0_noons_96 : decode cX0_noons 96 = .ok (.aload_n 0, 1) := by decide +kernel
theorem dX0_noons_97 : decode cX0_noons 97 = .ok (.getfield 30, 3) := by decide +kernel
theorem dX0_noons_100 : decode cX0_noons 100 = .ok (.getfield 129, 3) := by decide +kernel
theorem dX0_noons_103 : decode cX0_noons 103 = .ok (.iload 7, 2) := by decide +kernel
theorem dX0_noons_105 : decode cX0_noons 105 = .ok (.iaload, 1) := by decide +kernel
theorem dX0_noons_106 : decode cX0_noons 106 = .ok (.iload 6, 2) := by decide +kernel
theorem dX0_noons_108 : decode cX0_noons 108 = .ok (.if_icmp .ne 21, 3) := by decide +kernel
theorem dX0_noons_111 : decode cX0_noons 111 = .ok (.aload_n 1, 1) := by decide +kernel
theorem dX0_noons_112 : decode cX0_noons 112 = .ok (.getfield 102, 3) := by decide +kernel
theorem dX0_noons_115 : decode cX0_noons 115 = .ok (.iload 7, 2) := by decide +kernel
theorem dX0_noons_117 : decode cX0_noons 117 = .ok (.baload, 1) := by decide +kernel
theorem dX0_noons_118 : decode cX0_noons 118 = .ok (.ifCond .ne 11, 3) := by decide +kernel
theorem dX0_noons_121 : decode cX0_noons 121 = .ok (.aload_n 0, 1) := by decide +kernel
theorem dX0_noons_122 : decode cX0_noons 122 = .ok (.aload_n 1, 1) := by decide +kernel
theorem dX0_noons_123 : decode cX0_noons 123 = .ok (.iload 7, 2) := by decide +kernel
theorem dX0_noons_125 : decode cX0_noons 125 = .ok (.iload_n 2, 1) := by decide +kernel
theorem dX0_noons_126 : decode cX0_noons 126 = .ok (.invokevirtual 132, 3) := by decide +kernel
theorem dX0_noons_129 : decode cX0_noons 129 = .ok (.iinc 7 1, 3) := by decide +kernel
theorem dX0_noons_132 : decode cX0_noons 132 = .ok (.goto (-48), 3) := by decide +kernel
theorem dX0_noons_135 : decode cX0_noons 135 = .ok (.iconst 0, 1) := by decide +kernel
theorem dX0_noons_136 : decode cX0_noons 136 = .ok (.istore 7, 2) := by decide +kernel
theorem dX0_noons_138 : decode cX0_noons 138 = .ok (.iload 7, 2) := by decide +kernel
theorem dX0_noons_140 : decode cX0_noons 140 = .ok (.aload_n 0, 1) := by decide +kernel
theorem dX0_noons_141 : decode cX0_noons 141 = .ok (.getfield 30, 3) := by decide +kernel
theorem dX0_noons_144 : decode cX0_noons 144 = .ok (.getfield 64, 3) := by decide +kernel
theorem dX0_noons_147 : decode cX0_noons 147 = .ok (.if_icmp .ge 40, 3) := by decide +kernel
theorem dX0_noons_150 : decode cX0_noons 150 = .ok (.aload_n 0, 1) := by decide +kernel
theorem dX0_noons_151 : decode cX0_noons 151 = .ok (.iload 7, 2) := by decide +kernel
theorem dX0_noons_153 : decode cX0_noons 153 = .ok (.iload 6, 2) := by decide +kernel
theorem dX0_noons_155 : decode cX0_noons 155 = .ok (.invokevirtual 135, 3) := by decide +kernel
theorem dX0_noons_158 : decode cX0_noons 158 = .ok (.ifCond .eq 23, 3) := by decide +kernel
theorem dX0_noons_161 : decode cX0_noons 161 = .ok (.aload_n 0, 1) := by decide +kernel
theorem dX0_noons_162 : decode cX0_noons 162 = .ok (.aload_n 1, 1) := by decide +kernel
theorem dX0_noons_163 : decode cX0_noons 163 = .ok (.iload 7, 2) := by decide +kernel
theorem dX0_noons_165 : decode cX0_noons 165 = .ok (.aload_n 0, 1) := by decide +kernel
theorem dX0_noons_166 : decode cX0_noons 166 = .ok (.getfield 30, 3) := by decide +kernel
theorem dX0_noons_169 : decode cX0_noons 169 = .ok (.getfield 117, 3) := by decide +kernel
theorem dX0_noons_172 : decode cX0_noons 172 = .ok (.getfield 139, 3) := by decide +kernel
theorem dX0_noons_175 : decode cX0_noons 175 = .ok (.iload 6, 2) := by decide +kernel
theorem dX0_noons_177 : decode cX0_noons 177 = .ok (.iaload, 1) := by decide +kernel
theorem dX0_noons_178 : decode cX0_noons 178 = .ok (.invokevirtual 114, 3) := by decide +kernel
theorem dX0_noons_181 : decode cX0_noons 181 = .ok (.iinc 7 1, 3) := by decide +kernel
theorem dX0_noons_184 : decode cX0_noons 184 = .ok (.goto (-46), 3) := by decide +kernel
theorem dX0_noons_187 : decode cX0_noons 187 = .ok (.iinc 5 1, 3) := by decide +kernel
theorem dX0_noons_190 : decode cX0_noons 190 = .ok (.goto (-139), 3) := by decide +kernel
theorem dX0_noons_193 : decode cX0_noons 193 = .ok (.return_, 1) := by decide +kernel
theorem dX0_stoodAt_0 : decode cX0_stoodAt 0 = .ok (.aload_n 0, 1) := by decide +kernel
theorem dX0_stoodAt_1 : decode cX0_stoodAt 1 = .ok (.getfield 21, 3) := by decide +kernel
theorem dX0_stoodAt_4 : decode cX0_stoodAt 4 = .ok (.iload_n 1, 1) := by decide +kernel
theorem dX0_stoodAt_5 : decode cX0_stoodAt 5 = .ok (.iaload, 1) := by decide +kernel
theorem dX0_stoodAt_6 : decode cX0_stoodAt 6 = .ok (.istore_n 3, 1) := by decide +kernel
theorem dX0_stoodAt_7 : decode cX0_stoodAt 7 = .ok (.iload_n 3, 1) := by decide +kernel
theorem dX0_stoodAt_8 : decode cX0_stoodAt 8 = .ok (.iconst (-1), 1) := by decide +kernel
theorem dX0_stoodAt_9 : decode cX0_stoodAt 9 = .ok (.if_icmp .eq 20, 3) := by decide +kernel
theorem dX0_stoodAt_12 : decode cX0_stoodAt 12 = .ok (.aload_n 0, 1) := by decide +kernel
theorem dX0_stoodAt_13 : decode cX0_stoodAt 13 = .ok (.getfield 30, 3) := by decide +kernel
theorem dX0_stoodAt_16 : decode cX0_stoodAt 16 = .ok (.getfield 129, 3) := by decide +kernel
theorem dX0_stoodAt_19 : decode cX0_stoodAt 19 = .ok (.iload_n 3, 1) := by decide +kernel
theorem dX0_stoodAt_20 : decode cX0_stoodAt 20 = .ok (.iaload, 1) := by decide +kernel
theorem dX0_stoodAt_21 : decode cX0_stoodAt 21 = .ok (.iload_n 2, 1) := by decide +kernel
theorem dX0_stoodAt_22 : decode cX0_stoodAt 22 = .ok (.if_icmp .ne 7, 3) := by decide +kernel
theorem dX0_stoodAt_25 : decode cX0_stoodAt 25 = .ok (.iconst 1, 1) := by decide +kernel
theorem dX0_stoodAt_26 : decode cX0_stoodAt 26 = .ok (.goto 4, 3) := by decide +kernel
theorem dX0_stoodAt_29 : decode cX0_stoodAt 29 = .ok (.iconst 0, 1) := by decide +kernel
theorem dX0_stoodAt_30 : decode cX0_stoodAt 30 = .ok (.ireturn, 1) := by decide +kernel
theorem dX0_remember_0 : decode cX0_remember 0 = .ok (.iconst 0, 1) := by decide +kernel
theorem dX0_remember_1 : decode cX0_remember 1 = .ok (.istore_n 2, 1) := by decide +kernel
theorem dX0_remember_2 : decode cX0_remember 2 = .ok (.iload_n 2, 1) := by decide +kernel
theorem dX0_remember_3 : decode cX0_remember 3 = .ok (.bipush 10, 2) := by decide +kernel
theorem dX0_remember_5 : decode cX0_remember 5 = .ok (.if_icmp .ge 40, 3) := by decide +kernel
theorem dX0_remember_8 : decode cX0_remember 8 = .ok (.aload_n 0, 1) := by decide +kernel
theorem dX0_remember_9 : decode cX0_remember 9 = .ok (.getfield 15, 3) := by decide +kernel
theorem dX0_remember_12 : decode cX0_remember 12 = .ok (.iload_n 2, 1) := by decide +kernel
theorem dX0_remember_13 : decode cX0_remember 13 = .ok (.aload_n 1, 1) := by decide +kernel
theorem dX0_remember_14 : decode cX0_remember 14 = .ok (.getfield 73, 3) := by decide +kernel
theorem dX0_remember_17 : decode cX0_remember 17 = .ok (.iload_n 2, 1) := by decide +kernel
theorem dX0_remember_18 : decode cX0_remember 18 = .ok (.iaload, 1) := by decide +kernel
theorem dX0_remember_19 : decode cX0_remember 19 = .ok (.iastore, 1) := by decide +kernel
theorem dX0_remember_20 : decode cX0_remember 20 = .ok (.aload_n 0, 1) := by decide +kernel
theorem dX0_remember_21 : decode cX0_remember 21 = .ok (.getfield 18, 3) := by decide +kernel
theorem dX0_remember_24 : decode cX0_remember 24 = .ok (.iload_n 2, 1) := by decide +kernel
theorem dX0_remember_25 : decode cX0_remember 25 = .ok (.aload_n 1, 1) := by decide +kernel
theorem dX0_remember_26 : decode cX0_remember 26 = .ok (.getfield 142, 3) := by decide +kernel
theorem dX0_remember_29 : decode cX0_remember 29 = .ok (.iload_n 2, 1) := by decide +kernel
theorem dX0_remember_30 : decode cX0_remember 30 = .ok (.iaload, 1) := by decide +kernel
theorem dX0_remember_31 : decode cX0_remember 31 = .ok (.iastore, 1) := by decide +kernel
theorem dX0_remember_32 : decode cX0_remember 32 = .ok (.aload_n 0, 1) := by decide +kernel
theorem dX0_remember_33 : decode cX0_remember 33 = .ok (.getfield 27, 3) := by decide +kernel
theorem dX0_remember_36 : decode cX0_remember 36 = .ok (.iload_n 2, 1) := by decide +kernel
theorem dX0_remember_37 : decode cX0_remember 37 = .ok (.iconst 0, 1) := by decide +kernel
theorem dX0_remember_38 : decode cX0_remember 38 = .ok (.iastore, 1) := by decide +kernel
theorem dX0_remember_39 : decode cX0_remember 39 = .ok (.iinc 2 1, 3) := by decide +kernel
theorem dX0_remember_42 : decode cX0_remember 42 = .ok (.goto (-40), 3) := by decide +kernel
theorem dX0_remember_45 : decode cX0_remember 45 = .ok (.return_, 1) := by decide +kernel
theorem dX0_ask_0 : decode cX0_ask 0 = .ok (.aload_n 0, 1) := by decide +kernel
theorem dX0_ask_1 : decode cX0_ask 1 = .ok (.getfield 30, 3) := by decide +kernel
theorem dX0_ask_4 : decode cX0_ask 4 = .ok (.getfield 129, 3) := by decide +kernel
theorem dX0_ask_7 : decode cX0_ask 7 = .ok (.iload_n 3, 1) := by decide +kernel
theorem dX0_ask_8 : decode cX0_ask 8 = .ok (.iaload, 1) := by decide +kernel
theorem dX0_ask_9 : decode cX0_ask 9 = .ok (.istore 4, 2) := by decide +kernel
theorem dX0_ask_11 : decode cX0_ask 11 = .ok (.aload_n 0, 1) := by decide +kernel
theorem dX0_ask_12 : decode cX0_ask 12 = .ok (.getfield 9, 3) := by decide +kernel
theorem dX0_ask_15 : decode cX0_ask 15 = .ok (.iconst 0, 1) := by decide +kernel
theorem dX0_ask_16 : decode cX0_ask 16 = .ok (.aload_n 1, 1) := by decide +kernel
theorem dX0_ask_17 : decode cX0_ask 17 = .ok (.getfield 76, 3) := by decide +kernel
theorem dX0_ask_20 : decode cX0_ask 20 = .ok (.iload_n 3, 1) := by decide +kernel
theorem dX0_ask_21 : decode cX0_ask 21 = .ok (.iaload, 1) := by decide +kernel
theorem dX0_ask_22 : decode cX0_ask 22 = .ok (.iastore, 1) := by decide +kernel
theorem dX0_ask_23 : decode cX0_ask 23 = .ok (.aload_n 0, 1) := by decide +kernel
theorem dX0_ask_24 : decode cX0_ask 24 = .ok (.getfield 9, 3) := by decide +kernel
theorem dX0_ask_27 : decode cX0_ask 27 = .ok (.iconst 1, 1) := by decide +kernel
theorem dX0_ask_28 : decode cX0_ask 28 = .ok (.aload_n 1, 1) := by decide +kernel
theorem dX0_ask_29 : decode cX0_ask 29 = .ok (.getfield 79, 3) := by decide +kernel
theorem dX0_ask_32 : decode cX0_ask 32 = .ok (.iload_n 3, 1) := by decide +kernel
theorem dX0_ask_33 : decode cX0_ask 33 = .ok (.iaload, 1) := by decide +kernel
theorem dX0_ask_34 : decode cX0_ask 34 = .ok (.iastore, 1) := by decide +kernel
theorem dX0_ask_35 : decode cX0_ask 35 = .ok (.aload_n 0, 1) := by decide +kernel
theorem dX0_ask_36 : decode cX0_ask 36 = .ok (.getfield 9, 3) := by decide +kernel
theorem dX0_ask_39 : decode cX0_ask 39 = .ok (.iconst 2, 1) := by decide +kernel
theorem dX0_ask_40 : decode cX0_ask 40 = .ok (.aload_n 0, 1) := by decide +kernel
theorem dX0_ask_41 : decode cX0_ask 41 = .ok (.getfield 30, 3) := by decide +kernel
theorem dX0_ask_44 : decode cX0_ask 44 = .ok (.getfield 145, 3) := by decide +kernel
theorem dX0_ask_47 : decode cX0_ask 47 = .ok (.iload_n 3, 1) := by decide +kernel
theorem dX0_ask_48 : decode cX0_ask 48 = .ok (.iaload, 1) := by decide +kernel
theorem dX0_ask_49 : decode cX0_ask 49 = .ok (.iastore, 1) := by decide +kernel
theorem dX0_ask_50 : decode cX0_ask 50 = .ok (.aload_n 0, 1) := by decide +kernel
theorem dX0_ask_51 : decode cX0_ask 51 = .ok (.getfield 9, 3) := by decide +kernel
theorem dX0_ask_54 : decode cX0_ask 54 = .ok (.iconst 3, 1) := by decide +kernel
theorem dX0_ask_55 : decode cX0_ask 55 = .ok (.aload_n 0, 1) := by decide +kernel
theorem dX0_ask_56 : decode cX0_ask 56 = .ok (.getfield 30, 3) := by decide +kernel
theorem dX0_ask_59 : decode cX0_ask 59 = .ok (.getfield 117, 3) := by decide +kernel
theorem dX0_ask_62 : decode cX0_ask 62 = .ok (.aload_n 1, 1) := by decide +kernel
theorem dX0_ask_63 : decode cX0_ask 63 = .ok (.getfield 148, 3) := by decide +kernel
theorem dX0_ask_66 : decode cX0_ask 66 = .ok (.iload_n 2, 1) := by decide +kernel
theorem dX0_ask_67 : decode cX0_ask 67 = .ok (.iaload, 1) := by decide +kernel
theorem dX0_ask_68 : decode cX0_ask 68 = .ok (.iload 4, 2) := by decide +kernel
theorem dX0_ask_70 : decode cX0_ask 70 = .ok (.invokevirtual 151, 3) := by decide +kernel
theorem dX0_ask_73 : decode cX0_ask 73 = .ok (.iastore, 1) := by decide +kernel
theorem dX0_ask_74 : decode cX0_ask 74 = .ok (.aload_n 0, 1) := by decide +kernel
theorem dX0_ask_75 : decode cX0_ask 75 = .ok (.getfield 9, 3) := by decide +kernel
theorem dX0_ask_78 : decode cX0_ask 78 = .ok (.iconst 4, 1) := by decide +kernel
theorem dX0_ask_79 : decode cX0_ask 79 = .ok (.aload_n 0, 1) := by decide +kernel
theorem dX0_ask_80 : decode cX0_ask 80 = .ok (.getfield 15, 3) := by decide +kernel
theorem dX0_ask_83 : decode cX0_ask 83 = .ok (.iload_n 3, 1) := by decide +kernel
theorem dX0_ask_84 : decode cX0_ask 84 = .ok (.iaload, 1) := by decide +kernel
theorem dX0_ask_85 : decode cX0_ask 85 = .ok (.iload_n 2, 1) := by decide +kernel
theorem dX0_ask_86 : decode cX0_ask 86 = .ok (.if_icmp .ne 7, 3) := by decide +kernel
theorem dX0_ask_89 : decode cX0_ask 89 = .ok (.iconst 1, 1) := by decide +kernel
theorem dX0_ask_90 : decode cX0_ask 90 = .ok (.goto 4, 3) := by decide +kernel
theorem dX0_ask_93 : decode cX0_ask 93 = .ok (.iconst 0, 1) := by decide +kernel
theorem dX0_ask_94 : decode cX0_ask 94 = .ok (.iastore, 1) := by decide +kernel
theorem dX0_ask_95 : decode cX0_ask 95 = .ok (.aload_n 0, 1) := by decide +kernel
theorem dX0_ask_96 : decode cX0_ask 96 = .ok (.getfield 9, 3) := by decide +kernel
theorem dX0_ask_99 : decode cX0_ask 99 = .ok (.iconst 5, 1) := by decide +kernel
theorem dX0_ask_100 : decode cX0_ask 100 = .ok (.aload_n 0, 1) := by decide +kernel
theorem dX0_ask_101 : decode cX0_ask 101 = .ok (.getfield 15, 3) := by decide +kernel
theorem dX0_ask_104 : decode cX0_ask 104 = .ok (.iload_n 3, 1) := by decide +kernel
theorem dX0_ask_105 : decode cX0_ask 105 = .ok (.iaload, 1) := by decide +kernel
theorem dX0_ask_106 : decode cX0_ask 106 = .ok (.iconst (-1), 1) := by decide +kernel
theorem dX0_ask_107 : decode cX0_ask 107 = .ok (.if_icmp .ne 7, 3) := by decide +kernel
theorem dX0_ask_110 : decode cX0_ask 110 = .ok (.iconst 0, 1) := by decide +kernel
theorem dX0_ask_111 : decode cX0_ask 111 = .ok (.goto 4, 3) := by decide +kernel
theorem dX0_ask_114 : decode cX0_ask 114 = .ok (.iconst 1, 1) := by decide +kernel
theorem dX0_ask_115 : decode cX0_ask 115 = .ok (.iastore, 1) := by decide +kernel
theorem dX0_ask_116 : decode cX0_ask 116 = .ok (.aload_n 0, 1) := by decide +kernel
theorem dX0_ask_117 : decode cX0_ask 117 = .ok (.getfield 9, 3) := by decide +kernel
theorem dX0_ask_120 : decode cX0_ask 120 = .ok (.bipush 6, 2) := by decide +kernel
theorem dX0_ask_122 : decode cX0_ask 122 = .ok (.aload_n 0, 1) := by decide +kernel
theorem dX0_ask_123 : decode cX0_ask 123 = .ok (.getfield 18, 3) := by decide +kernel
theorem dX0_ask_126 : decode cX0_ask 126 = .ok (.iload_n 3, 1) := by decide +kernel
theorem dX0_ask_127 : decode cX0_ask 127 = .ok (.iaload, 1) := by decide +kernel
theorem dX0_ask_128 : decode cX0_ask 128 = .ok (.iastore, 1) := by decide +kernel
theorem dX0_ask_129 : decode cX0_ask 129 = .ok (.aload_n 0, 1) := by decide +kernel
theorem dX0_ask_130 : decode cX0_ask 130 = .ok (.getfield 9, 3) := by decide +kernel
theorem dX0_ask_133 : decode cX0_ask 133 = .ok (.bipush 7, 2) := by decide +kernel
theorem dX0_ask_135 : decode cX0_ask 135 = .ok (.aload_n 1, 1) := by decide +kernel
theorem dX0_ask_136 : decode cX0_ask 136 = .ok (.getfield 154, 3) := by decide +kernel
theorem dX0_ask_139 : decode cX0_ask 139 = .ok (.iconst 1, 1) := by decide +kernel
theorem dX0_ask_140 : decode cX0_ask 140 = .ok (.iadd, 1) := by decide +kernel
theorem dX0_ask_141 : decode cX0_ask 141 = .ok (.iastore, 1) := by decide +kernel
theorem dX0_ask_142 : decode cX0_ask 142 = .ok (.aload_n 0, 1) := by decide +kernel
theorem dX0_ask_143 : decode cX0_ask 143 = .ok (.getfield 9, 3) := by decide +kernel
theorem dX0_ask_146 : decode cX0_ask 146 = .ok (.bipush 8, 2) := by decide +kernel
theorem dX0_ask_148 : decode cX0_ask 148 = .ok (.aload_n 0, 1) := by decide +kernel
theorem dX0_ask_149 : decode cX0_ask 149 = .ok (.getfield 30, 3) := by decide +kernel
theorem dX0_ask_152 : decode cX0_ask 152 = .ok (.getfield 105, 3) := by decide +kernel
theorem dX0_ask_155 : decode cX0_ask 155 = .ok (.iload_n 2, 1) := by decide +kernel
theorem dX0_ask_156 : decode cX0_ask 156 = .ok (.iaload, 1) := by decide +kernel
theorem dX0_ask_157 : decode cX0_ask 157 = .ok (.iastore, 1) := by decide +kernel
theorem dX0_ask_158 : decode cX0_ask 158 = .ok (.aload_n 0, 1) := by decide +kernel
theorem dX0_ask_159 : decode cX0_ask 159 = .ok (.getfield 9, 3) := by decide +kernel
theorem dX0_ask_162 : decode cX0_ask 162 = .ok (.bipush 9, 2) := by decide +kernel
theorem dX0_ask_164 : decode cX0_ask 164 = .ok (.aload_n 0, 1) := by decide +kernel
theorem dX0_ask_165 : decode cX0_ask 165 = .ok (.getfield 30, 3) := by decide +kernel
theorem dX0_ask_168 : decode cX0_ask 168 = .ok (.getfield 157, 3) := by decide +kernel
theorem dX0_ask_171 : decode cX0_ask 171 = .ok (.iload_n 2, 1) := by decide +kernel
theorem dX0_ask_172 : decode cX0_ask 172 = .ok (.iaload, 1) := by decide +kernel
theorem dX0_ask_173 : decode cX0_ask 173 = .ok (.iastore, 1) := by decide +kernel
theorem dX0_ask_174 : decode cX0_ask 174 = .ok (.aload_n 0, 1) := by decide +kernel
theorem dX0_ask_175 : decode cX0_ask 175 = .ok (.getfield 9, 3) := by decide +kernel
theorem dX0_ask_178 : decode cX0_ask 178 = .ok (.bipush 10, 2) := by decide +kernel
theorem dX0_ask_180 : decode cX0_ask 180 = .ok (.aload_n 0, 1) := by decide +kernel
theorem dX0_ask_181 : decode cX0_ask 181 = .ok (.getfield 30, 3) := by decide +kernel
theorem dX0_ask_184 : decode cX0_ask 184 = .ok (.getfield 117, 3) := by decide +kernel
theorem dX0_ask_187 : decode cX0_ask 187 = .ok (.getfield 139, 3) := by decide +kernel
theorem dX0_ask_190 : decode cX0_ask 190 = .ok (.iload 4, 2) := by decide +kernel
theorem dX0_ask_192 : decode cX0_ask 192 = .ok (.iaload, 1) := by decide +kernel
theorem dX0_ask_193 : decode cX0_ask 193 = .ok (.iastore, 1) := by decide +kernel
theorem dX0_ask_194 : decode cX0_ask 194 = .ok (.aload_n 0, 1) := by decide +kernel
theorem dX0_ask_195 : decode cX0_ask 195 = .ok (.getfield 30, 3) := by decide +kernel
theorem dX0_ask_198 : decode cX0_ask 198 = .ok (.getfield 160, 3) := by decide +kernel
theorem dX0_ask_201 : decode cX0_ask 201 = .ok (.iload_n 2, 1) := by decide +kernel
theorem dX0_ask_202 : decode cX0_ask 202 = .ok (.aload_n 0, 1) := by decide +kernel
theorem dX0_ask_203 : decode cX0_ask 203 = .ok (.getfield 9, 3) := by decide +kernel
theorem dX0_ask_206 : decode cX0_ask 206 = .ok (.invokevirtual 164, 3) := by decide +kernel
theorem dX0_ask_209 : decode cX0_ask 209 = .ok (.ireturn, 1) := by decide +kernel
theorem dX0_aim_0 : decode cX0_aim 0 = .ok (.iconst (-1), 1) := by decide +kernel
theorem dX0_aim_1 : decode cX0_aim 1 = .ok (.istore 4, 2) := by decide +kernel
theorem dX0_aim_3 : decode cX0_aim 3 = .ok (.iconst 0, 1) := by decide +kernel
theorem dX0_aim_4 : decode cX0_aim 4 = .ok (.istore 5, 2) := by decide +kernel
theorem dX0_aim_6 : decode cX0_aim 6 = .ok (.iconst 0, 1) := by decide +kernel
theorem dX0_aim_7 : decode cX0_aim 7 = .ok (.istore 6, 2) := by decide +kernel
theorem dX0_aim_9 : decode cX0_aim 9 = .ok (.iload 6, 2) := by decide +kernel
theorem dX0_aim_11 : decode cX0_aim 11 = .ok (.aload_n 0, 1) := by decide +kernel
theorem dX0_aim_12 : decode cX0_aim 12 = .ok (.getfield 30, 3) := by decide +kernel
theorem dX0_aim_15 : decode cX0_aim 15 = .ok (.getfield 70, 3) := by decide +kernel
theorem dX0_aim_18 : decode cX0_aim 18 = .ok (.if_icmp .ge 56, 3) := by decide +kernel
theorem dX0_aim_21 : decode cX0_aim 21 = .ok (.aload_n 1, 1) := by decide +kernel
theorem dX0_aim_22 : decode cX0_aim 22 = .ok (.getfield 102, 3) := by decide +kernel
theorem dX0_aim_25 : decode cX0_aim 25 = .ok (.iload 6, 2) := by decide +kernel
theorem dX0_aim_27 : decode cX0_aim 27 = .ok (.baload, 1) := by decide +kernel
theorem dX0_aim_28 : decode cX0_aim 28 = .ok (.ifCond .ne 40, 3) := by decide +kernel
theorem dX0_aim_31 : decode cX0_aim 31 = .ok (.aload_n 0, 1) := by decide +kernel
theorem dX0_aim_32 : decode cX0_aim 32 = .ok (.aload_n 1, 1) := by decide +kernel
theorem dX0_aim_33 : decode cX0_aim 33 = .ok (.iload_n 2, 1) := by decide +kernel
theorem dX0_aim_34 : decode cX0_aim 34 = .ok (.iload 6, 2) := by decide +kernel
theorem dX0_aim_36 : decode cX0_aim 36 = .ok (.iload_n 3, 1) := by decide +kernel
theorem dX0_aim_37 : decode cX0_aim 37 = .ok (.invokevirtual 170, 3) := by decide +kernel
theorem dX0_aim_40 : decode cX0_aim 40 = .ok (.ifCond .eq 28, 3) := by decide +kernel
theorem dX0_aim_43 : decode cX0_aim 43 = .ok (.aload_n 0, 1) := by decide +kernel
theorem dX0_aim_44 : decode cX0_aim 44 = .ok (.aload_n 1, 1) := by decide +kernel
theorem dX0_aim_45 : decode cX0_aim 45 = .ok (.iload_n 2, 1) := by decide +kernel
theorem dX0_aim_46 : decode cX0_aim 46 = .ok (.iload 6, 2) := by decide +kernel
theorem dX0_aim_48 : decode cX0_aim 48 = .ok (.invokevirtual 174, 3) := by decide +kernel
theorem dX0_aim_51 : decode cX0_aim 51 = .ok (.istore 7, 2) := by decide +kernel
theorem dX0_aim_53 : decode cX0_aim 53 = .ok (.iload 7, 2) := by decide +kernel
theorem dX0_aim_55 : decode cX0_aim 55 = .ok (.iload 5, 2) := by decide +kernel
theorem dX0_aim_57 : decode cX0_aim 57 = .ok (.if_icmp .le 11, 3) := by decide +kernel
theorem dX0_aim_60 : decode cX0_aim 60 = .ok (.iload 7, 2) := by decide +kernel
theorem dX0_aim_62 : decode cX0_aim 62 = .ok (.istore 5, 2) := by decide +kernel
theorem dX0_aim_64 : decode cX0_aim 64 = .ok (.iload 6, 2) := by decide +kernel
theorem dX0_aim_66 : decode cX0_aim 66 = .ok (.istore 4, 2) := by decide +kernel
theorem dX0_aim_68 : decode cX0_aim 68 = .ok (.iinc 6 1, 3) := by decide +kernel
theorem dX0_aim_71 : decode cX0_aim 71 = .ok (.goto (-62), 3) := by decide +kernel
theorem dX0_aim_74 : decode cX0_aim 74 = .ok (.iload 4, 2) := by decide +kernel
theorem dX0_aim_76 : decode cX0_aim 76 = .ok (.ireturn, 1) := by decide +kernel
theorem dX0_isInTime_0 : decode cX0_isInTime 0 = .ok (.aload_n 0, 1) := by decide +kernel
theorem dX0_isInTime_1 : decode cX0_isInTime 1 = .ok (.getfield 30, 3) := by decide +kernel
theorem dX0_isInTime_4 : decode cX0_isInTime 4 = .ok (.getfield 129, 3) := by decide +kernel
theorem dX0_isInTime_7 : decode cX0_isInTime 7 = .ok (.iload_n 3, 1) := by decide +kernel
theorem dX0_isInTime_8 : decode cX0_isInTime 8 = .ok (.iaload, 1) := by decide +kernel
theorem dX0_isInTime_9 : decode cX0_isInTime 9 = .ok (.istore 5, 2) := by decide +kernel
theorem dX0_isInTime_11 : decode cX0_isInTime 11 = .ok (.aload_n 0, 1) := by decide +kernel
theorem dX0_isInTime_12 : decode cX0_isInTime 12 = .ok (.getfield 30, 3) := by decide +kernel
theorem dX0_isInTime_15 : decode cX0_isInTime 15 = .ok (.getfield 117, 3) := by decide +kernel
theorem dX0_isInTime_18 : decode cX0_isInTime 18 = .ok (.getfield 139, 3) := by decide +kernel
theorem dX0_isInTime_21 : decode cX0_isInTime 21 = .ok (.iload 5, 2) := by decide +kernel
theorem dX0_isInTime_23 : decode cX0_isInTime 23 = .ok (.iaload, 1) := by decide +kernel
theorem dX0_isInTime_24 : decode cX0_isInTime 24 = .ok (.istore 6, 2) := by decide +kernel
theorem dX0_isInTime_26 : decode cX0_isInTime 26 = .ok (.iload 6, 2) := by decide +kernel
theorem dX0_isInTime_28 : decode cX0_isInTime 28 = .ok (.iload 4, 2) := by decide +kernel
theorem dX0_isInTime_30 : decode cX0_isInTime 30 = .ok (.if_icmp .le 33, 3) := by decide +kernel
theorem dX0_isInTime_33 : decode cX0_isInTime 33 = .ok (.aload_n 0, 1) := by decide +kernel
theorem dX0_isInTime_34 : decode cX0_isInTime 34 = .ok (.getfield 30, 3) := by decide +kernel
theorem dX0_isInTime_37 : decode cX0_isInTime 37 = .ok (.getfield 117, 3) := by decide +kernel
theorem dX0_isInTime_40 : decode cX0_isInTime 40 = .ok (.aload_n 1, 1) := by decide +kernel
theorem dX0_isInTime_41 : decode cX0_isInTime 41 = .ok (.getfield 148, 3) := by decide +kernel
theorem dX0_isInTime_44 : decode cX0_isInTime 44 = .ok (.iload_n 2, 1) := by decide +kernel
theorem dX0_isInTime_45 : decode cX0_isInTime 45 = .ok (.iaload, 1) := by decide +kernel
theorem dX0_isInTime_46 : decode cX0_isInTime 46 = .ok (.iload 5, 2) := by decide +kernel
theorem dX0_isInTime_48 : decode cX0_isInTime 48 = .ok (.invokevirtual 151, 3) := by decide +kernel
theorem dX0_isInTime_51 : decode cX0_isInTime 51 = .ok (.iload 6, 2) := by decide +kernel
theorem dX0_isInTime_53 : decode cX0_isInTime 53 = .ok (.iload 4, 2) := by decide +kernel
theorem dX0_isInTime_55 : decode cX0_isInTime 55 = .ok (.isub, 1) := by decide +kernel
theorem dX0_isInTime_56 : decode cX0_isInTime 56 = .ok (.if_icmp .gt 7, 3) := by decide +kernel
theorem dX0_isInTime_59 : decode cX0_isInTime 59 = .ok (.iconst 1, 1) := by decide +kernel
theorem dX0_isInTime_60 : decode cX0_isInTime 60 = .ok (.goto 4, 3) := by decide +kernel
theorem dX0_isInTime_63 : decode cX0_isInTime 63 = .ok (.iconst 0, 1) := by decide +kernel
theorem dX0_isInTime_64 : decode cX0_isInTime 64 = .ok (.ireturn, 1) := by decide +kernel
theorem dX0_setOut_0 : decode cX0_setOut 0 = .ok (.aload_n 0, 1) := by decide +kernel
theorem dX0_setOut_1 : decode cX0_setOut 1 = .ok (.aload_n 1, 1) := by decide +kernel
theorem dX0_setOut_2 : decode cX0_setOut 2 = .ok (.iload_n 2, 1) := by decide +kernel
theorem dX0_setOut_3 : decode cX0_setOut 3 = .ok (.iload_n 3, 1) := by decide +kernel
theorem dX0_setOut_4 : decode cX0_setOut 4 = .ok (.invokevirtual 178, 3) := by decide +kernel
theorem dX0_setOut_7 : decode cX0_setOut 7 = .ok (.istore 4, 2) := by decide +kernel
theorem dX0_setOut_9 : decode cX0_setOut 9 = .ok (.aload_n 0, 1) := by decide +kernel
theorem dX0_setOut_10 : decode cX0_setOut 10 = .ok (.getfield 21, 3) := by decide +kernel
theorem dX0_setOut_13 : decode cX0_setOut 13 = .ok (.iload_n 2, 1) := by decide +kernel
theorem dX0_setOut_14 : decode cX0_setOut 14 = .ok (.iload 4, 2) := by decide +kernel
theorem dX0_setOut_16 : decode cX0_setOut 16 = .ok (.iastore, 1) := by decide +kernel
theorem dX0_setOut_17 : decode cX0_setOut 17 = .ok (.iload 4, 2) := by decide +kernel
theorem dX0_setOut_19 : decode cX0_setOut 19 = .ok (.iconst (-1), 1) := by decide +kernel
theorem dX0_setOut_20 : decode cX0_setOut 20 = .ok (.if_icmp .eq 47, 3) := by decide +kernel
theorem dX0_setOut_23 : decode cX0_setOut 23 = .ok (.aload_n 0, 1) := by decide +kernel
theorem dX0_setOut_24 : decode cX0_setOut 24 = .ok (.getfield 30, 3) := by decide +kernel
theorem dX0_setOut_27 : decode cX0_setOut 27 = .ok (.getfield 129, 3) := by decide +kernel
theorem dX0_setOut_30 : decode cX0_setOut 30 = .ok (.iload 4, 2) := by decide +kernel
theorem dX0_setOut_32 : decode cX0_setOut 32 = .ok (.iaload, 1) := by decide +kernel
theorem dX0_setOut_33 : decode cX0_setOut 33 = .ok (.istore 5, 2) := by decide +kernel
theorem dX0_setOut_35 : decode cX0_setOut 35 = .ok (.aload_n 0, 1) := by decide +kernel
theorem dX0_setOut_36 : decode cX0_setOut 36 = .ok (.getfield 24, 3) := by decide +kernel
theorem dX0_setOut_39 : decode cX0_setOut 39 = .ok (.iload_n 2, 1) := by decide +kernel
theorem dX0_setOut_40 : decode cX0_setOut 40 = .ok (.aload_n 0, 1) := by decide +kernel
theorem dX0_setOut_41 : decode cX0_setOut 41 = .ok (.getfield 30, 3) := by decide +kernel
theorem dX0_setOut_44 : decode cX0_setOut 44 = .ok (.getfield 117, 3) := by decide +kernel
theorem dX0_setOut_47 : decode cX0_setOut 47 = .ok (.aload_n 1, 1) := by decide +kernel
theorem dX0_setOut_48 : decode cX0_setOut 48 = .ok (.getfield 148, 3) := by decide +kernel
theorem dX0_setOut_51 : decode cX0_setOut 51 = .ok (.iload_n 2, 1) := by decide +kernel
theorem dX0_setOut_52 : decode cX0_setOut 52 = .ok (.iaload, 1) := by decide +kernel
theorem dX0_setOut_53 : decode cX0_setOut 53 = .ok (.iload 5, 2) := by decide +kernel
theorem dX0_setOut_55 : decode cX0_setOut 55 = .ok (.invokevirtual 151, 3) := by decide +kernel
theorem dX0_setOut_58 : decode cX0_setOut 58 = .ok (.iastore, 1) := by decide +kernel
theorem dX0_setOut_59 : decode cX0_setOut 59 = .ok (.aload_n 1, 1) := by decide +kernel
theorem dX0_setOut_60 : decode cX0_setOut 60 = .ok (.getfield 148, 3) := by decide +kernel
theorem dX0_setOut_63 : decode cX0_setOut 63 = .ok (.iload_n 2, 1) := by decide +kernel
theorem dX0_setOut_64 : decode cX0_setOut 64 = .ok (.iload 5, 2) := by decide +kernel
theorem dX0_setOut_66 : decode cX0_setOut 66 = .ok (.iastore, 1) := by decide +kernel
theorem dX0_setOut_67 : decode cX0_setOut 67 = .ok (.return_, 1) := by decide +kernel
theorem dX0_settle_0 : decode cX0_settle 0 = .ok (.iconst 0, 1) := by decide +kernel
theorem dX0_settle_1 : decode cX0_settle 1 = .ok (.istore 4, 2) := by decide +kernel
theorem dX0_settle_3 : decode cX0_settle 3 = .ok (.iconst 0, 1) := by decide +kernel
theorem dX0_settle_4 : decode cX0_settle 4 = .ok (.istore 5, 2) := by decide +kernel
theorem dX0_settle_6 : decode cX0_settle 6 = .ok (.iload 5, 2) := by decide +kernel
theorem dX0_settle_8 : decode cX0_settle 8 = .ok (.aload_n 0, 1) := by decide +kernel
theorem dX0_settle_9 : decode cX0_settle 9 = .ok (.getfield 30, 3) := by decide +kernel
theorem dX0_settle_12 : decode cX0_settle 12 = .ok (.getfield 64, 3) := by decide +kernel
theorem dX0_settle_15 : decode cX0_settle 15 = .ok (.if_icmp .ge 49, 3) := by decide +kernel
theorem dX0_settle_18 : decode cX0_settle 18 = .ok (.aload_n 0, 1) := by decide +kernel
theorem dX0_settle_19 : decode cX0_settle 19 = .ok (.getfield 21, 3) := by decide +kernel
theorem dX0_settle_22 : decode cX0_settle 22 = .ok (.iload 5, 2) := by decide +kernel
theorem dX0_settle_24 : decode cX0_settle 24 = .ok (.iaload, 1) := by decide +kernel
theorem dX0_settle_25 : decode cX0_settle 25 = .ok (.iload_n 2, 1) := by decide +kernel
theorem dX0_settle_26 : decode cX0_settle 26 = .ok (.if_icmp .ne 32, 3) := by decide +kernel
theorem dX0_settle_29 : decode cX0_settle 29 = .ok (.iinc 4 1, 3) := by decide +kernel
theorem dX0_settle_32 : decode cX0_settle 32 = .ok (.aload_n 0, 1) := by decide +kernel
theorem dX0_settle_33 : decode cX0_settle 33 = .ok (.getfield 30, 3) := by decide +kernel
theorem dX0_settle_36 : decode cX0_settle 36 = .ok (.iload 5, 2) := by decide +kernel
theorem dX0_settle_38 : decode cX0_settle 38 = .ok (.iload_n 2, 1) := by decide +kernel
theorem dX0_settle_39 : decode cX0_settle 39 = .ok (.invokevirtual 181, 3) := by decide +kernel
theorem dX0_settle_42 : decode cX0_settle 42 = .ok (.ifCond .eq 16, 3) := by decide +kernel
theorem dX0_settle_45 : decode cX0_settle 45 = .ok (.aload_n 0, 1) := by decide +kernel
theorem dX0_settle_46 : decode cX0_settle 46 = .ok (.getfield 27, 3) := by decide +kernel
theorem dX0_settle_49 : decode cX0_settle 49 = .ok (.iload_n 2, 1) := by decide +kernel
theorem dX0_settle_50 : decode cX0_settle 50 = .ok (.dup2, 1) := by decide +kernel
theorem dX0_settle_51 : decode cX0_settle 51 = .ok (.iaload, 1) := by decide +kernel
theorem dX0_settle_52 : decode cX0_settle 52 = .ok (.iconst 1, 1) := by decide +kernel
theorem dX0_settle_53 : decode cX0_settle 53 = .ok (.iload 5, 2) := by decide +kernel
theorem dX0_settle_55 : decode cX0_settle 55 = .ok (.ishl, 1) := by decide +kernel
theorem dX0_settle_56 : decode cX0_settle 56 = .ok (.ior, 1) := by decide +kernel
theorem dX0_settle_57 : decode cX0_settle 57 = .ok (.iastore, 1) := by decide +kernel
theorem dX0_settle_58 : decode cX0_settle 58 = .ok (.iinc 5 1, 3) := by decide +kernel
theorem dX0_settle_61 : decode cX0_settle 61 = .ok (.goto (-55), 3) := by decide +kernel
theorem dX0_settle_64 : decode cX0_settle 64 = .ok (.aload_n 1, 1) := by decide +kernel
theorem dX0_settle_65 : decode cX0_settle 65 = .ok (.getfield 142, 3) := by decide +kernel
theorem dX0_settle_68 : decode cX0_settle 68 = .ok (.iload_n 2, 1) := by decide +kernel
theorem dX0_settle_69 : decode cX0_settle 69 = .ok (.iload 4, 2) := by decide +kernel
theorem dX0_settle_71 : decode cX0_settle 71 = .ok (.iastore, 1) := by decide +kernel
theorem dX0_settle_72 : decode cX0_settle 72 = .ok (.aload_n 0, 1) := by decide +kernel
theorem dX0_settle_73 : decode cX0_settle 73 = .ok (.getfield 27, 3) := by decide +kernel
theorem dX0_settle_76 : decode cX0_settle 76 = .ok (.iload_n 2, 1) := by decide +kernel
theorem dX0_settle_77 : decode cX0_settle 77 = .ok (.iaload, 1) := by decide +kernel
theorem dX0_settle_78 : decode cX0_settle 78 = .ok (.ifCond .eq 24, 3) := by decide +kernel
theorem dX0_settle_81 : decode cX0_settle 81 = .ok (.aload_n 1, 1) := by decide +kernel
theorem dX0_settle_82 : decode cX0_settle 82 = .ok (.getfield 73, 3) := by decide +kernel
theorem dX0_settle_85 : decode cX0_settle 85 = .ok (.iload_n 2, 1) := by decide +kernel
theorem dX0_settle_86 : decode cX0_settle 86 = .ok (.aload_n 0, 1) := by decide +kernel
theorem dX0_settle_87 : decode cX0_settle 87 = .ok (.aload_n 1, 1) := by decide +kernel
theorem dX0_settle_88 : decode cX0_settle 88 = .ok (.aload_n 0, 1) := by decide +kernel
theorem dX0_settle_89 : decode cX0_settle 89 = .ok (.getfield 27, 3) := by decide +kernel
theorem dX0_settle_92 : decode cX0_settle 92 = .ok (.iload_n 2, 1) := by decide +kernel
theorem dX0_settle_93 : decode cX0_settle 93 = .ok (.iaload, 1) := by decide +kernel
theorem dX0_settle_94 : decode cX0_settle 94 = .ok (.iload_n 3, 1) := by decide +kernel
theorem dX0_settle_95 : decode cX0_settle 95 = .ok (.invokevirtual 184, 3) := by decide +kernel
theorem dX0_settle_98 : decode cX0_settle 98 = .ok (.iastore, 1) := by decide +kernel
theorem dX0_settle_99 : decode cX0_settle 99 = .ok (.goto 27, 3) := by decide +kernel
theorem dX0_settle_102 : decode cX0_settle 102 = .ok (.iload 4, 2) := by decide +kernel
theorem dX0_settle_104 : decode cX0_settle 104 = .ok (.ifCond .ne 22, 3) := by decide +kernel
theorem dX0_settle_107 : decode cX0_settle 107 = .ok (.aload_n 0, 1) := by decide +kernel
theorem dX0_settle_108 : decode cX0_settle 108 = .ok (.getfield 30, 3) := by decide +kernel
theorem dX0_settle_111 : decode cX0_settle 111 = .ok (.getfield 145, 3) := by decide +kernel
theorem dX0_settle_114 : decode cX0_settle 114 = .ok (.iload_n 2, 1) := by decide +kernel
theorem dX0_settle_115 : decode cX0_settle 115 = .ok (.iaload, 1) := by decide +kernel
theorem dX0_settle_116 : decode cX0_settle 116 = .ok (.ifCond .ne 10, 3) := by decide +kernel
theorem dX0_settle_119 : decode cX0_settle 119 = .ok (.aload_n 1, 1) := by decide +kernel
theorem dX0_settle_120 : decode cX0_settle 120 = .ok (.getfield 73, 3) := by decide +kernel
theorem dX0_settle_123 : decode cX0_settle 123 = .ok (.iload_n 2, 1) := by decide +kernel
theorem dX0_settle_124 : decode cX0_settle 124 = .ok (.iconst (-1), 1) := by decide +kernel
theorem dX0_settle_125 : decode cX0_settle 125 = .ok (.iastore, 1) := by decide +kernel
theorem dX0_settle_126 : decode cX0_settle 126 = .ok (.return_, 1) := by decide +kernel
theorem dX0_winner_0 : decode cX0_winner 0 = .ok (.iload_n 3, 1) := by decide +kernel
theorem dX0_winner_1 : decode cX0_winner 1 = .ok (.iconst 2, 1) := by decide +kernel
theorem dX0_winner_2 : decode cX0_winner 2 = .ok (.if_icmp .ne 10, 3) := by decide +kernel
theorem dX0_winner_5 : decode cX0_winner 5 = .ok (.aload_n 0, 1) := by decide +kernel
theorem dX0_winner_6 : decode cX0_winner 6 = .ok (.aload_n 1, 1) := by decide +kernel
theorem dX0_winner_7 : decode cX0_winner 7 = .ok (.iload_n 2, 1) := by decide +kernel
theorem dX0_winner_8 : decode cX0_winner 8 = .ok (.invokevirtual 187, 3) := by decide +kernel
theorem dX0_winner_11 : decode cX0_winner 11 = .ok (.ireturn, 1) := by decide +kernel
theorem dX0_winner_12 : decode cX0_winner 12 = .ok (.iconst (-1), 1) := by decide +kernel
theorem dX0_winner_13 : decode cX0_winner 13 = .ok (.istore 4, 2) := by decide +kernel
theorem dX0_winner_15 : decode cX0_winner 15 = .ok (.iconst 0, 1) := by decide +kernel
theorem dX0_winner_16 : decode cX0_winner 16 = .ok (.istore 5, 2) := by decide +kernel
theorem dX0_winner_18 : decode cX0_winner 18 = .ok (.iload 5, 2) := by decide +kernel
theorem dX0_winner_20 : decode cX0_winner 20 = .ok (.aload_n 0, 1) := by decide +kernel
theorem dX0_winner_21 : decode cX0_winner 21 = .ok (.getfield 30, 3) := by decide +kernel
theorem dX0_winner_24 : decode cX0_winner 24 = .ok (.getfield 64, 3) := by decide +kernel
theorem dX0_winner_27 : decode cX0_winner 27 = .ok (.if_icmp .ge 41, 3) := by decide +kernel
theorem dX0_winner_30 : decode cX0_winner 30 = .ok (.iload_n 2, 1) := by decide +kernel
theorem dX0_winner_31 : decode cX0_winner 31 = .ok (.iload 5, 2) := by decide +kernel
theorem dX0_winner_33 : decode cX0_winner 33 = .ok (.iushr, 1) := by decide +kernel
theorem dX0_winner_34 : decode cX0_winner 34 = .ok (.iconst 1, 1) := by decide +kernel
theorem dX0_winner_35 : decode cX0_winner 35 = .ok (.iand, 1) := by decide +kernel
theorem dX0_winner_36 : decode cX0_winner 36 = .ok (.iconst 1, 1) := by decide +kernel
theorem dX0_winner_37 : decode cX0_winner 37 = .ok (.if_icmp .ne 25, 3) := by decide +kernel
theorem dX0_winner_40 : decode cX0_winner 40 = .ok (.iload 4, 2) := by decide +kernel
theorem dX0_winner_42 : decode cX0_winner 42 = .ok (.iconst (-1), 1) := by decide +kernel
theorem dX0_winner_43 : decode cX0_winner 43 = .ok (.if_icmp .eq 15, 3) := by decide +kernel
theorem dX0_winner_46 : decode cX0_winner 46 = .ok (.aload_n 0, 1) := by decide +kernel
theorem dX0_winner_47 : decode cX0_winner 47 = .ok (.iload 5, 2) := by decide +kernel
theorem dX0_winner_49 : decode cX0_winner 49 = .ok (.iload 4, 2) := by decide +kernel
theorem dX0_winner_51 : decode cX0_winner 51 = .ok (.iload_n 3, 1) := by decide +kernel
theorem dX0_winner_52 : decode cX0_winner 52 = .ok (.invokevirtual 191, 3) := by decide +kernel
theorem dX0_winner_55 : decode cX0_winner 55 = .ok (.ifCond .eq 7, 3) := by decide +kernel
theorem dX0_winner_58 : decode cX0_winner 58 = .ok (.iload 5, 2) := by decide +kernel
theorem dX0_winner_60 : decode cX0_winner 60 = .ok (.istore 4, 2) := by decide +kernel
theorem dX0_winner_62 : decode cX0_winner 62 = .ok (.iinc 5 1, 3) := by decide +kernel
theorem dX0_winner_65 : decode cX0_winner 65 = .ok (.goto (-47), 3) := by decide +kernel
theorem dX0_winner_68 : decode cX0_winner 68 = .ok (.iload 4, 2) := by decide +kernel
theorem dX0_winner_70 : decode cX0_winner 70 = .ok (.ireturn, 1) := by decide +kernel
theorem dX0_isAhead_0 : decode cX0_isAhead 0 = .ok (.iload_n 3, 1) := by decide +kernel
theorem dX0_isAhead_1 : decode cX0_isAhead 1 = .ok (.iconst 1, 1) := by decide +kernel
theorem dX0_isAhead_2 : decode cX0_isAhead 2 = .ok (.if_icmp .ne 30, 3) := by decide +kernel
theorem dX0_isAhead_5 : decode cX0_isAhead 5 = .ok (.aload_n 0, 1) := by decide +kernel
theorem dX0_isAhead_6 : decode cX0_isAhead 6 = .ok (.getfield 30, 3) := by decide +kernel
theorem dX0_isAhead_9 : decode cX0_isAhead 9 = .ok (.getfield 157, 3) := by decide +kernel
theorem dX0_isAhead_12 : decode cX0_isAhead 12 = .ok (.iload_n 1, 1) := by decide +kernel
theorem dX0_isAhead_13 : decode cX0_isAhead 13 = .ok (.iaload, 1) := by decide +kernel
theorem dX0_isAhead_14 : decode cX0_isAhead 14 = .ok (.aload_n 0, 1) := by decide +kernel
theorem dX0_isAhead_15 : decode cX0_isAhead 15 = .ok (.getfield 30, 3) := by decide +kernel
theorem dX0_isAhead_18 : decode cX0_isAhead 18 = .ok (.getfield 157, 3) := by decide +kernel
theorem dX0_isAhead_21 : decode cX0_isAhead 21 = .ok (.iload_n 2, 1) := by decide +kernel
theorem dX0_isAhead_22 : decode cX0_isAhead 22 = .ok (.iaload, 1) := by decide +kernel
theorem dX0_isAhead_23 : decode cX0_isAhead 23 = .ok (.if_icmp .le 7, 3) := by decide +kernel
theorem dX0_isAhead_26 : decode cX0_isAhead 26 = .ok (.iconst 1, 1) := by decide +kernel
theorem dX0_isAhead_27 : decode cX0_isAhead 27 = .ok (.goto 4, 3) := by decide +kernel
theorem dX0_isAhead_30 : decode cX0_isAhead 30 = .ok (.iconst 0, 1) := by decide +kernel
theorem dX0_isAhead_31 : decode cX0_isAhead 31 = .ok (.ireturn, 1) := by decide +kernel
theorem dX0_isAhead_32 : decode cX0_isAhead 32 = .ok (.aload_n 0, 1) := by decide +kernel
theorem dX0_isAhead_33 : decode cX0_isAhead 33 = .ok (.getfield 24, 3) := by decide +kernel
theorem dX0_isAhead_36 : decode cX0_isAhead 36 = .ok (.iload_n 1, 1) := by decide +kernel
theorem dX0_isAhead_37 : decode cX0_isAhead 37 = .ok (.iaload, 1) := by decide +kernel
theorem dX0_isAhead_38 : decode cX0_isAhead 38 = .ok (.aload_n 0, 1) := by decide +kernel
theorem dX0_isAhead_39 : decode cX0_isAhead 39 = .ok (.getfield 24, 3) := by decide +kernel
theorem dX0_isAhead_42 : decode cX0_isAhead 42 = .ok (.iload_n 2, 1) := by decide +kernel
theorem dX0_isAhead_43 : decode cX0_isAhead 43 = .ok (.iaload, 1) := by decide +kernel
theorem dX0_isAhead_44 : decode cX0_isAhead 44 = .ok (.if_icmp .ge 7, 3) := by decide +kernel
theorem dX0_isAhead_47 : decode cX0_isAhead 47 = .ok (.iconst 1, 1) := by decide +kernel
theorem dX0_isAhead_48 : decode cX0_isAhead 48 = .ok (.goto 4, 3) := by decide +kernel
theorem dX0_isAhead_51 : decode cX0_isAhead 51 = .ok (.iconst 0, 1) := by decide +kernel
theorem dX0_isAhead_52 : decode cX0_isAhead 52 = .ok (.ireturn, 1) := by decide +kernel
theorem dX0_drawnOf_0 : decode cX0_drawnOf 0 = .ok (.iload_n 2, 1) := by decide +kernel
theorem dX0_drawnOf_1 : decode cX0_drawnOf 1 = .ok (.invokestatic 195, 3) := by decide +kernel
theorem dX0_drawnOf_4 : decode cX0_drawnOf 4 = .ok (.istore_n 3, 1) := by decide +kernel
theorem dX0_drawnOf_5 : decode cX0_drawnOf 5 = .ok (.iload_n 3, 1) := by decide +kernel
theorem dX0_drawnOf_6 : decode cX0_drawnOf 6 = .ok (.iconst 1, 1) := by decide +kernel
theorem dX0_drawnOf_7 : decode cX0_drawnOf 7 = .ok (.if_icmp .le 11, 3) := by decide +kernel
theorem dX0_drawnOf_10 : decode cX0_drawnOf 10 = .ok (.aload_n 1, 1) := by decide +kernel
theorem dX0_drawnOf_11 : decode cX0_drawnOf 11 = .ok (.iload_n 3, 1) := by decide +kernel
theorem dX0_drawnOf_12 : decode cX0_drawnOf 12 = .ok (.invokevirtual 48, 3) := by decide +kernel
theorem dX0_drawnOf_15 : decode cX0_drawnOf 15 = .ok (.goto 4, 3) := by decide +kernel
theorem dX0_drawnOf_18 : decode cX0_drawnOf 18 = .ok (.iconst 0, 1) := by decide +kernel
theorem dX0_drawnOf_19 : decode cX0_drawnOf 19 = .ok (.istore 4, 2) := by decide +kernel
theorem dX0_drawnOf_21 : decode cX0_drawnOf 21 = .ok (.iconst 0, 1) := by decide +kernel
theorem dX0_drawnOf_22 : decode cX0_drawnOf 22 = .ok (.istore 5, 2) := by decide +kernel
theorem dX0_drawnOf_24 : decode cX0_drawnOf 24 = .ok (.iload 5, 2) := by decide +kernel
theorem dX0_drawnOf_26 : decode cX0_drawnOf 26 = .ok (.aload_n 0, 1) := by decide +kernel
theorem dX0_drawnOf_27 : decode cX0_drawnOf 27 = .ok (.getfield 30, 3) := by decide +kernel
theorem dX0_drawnOf_30 : decode cX0_drawnOf 30 = .ok (.getfield 64, 3) := by decide +kernel
theorem dX0_drawnOf_33 : decode cX0_drawnOf 33 = .ok (.if_icmp .ge 30, 3) := by decide +kernel
theorem dX0_drawnOf_36 : decode cX0_drawnOf 36 = .ok (.iload_n 2, 1) := by decide +kernel
theorem dX0_drawnOf_37 : decode cX0_drawnOf 37 = .ok (.iload 5, 2) := by decide +kernel
theorem dX0_drawnOf_39 : decode cX0_drawnOf 39 = .ok (.iushr, 1) := by decide +kernel
theorem dX0_drawnOf_40 : decode cX0_drawnOf 40 = .ok (.iconst 1, 1) := by decide +kernel
theorem dX0_drawnOf_41 : decode cX0_drawnOf 41 = .ok (.iand, 1) := by decide +kernel
theorem dX0_drawnOf_42 : decode cX0_drawnOf 42 = .ok (.iconst 1, 1) := by decide +kernel
theorem dX0_drawnOf_43 : decode cX0_drawnOf 43 = .ok (.if_icmp .ne 14, 3) := by decide +kernel
theorem dX0_drawnOf_46 : decode cX0_drawnOf 46 = .ok (.iload 4, 2) := by decide +kernel
theorem dX0_drawnOf_48 : decode cX0_drawnOf 48 = .ok (.ifCond .ne 6, 3) := by decide +kernel
theorem dX0_drawnOf_51 : decode cX0_drawnOf 51 = .ok (.iload 5, 2) := by decide +kernel
theorem dX0_drawnOf_53 : decode cX0_drawnOf 53 = .ok (.ireturn, 1) := by decide +kernel
theorem dX0_drawnOf_54 : decode cX0_drawnOf 54 = .ok (.iinc 4 (-1), 3) := by decide +kernel
theorem dX0_drawnOf_57 : decode cX0_drawnOf 57 = .ok (.iinc 5 1, 3) := by decide +kernel
theorem dX0_drawnOf_60 : decode cX0_drawnOf 60 = .ok (.goto (-36), 3) := by decide +kernel
theorem dX0_drawnOf_63 : decode cX0_drawnOf 63 = .ok (.iconst (-1), 1) := by decide +kernel
theorem dX0_drawnOf_64 : decode cX0_drawnOf 64 = .ok (.ireturn, 1) := by decide +kernel
theorem dX1_init_0 : decode cX1_init 0 = .ok (.aload_n 0, 1) := by decide +kernel
theorem dX1_init_1 : decode cX1_init 1 = .ok (.invokespecial 3, 3) := by decide +kernel
theorem dX1_init_4 : decode cX1_init 4 = .ok (.aload_n 0, 1) := by decide +kernel
theorem dX1_init_5 : decode cX1_init 5 = .ok (.bipush 8, 2) := by decide +kernel
theorem dX1_init_7 : decode cX1_init 7 = .ok (.newarray .long, 2) := by decide +kernel
theorem dX1_init_9 : decode cX1_init 9 = .ok (.putfield 9, 3) := by decide +kernel
theorem dX1_init_12 : decode cX1_init 12 = .ok (.aload_n 0, 1) := by decide +kernel
theorem dX1_init_13 : decode cX1_init 13 = .ok (.bipush 8, 2) := by decide +kernel
theorem dX1_init_15 : decode cX1_init 15 = .ok (.newarray .int, 2) := by decide +kernel
theorem dX1_init_17 : decode cX1_init 17 = .ok (.putfield 15, 3) := by decide +kernel
theorem dX1_init_20 : decode cX1_init 20 = .ok (.aload_n 0, 1) := by decide +kernel
theorem dX1_init_21 : decode cX1_init 21 = .ok (.bipush 8, 2) := by decide +kernel
theorem dX1_init_23 : decode cX1_init 23 = .ok (.newarray .int, 2) := by decide +kernel
theorem dX1_init_25 : decode cX1_init 25 = .ok (.putfield 19, 3) := by decide +kernel
theorem dX1_init_28 : decode cX1_init 28 = .ok (.aload_n 0, 1) := by decide +kernel
theorem dX1_init_29 : decode cX1_init 29 = .ok (.bipush 64, 2) := by decide +kernel
theorem dX1_init_31 : decode cX1_init 31 = .ok (.newarray .int, 2) := by decide +kernel
theorem dX1_init_33 : decode cX1_init 33 = .ok (.putfield 22, 3) := by decide +kernel
theorem dX1_init_36 : decode cX1_init 36 = .ok (.aload_n 0, 1) := by decide +kernel
theorem dX1_init_37 : decode cX1_init 37 = .ok (.bipush 8, 2) := by decide +kernel
theorem dX1_init_39 : decode cX1_init 39 = .ok (.newarray .int, 2) := by decide +kernel
theorem dX1_init_41 : decode cX1_init 41 = .ok (.putfield 25, 3) := by decide +kernel
theorem dX1_init_44 : decode cX1_init 44 = .ok (.return_, 1) := by decide +kernel
theorem dX1_clear_0 : decode cX1_clear 0 = .ok (.aload_n 0, 1) := by decide +kernel
theorem dX1_clear_1 : decode cX1_clear 1 = .ok (.iconst 0, 1) := by decide +kernel
theorem dX1_clear_2 : decode cX1_clear 2 = .ok (.putfield 28, 3) := by decide +kernel
theorem dX1_clear_5 : decode cX1_clear 5 = .ok (.aload_n 0, 1) := by decide +kernel
theorem dX1_clear_6 : decode cX1_clear 6 = .ok (.iconst 0, 1) := by decide +kernel
theorem dX1_clear_7 : decode cX1_clear 7 = .ok (.putfield 32, 3) := by decide +kernel
theorem dX1_clear_10 : decode cX1_clear 10 = .ok (.iconst 0, 1) := by decide +kernel
theorem dX1_clear_11 : decode cX1_clear 11 = .ok (.istore_n 1, 1) := by decide +kernel
theorem dX1_clear_12 : decode cX1_clear 12 = .ok (.iload_n 1, 1) := by decide +kernel
theorem dX1_clear_13 : decode cX1_clear 13 = .ok (.bipush 64, 2) := by decide +kernel
theorem dX1_clear_15 : decode cX1_clear 15 = .ok (.if_icmp .ge 29, 3) := by decide +kernel
theorem dX1_clear_18 : decode cX1_clear 18 = .ok (.aload_n 0, 1) := by decide +kernel
theorem dX1_clear_19 : decode cX1_clear 19 = .ok (.getfield 22, 3) := by decide +kernel
theorem dX1_clear_22 : decode cX1_clear 22 = .ok (.iload_n 1, 1) := by decide +kernel
theorem dX1_clear_23 : decode cX1_clear 23 = .ok (.iload_n 1, 1) := by decide +kernel
theorem dX1_clear_24 : decode cX1_clear 24 = .ok (.bipush 9, 2) := by decide +kernel
theorem dX1_clear_26 : decode cX1_clear 26 = .ok (.irem, 1) := by decide +kernel
theorem dX1_clear_27 : decode cX1_clear 27 = .ok (.ifCond .ne 7, 3) := by decide +kernel
theorem dX1_clear_30 : decode cX1_clear 30 = .ok (.iconst 0, 1) := by decide +kernel
theorem dX1_clear_31 : decode cX1_clear 31 = .ok (.goto 6, 3) := by decide +kernel
theorem dX1_clear_34 : decode cX1_clear 34 = .ok (.sipush 999, 3) := by decide +kernel
theorem dX1_clear_37 : decode cX1_clear 37 = .ok (.iastore, 1) := by decide +kernel
theorem dX1_clear_38 : decode cX1_clear 38 = .ok (.iinc 1 1, 3) := by decide +kernel
theorem dX1_clear_41 : decode cX1_clear 41 = .ok (.goto (-29), 3) := by decide +kernel
theorem dX1_clear_44 : decode cX1_clear 44 = .ok (.return_, 1) := by decide +kernel
theorem dX1_copyFrom_0 : decode cX1_copyFrom 0 = .ok (.aload_n 0, 1) := by decide +kernel
theorem dX1_copyFrom_1 : decode cX1_copyFrom 1 = .ok (.aload_n 1, 1) := by decide +kernel
theorem dX1_copyFrom_2 : decode cX1_copyFrom 2 = .ok (.getfield 28, 3) := by decide +kernel
theorem dX1_copyFrom_5 : decode cX1_copyFrom 5 = .ok (.putfield 28, 3) := by decide +kernel
theorem dX1_copyFrom_8 : decode cX1_copyFrom 8 = .ok (.aload_n 0, 1) := by decide +kernel
theorem dX1_copyFrom_9 : decode cX1_copyFrom 9 = .ok (.aload_n 1, 1) := by decide +kernel
theorem dX1_copyFrom_10 : decode cX1_copyFrom 10 = .ok (.getfield 32, 3) := by decide +kernel
theorem dX1_copyFrom_13 : decode cX1_copyFrom 13 = .ok (.putfield 32, 3) := by decide +kernel
theorem dX1_copyFrom_16 : decode cX1_copyFrom 16 = .ok (.aload_n 1, 1) := by decide +kernel
theorem dX1_copyFrom_17 : decode cX1_copyFrom 17 = .ok (.getfield 15, 3) := by decide +kernel
theorem dX1_copyFrom_20 : decode cX1_copyFrom 20 = .ok (.iconst 0, 1) := by decide +kernel
theorem dX1_copyFrom_21 : decode cX1_copyFrom 21 = .ok (.aload_n 0, 1) := by decide +kernel
theorem dX1_copyFrom_22 : decode cX1_copyFrom 22 = .ok (.getfield 15, 3) := by decide +kernel
theorem dX1_copyFrom_25 : decode cX1_copyFrom 25 = .ok (.iconst 0, 1) := by decide +kernel
theorem dX1_copyFrom_26 : decode cX1_copyFrom 26 = .ok (.bipush 8, 2) := by decide +kernel
theorem dX1_copyFrom_28 : decode cX1_copyFrom 28 = .ok (.invokestatic 35, 3) := by decide +kernel
theorem dX1_copyFrom_31 : decode cX1_copyFrom 31 = .ok (.aload_n 1, 1) := by decide +kernel
theorem dX1_copyFrom_32 : decode cX1_copyFrom 32 = .ok (.getfield 19, 3) := by decide +kernel
theorem dX1_copyFrom_35 : decode cX1_copyFrom 35 = .ok (.iconst 0, 1) := by decide +kernel
theorem dX1_copyFrom_36 : decode cX1_copyFrom 36 = .ok (.aload_n 0, 1) := by decide +kernel
theorem dX1_copyFrom_37 : decode cX1_copyFrom 37 = .ok (.getfield 19, 3) := by decide +kernel
theorem dX1_copyFrom_40 : decode cX1_copyFrom 40 = .ok (.iconst 0, 1) := by decide +kernel
theorem dX1_copyFrom_41 : decode cX1_copyFrom 41 = .ok (.bipush 8, 2) := by decide +kernel
theorem dX1_copyFrom_43 : decode cX1_copyFrom 43 = .ok (.invokestatic 35, 3) := by decide +kernel
theorem dX1_copyFrom_46 : decode cX1_copyFrom 46 = .ok (.aload_n 1, 1) := by decide +kernel
theorem dX1_copyFrom_47 : decode cX1_copyFrom 47 = .ok (.getfield 22, 3) := by decide +kernel
theorem dX1_copyFrom_50 : decode cX1_copyFrom 50 = .ok (.iconst 0, 1) := by decide +kernel
theorem dX1_copyFrom_51 : decode cX1_copyFrom 51 = .ok (.aload_n 0, 1) := by decide +kernel
theorem dX1_copyFrom_52 : decode cX1_copyFrom 52 = .ok (.getfield 22, 3) := by decide +kernel
theorem dX1_copyFrom_55 : decode cX1_copyFrom 55 = .ok (.iconst 0, 1) := by decide +kernel
theorem dX1_copyFrom_56 : decode cX1_copyFrom 56 = .ok (.bipush 64, 2) := by decide +kernel
theorem dX1_copyFrom_58 : decode cX1_copyFrom 58 = .ok (.invokestatic 35, 3) := by decide +kernel
theorem dX1_copyFrom_61 : decode cX1_copyFrom 61 = .ok (.return_, 1) := by decide +kernel
theorem dX1_isJoined_0 : decode cX1_isJoined 0 = .ok (.aload_n 0, 1) := by decide +kernel
theorem dX1_isJoined_1 : decode cX1_isJoined 1 = .ok (.getfield 22, 3) := by decide +kernel
theorem dX1_isJoined_4 : decode cX1_isJoined 4 = .ok (.iload_n 1, 1) := by decide +kernel
theorem dX1_isJoined_5 : decode cX1_isJoined 5 = .ok (.bipush 8, 2) := by decide +kernel
theorem dX1_isJoined_7 : decode cX1_isJoined 7 = .ok (.imul, 1) := by decide +kernel
theorem dX1_isJoined_8 : decode cX1_isJoined 8 = .ok (.iload_n 2, 1) := by decide +kernel
theorem dX1_isJoined_9 : decode cX1_isJoined 9 = .ok (.iadd, 1) := by decide +kernel
theorem dX1_isJoined_10 : decode cX1_isJoined 10 = .ok (.iaload, 1) := by decide +kernel
theorem dX1_isJoined_11 : decode cX1_isJoined 11 = .ok (.sipush 999, 3) := by decide +kernel
theorem dX1_isJoined_14 : decode cX1_isJoined 14 = .ok (.if_icmp .eq 7, 3) := by decide +kernel
theorem dX1_isJoined_17 : decode cX1_isJoined 17 = .ok (.iconst 1, 1) := by decide +kernel
theorem dX1_isJoined_18 : decode cX1_isJoined 18 = .ok (.goto 4, 3) := by decide +kernel
theorem dX1_isJoined_21 : decode cX1_isJoined 21 = .ok (.iconst 0, 1) := by decide +kernel
theorem dX1_isJoined_22 : decode cX1_isJoined 22 = .ok (.ireturn, 1) := by decide +kernel
theorem dX1_join_0 : decode cX1_join 0 = .ok (.aload_n 0, 1) := by decide +kernel
theorem dX1_join_1 : decode cX1_join 1 = .ok (.getfield 22, 3) := by decide +kernel
theorem dX1_join_4 : decode cX1_join 4 = .ok (.iload_n 1, 1) := by decide +kernel
theorem dX1_join_5 : decode cX1_join 5 = .ok (.bipush 8, 2) := by decide +kernel
theorem dX1_join_7 : decode cX1_join 7 = .ok (.imul, 1) := by decide +kernel
theorem dX1_join_8 : decode cX1_join 8 = .ok (.iload_n 2, 1) := by decide +kernel
theorem dX1_join_9 : decode cX1_join 9 = .ok (.iadd, 1) := by decide +kernel
theorem dX1_join_10 : decode cX1_join 10 = .ok (.iload_n 3, 1) := by decide +kernel
theorem dX1_join_11 : decode cX1_join 11 = .ok (.iastore, 1) := by decide +kernel
theorem dX1_join_12 : decode cX1_join 12 = .ok (.aload_n 0, 1) := by decide +kernel
theorem dX1_join_13 : decode cX1_join 13 = .ok (.getfield 22, 3) := by decide +kernel
theorem dX1_join_16 : decode cX1_join 16 = .ok (.iload_n 2, 1) := by decide +kernel
theorem dX1_join_17 : decode cX1_join 17 = .ok (.bipush 8, 2) := by decide +kernel
theorem dX1_join_19 : decode cX1_join 19 = .ok (.imul, 1) := by decide +kernel
theorem dX1_join_20 : decode cX1_join 20 = .ok (.iload_n 1, 1) := by decide +kernel
theorem dX1_join_21 : decode cX1_join 21 = .ok (.iadd, 1) := by decide +kernel
theorem dX1_join_22 : decode cX1_join 22 = .ok (.iload_n 3, 1) := by decide +kernel
theorem dX1_join_23 : decode cX1_join 23 = .ok (.iastore, 1) := by decide +kernel
theorem dX1_join_24 : decode cX1_join 24 = .ok (.aload_n 0, 1) := by decide +kernel
theorem dX1_join_25 : decode cX1_join 25 = .ok (.dup, 1) := by decide +kernel
theorem dX1_join_26 : decode cX1_join 26 = .ok (.getfield 32, 3) := by decide +kernel
theorem dX1_join_29 : decode cX1_join 29 = .ok (.iconst 1, 1) := by decide +kernel
theorem dX1_join_30 : decode cX1_join 30 = .ok (.iadd, 1) := by decide +kernel
theorem dX1_join_31 : decode cX1_join 31 = .ok (.putfield 32, 3) := by decide +kernel
theorem dX1_join_34 : decode cX1_join 34 = .ok (.return_, 1) := by decide +kernel
theorem dX1_minutes_0 : decode cX1_minutes 0 = .ok (.aload_n 0, 1) := by decide +kernel
theorem dX1_minutes_1 : decode cX1_minutes 1 = .ok (.getfield 22, 3) := by decide +kernel
theorem dX1_minutes_4 : decode cX1_minutes 4 = .ok (.iload_n 1, 1) := by decide +kernel
theorem dX1_minutes_5 : decode cX1_minutes 5 = .ok (.bipush 8, 2) := by decide +kernel
theorem dX1_minutes_7 : decode cX1_minutes 7 = .ok (.imul, 1) := by decide +kernel
theorem dX1_minutes_8 : decode cX1_minutes 8 = .ok (.iload_n 2, 1) := by decide +kernel
theorem dX1_minutes_9 : decode cX1_minutes 9 = .ok (.iadd, 1) := by decide +kernel
theorem dX1_minutes_10 : decode cX1_minutes 10 = .ok (.iaload, 1) := by decide +kernel
theorem dX1_minutes_11 : decode cX1_minutes 11 = .ok (.ireturn, 1) := by decide +kernel
theorem dX1_measure_0 : decode cX1_measure 0 = .ok (.iconst 0, 1) := by decide +kernel
theorem dX1_measure_1 : decode cX1_measure 1 = .ok (.istore_n 1, 1) := by decide +kernel
theorem dX1_measure_2 : decode cX1_measure 2 = .ok (.iload_n 1, 1) := by decide +kernel
theorem dX1_measure_3 : decode cX1_measure 3 = .ok (.aload_n 0, 1) := by decide +kernel
theorem dX1_measure_4 : decode cX1_measure 4 = .ok (.getfield 28, 3) := by decide +kernel
theorem dX1_measure_7 : decode cX1_measure 7 = .ok (.if_icmp .ge 80, 3) := by decide +kernel
theorem dX1_measure_10 : decode cX1_measure 10 = .ok (.iconst 0, 1) := by decide +kernel
theorem dX1_measure_11 : decode cX1_measure 11 = .ok (.istore_n 2, 1) := by decide +kernel
theorem dX1_measure_12 : decode cX1_measure 12 = .ok (.iload_n 2, 1) := by decide +kernel
theorem dX1_measure_13 : decode cX1_measure 13 = .ok (.aload_n 0, 1) := by decide +kernel
theorem dX1_measure_14 : decode cX1_measure 14 = .ok (.getfield 28, 3) := by decide +kernel
theorem dX1_measure_17 : decode cX1_measure 17 = .ok (.if_icmp .ge 64, 3) := by decide +kernel
theorem dX1_measure_20 : decode cX1_measure 20 = .ok (.iconst 0, 1) := by decide +kernel
theorem dX1_measure_21 : decode cX1_measure 21 = .ok (.istore_n 3, 1) := by decide +kernel
theorem dX1_measure_22 : decode cX1_measure 22 = .ok (.iload_n 3, 1) := by decide +kernel
theorem dX1_measure_23 : decode cX1_measure 23 = .ok (.aload_n 0, 1) := by decide +kernel
theorem dX1_measure_24 : decode cX1_measure 24 = .ok (.getfield 28, 3) := by decide +kernel
theorem dX1_measure_27 : decode cX1_measure 27 = .ok (.if_icmp .ge 48, 3) := by decide +kernel
theorem dX1_measure_30 : decode cX1_measure 30 = .ok (.aload_n 0, 1) := by decide +kernel
theorem dX1_measure_31 : decode cX1_measure 31 = .ok (.iload_n 2, 1) := by decide +kernel
theorem dX1_measure_32 : decode cX1_measure 32 = .ok (.iload_n 1, 1) := by decide +kernel
theorem dX1_measure_33 : decode cX1_measure 33 = .ok (.invokevirtual 41, 3) := by decide +kernel
theorem dX1_measure_36 : decode cX1_measure 36 = .ok (.aload_n 0, 1) := by decide +kernel
theorem dX1_measure_37 : decode cX1_measure 37 = .ok (.iload_n 1, 1) := by decide +kernel
theorem dX1_measure_38 : decode cX1_measure 38 = .ok (.iload_n 3, 1) := by decide +kernel
theorem dX1_measure_39 : decode cX1_measure 39 = .ok (.invokevirtual 41, 3) := by decide +kernel
theorem dX1_measure_42 : decode cX1_measure 42 = .ok (.iadd, 1) := by decide +kernel
theorem dX1_measure_43 : decode cX1_measure 43 = .ok (.istore 4, 2) := by decide +kernel
theorem dX1_measure_45 : decode cX1_measure 45 = .ok (.iload 4, 2) := by decide +kernel
theorem dX1_measure_47 : decode cX1_measure 47 = .ok (.aload_n 0, 1) := by decide +kernel
theorem dX1_measure_48 : decode cX1_measure 48 = .ok (.iload_n 2, 1) := by decide +kernel
theorem dX1_measure_49 : decode cX1_measure 49 = .ok (.iload_n 3, 1) := by decide +kernel
theorem dX1_measure_50 : decode cX1_measure 50 = .ok (.invokevirtual 41, 3) := by decide +kernel
theorem dX1_measure_53 : decode cX1_measure 53 = .ok (.if_icmp .ge 16, 3) := by decide +kernel
theorem dX1_measure_56 : decode cX1_measure 56 = .ok (.aload_n 0, 1) := by decide +kernel
theorem dX1_measure_57 : decode cX1_measure 57 = .ok (.getfield 22, 3) := by decide +kernel
theorem dX1_measure_60 : decode cX1_measure 60 = .ok (.iload_n 2, 1) := by decide +kernel
theorem dX1_measure_61 : decode cX1_measure 61 = .ok (.bipush 8, 2) := by decide +kernel
theorem dX1_measure_63 : decode cX1_measure 63 = .ok (.imul, 1) := by decide +kernel
theorem dX1_measure_64 : decode cX1_measure 64 = .ok (.iload_n 3, 1) := by decide +kernel
theorem dX1_measure_65 : decode cX1_measure 65 = .ok (.iadd, 1) := by decide +kernel
theorem dX1_measure_66 : decode cX1_measure 66 = .ok (.iload 4, 2) := by decide +kernel
theorem dX1_measure_68 : decode cX1_measure 68 = .ok (.iastore, 1) := by decide +kernel
theorem dX1_measure_69 : decode cX1_measure 69 = .ok (.iinc 3 1, 3) := by decide +kernel
theorem dX1_measure_72 : decode cX1_measure 72 = .ok (.goto (-50), 3) := by decide +kernel
theorem dX1_measure_75 : decode cX1_measure 75 = .ok (.iinc 2 1, 3) := by decide +kernel
theorem dX1_measure_78 : decode cX1_measure 78 = .ok (.goto (-66), 3) := by decide +kernel
theorem dX1_measure_81 : decode cX1_measure 81 = .ok (.iinc 1 1, 3) := by decide +kernel
theorem dX1_measure_84 : decode cX1_measure 84 = .ok (.goto (-82), 3) := by decide +kernel
theorem dX1_measure_87 : decode cX1_measure 87 = .ok (.iconst 0, 1) := by decide +kernel
theorem dX1_measure_88 : decode cX1_measure 88 = .ok (.istore_n 1, 1) := by decide +kernel
theorem dX1_measure_89 : decode cX1_measure 89 = .ok (.iload_n 1, 1) := by decide +kernel
theorem dX1_measure_90 : decode cX1_measure 90 = .ok (.aload_n 0, 1) := by decide +kernel
theorem dX1_measure_91 : decode cX1_measure 91 = .ok (.getfield 28, 3) := by decide +kernel
theorem dX1_measure_94 : decode cX1_measure 94 = .ok (.if_icmp .ge 20, 3) := by decide +kernel
theorem dX1_measure_97 : decode cX1_measure 97 = .ok (.aload_n 0, 1) := by decide +kernel
theorem dX1_measure_98 : decode cX1_measure 98 = .ok (.getfield 19, 3) := by decide +kernel
theorem dX1_measure_101 : decode cX1_measure 101 = .ok (.aload_n 0, 1) := by decide +kernel
theorem dX1_measure_102 : decode cX1_measure 102 = .ok (.iload_n 1, 1) := by decide +kernel
theorem dX1_measure_103 : decode cX1_measure 103 = .ok (.invokevirtual 45, 3) := by decide +kernel
theorem dX1_measure_106 : decode cX1_measure 106 = .ok (.iload_n 1, 1) := by decide +kernel
theorem dX1_measure_107 : decode cX1_measure 107 = .ok (.iastore, 1) := by decide +kernel
theorem dX1_measure_108 : decode cX1_measure 108 = .ok (.iinc 1 1, 3) := by decide +kernel
theorem dX1_measure_111 : decode cX1_measure 111 = .ok (.goto (-22), 3) := by decide +kernel
theorem dX1_measure_114 : decode cX1_measure 114 = .ok (.return_, 1) := by decide +kernel
theorem dX1_turnOf_0 : decode cX1_turnOf 0 = .ok (.iconst 0, 1) := by decide +kernel
theorem dX1_turnOf_1 : decode cX1_turnOf 1 = .ok (.istore_n 2, 1) := by decide +kernel
theorem dX1_turnOf_2 : decode cX1_turnOf 2 = .ok (.iconst 0, 1) := by decide +kernel
theorem dX1_turnOf_3 : decode cX1_turnOf 3 = .ok (.istore_n 3, 1) := by decide +kernel
theorem dX1_turnOf_4 : decode cX1_turnOf 4 = .ok (.iload_n 3, 1) := by decide +kernel
theorem dX1_turnOf_5 : decode cX1_turnOf 5 = .ok (.aload_n 0, 1) := by decide +kernel
theorem dX1_turnOf_6 : decode cX1_turnOf 6 = .ok (.getfield 28, 3) := by decide +kernel
theorem dX1_turnOf_9 : decode cX1_turnOf 9 = .ok (.if_icmp .ge 47, 3) := by decide +kernel
theorem dX1_turnOf_12 : decode cX1_turnOf 12 = .ok (.aload_n 0, 1) := by decide +kernel
theorem dX1_turnOf_13 : decode cX1_turnOf 13 = .ok (.getfield 15, 3) := by decide +kernel
theorem dX1_turnOf_16 : decode cX1_turnOf 16 = .ok (.iload_n 3, 1) := by decide +kernel
theorem dX1_turnOf_17 : decode cX1_turnOf 17 = .ok (.iaload, 1) := by decide +kernel
theorem dX1_turnOf_18 : decode cX1_turnOf 18 = .ok (.aload_n 0, 1) := by decide +kernel
theorem dX1_turnOf_19 : decode cX1_turnOf 19 = .ok (.getfield 15, 3) := by decide +kernel
theorem dX1_turnOf_22 : decode cX1_turnOf 22 = .ok (.iload_n 1, 1) := by decide +kernel
theorem dX1_turnOf_23 : decode cX1_turnOf 23 = .ok (.iaload, 1) := by decide +kernel
theorem dX1_turnOf_24 : decode cX1_turnOf 24 = .ok (.if_icmp .lt 23, 3) := by decide +kernel
theorem dX1_turnOf_27 : decode cX1_turnOf 27 = .ok (.aload_n 0, 1) := by decide +kernel
theorem dX1_turnOf_28 : decode cX1_turnOf 28 = .ok (.getfield 15, 3) := by decide +kernel
theorem dX1_turnOf_31 : decode cX1_turnOf 31 = .ok (.iload_n 3, 1) := by decide +kernel
theorem dX1_turnOf_32 : decode cX1_turnOf 32 = .ok (.iaload, 1) := by decide +kernel
theorem dX1_turnOf_33 : decode cX1_turnOf 33 = .ok (.aload_n 0, 1) := by decide +kernel
theorem dX1_turnOf_34 : decode cX1_turnOf 34 = .ok (.getfield 15, 3) := by decide +kernel
theorem dX1_turnOf_37 : decode cX1_turnOf 37 = .ok (.iload_n 1, 1) := by decide +kernel
theorem dX1_turnOf_38 : decode cX1_turnOf 38 = .ok (.iaload, 1) := by decide +kernel
theorem dX1_turnOf_39 : decode cX1_turnOf 39 = .ok (.if_icmp .ne 11, 3) := by decide +kernel
theorem dX1_turnOf_42 : decode cX1_turnOf 42 = .ok (.iload_n 3, 1) := by decide +kernel
theorem dX1_turnOf_43 : decode cX1_turnOf 43 = .ok (.iload_n 1, 1) := by decide +kernel
theorem dX1_turnOf_44 : decode cX1_turnOf 44 = .ok (.if_icmp .ge 6, 3) := by decide +kernel
theorem dX1_turnOf_47 : decode cX1_turnOf 47 = .ok (.iinc 2 1, 3) := by decide +kernel
theorem dX1_turnOf_50 : decode cX1_turnOf 50 = .ok (.iinc 3 1, 3) := by decide +kernel
theorem dX1_turnOf_53 : decode cX1_turnOf 53 = .ok (.goto (-49), 3) := by decide +kernel
theorem dX1_turnOf_56 : decode cX1_turnOf 56 = .ok (.iload_n 2, 1) := by decide +kernel
theorem dX1_turnOf_57 : decode cX1_turnOf 57 = .ok (.ireturn, 1) := by decide +kernel
theorem dX1_mostNoons_0 : decode cX1_mostNoons 0 = .ok (.iconst 0, 1) := by decide +kernel
theorem dX1_mostNoons_1 : decode cX1_mostNoons 1 = .ok (.istore_n 3, 1) := by decide +kernel
theorem dX1_mostNoons_2 : decode cX1_mostNoons 2 = .ok (.iconst 0, 1) := by decide +kernel
theorem dX1_mostNoons_3 : decode cX1_mostNoons 3 = .ok (.istore 4, 2) := by decide +kernel
theorem dX1_mostNoons_5 : decode cX1_mostNoons 5 = .ok (.iload 4, 2) := by decide +kernel
theorem dX1_mostNoons_7 : decode cX1_mostNoons 7 = .ok (.aload_n 0, 1) := by decide +kernel
theorem dX1_mostNoons_8 : decode cX1_mostNoons 8 = .ok (.getfield 28, 3) := by decide +kernel
theorem dX1_mostNoons_11 : decode cX1_mostNoons 11 = .ok (.if_icmp .ge 177, 3) := by decide +kernel
theorem dX1_mostNoons_14 : decode cX1_mostNoons 14 = .ok (.aload_n 0, 1) := by decide +kernel
theorem dX1_mostNoons_15 : decode cX1_mostNoons 15 = .ok (.getfield 19, 3) := by decide +kernel
theorem dX1_mostNoons_18 : decode cX1_mostNoons 18 = .ok (.iload 4, 2) := by decide +kernel
theorem dX1_mostNoons_20 : decode cX1_mostNoons 20 = .ok (.iaload, 1) := by decide +kernel
theorem dX1_mostNoons_21 : decode cX1_mostNoons 21 = .ok (.istore 5, 2) := by decide +kernel
theorem dX1_mostNoons_23 : decode cX1_mostNoons 23 = .ok (.aload_n 0, 1) := by decide +kernel
theorem dX1_mostNoons_24 : decode cX1_mostNoons 24 = .ok (.getfield 25, 3) := by decide +kernel
theorem dX1_mostNoons_27 : decode cX1_mostNoons 27 = .ok (.iload 4, 2) := by decide +kernel
theorem dX1_mostNoons_29 : decode cX1_mostNoons 29 = .ok (.iconst 0, 1) := by decide +kernel
theorem dX1_mostNoons_30 : decode cX1_mostNoons 30 = .ok (.iastore, 1) := by decide +kernel
theorem dX1_mostNoons_31 : decode cX1_mostNoons 31 = .ok (.iload_n 2, 1) := by decide +kernel
theorem dX1_mostNoons_32 : decode cX1_mostNoons 32 = .ok (.iload 5, 2) := by decide +kernel
theorem dX1_mostNoons_34 : decode cX1_mostNoons 34 = .ok (.iushr, 1) := by decide +kernel
theorem dX1_mostNoons_35 : decode cX1_mostNoons 35 = .ok (.iconst 1, 1) := by decide +kernel
theorem dX1_mostNoons_36 : decode cX1_mostNoons 36 = .ok (.iand, 1) := by decide +kernel
theorem dX1_mostNoons_37 : decode cX1_mostNoons 37 = .ok (.ifCond .ne 6, 3) := by decide +kernel
theorem dX1_mostNoons_40 : decode cX1_mostNoons 40 = .ok (.goto 142, 3) := by decide +kernel
theorem dX1_mostNoons_43 : decode cX1_mostNoons 43 = .ok (.aload_n 0, 1) := by decide +kernel
theorem dX1_mostNoons_44 : decode cX1_mostNoons 44 = .ok (.iload_n 1, 1) := by decide +kernel
theorem dX1_mostNoons_45 : decode cX1_mostNoons 45 = .ok (.iload 5, 2) := by decide +kernel
theorem dX1_mostNoons_47 : decode cX1_mostNoons 47 = .ok (.invokevirtual 41, 3) := by decide +kernel
theorem dX1_mostNoons_50 : decode cX1_mostNoons 50 = .ok (.bipush 60, 2) := by decide +kernel
theorem dX1_mostNoons_52 : decode cX1_mostNoons 52 = .ok (.aload_n 0, 1) := by decide +kernel
theorem dX1_mostNoons_53 : decode cX1_mostNoons 53 = .ok (.getfield 15, 3) := by decide +kernel
theorem dX1_mostNoons_56 : decode cX1_mostNoons 56 = .ok (.iload 5, 2) := by decide +kernel
theorem dX1_mostNoons_58 : decode cX1_mostNoons 58 = .ok (.iaload, 1) := by decide +kernel
theorem dX1_mostNoons_59 : decode cX1_mostNoons 59 = .ok (.iadd, 1) := by decide +kernel
theorem dX1_mostNoons_60 : decode cX1_mostNoons 60 = .ok (.if_icmp .gt 11, 3) := by decide +kernel
theorem dX1_mostNoons_63 : decode cX1_mostNoons 63 = .ok (.aload_n 0, 1) := by decide +kernel
theorem dX1_mostNoons_64 : decode cX1_mostNoons 64 = .ok (.getfield 25, 3) := by decide +kernel
theorem dX1_mostNoons_67 : decode cX1_mostNoons 67 = .ok (.iload 4, 2) := by decide +kernel
theorem dX1_mostNoons_69 : decode cX1_mostNoons 69 = .ok (.iconst 1, 1) := by decide +kernel
theorem dX1_mostNoons_70 : decode cX1_mostNoons 70 = .ok (.iastore, 1) := by decide +kernel
theorem dX1_mostNoons_71 : decode cX1_mostNoons 71 = .ok (.iconst 0, 1) := by decide +kernel
theorem dX1_mostNoons_72 : decode cX1_mostNoons 72 = .ok (.istore 6, 2) := by decide +kernel
theorem dX1_mostNoons_74 : decode cX1_mostNoons 74 = .ok (.iload 6, 2) := by decide +kernel
theorem dX1_mostNoons_76 : decode cX1_mostNoons 76 = .ok (.iload 4, 2) := by decide +kernel
theorem dX1_mostNoons_78 : decode cX1_mostNoons 78 = .ok (.if_icmp .ge 92, 3) := by decide +kernel
theorem dX1_mostNoons_81 : decode cX1_mostNoons 81 = .ok (.aload_n 0, 1) := by decide +kernel
theorem dX1_mostNoons_82 : decode cX1_mostNoons 82 = .ok (.getfield 19, 3) := by decide +kernel
theorem dX1_mostNoons_85 : decode cX1_mostNoons 85 = .ok (.iload 6, 2) := by decide +kernel
theorem dX1_mostNoons_87 : decode cX1_mostNoons 87 = .ok (.iaload, 1) := by decide +kernel
theorem dX1_mostNoons_88 : decode cX1_mostNoons 88 = .ok (.istore 7, 2) := by decide +kernel
theorem dX1_mostNoons_90 : decode cX1_mostNoons 90 = .ok (.aload_n 0, 1) := by decide +kernel
theorem dX1_mostNoons_91 : decode cX1_mostNoons 91 = .ok (.iload 7, 2) := by decide +kernel
theorem dX1_mostNoons_93 : decode cX1_mostNoons 93 = .ok (.iload 5, 2) := by decide +kernel
theorem dX1_mostNoons_95 : decode cX1_mostNoons 95 = .ok (.invokevirtual 41, 3) := by decide +kernel
theorem dX1_mostNoons_98 : decode cX1_mostNoons 98 = .ok (.aload_n 0, 1) := by decide +kernel
theorem dX1_mostNoons_99 : decode cX1_mostNoons 99 = .ok (.getfield 15, 3) := by decide +kernel
theorem dX1_mostNoons_102 : decode cX1_mostNoons 102 = .ok (.iload 5, 2) := by decide +kernel
theorem dX1_mostNoons_104 : decode cX1_mostNoons 104 = .ok (.iaload, 1) := by decide +kernel
theorem dX1_mostNoons_105 : decode cX1_mostNoons 105 = .ok (.aload_n 0, 1) := by decide +kernel
theorem dX1_mostNoons_106 : decode cX1_mostNoons 106 = .ok (.getfield 15, 3) := by decide +kernel
theorem dX1_mostNoons_109 : decode cX1_mostNoons 109 = .ok (.iload 7, 2) := by decide +kernel
theorem dX1_mostNoons_111 : decode cX1_mostNoons 111 = .ok (.iaload, 1) := by decide +kernel
theorem dX1_mostNoons_112 : decode cX1_mostNoons 112 = .ok (.isub, 1) := by decide +kernel
theorem dX1_mostNoons_113 : decode cX1_mostNoons 113 = .ok (.if_icmp .gt 7, 3) := by decide +kernel
theorem dX1_mostNoons_116 : decode cX1_mostNoons 116 = .ok (.iconst 1, 1) := by decide +kernel
theorem dX1_mostNoons_117 : decode cX1_mostNoons 117 = .ok (.goto 4, 3) := by decide +kernel
theorem dX1_mostNoons_120 : decode cX1_mostNoons 120 = .ok (.iconst 0, 1) := by decide +kernel
theorem dX1_mostNoons_121 : decode cX1_mostNoons 121 = .ok (.istore 8, 2) := by decide +kernel
theorem dX1_mostNoons_123 : decode cX1_mostNoons 123 = .ok (.aload_n 0, 1) := by decide +kernel
theorem dX1_mostNoons_124 : decode cX1_mostNoons 124 = .ok (.getfield 25, 3) := by decide +kernel
theorem dX1_mostNoons_127 : decode cX1_mostNoons 127 = .ok (.iload 6, 2) := by decide +kernel
theorem dX1_mostNoons_129 : decode cX1_mostNoons 129 = .ok (.iaload, 1) := by decide +kernel
theorem dX1_mostNoons_130 : decode cX1_mostNoons 130 = .ok (.ifCond .le 34, 3) := by decide +kernel
theorem dX1_mostNoons_133 : decode cX1_mostNoons 133 = .ok (.iload 8, 2) := by decide +kernel
theorem dX1_mostNoons_135 : decode cX1_mostNoons 135 = .ok (.ifCond .eq 29, 3) := by decide +kernel
theorem dX1_mostNoons_138 : decode cX1_mostNoons 138 = .ok (.aload_n 0, 1) := by decide +kernel
theorem dX1_mostNoons_139 : decode cX1_mostNoons 139 = .ok (.getfield 25, 3) := by decide +kernel
theorem dX1_mostNoons_142 : decode cX1_mostNoons 142 = .ok (.iload 4, 2) := by decide +kernel
theorem dX1_mostNoons_144 : decode cX1_mostNoons 144 = .ok (.aload_n 0, 1) := by decide +kernel
theorem dX1_mostNoons_145 : decode cX1_mostNoons 145 = .ok (.getfield 25, 3) := by decide +kernel
theorem dX1_mostNoons_148 : decode cX1_mostNoons 148 = .ok (.iload 4, 2) := by decide +kernel
theorem dX1_mostNoons_150 : decode cX1_mostNoons 150 = .ok (.iaload, 1) := by decide +kernel
theorem dX1_mostNoons_151 : decode cX1_mostNoons 151 = .ok (.aload_n 0, 1) := by decide +kernel
theorem dX1_mostNoons_152 : decode cX1_mostNoons 152 = .ok (.getfield 25, 3) := by decide +kernel
theorem dX1_mostNoons_155 : decode cX1_mostNoons 155 = .ok (.iload 6, 2) := by decide +kernel
theorem dX1_mostNoons_157 : decode cX1_mostNoons 157 = .ok (.iaload, 1) := by decide +kernel
theorem dX1_mostNoons_158 : decode cX1_mostNoons 158 = .ok (.iconst 1, 1) := by decide +kernel
theorem dX1_mostNoons_159 : decode cX1_mostNoons 159 = .ok (.iadd, 1) := by decide +kernel
theorem dX1_mostNoons_160 : decode cX1_mostNoons 160 = .ok (.invokestatic 49, 3) := by decide +kernel
theorem dX1_mostNoons_163 : decode cX1_mostNoons 163 = .ok (.iastore, 1) := by decide +kernel
theorem dX1_mostNoons_164 : decode cX1_mostNoons 164 = .ok (.iinc 6 1, 3) := by decide +kernel
theorem dX1_mostNoons_167 : decode cX1_mostNoons 167 = .ok (.goto (-93), 3) := by decide +kernel
theorem dX1_mostNoons_170 : decode cX1_mostNoons 170 = .ok (.iload_n 3, 1) := by decide +kernel
theorem dX1_mostNoons_171 : decode cX1_mostNoons 171 = .ok (.aload_n 0, 1) := by decide +kernel
theorem dX1_mostNoons_172 : decode cX1_mostNoons 172 = .ok (.getfield 25, 3) := by decide +kernel
theorem dX1_mostNoons_175 : decode cX1_mostNoons 175 = .ok (.iload 4, 2) := by decide +kernel
theorem dX1_mostNoons_177 : decode cX1_mostNoons 177 = .ok (.iaload, 1) := by decide +kernel
theorem dX1_mostNoons_178 : decode cX1_mostNoons 178 = .ok (.invokestatic 49, 3) := by decide +kernel
theorem dX1_mostNoons_181 : decode cX1_mostNoons 181 = .ok (.istore_n 3, 1) := by decide +kernel
theorem dX1_mostNoons_182 : decode cX1_mostNoons 182 = .ok (.iinc 4 1, 3) := by decide +kernel
theorem dX1_mostNoons_185 : decode cX1_mostNoons 185 = .ok (.goto (-180), 3) := by decide +kernel
theorem dX1_mostNoons_188 : decode cX1_mostNoons 188 = .ok (.iload_n 3, 1) := by decide +kernel
theorem dX1_mostNoons_189 : decode cX1_mostNoons 189 = .ok (.ireturn, 1) := by decide +kernel
theorem dX2_init_0 : decode cX2_init 0 = .ok (.aload_n 0, 1) := by decide +kernel
theorem dX2_init_1 : decode cX2_init 1 = .ok (.invokespecial 3, 3) := by decide +kernel
theorem dX2_init_4 : decode cX2_init 4 = .ok (.aload_n 0, 1) := by decide +kernel
theorem dX2_init_5 : decode cX2_init 5 = .ok (.iconst 1, 1) := by decide +kernel
theorem dX2_init_6 : decode cX2_init 6 = .ok (.putfield 9, 3) := by decide +kernel
theorem dX2_init_9 : decode cX2_init 9 = .ok (.aload_n 0, 1) := by decide +kernel
theorem dX2_init_10 : decode cX2_init 10 = .ok (.bipush 10, 2) := by decide +kernel
theorem dX2_init_12 : decode cX2_init 12 = .ok (.newarray .int, 2) := by decide +kernel
theorem dX2_init_14 : decode cX2_init 14 = .ok (.putfield 15, 3) := by decide +kernel
theorem dX2_init_17 : decode cX2_init 17 = .ok (.aload_n 0, 1) := by decide +kernel
theorem dX2_init_18 : decode cX2_init 18 = .ok (.bipush 10, 2) := by decide +kernel
theorem dX2_init_20 : decode cX2_init 20 = .ok (.newarray .int, 2) := by decide +kernel
theorem dX2_init_22 : decode cX2_init 22 = .ok (.putfield 19, 3) := by decide +kernel
theorem dX2_init_25 : decode cX2_init 25 = .ok (.aload_n 0, 1) := by decide +kernel
theorem dX2_init_26 : decode cX2_init 26 = .ok (.bipush 10, 2) := by decide +kernel
theorem dX2_init_28 : decode cX2_init 28 = .ok (.newarray .int, 2) := by decide +kernel
theorem dX2_init_30 : decode cX2_init 30 = .ok (.putfield 22, 3) := by decide +kernel
theorem dX2_init_33 : decode cX2_init 33 = .ok (.aload_n 0, 1) := by decide +kernel
theorem dX2_init_34 : decode cX2_init 34 = .ok (.bipush 10, 2) := by decide +kernel
theorem dX2_init_36 : decode cX2_init 36 = .ok (.newarray .int, 2) := by decide +kernel
theorem dX2_init_38 : decode cX2_init 38 = .ok (.putfield 25, 3) := by decide +kernel
theorem dX2_init_41 : decode cX2_init 41 = .ok (.aload_n 0, 1) := by decide +kernel
theorem dX2_init_42 : decode cX2_init 42 = .ok (.bipush 10, 2) := by decide +kernel
theorem dX2_init_44 : decode cX2_init 44 = .ok (.newarray .boolean, 2) := by decide +kernel
theorem dX2_init_46 : decode cX2_init 46 = .ok (.putfield 28, 3) := by decide +kernel
theorem dX2_init_49 : decode cX2_init 49 = .ok (.aload_n 0, 1) := by decide +kernel
theorem dX2_init_50 : decode cX2_init 50 = .ok (.bipush 6, 2) := by decide +kernel
theorem dX2_init_52 : decode cX2_init 52 = .ok (.newarray .int, 2) := by decide +kernel
theorem dX2_init_54 : decode cX2_init 54 = .ok (.putfield 32, 3) := by decide +kernel
theorem dX2_init_57 : decode cX2_init 57 = .ok (.aload_n 0, 1) := by decide +kernel
theorem dX2_init_58 : decode cX2_init 58 = .ok (.bipush 6, 2) := by decide +kernel
theorem dX2_init_60 : decode cX2_init 60 = .ok (.newarray .int, 2) := by decide +kernel
theorem dX2_init_62 : decode cX2_init 62 = .ok (.putfield 35, 3) := by decide +kernel
theorem dX2_init_65 : decode cX2_init 65 = .ok (.aload_n 0, 1) := by decide +kernel
theorem dX2_init_66 : decode cX2_init 66 = .ok (.sipush 600, 3) := by decide +kernel
theorem dX2_init_69 : decode cX2_init 69 = .ok (.newarray .int, 2) := by decide +kernel
theorem dX2_init_71 : decode cX2_init 71 = .ok (.putfield 38, 3) := by decide +kernel
theorem dX2_init_74 : decode cX2_init 74 = .ok (.return_, 1) := by decide +kernel
theorem dX2_beginIn_0 : decode cX2_beginIn 0 = .ok (.aload_n 0, 1) := by decide +kernel
theorem dX2_beginIn_1 : decode cX2_beginIn 1 = .ok (.iconst 0, 1) := by decide +kernel
theorem dX2_beginIn_2 : decode cX2_beginIn 2 = .ok (.putfield 41, 3) := by decide +kernel
theorem dX2_beginIn_5 : decode cX2_beginIn 5 = .ok (.aload_n 0, 1) := by decide +kernel
theorem dX2_beginIn_6 : decode cX2_beginIn 6 = .ok (.iconst 0, 1) := by decide +kernel
theorem dX2_beginIn_7 : decode cX2_beginIn 7 = .ok (.putfield 44, 3) := by decide +kernel
theorem dX2_beginIn_10 : decode cX2_beginIn 10 = .ok (.iconst 0, 1) := by decide +kernel
theorem dX2_beginIn_11 : decode cX2_beginIn 11 = .ok (.istore_n 2, 1) := by decide +kernel
theorem dX2_beginIn_12 : decode cX2_beginIn 12 = .ok (.iload_n 2, 1) := by decide +kernel
theorem dX2_beginIn_13 : decode cX2_beginIn 13 = .ok (.bipush 10, 2) := by decide +kernel
theorem dX2_beginIn_15 : decode cX2_beginIn 15 = .ok (.if_icmp .ge 50, 3) := by decide +kernel
theorem dX2_beginIn_18 : decode cX2_beginIn 18 = .ok (.aload_n 0, 1) := by decide +kernel
theorem dX2_beginIn_19 : decode cX2_beginIn 19 = .ok (.getfield 15, 3) := by decide +kernel
theorem dX2_beginIn_22 : decode cX2_beginIn 22 = .ok (.iload_n 2, 1) := by decide +kernel
theorem dX2_beginIn_23 : decode cX2_beginIn 23 = .ok (.iconst (-1), 1) := by decide +kernel
theorem dX2_beginIn_24 : decode cX2_beginIn 24 = .ok (.iastore, 1) := by decide +kernel
theorem dX2_beginIn_25 : decode cX2_beginIn 25 = .ok (.aload_n 0, 1) := by decide +kernel
theorem dX2_beginIn_26 : decode cX2_beginIn 26 = .ok (.getfield 19, 3) := by decide +kernel
theorem dX2_beginIn_29 : decode cX2_beginIn 29 = .ok (.iload_n 2, 1) := by decide +kernel
theorem dX2_beginIn_30 : decode cX2_beginIn 30 = .ok (.bipush 100, 2) := by decide +kernel
theorem dX2_beginIn_32 : decode cX2_beginIn 32 = .ok (.iastore, 1) := by decide +kernel
theorem dX2_beginIn_33 : decode cX2_beginIn 33 = .ok (.aload_n 0, 1) := by decide +kernel
theorem dX2_beginIn_34 : decode cX2_beginIn 34 = .ok (.getfield 22, 3) := by decide +kernel
theorem dX2_beginIn_37 : decode cX2_beginIn 37 = .ok (.iload_n 2, 1) := by decide +kernel
theorem dX2_beginIn_38 : decode cX2_beginIn 38 = .ok (.iconst 0, 1) := by decide +kernel
theorem dX2_beginIn_39 : decode cX2_beginIn 39 = .ok (.iastore, 1) := by decide +kernel
theorem dX2_beginIn_40 : decode cX2_beginIn 40 = .ok (.aload_n 0, 1) := by decide +kernel
theorem dX2_beginIn_41 : decode cX2_beginIn 41 = .ok (.getfield 25, 3) := by decide +kernel
theorem dX2_beginIn_44 : decode cX2_beginIn 44 = .ok (.iload_n 2, 1) := by decide +kernel
theorem dX2_beginIn_45 : decode cX2_beginIn 45 = .ok (.aload_n 1, 1) := by decide +kernel
theorem dX2_beginIn_46 : decode cX2_beginIn 46 = .ok (.getfield 47, 3) := by decide +kernel
theorem dX2_beginIn_49 : decode cX2_beginIn 49 = .ok (.iload_n 2, 1) := by decide +kernel
theorem dX2_beginIn_50 : decode cX2_beginIn 50 = .ok (.iaload, 1) := by decide +kernel
theorem dX2_beginIn_51 : decode cX2_beginIn 51 = .ok (.iastore, 1) := by decide +kernel
theorem dX2_beginIn_52 : decode cX2_beginIn 52 = .ok (.aload_n 0, 1) := by decide +kernel
theorem dX2_beginIn_53 : decode cX2_beginIn 53 = .ok (.getfield 28, 3) := by decide +kernel
theorem dX2_beginIn_56 : decode cX2_beginIn 56 = .ok (.iload_n 2, 1) := by decide +kernel
theorem dX2_beginIn_57 : decode cX2_beginIn 57 = .ok (.iconst 0, 1) := by decide +kernel
theorem dX2_beginIn_58 : decode cX2_beginIn 58 = .ok (.bastore, 1) := by decide +kernel
theorem dX2_beginIn_59 : decode cX2_beginIn 59 = .ok (.iinc 2 1, 3) := by decide +kernel
theorem dX2_beginIn_62 : decode cX2_beginIn 62 = .ok (.goto (-50), 3) := by decide +kernel
theorem dX2_beginIn_65 : decode cX2_beginIn 65 = .ok (.iconst 0, 1) := by decide +kernel
theorem dX2_beginIn_66 : decode cX2_beginIn 66 = .ok (.istore_n 2, 1) := by decide +kernel
theorem dX2_beginIn_67 : decode cX2_beginIn 67 = .ok (.iload_n 2, 1) := by decide +kernel
theorem dX2_beginIn_68 : decode cX2_beginIn 68 = .ok (.bipush 6, 2) := by decide +kernel
theorem dX2_beginIn_70 : decode cX2_beginIn 70 = .ok (.if_icmp .ge 28, 3) := by decide +kernel
theorem dX2_beginIn_73 : decode cX2_beginIn 73 = .ok (.aload_n 0, 1) := by decide +kernel
theorem dX2_beginIn_74 : decode cX2_beginIn 74 = .ok (.getfield 32, 3) := by decide +kernel
theorem dX2_beginIn_77 : decode cX2_beginIn 77 = .ok (.iload_n 2, 1) := by decide +kernel
theorem dX2_beginIn_78 : decode cX2_beginIn 78 = .ok (.aload_n 1, 1) := by decide +kernel
theorem dX2_beginIn_79 : decode cX2_beginIn 79 = .ok (.getfield 50, 3) := by decide +kernel
theorem dX2_beginIn_82 : decode cX2_beginIn 82 = .ok (.iload_n 2, 1) := by decide +kernel
theorem dX2_beginIn_83 : decode cX2_beginIn 83 = .ok (.iaload, 1) := by decide +kernel
theorem dX2_beginIn_84 : decode cX2_beginIn 84 = .ok (.iastore, 1) := by decide +kernel
theorem dX2_beginIn_85 : decode cX2_beginIn 85 = .ok (.aload_n 0, 1) := by decide +kernel
theorem dX2_beginIn_86 : decode cX2_beginIn 86 = .ok (.getfield 35, 3) := by decide +kernel
theorem dX2_beginIn_89 : decode cX2_beginIn 89 = .ok (.iload_n 2, 1) := by decide +kernel
theorem dX2_beginIn_90 : decode cX2_beginIn 90 = .ok (.iconst 0, 1) := by decide +kernel
theorem dX2_beginIn_91 : decode cX2_beginIn 91 = .ok (.iastore, 1) := by decide +kernel
theorem dX2_beginIn_92 : decode cX2_beginIn 92 = .ok (.iinc 2 1, 3) := by decide +kernel
theorem dX2_beginIn_95 : decode cX2_beginIn 95 = .ok (.goto (-28), 3) := by decide +kernel
theorem dX2_beginIn_98 : decode cX2_beginIn 98 = .ok (.return_, 1) := by decide +kernel
theorem dX2_copyFrom_0 : decode cX2_copyFrom 0 = .ok (.aload_n 0, 1) := by decide +kernel
theorem dX2_copyFrom_1 : decode cX2_copyFrom 1 = .ok (.aload_n 1, 1) := by decide +kernel
theorem dX2_copyFrom_2 : decode cX2_copyFrom 2 = .ok (.getfield 41, 3) := by decide +kernel
theorem dX2_copyFrom_5 : decode cX2_copyFrom 5 = .ok (.putfield 41, 3) := by decide +kernel
theorem dX2_copyFrom_8 : decode cX2_copyFrom 8 = .ok (.aload_n 0, 1) := by decide +kernel
theorem dX2_copyFrom_9 : decode cX2_copyFrom 9 = .ok (.aload_n 1, 1) := by decide +kernel
theorem dX2_copyFrom_10 : decode cX2_copyFrom 10 = .ok (.getfield 44, 3) := by decide +kernel
theorem dX2_copyFrom_13 : decode cX2_copyFrom 13 = .ok (.putfield 44, 3) := by decide +kernel
theorem dX2_copyFrom_16 : decode cX2_copyFrom 16 = .ok (.aload_n 0, 1) := by decide +kernel
theorem dX2_copyFrom_17 : decode cX2_copyFrom 17 = .ok (.aload_n 1, 1) := by decide +kernel
theorem dX2_copyFrom_18 : decode cX2_copyFrom 18 = .ok (.getfield 9, 3) := by decide +kernel
theorem dX2_copyFrom_21 : decode cX2_copyFrom 21 = .ok (.putfield 9, 3) := by decide +kernel
theorem dX2_copyFrom_24 : decode cX2_copyFrom 24 = .ok (.aload_n 1, 1) := by decide +kernel
theorem dX2_copyFrom_25 : decode cX2_copyFrom 25 = .ok (.getfield 15, 3) := by decide +kernel
theorem dX2_copyFrom_28 : decode cX2_copyFrom 28 = .ok (.iconst 0, 1) := by decide +kernel
theorem dX2_copyFrom_29 : decode cX2_copyFrom 29 = .ok (.aload_n 0, 1) := by decide +kernel
theorem dX2_copyFrom_30 : decode cX2_copyFrom 30 = .ok (.getfield 15, 3) := by decide +kernel
theorem dX2_copyFrom_33 : decode cX2_copyFrom 33 = .ok (.iconst 0, 1) := by decide +kernel
theorem dX2_copyFrom_34 : decode cX2_copyFrom 34 = .ok (.bipush 10, 2) := by decide +kernel
theorem dX2_copyFrom_36 : decode cX2_copyFrom 36 = .ok (.invokestatic 53, 3) := by decide +kernel
theorem dX2_copyFrom_39 : decode cX2_copyFrom 39 = .ok (.aload_n 1, 1) := by decide +kernel
theorem dX2_copyFrom_40 : decode cX2_copyFrom 40 = .ok (.getfield 19, 3) := by decide +kernel
theorem dX2_copyFrom_43 : decode cX2_copyFrom 43 = .ok (.iconst 0, 1) := by decide +kernel
theorem dX2_copyFrom_44 : decode cX2_copyFrom 44 = .ok (.aload_n 0, 1) := by decide +kernel
theorem dX2_copyFrom_45 : decode cX2_copyFrom 45 = .ok (.getfield 19, 3) := by decide +kernel
theorem dX2_copyFrom_48 : decode cX2_copyFrom 48 = .ok (.iconst 0, 1) := by decide +kernel
theorem dX2_copyFrom_49 : decode cX2_copyFrom 49 = .ok (.bipush 10, 2) := by decide +kernel
theorem dX2_copyFrom_51 : decode cX2_copyFrom 51 = .ok (.invokestatic 53, 3) := by decide +kernel
theorem dX2_copyFrom_54 : decode cX2_copyFrom 54 = .ok (.aload_n 1, 1) := by decide +kernel
theorem dX2_copyFrom_55 : decode cX2_copyFrom 55 = .ok (.getfield 22, 3) := by decide +kernel
theorem dX2_copyFrom_58 : decode cX2_copyFrom 58 = .ok (.iconst 0, 1) := by decide +kernel
theorem dX2_copyFrom_59 : decode cX2_copyFrom 59 = .ok (.aload_n 0, 1) := by decide +kernel
theorem dX2_copyFrom_60 : decode cX2_copyFrom 60 = .ok (.getfield 22, 3) := by decide +kernel
theorem dX2_copyFrom_63 : decode cX2_copyFrom 63 = .ok (.iconst 0, 1) := by decide +kernel
theorem dX2_copyFrom_64 : decode cX2_copyFrom 64 = .ok (.bipush 10, 2) := by decide +kernel
theorem dX2_copyFrom_66 : decode cX2_copyFrom 66 = .ok (.invokestatic 53, 3) := by decide +kernel
theorem dX2_copyFrom_69 : decode cX2_copyFrom 69 = .ok (.aload_n 1, 1) := by decide +kernel
theorem dX2_copyFrom_70 : decode cX2_copyFrom 70 = .ok (.getfield 25, 3) := by decide +kernel
theorem dX2_copyFrom_73 : decode cX2_copyFrom 73 = .ok (.iconst 0, 1) := by decide +kernel
theorem dX2_copyFrom_74 : decode cX2_copyFrom 74 = .ok (.aload_n 0, 1) := by decide +kernel
theorem dX2_copyFrom_75 : decode cX2_copyFrom 75 = .ok (.getfield 25, 3) := by decide +kernel
theorem dX2_copyFrom_78 : decode cX2_copyFrom 78 = .ok (.iconst 0, 1) := by decide +kernel
theorem dX2_copyFrom_79 : decode cX2_copyFrom 79 = .ok (.bipush 10, 2) := by decide +kernel
theorem dX2_copyFrom_81 : decode cX2_copyFrom 81 = .ok (.invokestatic 53, 3) := by decide +kernel
theorem dX2_copyFrom_84 : decode cX2_copyFrom 84 = .ok (.iconst 0, 1) := by decide +kernel
theorem dX2_copyFrom_85 : decode cX2_copyFrom 85 = .ok (.istore_n 2, 1) := by decide +kernel
theorem dX2_copyFrom_86 : decode cX2_copyFrom 86 = .ok (.iload_n 2, 1) := by decide +kernel
theorem dX2_copyFrom_87 : decode cX2_copyFrom 87 = .ok (.bipush 10, 2) := by decide +kernel
theorem dX2_copyFrom_89 : decode cX2_copyFrom 89 = .ok (.if_icmp .ge 21, 3) := by decide +kernel
theorem dX2_copyFrom_92 : decode cX2_copyFrom 92 = .ok (.aload_n 0, 1) := by decide +kernel
theorem dX2_copyFrom_93 : decode cX2_copyFrom 93 = .ok (.getfield 28, 3) := by decide +kernel
theorem dX2_copyFrom_96 : decode cX2_copyFrom 96 = .ok (.iload_n 2, 1) := by decide +kernel
theorem dX2_copyFrom_97 : decode cX2_copyFrom 97 = .ok (.aload_n 1, 1) := by decide +kernel
theorem dX2_copyFrom_98 : decode cX2_copyFrom 98 = .ok (.getfield 28, 3) := by decide +kernel
theorem dX2_copyFrom_101 : decode cX2_copyFrom 101 = .ok (.iload_n 2, 1) := by decide +kernel
theorem dX2_copyFrom_102 : decode cX2_copyFrom 102 = .ok (.baload, 1) := by decide +kernel
theorem dX2_copyFrom_103 : decode cX2_copyFrom 103 = .ok (.bastore, 1) := by decide +kernel
theorem dX2_copyFrom_104 : decode cX2_copyFrom 104 = .ok (.iinc 2 1, 3) := by decide +kernel
theorem dX2_copyFrom_107 : decode cX2_copyFrom 107 = .ok (.goto (-21), 3) := by decide +kernel
theorem dX2_copyFrom_110 : decode cX2_copyFrom 110 = .ok (.aload_n 1, 1) := by decide +kernel
theorem dX2_copyFrom_111 : decode cX2_copyFrom 111 = .ok (.getfield 32, 3) := by decide +kernel
theorem dX2_copyFrom_114 : decode cX2_copyFrom 114 = .ok (.iconst 0, 1) := by decide +kernel
theorem dX2_copyFrom_115 : decode cX2_copyFrom 115 = .ok (.aload_n 0, 1) := by decide +kernel
theorem dX2_copyFrom_116 : decode cX2_copyFrom 116 = .ok (.getfield 32, 3) := by decide +kernel
theorem dX2_copyFrom_119 : decode cX2_copyFrom 119 = .ok (.iconst 0, 1) := by decide +kernel
theorem dX2_copyFrom_120 : decode cX2_copyFrom 120 = .ok (.bipush 6, 2) := by decide +kernel
theorem dX2_copyFrom_122 : decode cX2_copyFrom 122 = .ok (.invokestatic 53, 3) := by decide +kernel
theorem dX2_copyFrom_125 : decode cX2_copyFrom 125 = .ok (.aload_n 1, 1) := by decide +kernel
theorem dX2_copyFrom_126 : decode cX2_copyFrom 126 = .ok (.getfield 35, 3) := by decide +kernel
theorem dX2_copyFrom_129 : decode cX2_copyFrom 129 = .ok (.iconst 0, 1) := by decide +kernel
theorem dX2_copyFrom_130 : decode cX2_copyFrom 130 = .ok (.aload_n 0, 1) := by decide +kernel
theorem dX2_copyFrom_131 : decode cX2_copyFrom 131 = .ok (.getfield 35, 3) := by decide +kernel
theorem dX2_copyFrom_134 : decode cX2_copyFrom 134 = .ok (.iconst 0, 1) := by decide +kernel
theorem dX2_copyFrom_135 : decode cX2_copyFrom 135 = .ok (.bipush 6, 2) := by decide +kernel
theorem dX2_copyFrom_137 : decode cX2_copyFrom 137 = .ok (.invokestatic 53, 3) := by decide +kernel
theorem dX2_copyFrom_140 : decode cX2_copyFrom 140 = .ok (.aload_n 1, 1) := by decide +kernel
theorem dX2_copyFrom_141 : decode cX2_copyFrom 141 = .ok (.getfield 38, 3) := by decide +kernel
theorem dX2_copyFrom_144 : decode cX2_copyFrom 144 = .ok (.iconst 0, 1) := by decide +kernel
theorem dX2_copyFrom_145 : decode cX2_copyFrom 145 = .ok (.aload_n 0, 1) := by decide +kernel
theorem dX2_copyFrom_146 : decode cX2_copyFrom 146 = .ok (.getfield 38, 3) := by decide +kernel
theorem dX2_copyFrom_149 : decode cX2_copyFrom 149 = .ok (.iconst 0, 1) := by decide +kernel
theorem dX2_copyFrom_150 : decode cX2_copyFrom 150 = .ok (.sipush 600, 3) := by decide +kernel
theorem dX2_copyFrom_153 : decode cX2_copyFrom 153 = .ok (.invokestatic 53, 3) := by decide +kernel
theorem dX2_copyFrom_156 : decode cX2_copyFrom 156 = .ok (.return_, 1) := by decide +kernel
theorem dX2_draw_0 : decode cX2_draw 0 = .ok (.aload_n 0, 1) := by decide +kernel
theorem dX2_draw_1 : decode cX2_draw 1 = .ok (.aload_n 0, 1) := by decide +kernel
theorem dX2_draw_2 : decode cX2_draw 2 = .ok (.getfield 9, 3) := by decide +kernel
theorem dX2_draw_5 : decode cX2_draw 5 = .ok (.ldc 59, 2) := by decide +kernel
theorem dX2_draw_7 : decode cX2_draw 7 = .ok (.imul, 1) := by decide +kernel
theorem dX2_draw_8 : decode cX2_draw 8 = .ok (.sipush 12345, 3) := by decide +kernel
theorem dX2_draw_11 : decode cX2_draw 11 = .ok (.iadd, 1) := by decide +kernel
theorem dX2_draw_12 : decode cX2_draw 12 = .ok (.putfield 9, 3) := by decide +kernel
theorem dX2_draw_15 : decode cX2_draw 15 = .ok (.iload_n 1, 1) := by decide +kernel
theorem dX2_draw_16 : decode cX2_draw 16 = .ok (.ifCond .le 15, 3) := by decide +kernel
theorem dX2_draw_19 : decode cX2_draw 19 = .ok (.aload_n 0, 1) := by decide +kernel
theorem dX2_draw_20 : decode cX2_draw 20 = .ok (.getfield 9, 3) := by decide +kernel
theorem dX2_draw_23 : decode cX2_draw 23 = .ok (.bipush 16, 2) := by decide +kernel
theorem dX2_draw_25 : decode cX2_draw 25 = .ok (.iushr, 1) := by decide +kernel
theorem dX2_draw_26 : decode cX2_draw 26 = .ok (.iload_n 1, 1) := by decide +kernel
theorem dX2_draw_27 : decode cX2_draw 27 = .ok (.irem, 1) := by decide +kernel
theorem dX2_draw_28 : decode cX2_draw 28 = .ok (.goto 4, 3) := by decide +kernel
theorem dX2_draw_31 : decode cX2_draw 31 = .ok (.iconst 0, 1) := by decide +kernel
theorem dX2_draw_32 : decode cX2_draw 32 = .ok (.ireturn, 1) := by decide +kernel
theorem dX2_endDay_0 : decode cX2_endDay 0 = .ok (.aload_n 0, 1) := by decide +kernel
theorem dX2_endDay_1 : decode cX2_endDay 1 = .ok (.dup, 1) := by decide +kernel
theorem dX2_endDay_2 : decode cX2_endDay 2 = .ok (.getfield 41, 3) := by decide +kernel
theorem dX2_endDay_5 : decode cX2_endDay 5 = .ok (.iconst 1, 1) := by decide +kernel
theorem dX2_endDay_6 : decode cX2_endDay 6 = .ok (.iadd, 1) := by decide +kernel
theorem dX2_endDay_7 : decode cX2_endDay 7 = .ok (.putfield 41, 3) := by decide +kernel
theorem dX2_endDay_10 : decode cX2_endDay 10 = .ok (.aload_n 0, 1) := by decide +kernel
theorem dX2_endDay_11 : decode cX2_endDay 11 = .ok (.getfield 41, 3) := by decide +kernel
theorem dX2_endDay_14 : decode cX2_endDay 14 = .ok (.bipush 60, 2) := by decide +kernel
theorem dX2_endDay_16 : decode cX2_endDay 16 = .ok (.if_icmp .gt 26, 3) := by decide +kernel
theorem dX2_endDay_19 : decode cX2_endDay 19 = .ok (.aload_n 0, 1) := by decide +kernel
theorem dX2_endDay_20 : decode cX2_endDay 20 = .ok (.getfield 15, 3) := by decide +kernel
theorem dX2_endDay_23 : decode cX2_endDay 23 = .ok (.iconst 0, 1) := by decide +kernel
theorem dX2_endDay_24 : decode cX2_endDay 24 = .ok (.aload_n 0, 1) := by decide +kernel
theorem dX2_endDay_25 : decode cX2_endDay 25 = .ok (.getfield 38, 3) := by decide +kernel
theorem dX2_endDay_28 : decode cX2_endDay 28 = .ok (.aload_n 0, 1) := by decide +kernel
theorem dX2_endDay_29 : decode cX2_endDay 29 = .ok (.getfield 41, 3) := by decide +kernel
theorem dX2_endDay_32 : decode cX2_endDay 32 = .ok (.iconst 1, 1) := by decide +kernel
theorem dX2_endDay_33 : decode cX2_endDay 33 = .ok (.isub, 1) := by decide +kernel
theorem dX2_endDay_34 : decode cX2_endDay 34 = .ok (.bipush 10, 2) := by decide +kernel
theorem dX2_endDay_36 : decode cX2_endDay 36 = .ok (.imul, 1) := by decide +kernel
theorem dX2_endDay_37 : decode cX2_endDay 37 = .ok (.bipush 10, 2) := by decide +kernel
theorem dX2_endDay_39 : decode cX2_endDay 39 = .ok (.invokestatic 53, 3) := by decide +kernel
theorem dX2_endDay_42 : decode cX2_endDay 42 = .ok (.return_, 1) := by decide +kernel
theorem dX2_ownerBehind_0 : decode cX2_ownerBehind 0 = .ok (.iload_n 1, 1) := by decide +kernel
theorem dX2_ownerBehind_1 : decode cX2_ownerBehind 1 = .ok (.iconst 1, 1) := by decide +kernel
theorem dX2_ownerBehind_2 : decode cX2_ownerBehind 2 = .ok (.isub, 1) := by decide +kernel
theorem dX2_ownerBehind_3 : decode cX2_ownerBehind 3 = .ok (.bipush 10, 2) := by decide +kernel
theorem dX2_ownerBehind_5 : decode cX2_ownerBehind 5 = .ok (.imul, 1) := by decide +kernel
theorem dX2_ownerBehind_6 : decode cX2_ownerBehind 6 = .ok (.iload_n 2, 1) := by decide +kernel
theorem dX2_ownerBehind_7 : decode cX2_ownerBehind 7 = .ok (.iadd, 1) := by decide +kernel
theorem dX2_ownerBehind_8 : decode cX2_ownerBehind 8 = .ok (.istore_n 3, 1) := by decide +kernel
theorem dX2_ownerBehind_9 : decode cX2_ownerBehind 9 = .ok (.iload_n 3, 1) := by decide +kernel
theorem dX2_ownerBehind_10 : decode cX2_ownerBehind 10 = .ok (.ifCond .lt 19, 3) := by decide +kernel
theorem dX2_ownerBehind_13 : decode cX2_ownerBehind 13 = .ok (.iload_n 3, 1) := by decide +kernel
theorem dX2_ownerBehind_14 : decode cX2_ownerBehind 14 = .ok (.sipush 600, 3) := by decide +kernel
theorem dX2_ownerBehind_17 : decode cX2_ownerBehind 17 = .ok (.if_icmp .ge 12, 3) := by decide +kernel
theorem dX2_ownerBehind_20 : decode cX2_ownerBehind 20 = .ok (.aload_n 0, 1) := by decide +kernel
theorem dX2_ownerBehind_21 : decode cX2_ownerBehind 21 = .ok (.getfield 38, 3) := by decide +kernel
theorem dX2_ownerBehind_24 : decode cX2_ownerBehind 24 = .ok (.iload_n 3, 1) := by decide +kernel
theorem dX2_ownerBehind_25 : decode cX2_ownerBehind 25 = .ok (.iaload, 1) := by decide +kernel
theorem dX2_ownerBehind_26 : decode cX2_ownerBehind 26 = .ok (.goto 4, 3) := by decide +kernel
theorem dX2_ownerBehind_29 : decode cX2_ownerBehind 29 = .ok (.iconst (-1), 1) := by decide +kernel
theorem dX2_ownerBehind_30 : decode cX2_ownerBehind 30 = .ok (.ireturn, 1) := by decide +kernel
theorem dX3_init_0 : decode cX3_init 0 = .ok (.aload_n 0, 1) := by decide +kernel
theorem dX3_init_1 : decode cX3_init 1 = .ok (.invokespecial 3, 3) := by decide +kernel
theorem dX3_init_4 : decode cX3_init 4 = .ok (.aload_n 0, 1) := by decide +kernel
theorem dX3_init_5 : decode cX3_init 5 = .ok (.iconst 1, 1) := by decide +kernel
theorem dX3_init_6 : decode cX3_init 6 = .ok (.newarray .int, 2) := by decide +kernel
theorem dX3_init_8 : decode cX3_init 8 = .ok (.putfield 9, 3) := by decide +kernel
theorem dX3_init_11 : decode cX3_init 11 = .ok (.aload_n 0, 1) := by decide +kernel
theorem dX3_init_12 : decode cX3_init 12 = .ok (.iconst (-1), 1) := by decide +kernel
theorem dX3_init_13 : decode cX3_init 13 = .ok (.putfield 15, 3) := by decide +kernel
theorem dX3_init_16 : decode cX3_init 16 = .ok (.aload_n 0, 1) := by decide +kernel
theorem dX3_init_17 : decode cX3_init 17 = .ok (.new 19, 3) := by decide +kernel
theorem dX3_init_20 : decode cX3_init 20 = .ok (.dup, 1) := by decide +kernel
theorem dX3_init_21 : decode cX3_init 21 = .ok (.aload_n 1, 1) := by decide +kernel
theorem dX3_init_22 : decode cX3_init 22 = .ok (.invokespecial 21, 3) := by decide +kernel
theorem dX3_init_25 : decode cX3_init 25 = .ok (.putfield 24, 3) := by decide +kernel
theorem dX3_init_28 : decode cX3_init 28 = .ok (.aload_n 0, 1) := by decide +kernel
theorem dX3_init_29 : decode cX3_init 29 = .ok (.aload_n 2, 1) := by decide +kernel
theorem dX3_init_30 : decode cX3_init 30 = .ok (.putfield 28, 3) := by decide +kernel
theorem dX3_init_33 : decode cX3_init 33 = .ok (.aload_n 0, 1) := by decide +kernel
theorem dX3_init_34 : decode cX3_init 34 = .ok (.aload_n 2, 1) := by decide +kernel
theorem dX3_init_35 : decode cX3_init 35 = .ok (.getfield 32, 3) := by decide +kernel
theorem dX3_init_38 : decode cX3_init 38 = .ok (.putfield 38, 3) := by decide +kernel
theorem dX3_init_41 : decode cX3_init 41 = .ok (.aload_n 0, 1) := by decide +kernel
theorem dX3_init_42 : decode cX3_init 42 = .ok (.aload_n 2, 1) := by decide +kernel
theorem dX3_init_43 : decode cX3_init 43 = .ok (.getfield 39, 3) := by decide +kernel
theorem dX3_init_46 : decode cX3_init 46 = .ok (.putfield 43, 3) := by decide +kernel
theorem dX3_init_49 : decode cX3_init 49 = .ok (.return_, 1) := by decide +kernel
theorem dX3_readTape_0 : decode cX3_readTape 0 = .ok (.aload_n 0, 1) := by decide +kernel
theorem dX3_readTape_1 : decode cX3_readTape 1 = .ok (.getfield 28, 3) := by decide +kernel
theorem dX3_readTape_4 : decode cX3_readTape 4 = .ok (.invokevirtual 44, 3) := by decide +kernel
theorem dX3_readTape_7 : decode cX3_readTape 7 = .ok (.aload_n 0, 1) := by decide +kernel
theorem dX3_readTape_8 : decode cX3_readTape 8 = .ok (.iconst 0, 1) := by decide +kernel
theorem dX3_readTape_9 : decode cX3_readTape 9 = .ok (.putfield 47, 3) := by decide +kernel
theorem dX3_readTape_12 : decode cX3_readTape 12 = .ok (.aload_n 0, 1) := by decide +kernel
theorem dX3_readTape_13 : decode cX3_readTape 13 = .ok (.iconst 0, 1) := by decide +kernel
theorem dX3_readTape_14 : decode cX3_readTape 14 = .ok (.putfield 51, 3) := by decide +kernel
theorem dX3_readTape_17 : decode cX3_readTape 17 = .ok (.aload_n 0, 1) := by decide +kernel
theorem dX3_readTape_18 : decode cX3_readTape 18 = .ok (.iconst 0, 1) := by decide +kernel
theorem dX3_readTape_19 : decode cX3_readTape 19 = .ok (.putfield 54, 3) := by decide +kernel
theorem dX3_readTape_22 : decode cX3_readTape 22 = .ok (.aload_n 0, 1) := by decide +kernel
theorem dX3_readTape_23 : decode cX3_readTape 23 = .ok (.iconst (-1), 1) := by decide +kernel
theorem dX3_readTape_24 : decode cX3_readTape 24 = .ok (.putfield 15, 3) := by decide +kernel
theorem dX3_readTape_27 : decode cX3_readTape 27 = .ok (.aload_n 0, 1) := by decide +kernel
theorem dX3_readTape_28 : decode cX3_readTape 28 = .ok (.getfield 24, 3) := by decide +kernel
theorem dX3_readTape_31 : decode cX3_readTape 31 = .ok (.invokevirtual 57, 3) := by decide +kernel
theorem dX3_readTape_34 : decode cX3_readTape 34 = .ok (.iconst 1, 1) := by decide +kernel
theorem dX3_readTape_35 : decode cX3_readTape 35 = .ok (.istore_n 1, 1) := by decide +kernel
theorem dX3_readTape_36 : decode cX3_readTape 36 = .ok (.iconst 0, 1) := by decide +kernel
theorem dX3_readTape_37 : decode cX3_readTape 37 = .ok (.istore_n 2, 1) := by decide +kernel
theorem dX3_readTape_38 : decode cX3_readTape 38 = .ok (.iload_n 2, 1) := by decide +kernel
theorem dX3_readTape_39 : decode cX3_readTape 39 = .ok (.sipush 1700, 3) := by decide +kernel
theorem dX3_readTape_42 : decode cX3_readTape 42 = .ok (.if_icmp .ge 28, 3) := by decide +kernel
theorem dX3_readTape_45 : decode cX3_readTape 45 = .ok (.iload_n 1, 1) := by decide +kernel
theorem dX3_readTape_46 : decode cX3_readTape 46 = .ok (.ifCond .eq 24, 3) := by decide +kernel
theorem dX3_readTape_49 : decode cX3_readTape 49 = .ok (.aload_n 0, 1) := by decide +kernel
theorem dX3_readTape_50 : decode cX3_readTape 50 = .ok (.getfield 24, 3) := by decide +kernel
theorem dX3_readTape_53 : decode cX3_readTape 53 = .ok (.getfield 60, 3) := by decide +kernel
theorem dX3_readTape_56 : decode cX3_readTape 56 = .ok (.ifCond .eq 14, 3) := by decide +kernel
theorem dX3_readTape_59 : decode cX3_readTape 59 = .ok (.aload_n 0, 1) := by decide +kernel
theorem dX3_readTape_60 : decode cX3_readTape 60 = .ok (.invokevirtual 63, 3) := by decide +kernel
theorem dX3_readTape_63 : decode cX3_readTape 63 = .ok (.istore_n 1, 1) := by decide +kernel
theorem dX3_readTape_64 : decode cX3_readTape 64 = .ok (.iinc 2 1, 3) := by decide +kernel
theorem dX3_readTape_67 : decode cX3_readTape 67 = .ok (.goto (-29), 3) := by decide +kernel
theorem dX3_readTape_70 : decode cX3_readTape 70 = .ok (.iload_n 1, 1) := by decide +kernel
theorem dX3_readTape_71 : decode cX3_readTape 71 = .ok (.ifCond .eq 10, 3) := by decide +kernel
theorem dX3_readTape_74 : decode cX3_readTape 74 = .ok (.aload_n 0, 1) := by decide +kernel
theorem dX3_readTape_75 : decode cX3_readTape 75 = .ok (.getfield 38, 3) := by decide +kernel
theorem dX3_readTape_78 : decode cX3_readTape 78 = .ok (.invokevirtual 67, 3) := by decide +kernel
theorem dX3_readTape_81 : decode cX3_readTape 81 = .ok (.iload_n 1, 1) := by decide +kernel
theorem dX3_readTape_82 : decode cX3_readTape 82 = .ok (.ireturn, 1) := by decide +kernel
theorem dX3_refuse_0 : decode cX3_refuse 0 = .ok (.aload_n 0, 1) := by decide +kernel
theorem dX3_refuse_1 : decode cX3_refuse 1 = .ok (.aload_n 0, 1) := by decide +kernel
theorem dX3_refuse_2 : decode cX3_refuse 2 = .ok (.getfield 24, 3) := by decide +kernel
theorem dX3_refuse_5 : decode cX3_refuse 5 = .ok (.getfield 60, 3) := by decide +kernel
theorem dX3_refuse_8 : decode cX3_refuse 8 = .ok (.iconst 1, 1) := by decide +kernel
theorem dX3_refuse_9 : decode cX3_refuse 9 = .ok (.if_icmp .ne 7, 3) := by decide +kernel
theorem dX3_refuse_12 : decode cX3_refuse 12 = .ok (.iconst 1, 1) := by decide +kernel
theorem dX3_refuse_13 : decode cX3_refuse 13 = .ok (.goto 4, 3) := by decide +kernel
theorem dX3_refuse_16 : decode cX3_refuse 16 = .ok (.iload_n 1, 1) := by decide +kernel
theorem dX3_refuse_17 : decode cX3_refuse 17 = .ok (.putfield 54, 3) := by decide +kernel
theorem dX3_refuse_20 : decode cX3_refuse 20 = .ok (.aload_n 0, 1) := by decide +kernel
theorem dX3_refuse_21 : decode cX3_refuse 21 = .ok (.aload_n 0, 1) := by decide +kernel
theorem dX3_refuse_22 : decode cX3_refuse 22 = .ok (.getfield 24, 3) := by decide +kernel
theorem dX3_refuse_25 : decode cX3_refuse 25 = .ok (.getfield 72, 3) := by decide +kernel
theorem dX3_refuse_28 : decode cX3_refuse 28 = .ok (.putfield 15, 3) := by decide +kernel
theorem dX3_refuse_31 : decode cX3_refuse 31 = .ok (.iconst 0, 1) := by decide +kernel
theorem dX3_refuse_32 : decode cX3_refuse 32 = .ok (.ireturn, 1) := by decide +kernel
theorem dX3_line_0 : decode cX3_line 0 = .ok (.aload_n 0, 1) := by decide +kernel
theorem dX3_line_1 : decode cX3_line 1 = .ok (.getfield 24, 3) := by decide +kernel
theorem dX3_line_4 : decode cX3_line 4 = .ok (.getfield 60, 3) := by decide +kernel
theorem dX3_line_7 : decode cX3_line 7 = .ok (.iconst 2, 1) := by decide +kernel
theorem dX3_line_8 : decode cX3_line 8 = .ok (.if_icmp .eq 9, 3) := by decide +kernel
theorem dX3_line_11 : decode cX3_line 11 = .ok (.aload_n 0, 1) := by decide +kernel
theorem dX3_line_12 : decode cX3_line 12 = .ok (.iconst 2, 1) := by decide +kernel
theorem dX3_line_13 : decode cX3_line 13 = .ok (.invokevirtual 75, 3) := by decide +kernel
theorem dX3_line_16 : decode cX3_line 16 = .ok (.ireturn, 1) := by decide +kernel
theorem dX3_line_17 : decode cX3_line 17 = .ok (.aload_n 0, 1) := by decide +kernel
theorem dX3_line_18 : decode cX3_line 18 = .ok (.getfield 24, 3) := by decide +kernel
theorem dX3_line_21 : decode cX3_line 21 = .ok (.getfield 79, 3) := by decide +kernel
theorem dX3_line_24 : decode cX3_line 24 = .ok (.tableswitch 102 14 27 #[72, 77, 102, 82, 102, 102, 102, 87, 102, 102, 92, 102, 102, 97], 72) := by decide +kernel
theorem dX3_line_96 : decode cX3_line 96 = .ok (.aload_n 0, 1) := by decide +kernel
theorem dX3_line_97 : decode cX3_line 97 = .ok (.invokevirtual 82, 3) := by decide +kernel
theorem dX3_line_100 : decode cX3_line 100 = .ok (.ireturn, 1) := by decide +kernel
theorem dX3_line_101 : decode cX3_line 101 = .ok (.aload_n 0, 1) := by decide +kernel
theorem dX3_line_102 : decode cX3_line 102 = .ok (.invokevirtual 85, 3) := by decide +kernel
theorem dX3_line_105 : decode cX3_line 105 = .ok (.ireturn, 1) := by decide +kernel
theorem dX3_line_106 : decode cX3_line 106 = .ok (.aload_n 0, 1) := by decide +kernel
theorem dX3_line_107 : decode cX3_line 107 = .ok (.invokevirtual 88, 3) := by decide +kernel
theorem dX3_line_110 : decode cX3_line 110 = .ok (.ireturn, 1) := by decide +kernel
theorem dX3_line_111 : decode cX3_line 111 = .ok (.aload_n 0, 1) := by decide +kernel
theorem dX3_line_112 : decode cX3_line 112 = .ok (.invokevirtual 91, 3) := by decide +kernel
theorem dX3_line_115 : decode cX3_line 115 = .ok (.ireturn, 1) := by decide +kernel
theorem dX3_line_116 : decode cX3_line 116 = .ok (.aload_n 0, 1) := by decide +kernel
theorem dX3_line_117 : decode cX3_line 117 = .ok (.invokevirtual 94, 3) := by decide +kernel
theorem dX3_line_120 : decode cX3_line 120 = .ok (.ireturn, 1) := by decide +kernel
theorem dX3_line_121 : decode cX3_line 121 = .ok (.aload_n 0, 1) := by decide +kernel
theorem dX3_line_122 : decode cX3_line 122 = .ok (.invokevirtual 97, 3) := by decide +kernel
theorem dX3_line_125 : decode cX3_line 125 = .ok (.ireturn, 1) := by decide +kernel
theorem dX3_line_126 : decode cX3_line 126 = .ok (.aload_n 0, 1) := by decide +kernel
theorem dX3_line_127 : decode cX3_line 127 = .ok (.iconst 2, 1) := by decide +kernel
theorem dX3_line_128 : decode cX3_line 128 = .ok (.invokevirtual 75, 3) := by decide +kernel
theorem dX3_line_131 : decode cX3_line 131 = .ok (.ireturn, 1) := by decide +kernel
theorem dX3_placeLine_0 : decode cX3_placeLine 0 = .ok (.aload_n 0, 1) := by decide +kernel
theorem dX3_placeLine_1 : decode cX3_placeLine 1 = .ok (.getfield 38, 3) := by decide +kernel
theorem dX3_placeLine_4 : decode cX3_placeLine 4 = .ok (.getfield 100, 3) := by decide +kernel
theorem dX3_placeLine_7 : decode cX3_placeLine 7 = .ok (.istore_n 1, 1) := by decide +kernel
theorem dX3_placeLine_8 : decode cX3_placeLine 8 = .ok (.iload_n 1, 1) := by decide +kernel
theorem dX3_placeLine_9 : decode cX3_placeLine 9 = .ok (.bipush 8, 2) := by decide +kernel
theorem dX3_placeLine_11 : decode cX3_placeLine 11 = .ok (.if_icmp .lt 9, 3) := by decide +kernel
theorem dX3_placeLine_14 : decode cX3_placeLine 14 = .ok (.aload_n 0, 1) := by decide +kernel
theorem dX3_placeLine_15 : decode cX3_placeLine 15 = .ok (.iconst 2, 1) := by decide +kernel
theorem dX3_placeLine_16 : decode cX3_placeLine 16 = .ok (.invokevirtual 75, 3) := by decide +kernel
theorem dX3_placeLine_19 : decode cX3_placeLine 19 = .ok (.ireturn, 1) := by decide +kernel
theorem dX3_placeLine_20 : decode cX3_placeLine 20 = .ok (.aload_n 0, 1) := by decide +kernel
theorem dX3_placeLine_21 : decode cX3_placeLine 21 = .ok (.getfield 24, 3) := by decide +kernel
theorem dX3_placeLine_24 : decode cX3_placeLine 24 = .ok (.invokevirtual 103, 3) := by decide +kernel
theorem dX3_placeLine_27 : decode cX3_placeLine 27 = .ok (.aload_n 0, 1) := by decide +kernel
theorem dX3_placeLine_28 : decode cX3_placeLine 28 = .ok (.aload_n 0, 1) := by decide +kernel
theorem dX3_placeLine_29 : decode cX3_placeLine 29 = .ok (.getfield 38, 3) := by decide +kernel
theorem dX3_placeLine_32 : decode cX3_placeLine 32 = .ok (.getfield 106, 3) := by decide +kernel
theorem dX3_placeLine_35 : decode cX3_placeLine 35 = .ok (.iload_n 1, 1) := by decide +kernel
theorem dX3_placeLine_36 : decode cX3_placeLine 36 = .ok (.invokevirtual 110, 3) := by decide +kernel
theorem dX3_placeLine_39 : decode cX3_placeLine 39 = .ok (.ifCond .eq 23, 3) := by decide +kernel
theorem dX3_placeLine_42 : decode cX3_placeLine 42 = .ok (.aload_n 0, 1) := by decide +kernel
theorem dX3_placeLine_43 : decode cX3_placeLine 43 = .ok (.aload_n 0, 1) := by decide +kernel
theorem dX3_placeLine_44 : decode cX3_placeLine 44 = .ok (.getfield 38, 3) := by decide +kernel
theorem dX3_placeLine_47 : decode cX3_placeLine 47 = .ok (.getfield 114, 3) := by decide +kernel
theorem dX3_placeLine_50 : decode cX3_placeLine 50 = .ok (.iload_n 1, 1) := by decide +kernel
theorem dX3_placeLine_51 : decode cX3_placeLine 51 = .ok (.bipush 10, 2) := by decide +kernel
theorem dX3_placeLine_53 : decode cX3_placeLine 53 = .ok (.iconst 0, 1) := by decide +kernel
theorem dX3_placeLine_54 : decode cX3_placeLine 54 = .ok (.bipush 59, 2) := by decide +kernel
theorem dX3_placeLine_56 : decode cX3_placeLine 56 = .ok (.invokevirtual 117, 3) := by decide +kernel
theorem dX3_placeLine_59 : decode cX3_placeLine 59 = .ok (.ifCond .ne 5, 3) := by decide +kernel
theorem dX3_placeLine_62 : decode cX3_placeLine 62 = .ok (.iconst 0, 1) := by decide +kernel
theorem dX3_placeLine_63 : decode cX3_placeLine 63 = .ok (.ireturn, 1) := by decide +kernel
theorem dX3_placeLine_64 : decode cX3_placeLine 64 = .ok (.aload_n 0, 1) := by decide +kernel
theorem dX3_placeLine_65 : decode cX3_placeLine 65 = .ok (.getfield 38, 3) := by decide +kernel
theorem dX3_placeLine_68 : decode cX3_placeLine 68 = .ok (.dup, 1) := by decide +kernel
theorem dX3_placeLine_69 : decode cX3_placeLine 69 = .ok (.getfield 100, 3) := by decide +kernel
theorem dX3_placeLine_72 : decode cX3_placeLine 72 = .ok (.iconst 1, 1) := by decide +kernel
theorem dX3_placeLine_73 : decode cX3_placeLine 73 = .ok (.iadd, 1) := by decide +kernel
theorem dX3_placeLine_74 : decode cX3_placeLine 74 = .ok (.putfield 100, 3) := by decide +kernel
theorem dX3_placeLine_77 : decode cX3_placeLine 77 = .ok (.aload_n 0, 1) := by decide +kernel
theorem dX3_placeLine_78 : decode cX3_placeLine 78 = .ok (.bipush 59, 2) := by decide +kernel
theorem dX3_placeLine_80 : decode cX3_placeLine 80 = .ok (.invokevirtual 121, 3) := by decide +kernel
theorem dX3_placeLine_83 : decode cX3_placeLine 83 = .ok (.ireturn, 1) := by decide +kernel
theorem dX3_roadLine_0 : decode cX3_roadLine 0 = .ok (.aload_n 0, 1) := by decide +kernel
theorem dX3_roadLine_1 : decode cX3_roadLine 1 = .ok (.getfield 38, 3) := by decide +kernel
theorem dX3_roadLine_4 : decode cX3_roadLine 4 = .ok (.getfield 124, 3) := by decide +kernel
theorem dX3_roadLine_7 : decode cX3_roadLine 7 = .ok (.bipush 16, 2) := by decide +kernel
theorem dX3_roadLine_9 : decode cX3_roadLine 9 = .ok (.if_icmp .lt 9, 3) := by decide +kernel
theorem dX3_roadLine_12 : decode cX3_roadLine 12 = .ok (.aload_n 0, 1) := by decide +kernel
theorem dX3_roadLine_13 : decode cX3_roadLine 13 = .ok (.iconst 2, 1) := by decide +kernel
theorem dX3_roadLine_14 : decode cX3_roadLine 14 = .ok (.invokevirtual 75, 3) := by decide +kernel
theorem dX3_roadLine_17 : decode cX3_roadLine 17 = .ok (.ireturn, 1) := by decide +kernel
theorem dX3_roadLine_18 : decode cX3_roadLine 18 = .ok (.aload_n 0, 1) := by decide +kernel
theorem dX3_roadLine_19 : decode cX3_roadLine 19 = .ok (.getfield 24, 3) := by decide +kernel
theorem dX3_roadLine_22 : decode cX3_roadLine 22 = .ok (.invokevirtual 103, 3) := by decide +kernel
theorem dX3_roadLine_25 : decode cX3_roadLine 25 = .ok (.aload_n 0, 1) := by decide +kernel
theorem dX3_roadLine_26 : decode cX3_roadLine 26 = .ok (.invokevirtual 127, 3) := by decide +kernel
theorem dX3_roadLine_29 : decode cX3_roadLine 29 = .ok (.istore_n 1, 1) := by decide +kernel
theorem dX3_roadLine_30 : decode cX3_roadLine 30 = .ok (.iload_n 1, 1) := by decide +kernel
theorem dX3_roadLine_31 : decode cX3_roadLine 31 = .ok (.iconst (-1), 1) := by decide +kernel
theorem dX3_roadLine_32 : decode cX3_roadLine 32 = .ok (.if_icmp .ne 5, 3) := by decide +kernel
theorem dX3_roadLine_35 : decode cX3_roadLine 35 = .ok (.iconst 0, 1) := by decide +kernel
theorem dX3_roadLine_36 : decode cX3_roadLine 36 = .ok (.ireturn, 1) := by decide +kernel
theorem dX3_roadLine_37 : decode cX3_roadLine 37 = .ok (.aload_n 0, 1) := by decide +kernel
theorem dX3_roadLine_38 : decode cX3_roadLine 38 = .ok (.getfield 24, 3) := by decide +kernel
theorem dX3_roadLine_41 : decode cX3_roadLine 41 = .ok (.invokevirtual 103, 3) := by decide +kernel
theorem dX3_roadLine_44 : decode cX3_roadLine 44 = .ok (.aload_n 0, 1) := by decide +kernel
theorem dX3_roadLine_45 : decode cX3_roadLine 45 = .ok (.invokevirtual 127, 3) := by decide +kernel
theorem dX3_roadLine_48 : decode cX3_roadLine 48 = .ok (.istore_n 2, 1) := by decide +kernel
theorem dX3_roadLine_49 : decode cX3_roadLine 49 = .ok (.iload_n 2, 1) := by decide +kernel
theorem dX3_roadLine_50 : decode cX3_roadLine 50 = .ok (.iconst (-1), 1) := by decide +kernel
theorem dX3_roadLine_51 : decode cX3_roadLine 51 = .ok (.if_icmp .ne 5, 3) := by decide +kernel
theorem dX3_roadLine_54 : decode cX3_roadLine 54 = .ok (.iconst 0, 1) := by decide +kernel
theorem dX3_roadLine_55 : decode cX3_roadLine 55 = .ok (.ireturn, 1) := by decide +kernel
theorem dX3_roadLine_56 : decode cX3_roadLine 56 = .ok (.iload_n 1, 1) := by decide +kernel
theorem dX3_roadLine_57 : decode cX3_roadLine 57 = .ok (.iload_n 2, 1) := by decide +kernel
theorem dX3_roadLine_58 : decode cX3_roadLine 58 = .ok (.if_icmp .eq 15, 3) := by decide +kernel
theorem dX3_roadLine_61 : decode cX3_roadLine 61 = .ok (.aload_n 0, 1) := by decide +kernel
theorem dX3_roadLine_62 : decode cX3_roadLine 62 = .ok (.getfield 38, 3) := by decide +kernel
theorem dX3_roadLine_65 : decode cX3_roadLine 65 = .ok (.iload_n 1, 1) := by decide +kernel
theorem dX3_roadLine_66 : decode cX3_roadLine 66 = .ok (.iload_n 2, 1) := by decide +kernel
theorem dX3_roadLine_67 : decode cX3_roadLine 67 = .ok (.invokevirtual 131, 3) := by decide +kernel
theorem dX3_roadLine_70 : decode cX3_roadLine 70 = .ok (.ifCond .eq 9, 3) := by decide +kernel
theorem dX3_roadLine_73 : decode cX3_roadLine 73 = .ok (.aload_n 0, 1) := by decide +kernel
theorem dX3_roadLine_74 : decode cX3_roadLine 74 = .ok (.iconst 3, 1) := by decide +kernel
theorem dX3_roadLine_75 : decode cX3_roadLine 75 = .ok (.invokevirtual 75, 3) := by decide +kernel
theorem dX3_roadLine_78 : decode cX3_roadLine 78 = .ok (.ireturn, 1) := by decide +kernel
theorem dX3_roadLine_79 : decode cX3_roadLine 79 = .ok (.aload_n 0, 1) := by decide +kernel
theorem dX3_roadLine_80 : decode cX3_roadLine 80 = .ok (.getfield 24, 3) := by decide +kernel
theorem dX3_roadLine_83 : decode cX3_roadLine 83 = .ok (.invokevirtual 103, 3) := by decide +kernel
theorem dX3_roadLine_86 : decode cX3_roadLine 86 = .ok (.aload_n 0, 1) := by decide +kernel
theorem dX3_roadLine_87 : decode cX3_roadLine 87 = .ok (.aload_n 0, 1) := by decide +kernel
theorem dX3_roadLine_88 : decode cX3_roadLine 88 = .ok (.getfield 9, 3) := by decide +kernel
theorem dX3_roadLine_91 : decode cX3_roadLine 91 = .ok (.iconst 0, 1) := by decide +kernel
theorem dX3_roadLine_92 : decode cX3_roadLine 92 = .ok (.bipush 16, 2) := by decide +kernel
theorem dX3_roadLine_94 : decode cX3_roadLine 94 = .ok (.iconst 1, 1) := by decide +kernel
theorem dX3_roadLine_95 : decode cX3_roadLine 95 = .ok (.bipush 99, 2) := by decide +kernel
theorem dX3_roadLine_97 : decode cX3_roadLine 97 = .ok (.invokevirtual 117, 3) := by decide +kernel
theorem dX3_roadLine_100 : decode cX3_roadLine 100 = .ok (.ifCond .ne 5, 3) := by decide +kernel
theorem dX3_roadLine_103 : decode cX3_roadLine 103 = .ok (.iconst 0, 1) := by decide +kernel
theorem dX3_roadLine_104 : decode cX3_roadLine 104 = .ok (.ireturn, 1) := by decide +kernel
theorem dX3_roadLine_105 : decode cX3_roadLine 105 = .ok (.aload_n 0, 1) := by decide +kernel
theorem dX3_roadLine_106 : decode cX3_roadLine 106 = .ok (.getfield 38, 3) := by decide +kernel
theorem dX3_roadLine_109 : decode cX3_roadLine 109 = .ok (.iload_n 1, 1) := by decide +kernel
theorem dX3_roadLine_110 : decode cX3_roadLine 110 = .ok (.iload_n 2, 1) := by decide +kernel
theorem dX3_roadLine_111 : decode cX3_roadLine 111 = .ok (.aload_n 0, 1) := by decide +kernel
theorem dX3_roadLine_112 : decode cX3_roadLine 112 = .ok (.getfield 9, 3) := by decide +kernel
theorem dX3_roadLine_115 : decode cX3_roadLine 115 = .ok (.iconst 0, 1) := by decide +kernel
theorem dX3_roadLine_116 : decode cX3_roadLine 116 = .ok (.iaload, 1) := by decide +kernel
theorem dX3_roadLine_117 : decode cX3_roadLine 117 = .ok (.invokevirtual 135, 3) := by decide +kernel
theorem dX3_roadLine_120 : decode cX3_roadLine 120 = .ok (.aload_n 0, 1) := by decide +kernel
theorem dX3_roadLine_121 : decode cX3_roadLine 121 = .ok (.bipush 59, 2) := by decide +kernel
theorem dX3_roadLine_123 : decode cX3_roadLine 123 = .ok (.invokevirtual 121, 3) := by decide +kernel
theorem dX3_roadLine_126 : decode cX3_roadLine 126 = .ok (.ireturn, 1) := by decide +kernel
theorem dX3_thingLine_0 : decode cX3_thingLine 0 = .ok (.aload_n 0, 1) := by decide +kernel
theorem dX3_thingLine_1 : decode cX3_thingLine 1 = .ok (.getfield 28, 3) := by decide +kernel
theorem dX3_thingLine_4 : decode cX3_thingLine 4 = .ok (.getfield 139, 3) := by decide +kernel
theorem dX3_thingLine_7 : decode cX3_thingLine 7 = .ok (.istore_n 1, 1) := by decide +kernel
theorem dX3_thingLine_8 : decode cX3_thingLine 8 = .ok (.iload_n 1, 1) := by decide +kernel
theorem dX3_thingLine_9 : decode cX3_thingLine 9 = .ok (.bipush 10, 2) := by decide +kernel
theorem dX3_thingLine_11 : decode cX3_thingLine 11 = .ok (.if_icmp .lt 9, 3) := by decide +kernel
theorem dX3_thingLine_14 : decode cX3_thingLine 14 = .ok (.aload_n 0, 1) := by decide +kernel
theorem dX3_thingLine_15 : decode cX3_thingLine 15 = .ok (.iconst 2, 1) := by decide +kernel
theorem dX3_thingLine_16 : decode cX3_thingLine 16 = .ok (.invokevirtual 75, 3) := by decide +kernel
theorem dX3_thingLine_19 : decode cX3_thingLine 19 = .ok (.ireturn, 1) := by decide +kernel
theorem dX3_thingLine_20 : decode cX3_thingLine 20 = .ok (.aload_n 0, 1) := by decide +kernel
theorem dX3_thingLine_21 : decode cX3_thingLine 21 = .ok (.getfield 24, 3) := by decide +kernel
theorem dX3_thingLine_24 : decode cX3_thingLine 24 = .ok (.invokevirtual 103, 3) := by decide +kernel
theorem dX3_thingLine_27 : decode cX3_thingLine 27 = .ok (.aload_n 0, 1) := by decide +kernel
theorem dX3_thingLine_28 : decode cX3_thingLine 28 = .ok (.aload_n 0, 1) := by decide +kernel
theorem dX3_thingLine_29 : decode cX3_thingLine 29 = .ok (.getfield 28, 3) := by decide +kernel
theorem dX3_thingLine_32 : decode cX3_thingLine 32 = .ok (.getfield 142, 3) := by decide +kernel
theorem dX3_thingLine_35 : decode cX3_thingLine 35 = .ok (.iload_n 1, 1) := by decide +kernel
theorem dX3_thingLine_36 : decode cX3_thingLine 36 = .ok (.invokevirtual 110, 3) := by decide +kernel
theorem dX3_thingLine_39 : decode cX3_thingLine 39 = .ok (.ifCond .eq 80, 3) := by decide +kernel
theorem dX3_thingLine_42 : decode cX3_thingLine 42 = .ok (.aload_n 0, 1) := by decide +kernel
theorem dX3_thingLine_43 : decode cX3_thingLine 43 = .ok (.aload_n 0, 1) := by decide +kernel
theorem dX3_thingLine_44 : decode cX3_thingLine 44 = .ok (.getfield 28, 3) := by decide +kernel
theorem dX3_thingLine_47 : decode cX3_thingLine 47 = .ok (.getfield 145, 3) := by decide +kernel
theorem dX3_thingLine_50 : decode cX3_thingLine 50 = .ok (.iload_n 1, 1) := by decide +kernel
theorem dX3_thingLine_51 : decode cX3_thingLine 51 = .ok (.invokevirtual 148, 3) := by decide +kernel
theorem dX3_thingLine_54 : decode cX3_thingLine 54 = .ok (.ifCond .eq 65, 3) := by decide +kernel
theorem dX3_thingLine_57 : decode cX3_thingLine 57 = .ok (.aload_n 0, 1) := by decide +kernel
theorem dX3_thingLine_58 : decode cX3_thingLine 58 = .ok (.aload_n 0, 1) := by decide +kernel
theorem dX3_thingLine_59 : decode cX3_thingLine 59 = .ok (.getfield 28, 3) := by decide +kernel
theorem dX3_thingLine_62 : decode cX3_thingLine 62 = .ok (.getfield 152, 3) := by decide +kernel
theorem dX3_thingLine_65 : decode cX3_thingLine 65 = .ok (.iload_n 1, 1) := by decide +kernel
theorem dX3_thingLine_66 : decode cX3_thingLine 66 = .ok (.iconst 0, 1) := by decide +kernel
theorem dX3_thingLine_67 : decode cX3_thingLine 67 = .ok (.iconst 0, 1) := by decide +kernel
theorem dX3_thingLine_68 : decode cX3_thingLine 68 = .ok (.bipush 99, 2) := by decide +kernel
theorem dX3_thingLine_70 : decode cX3_thingLine 70 = .ok (.invokevirtual 117, 3) := by decide +kernel
theorem dX3_thingLine_73 : decode cX3_thingLine 73 = .ok (.ifCond .eq 46, 3) := by decide +kernel
theorem dX3_thingLine_76 : decode cX3_thingLine 76 = .ok (.aload_n 0, 1) := by decide +kernel
theorem dX3_thingLine_77 : decode cX3_thingLine 77 = .ok (.aload_n 0, 1) := by decide +kernel
theorem dX3_thingLine_78 : decode cX3_thingLine 78 = .ok (.getfield 28, 3) := by decide +kernel
theorem dX3_thingLine_81 : decode cX3_thingLine 81 = .ok (.getfield 155, 3) := by decide +kernel
theorem dX3_thingLine_84 : decode cX3_thingLine 84 = .ok (.iload_n 1, 1) := by decide +kernel
theorem dX3_thingLine_85 : decode cX3_thingLine 85 = .ok (.bipush 19, 2) := by decide +kernel
theorem dX3_thingLine_87 : decode cX3_thingLine 87 = .ok (.iconst 0, 1) := by decide +kernel
theorem dX3_thingLine_88 : decode cX3_thingLine 88 = .ok (.bipush 20, 2) := by decide +kernel
theorem dX3_thingLine_90 : decode cX3_thingLine 90 = .ok (.invokevirtual 117, 3) := by decide +kernel
theorem dX3_thingLine_93 : decode cX3_thingLine 93 = .ok (.ifCond .eq 26, 3) := by decide +kernel
theorem dX3_thingLine_96 : decode cX3_thingLine 96 = .ok (.aload_n 0, 1) := by decide +kernel
theorem dX3_thingLine_97 : decode cX3_thingLine 97 = .ok (.aload_n 0, 1) := by decide +kernel
theorem dX3_thingLine_98 : decode cX3_thingLine 98 = .ok (.getfield 28, 3) := by decide +kernel
theorem dX3_thingLine_101 : decode cX3_thingLine 101 = .ok (.getfield 158, 3) := by decide +kernel
theorem dX3_thingLine_104 : decode cX3_thingLine 104 = .ok (.iload_n 1, 1) := by decide +kernel
theorem dX3_thingLine_105 : decode cX3_thingLine 105 = .ok (.iconst 2, 1) := by decide +kernel
theorem dX3_thingLine_106 : decode cX3_thingLine 106 = .ok (.iconst 0, 1) := by decide +kernel
theorem dX3_thingLine_107 : decode cX3_thingLine 107 = .ok (.bipush 99, 2) := by decide +kernel
theorem dX3_thingLine_109 : decode cX3_thingLine 109 = .ok (.invokevirtual 117, 3) := by decide +kernel
theorem dX3_thingLine_112 : decode cX3_thingLine 112 = .ok (.ifCond .eq 7, 3) := by decide +kernel
theorem dX3_thingLine_115 : decode cX3_thingLine 115 = .ok (.iconst 1, 1) := by decide +kernel
theorem dX3_thingLine_116 : decode cX3_thingLine 116 = .ok (.goto 4, 3) := by decide +kernel
theorem dX3_thingLine_119 : decode cX3_thingLine 119 = .ok (.iconst 0, 1) := by decide +kernel
theorem dX3_thingLine_120 : decode cX3_thingLine 120 = .ok (.istore_n 2, 1) := by decide +kernel
theorem dX3_thingLine_121 : decode cX3_thingLine 121 = .ok (.iload_n 2, 1) := by decide +kernel
theorem dX3_thingLine_122 : decode cX3_thingLine 122 = .ok (.ifCond .ne 5, 3) := by decide +kernel
theorem dX3_thingLine_125 : decode cX3_thingLine 125 = .ok (.iconst 0, 1) := by decide +kernel
theorem dX3_thingLine_126 : decode cX3_thingLine 126 = .ok (.ireturn, 1) := by decide +kernel
theorem dX3_thingLine_127 : decode cX3_thingLine 127 = .ok (.aload_n 0, 1) := by decide +kernel
theorem dX3_thingLine_128 : decode cX3_thingLine 128 = .ok (.getfield 28, 3) := by decide +kernel
theorem dX3_thingLine_131 : decode cX3_thingLine 131 = .ok (.getfield 161, 3) := by decide +kernel
theorem dX3_thingLine_134 : decode cX3_thingLine 134 = .ok (.iload_n 1, 1) := by decide +kernel
theorem dX3_thingLine_135 : decode cX3_thingLine 135 = .ok (.aload_n 0, 1) := by decide +kernel
theorem dX3_thingLine_136 : decode cX3_thingLine 136 = .ok (.getfield 24, 3) := by decide +kernel
theorem dX3_thingLine_139 : decode cX3_thingLine 139 = .ok (.bipush 20, 2) := by decide +kernel
theorem dX3_thingLine_141 : decode cX3_thingLine 141 = .ok (.invokevirtual 165, 3) := by decide +kernel
theorem dX3_thingLine_144 : decode cX3_thingLine 144 = .ok (.bastore, 1) := by decide +kernel
theorem dX3_thingLine_145 : decode cX3_thingLine 145 = .ok (.aload_n 0, 1) := by decide +kernel
theorem dX3_thingLine_146 : decode cX3_thingLine 146 = .ok (.getfield 28, 3) := by decide +kernel
theorem dX3_thingLine_149 : decode cX3_thingLine 149 = .ok (.getfield 161, 3) := by decide +kernel
theorem dX3_thingLine_152 : decode cX3_thingLine 152 = .ok (.iload_n 1, 1) := by decide +kernel
theorem dX3_thingLine_153 : decode cX3_thingLine 153 = .ok (.baload, 1) := by decide +kernel
theorem dX3_thingLine_154 : decode cX3_thingLine 154 = .ok (.ifCond .eq 10, 3) := by decide +kernel
theorem dX3_thingLine_157 : decode cX3_thingLine 157 = .ok (.aload_n 0, 1) := by decide +kernel
theorem dX3_thingLine_158 : decode cX3_thingLine 158 = .ok (.getfield 24, 3) := by decide +kernel
theorem dX3_thingLine_161 : decode cX3_thingLine 161 = .ok (.invokevirtual 103, 3) := by decide +kernel
theorem dX3_thingLine_164 : decode cX3_thingLine 164 = .ok (.aload_n 0, 1) := by decide +kernel
theorem dX3_thingLine_165 : decode cX3_thingLine 165 = .ok (.getfield 28, 3) := by decide +kernel
theorem dX3_thingLine_168 : decode cX3_thingLine 168 = .ok (.dup, 1) := by decide +kernel
theorem dX3_thingLine_169 : decode cX3_thingLine 169 = .ok (.getfield 139, 3) := by decide +kernel
theorem dX3_thingLine_172 : decode cX3_thingLine 172 = .ok (.iconst 1, 1) := by decide +kernel
theorem dX3_thingLine_173 : decode cX3_thingLine 173 = .ok (.iadd, 1) := by decide +kernel
theorem dX3_thingLine_174 : decode cX3_thingLine 174 = .ok (.putfield 139, 3) := by decide +kernel
theorem dX3_thingLine_177 : decode cX3_thingLine 177 = .ok (.aload_n 0, 1) := by decide +kernel
theorem dX3_thingLine_178 : decode cX3_thingLine 178 = .ok (.bipush 59, 2) := by decide +kernel
theorem dX3_thingLine_180 : decode cX3_thingLine 180 = .ok (.invokevirtual 121, 3) := by decide +kernel
theorem dX3_thingLine_183 : decode cX3_thingLine 183 = .ok (.ireturn, 1) := by decide +kernel
theorem dX3_personLine_0 : decode cX3_personLine 0 = .ok (.aload_n 0, 1) := by decide +kernel
theorem dX3_personLine_1 : decode cX3_personLine 1 = .ok (.getfield 28, 3) := by decide +kernel
theorem dX3_personLine_4 : decode cX3_personLine 4 = .ok (.getfield 168, 3) := by decide +kernel
theorem dX3_personLine_7 : decode cX3_personLine 7 = .ok (.istore_n 1, 1) := by decide +kernel
theorem dX3_personLine_8 : decode cX3_personLine 8 = .ok (.iload_n 1, 1) := by decide +kernel
theorem dX3_personLine_9 : decode cX3_personLine 9 = .ok (.bipush 6, 2) := by decide +kernel
theorem dX3_personLine_11 : decode cX3_personLine 11 = .ok (.if_icmp .lt 9, 3) := by decide +kernel
theorem dX3_personLine_14 : decode cX3_personLine 14 = .ok (.aload_n 0, 1) := by decide +kernel
theorem dX3_personLine_15 : decode cX3_personLine 15 = .ok (.iconst 2, 1) := by decide +kernel
theorem dX3_personLine_16 : decode cX3_personLine 16 = .ok (.invokevirtual 75, 3) := by decide +kernel
theorem dX3_personLine_19 : decode cX3_personLine 19 = .ok (.ireturn, 1) := by decide +kernel
theorem dX3_personLine_20 : decode cX3_personLine 20 = .ok (.aload_n 0, 1) := by decide +kernel
theorem dX3_personLine_21 : decode cX3_personLine 21 = .ok (.getfield 24, 3) := by decide +kernel
theorem dX3_personLine_24 : decode cX3_personLine 24 = .ok (.invokevirtual 103, 3) := by decide +kernel
theorem dX3_personLine_27 : decode cX3_personLine 27 = .ok (.aload_n 0, 1) := by decide +kernel
theorem dX3_personLine_28 : decode cX3_personLine 28 = .ok (.aload_n 0, 1) := by decide +kernel
theorem dX3_personLine_29 : decode cX3_personLine 29 = .ok (.getfield 28, 3) := by decide +kernel
theorem dX3_personLine_32 : decode cX3_personLine 32 = .ok (.getfield 171, 3) := by decide +kernel
theorem dX3_personLine_35 : decode cX3_personLine 35 = .ok (.iload_n 1, 1) := by decide +kernel
theorem dX3_personLine_36 : decode cX3_personLine 36 = .ok (.invokevirtual 110, 3) := by decide +kernel
theorem dX3_personLine_39 : decode cX3_personLine 39 = .ok (.ifCond .eq 91, 3) := by decide +kernel
theorem dX3_personLine_42 : decode cX3_personLine 42 = .ok (.aload_n 0, 1) := by decide +kernel
theorem dX3_personLine_43 : decode cX3_personLine 43 = .ok (.aload_n 0, 1) := by decide +kernel
theorem dX3_personLine_44 : decode cX3_personLine 44 = .ok (.getfield 28, 3) := by decide +kernel
theorem dX3_personLine_47 : decode cX3_personLine 47 = .ok (.getfield 174, 3) := by decide +kernel
theorem dX3_personLine_50 : decode cX3_personLine 50 = .ok (.iload_n 1, 1) := by decide +kernel
theorem dX3_personLine_51 : decode cX3_personLine 51 = .ok (.invokevirtual 148, 3) := by decide +kernel
theorem dX3_personLine_54 : decode cX3_personLine 54 = .ok (.ifCond .eq 76, 3) := by decide +kernel
theorem dX3_personLine_57 : decode cX3_personLine 57 = .ok (.aload_n 0, 1) := by decide +kernel
theorem dX3_personLine_58 : decode cX3_personLine 58 = .ok (.aload_n 0, 1) := by decide +kernel
theorem dX3_personLine_59 : decode cX3_personLine 59 = .ok (.getfield 28, 3) := by decide +kernel
theorem dX3_personLine_62 : decode cX3_personLine 62 = .ok (.getfield 177, 3) := by decide +kernel
theorem dX3_personLine_65 : decode cX3_personLine 65 = .ok (.iload_n 1, 1) := by decide +kernel
theorem dX3_personLine_66 : decode cX3_personLine 66 = .ok (.bipush 8, 2) := by decide +kernel
theorem dX3_personLine_68 : decode cX3_personLine 68 = .ok (.iconst 0, 1) := by decide +kernel
theorem dX3_personLine_69 : decode cX3_personLine 69 = .ok (.bipush 9, 2) := by decide +kernel
theorem dX3_personLine_71 : decode cX3_personLine 71 = .ok (.invokevirtual 117, 3) := by decide +kernel
theorem dX3_personLine_74 : decode cX3_personLine 74 = .ok (.ifCond .eq 56, 3) := by decide +kernel
theorem dX3_personLine_77 : decode cX3_personLine 77 = .ok (.aload_n 0, 1) := by decide +kernel
theorem dX3_personLine_78 : decode cX3_personLine 78 = .ok (.aload_n 0, 1) := by decide +kernel
theorem dX3_personLine_79 : decode cX3_personLine 79 = .ok (.getfield 28, 3) := by decide +kernel
theorem dX3_personLine_82 : decode cX3_personLine 82 = .ok (.getfield 180, 3) := by decide +kernel
theorem dX3_personLine_85 : decode cX3_personLine 85 = .ok (.iload_n 1, 1) := by decide +kernel
theorem dX3_personLine_86 : decode cX3_personLine 86 = .ok (.bipush 9, 2) := by decide +kernel
theorem dX3_personLine_88 : decode cX3_personLine 88 = .ok (.iconst 0, 1) := by decide +kernel
theorem dX3_personLine_89 : decode cX3_personLine 89 = .ok (.bipush 99, 2) := by decide +kernel
theorem dX3_personLine_91 : decode cX3_personLine 91 = .ok (.invokevirtual 117, 3) := by decide +kernel
theorem dX3_personLine_94 : decode cX3_personLine 94 = .ok (.ifCond .eq 36, 3) := by decide +kernel
theorem dX3_personLine_97 : decode cX3_personLine 97 = .ok (.aload_n 0, 1) := by decide +kernel
theorem dX3_personLine_98 : decode cX3_personLine 98 = .ok (.aload_n 0, 1) := by decide +kernel
theorem dX3_personLine_99 : decode cX3_personLine 99 = .ok (.getfield 28, 3) := by decide +kernel
theorem dX3_personLine_102 : decode cX3_personLine 102 = .ok (.getfield 183, 3) := by decide +kernel
theorem dX3_personLine_105 : decode cX3_personLine 105 = .ok (.iload_n 1, 1) := by decide +kernel
theorem dX3_personLine_106 : decode cX3_personLine 106 = .ok (.bipush 22, 2) := by decide +kernel
theorem dX3_personLine_108 : decode cX3_personLine 108 = .ok (.iconst 0, 1) := by decide +kernel
theorem dX3_personLine_109 : decode cX3_personLine 109 = .ok (.bipush 9, 2) := by decide +kernel
theorem dX3_personLine_111 : decode cX3_personLine 111 = .ok (.invokevirtual 117, 3) := by decide +kernel
theorem dX3_personLine_114 : decode cX3_personLine 114 = .ok (.ifCond .eq 16, 3) := by decide +kernel
theorem dX3_personLine_117 : decode cX3_personLine 117 = .ok (.aload_n 0, 1) := by decide +kernel
theorem dX3_personLine_118 : decode cX3_personLine 118 = .ok (.bipush 23, 2) := by decide +kernel
theorem dX3_personLine_120 : decode cX3_personLine 120 = .ok (.invokevirtual 186, 3) := by decide +kernel
theorem dX3_personLine_123 : decode cX3_personLine 123 = .ok (.ifCond .eq 7, 3) := by decide +kernel
theorem dX3_personLine_126 : decode cX3_personLine 126 = .ok (.iconst 1, 1) := by decide +kernel
theorem dX3_personLine_127 : decode cX3_personLine 127 = .ok (.goto 4, 3) := by decide +kernel
theorem dX3_personLine_130 : decode cX3_personLine 130 = .ok (.iconst 0, 1) := by decide +kernel
theorem dX3_personLine_131 : decode cX3_personLine 131 = .ok (.istore_n 2, 1) := by decide +kernel
theorem dX3_personLine_132 : decode cX3_personLine 132 = .ok (.iload_n 2, 1) := by decide +kernel
theorem dX3_personLine_133 : decode cX3_personLine 133 = .ok (.ifCond .ne 5, 3) := by decide +kernel
theorem dX3_personLine_136 : decode cX3_personLine 136 = .ok (.iconst 0, 1) := by decide +kernel
theorem dX3_personLine_137 : decode cX3_personLine 137 = .ok (.ireturn, 1) := by decide +kernel
theorem dX3_personLine_138 : decode cX3_personLine 138 = .ok (.aload_n 0, 1) := by decide +kernel
theorem dX3_personLine_139 : decode cX3_personLine 139 = .ok (.getfield 43, 3) := by decide +kernel
theorem dX3_personLine_142 : decode cX3_personLine 142 = .ok (.getfield 189, 3) := by decide +kernel
theorem dX3_personLine_145 : decode cX3_personLine 145 = .ok (.iload_n 1, 1) := by decide +kernel
theorem dX3_personLine_146 : decode cX3_personLine 146 = .ok (.aload_n 0, 1) := by decide +kernel
theorem dX3_personLine_147 : decode cX3_personLine 147 = .ok (.getfield 43, 3) := by decide +kernel
theorem dX3_personLine_150 : decode cX3_personLine 150 = .ok (.getfield 194, 3) := by decide +kernel
theorem dX3_personLine_153 : decode cX3_personLine 153 = .ok (.iastore, 1) := by decide +kernel
theorem dX3_personLine_154 : decode cX3_personLine 154 = .ok (.aload_n 0, 1) := by decide +kernel
theorem dX3_personLine_155 : decode cX3_personLine 155 = .ok (.iconst 0, 1) := by decide +kernel
theorem dX3_personLine_156 : decode cX3_personLine 156 = .ok (.invokevirtual 197, 3) := by decide +kernel
theorem dX3_personLine_159 : decode cX3_personLine 159 = .ok (.ifCond .ne 5, 3) := by decide +kernel
theorem dX3_personLine_162 : decode cX3_personLine 162 = .ok (.iconst 0, 1) := by decide +kernel
theorem dX3_personLine_163 : decode cX3_personLine 163 = .ok (.ireturn, 1) := by decide +kernel
theorem dX3_personLine_164 : decode cX3_personLine 164 = .ok (.aload_n 0, 1) := by decide +kernel
theorem dX3_personLine_165 : decode cX3_personLine 165 = .ok (.getfield 43, 3) := by decide +kernel
theorem dX3_personLine_168 : decode cX3_personLine 168 = .ok (.getfield 200, 3) := by decide +kernel
theorem dX3_personLine_171 : decode cX3_personLine 171 = .ok (.iload_n 1, 1) := by decide +kernel
theorem dX3_personLine_172 : decode cX3_personLine 172 = .ok (.aload_n 0, 1) := by decide +kernel
theorem dX3_personLine_173 : decode cX3_personLine 173 = .ok (.getfield 43, 3) := by decide +kernel
theorem dX3_personLine_176 : decode cX3_personLine 176 = .ok (.getfield 194, 3) := by decide +kernel
theorem dX3_personLine_179 : decode cX3_personLine 179 = .ok (.iastore, 1) := by decide +kernel
theorem dX3_personLine_180 : decode cX3_personLine 180 = .ok (.aload_n 0, 1) := by decide +kernel
theorem dX3_personLine_181 : decode cX3_personLine 181 = .ok (.getfield 28, 3) := by decide +kernel
theorem dX3_personLine_184 : decode cX3_personLine 184 = .ok (.dup, 1) := by decide +kernel
theorem dX3_personLine_185 : decode cX3_personLine 185 = .ok (.getfield 168, 3) := by decide +kernel
theorem dX3_personLine_188 : decode cX3_personLine 188 = .ok (.iconst 1, 1) := by decide +kernel
theorem dX3_personLine_189 : decode cX3_personLine 189 = .ok (.iadd, 1) := by decide +kernel
theorem dX3_personLine_190 : decode cX3_personLine 190 = .ok (.putfield 168, 3) := by decide +kernel
theorem dX3_personLine_193 : decode cX3_personLine 193 = .ok (.aload_n 0, 1) := by decide +kernel
theorem dX3_personLine_194 : decode cX3_personLine 194 = .ok (.bipush 59, 2) := by decide +kernel
theorem dX3_personLine_196 : decode cX3_personLine 196 = .ok (.invokevirtual 121, 3) := by decide +kernel
theorem dX3_personLine_199 : decode cX3_personLine 199 = .ok (.ireturn, 1) := by decide +kernel
theorem dX3_lawLine_0 : decode cX3_lawLine 0 = .ok (.aload_n 0, 1) := by decide +kernel
theorem dX3_lawLine_1 : decode cX3_lawLine 1 = .ok (.getfield 47, 3) := by decide +kernel
theorem dX3_lawLine_4 : decode cX3_lawLine 4 = .ok (.ifCond .eq 9, 3) := by decide +kernel
theorem dX3_lawLine_7 : decode cX3_lawLine 7 = .ok (.aload_n 0, 1) := by decide +kernel
theorem dX3_lawLine_8 : decode cX3_lawLine 8 = .ok (.iconst 2, 1) := by decide +kernel
theorem dX3_lawLine_9 : decode cX3_lawLine 9 = .ok (.invokevirtual 75, 3) := by decide +kernel
theorem dX3_lawLine_12 : decode cX3_lawLine 12 = .ok (.ireturn, 1) := by decide +kernel
theorem dX3_lawLine_13 : decode cX3_lawLine 13 = .ok (.aload_n 0, 1) := by decide +kernel
theorem dX3_lawLine_14 : decode cX3_lawLine 14 = .ok (.iconst 1, 1) := by decide +kernel
theorem dX3_lawLine_15 : decode cX3_lawLine 15 = .ok (.putfield 47, 3) := by decide +kernel
theorem dX3_lawLine_18 : decode cX3_lawLine 18 = .ok (.aload_n 0, 1) := by decide +kernel
theorem dX3_lawLine_19 : decode cX3_lawLine 19 = .ok (.getfield 24, 3) := by decide +kernel
theorem dX3_lawLine_22 : decode cX3_lawLine 22 = .ok (.invokevirtual 103, 3) := by decide +kernel
theorem dX3_lawLine_25 : decode cX3_lawLine 25 = .ok (.aload_n 0, 1) := by decide +kernel
theorem dX3_lawLine_26 : decode cX3_lawLine 26 = .ok (.getfield 24, 3) := by decide +kernel
theorem dX3_lawLine_29 : decode cX3_lawLine 29 = .ok (.bipush 25, 2) := by decide +kernel
theorem dX3_lawLine_31 : decode cX3_lawLine 31 = .ok (.invokevirtual 165, 3) := by decide +kernel
theorem dX3_lawLine_34 : decode cX3_lawLine 34 = .ok (.ifCond .eq 14, 3) := by decide +kernel
theorem dX3_lawLine_37 : decode cX3_lawLine 37 = .ok (.aload_n 0, 1) := by decide +kernel
theorem dX3_lawLine_38 : decode cX3_lawLine 38 = .ok (.getfield 28, 3) := by decide +kernel
theorem dX3_lawLine_41 : decode cX3_lawLine 41 = .ok (.iconst 0, 1) := by decide +kernel
theorem dX3_lawLine_42 : decode cX3_lawLine 42 = .ok (.putfield 203, 3) := by decide +kernel
theorem dX3_lawLine_45 : decode cX3_lawLine 45 = .ok (.goto 55, 3) := by decide +kernel
theorem dX3_lawLine_48 : decode cX3_lawLine 48 = .ok (.aload_n 0, 1) := by decide +kernel
theorem dX3_lawLine_49 : decode cX3_lawLine 49 = .ok (.getfield 24, 3) := by decide +kernel
theorem dX3_lawLine_52 : decode cX3_lawLine 52 = .ok (.bipush 9, 2) := by decide +kernel
theorem dX3_lawLine_54 : decode cX3_lawLine 54 = .ok (.invokevirtual 165, 3) := by decide +kernel
theorem dX3_lawLine_57 : decode cX3_lawLine 57 = .ok (.ifCond .eq 14, 3) := by decide +kernel
theorem dX3_lawLine_60 : decode cX3_lawLine 60 = .ok (.aload_n 0, 1) := by decide +kernel
theorem dX3_lawLine_61 : decode cX3_lawLine 61 = .ok (.getfield 28, 3) := by decide +kernel
theorem dX3_lawLine_64 : decode cX3_lawLine 64 = .ok (.iconst 1, 1) := by decide +kernel
theorem dX3_lawLine_65 : decode cX3_lawLine 65 = .ok (.putfield 203, 3) := by decide +kernel
theorem dX3_lawLine_68 : decode cX3_lawLine 68 = .ok (.goto 32, 3) := by decide +kernel
theorem dX3_lawLine_71 : decode cX3_lawLine 71 = .ok (.aload_n 0, 1) := by decide +kernel
theorem dX3_lawLine_72 : decode cX3_lawLine 72 = .ok (.getfield 24, 3) := by decide +kernel
theorem dX3_lawLine_75 : decode cX3_lawLine 75 = .ok (.bipush 26, 2) := by decide +kernel
theorem dX3_lawLine_77 : decode cX3_lawLine 77 = .ok (.invokevirtual 165, 3) := by decide +kernel
theorem dX3_lawLine_80 : decode cX3_lawLine 80 = .ok (.ifCond .eq 14, 3) := by decide +kernel
theorem dX3_lawLine_83 : decode cX3_lawLine 83 = .ok (.aload_n 0, 1) := by decide +kernel
theorem dX3_lawLine_84 : decode cX3_lawLine 84 = .ok (.getfield 28, 3) := by decide +kernel
theorem dX3_lawLine_87 : decode cX3_lawLine 87 = .ok (.iconst 2, 1) := by decide +kernel
theorem dX3_lawLine_88 : decode cX3_lawLine 88 = .ok (.putfield 203, 3) := by decide +kernel
theorem dX3_lawLine_91 : decode cX3_lawLine 91 = .ok (.goto 9, 3) := by decide +kernel
theorem dX3_lawLine_94 : decode cX3_lawLine 94 = .ok (.aload_n 0, 1) := by decide +kernel
theorem dX3_lawLine_95 : decode cX3_lawLine 95 = .ok (.iconst 2, 1) := by decide +kernel
theorem dX3_lawLine_96 : decode cX3_lawLine 96 = .ok (.invokevirtual 75, 3) := by decide +kernel
theorem dX3_lawLine_99 : decode cX3_lawLine 99 = .ok (.ireturn, 1) := by decide +kernel
theorem dX3_lawLine_100 : decode cX3_lawLine 100 = .ok (.aload_n 0, 1) := by decide +kernel
theorem dX3_lawLine_101 : decode cX3_lawLine 101 = .ok (.getfield 24, 3) := by decide +kernel
theorem dX3_lawLine_104 : decode cX3_lawLine 104 = .ok (.invokevirtual 103, 3) := by decide +kernel
theorem dX3_lawLine_107 : decode cX3_lawLine 107 = .ok (.aload_n 0, 1) := by decide +kernel
theorem dX3_lawLine_108 : decode cX3_lawLine 108 = .ok (.bipush 59, 2) := by decide +kernel
theorem dX3_lawLine_110 : decode cX3_lawLine 110 = .ok (.invokevirtual 121, 3) := by decide +kernel
theorem dX3_lawLine_113 : decode cX3_lawLine 113 = .ok (.ireturn, 1) := by decide +kernel
theorem dX3_lateLine_0 : decode cX3_lateLine 0 = .ok (.aload_n 0, 1) := by decide +kernel
theorem dX3_lateLine_1 : decode cX3_lateLine 1 = .ok (.getfield 51, 3) := by decide +kernel
theorem dX3_lateLine_4 : decode cX3_lateLine 4 = .ok (.ifCond .eq 9, 3) := by decide +kernel
theorem dX3_lateLine_7 : decode cX3_lateLine 7 = .ok (.aload_n 0, 1) := by decide +kernel
theorem dX3_lateLine_8 : decode cX3_lateLine 8 = .ok (.iconst 2, 1) := by decide +kernel
theorem dX3_lateLine_9 : decode cX3_lateLine 9 = .ok (.invokevirtual 75, 3) := by decide +kernel
theorem dX3_lateLine_12 : decode cX3_lateLine 12 = .ok (.ireturn, 1) := by decide +kernel
theorem dX3_lateLine_13 : decode cX3_lateLine 13 = .ok (.aload_n 0, 1) := by decide +kernel
theorem dX3_lateLine_14 : decode cX3_lateLine 14 = .ok (.iconst 1, 1) := by decide +kernel
theorem dX3_lateLine_15 : decode cX3_lateLine 15 = .ok (.putfield 51, 3) := by decide +kernel
theorem dX3_lateLine_18 : decode cX3_lateLine 18 = .ok (.aload_n 0, 1) := by decide +kernel
theorem dX3_lateLine_19 : decode cX3_lateLine 19 = .ok (.aload_n 0, 1) := by decide +kernel
theorem dX3_lateLine_20 : decode cX3_lateLine 20 = .ok (.getfield 9, 3) := by decide +kernel
theorem dX3_lateLine_23 : decode cX3_lateLine 23 = .ok (.iconst 0, 1) := by decide +kernel
theorem dX3_lateLine_24 : decode cX3_lateLine 24 = .ok (.bipush 27, 2) := by decide +kernel
theorem dX3_lateLine_26 : decode cX3_lateLine 26 = .ok (.iconst 0, 1) := by decide +kernel
theorem dX3_lateLine_27 : decode cX3_lateLine 27 = .ok (.bipush 100, 2) := by decide +kernel
theorem dX3_lateLine_29 : decode cX3_lateLine 29 = .ok (.invokevirtual 117, 3) := by decide +kernel
theorem dX3_lateLine_32 : decode cX3_lateLine 32 = .ok (.ifCond .ne 5, 3) := by decide +kernel
theorem dX3_lateLine_35 : decode cX3_lateLine 35 = .ok (.iconst 0, 1) := by decide +kernel
theorem dX3_lateLine_36 : decode cX3_lateLine 36 = .ok (.ireturn, 1) := by decide +kernel
theorem dX3_lateLine_37 : decode cX3_lateLine 37 = .ok (.aload_n 0, 1) := by decide +kernel
theorem dX3_lateLine_38 : decode cX3_lateLine 38 = .ok (.getfield 28, 3) := by decide +kernel
theorem dX3_lateLine_41 : decode cX3_lateLine 41 = .ok (.aload_n 0, 1) := by decide +kernel
theorem dX3_lateLine_42 : decode cX3_lateLine 42 = .ok (.getfield 9, 3) := by decide +kernel
theorem dX3_lateLine_45 : decode cX3_lateLine 45 = .ok (.iconst 0, 1) := by decide +kernel
theorem dX3_lateLine_46 : decode cX3_lateLine 46 = .ok (.iaload, 1) := by decide +kernel
theorem dX3_lateLine_47 : decode cX3_lateLine 47 = .ok (.putfield 206, 3) := by decide +kernel
theorem dX3_lateLine_50 : decode cX3_lateLine 50 = .ok (.aload_n 0, 1) := by decide +kernel
theorem dX3_lateLine_51 : decode cX3_lateLine 51 = .ok (.bipush 59, 2) := by decide +kernel
theorem dX3_lateLine_53 : decode cX3_lateLine 53 = .ok (.invokevirtual 121, 3) := by decide +kernel
theorem dX3_lateLine_56 : decode cX3_lateLine 56 = .ok (.ireturn, 1) := by decide +kernel
theorem dX3_word_0 : decode cX3_word 0 = .ok (.aload_n 0, 1) := by decide +kernel
theorem dX3_word_1 : decode cX3_word 1 = .ok (.getfield 24, 3) := by decide +kernel
theorem dX3_word_4 : decode cX3_word 4 = .ok (.iload_n 1, 1) := by decide +kernel
theorem dX3_word_5 : decode cX3_word 5 = .ok (.invokevirtual 165, 3) := by decide +kernel
theorem dX3_word_8 : decode cX3_word 8 = .ok (.ifCond .ne 9, 3) := by decide +kernel
theorem dX3_word_11 : decode cX3_word 11 = .ok (.aload_n 0, 1) := by decide +kernel
theorem dX3_word_12 : decode cX3_word 12 = .ok (.iconst 2, 1) := by decide +kernel
theorem dX3_word_13 : decode cX3_word 13 = .ok (.invokevirtual 75, 3) := by decide +kernel
theorem dX3_word_16 : decode cX3_word 16 = .ok (.ireturn, 1) := by decide +kernel
theorem dX3_word_17 : decode cX3_word 17 = .ok (.aload_n 0, 1) := by decide +kernel
theorem dX3_word_18 : decode cX3_word 18 = .ok (.getfield 24, 3) := by decide +kernel
theorem dX3_word_21 : decode cX3_word 21 = .ok (.invokevirtual 103, 3) := by decide +kernel
theorem dX3_word_24 : decode cX3_word 24 = .ok (.iconst 1, 1) := by decide +kernel
theorem dX3_word_25 : decode cX3_word 25 = .ok (.ireturn, 1) := by decide +kernel
theorem dX3_sign_0 : decode cX3_sign 0 = .ok (.aload_n 0, 1) := by decide +kernel
theorem dX3_sign_1 : decode cX3_sign 1 = .ok (.getfield 24, 3) := by decide +kernel
theorem dX3_sign_4 : decode cX3_sign 4 = .ok (.iload_n 1, 1) := by decide +kernel
theorem dX3_sign_5 : decode cX3_sign 5 = .ok (.invokevirtual 209, 3) := by decide +kernel
theorem dX3_sign_8 : decode cX3_sign 8 = .ok (.ifCond .ne 9, 3) := by decide +kernel
theorem dX3_sign_11 : decode cX3_sign 11 = .ok (.aload_n 0, 1) := by decide +kernel
theorem dX3_sign_12 : decode cX3_sign 12 = .ok (.iconst 2, 1) := by decide +kernel
theorem dX3_sign_13 : decode cX3_sign 13 = .ok (.invokevirtual 75, 3) := by decide +kernel
theorem dX3_sign_16 : decode cX3_sign 16 = .ok (.ireturn, 1) := by decide +kernel
theorem dX3_sign_17 : decode cX3_sign 17 = .ok (.aload_n 0, 1) := by decide +kernel
theorem dX3_sign_18 : decode cX3_sign 18 = .ok (.getfield 24, 3) := by decide +kernel
theorem dX3_sign_21 : decode cX3_sign 21 = .ok (.invokevirtual 103, 3) := by decide +kernel
theorem dX3_sign_24 : decode cX3_sign 24 = .ok (.iconst 1, 1) := by decide +kernel
theorem dX3_sign_25 : decode cX3_sign 25 = .ok (.ireturn, 1) := by decide +kernel
theorem dX3_number_0 : decode cX3_number 0 = .ok (.aload_n 0, 1) := by decide +kernel
theorem dX3_number_1 : decode cX3_number 1 = .ok (.getfield 24, 3) := by decide +kernel
theorem dX3_number_4 : decode cX3_number 4 = .ok (.iload_n 3, 1) := by decide +kernel
theorem dX3_number_5 : decode cX3_number 5 = .ok (.invokevirtual 165, 3) := by decide +kernel
theorem dX3_number_8 : decode cX3_number 8 = .ok (.ifCond .ne 9, 3) := by decide +kernel
theorem dX3_number_11 : decode cX3_number 11 = .ok (.aload_n 0, 1) := by decide +kernel
theorem dX3_number_12 : decode cX3_number 12 = .ok (.iconst 2, 1) := by decide +kernel
theorem dX3_number_13 : decode cX3_number 13 = .ok (.invokevirtual 75, 3) := by decide +kernel
theorem dX3_number_16 : decode cX3_number 16 = .ok (.ireturn, 1) := by decide +kernel
theorem dX3_number_17 : decode cX3_number 17 = .ok (.aload_n 0, 1) := by decide +kernel
theorem dX3_number_18 : decode cX3_number 18 = .ok (.getfield 24, 3) := by decide +kernel
theorem dX3_number_21 : decode cX3_number 21 = .ok (.invokevirtual 103, 3) := by decide +kernel
theorem dX3_number_24 : decode cX3_number 24 = .ok (.aload_n 0, 1) := by decide +kernel
theorem dX3_number_25 : decode cX3_number 25 = .ok (.getfield 24, 3) := by decide +kernel
theorem dX3_number_28 : decode cX3_number 28 = .ok (.getfield 60, 3) := by decide +kernel
theorem dX3_number_31 : decode cX3_number 31 = .ok (.iconst 4, 1) := by decide +kernel
theorem dX3_number_32 : decode cX3_number 32 = .ok (.if_icmp .eq 9, 3) := by decide +kernel
theorem dX3_number_35 : decode cX3_number 35 = .ok (.aload_n 0, 1) := by decide +kernel
theorem dX3_number_36 : decode cX3_number 36 = .ok (.iconst 2, 1) := by decide +kernel
theorem dX3_number_37 : decode cX3_number 37 = .ok (.invokevirtual 75, 3) := by decide +kernel
theorem dX3_number_40 : decode cX3_number 40 = .ok (.ireturn, 1) := by decide +kernel
theorem dX3_number_41 : decode cX3_number 41 = .ok (.aload_n 0, 1) := by decide +kernel
theorem dX3_number_42 : decode cX3_number 42 = .ok (.getfield 24, 3) := by decide +kernel
theorem dX3_number_45 : decode cX3_number 45 = .ok (.getfield 79, 3) := by decide +kernel
theorem dX3_number_48 : decode cX3_number 48 = .ok (.iload 4, 2) := by decide +kernel
theorem dX3_number_50 : decode cX3_number 50 = .ok (.if_icmp .lt 15, 3) := by decide +kernel
theorem dX3_number_53 : decode cX3_number 53 = .ok (.aload_n 0, 1) := by decide +kernel
theorem dX3_number_54 : decode cX3_number 54 = .ok (.getfield 24, 3) := by decide +kernel
theorem dX3_number_57 : decode cX3_number 57 = .ok (.getfield 79, 3) := by decide +kernel
theorem dX3_number_60 : decode cX3_number 60 = .ok (.iload 5, 2) := by decide +kernel
theorem dX3_number_62 : decode cX3_number 62 = .ok (.if_icmp .le 9, 3) := by decide +kernel
theorem dX3_number_65 : decode cX3_number 65 = .ok (.aload_n 0, 1) := by decide +kernel
theorem dX3_number_66 : decode cX3_number 66 = .ok (.iconst 4, 1) := by decide +kernel
theorem dX3_number_67 : decode cX3_number 67 = .ok (.invokevirtual 75, 3) := by decide +kernel
theorem dX3_number_70 : decode cX3_number 70 = .ok (.ireturn, 1) := by decide +kernel
theorem dX3_number_71 : decode cX3_number 71 = .ok (.aload_n 1, 1) := by decide +kernel
theorem dX3_number_72 : decode cX3_number 72 = .ok (.iload_n 2, 1) := by decide +kernel
theorem dX3_number_73 : decode cX3_number 73 = .ok (.aload_n 0, 1) := by decide +kernel
theorem dX3_number_74 : decode cX3_number 74 = .ok (.getfield 24, 3) := by decide +kernel
theorem dX3_number_77 : decode cX3_number 77 = .ok (.getfield 79, 3) := by decide +kernel
theorem dX3_number_80 : decode cX3_number 80 = .ok (.iastore, 1) := by decide +kernel
theorem dX3_number_81 : decode cX3_number 81 = .ok (.aload_n 0, 1) := by decide +kernel
theorem dX3_number_82 : decode cX3_number 82 = .ok (.getfield 24, 3) := by decide +kernel
theorem dX3_number_85 : decode cX3_number 85 = .ok (.invokevirtual 103, 3) := by decide +kernel
theorem dX3_number_88 : decode cX3_number 88 = .ok (.iconst 1, 1) := by decide +kernel
theorem dX3_number_89 : decode cX3_number 89 = .ok (.ireturn, 1) := by decide +kernel
theorem dX3_newName_0 : decode cX3_newName 0 = .ok (.aload_n 0, 1) := by decide +kernel
theorem dX3_newName_1 : decode cX3_newName 1 = .ok (.getfield 24, 3) := by decide +kernel
theorem dX3_newName_4 : decode cX3_newName 4 = .ok (.getfield 60, 3) := by decide +kernel
theorem dX3_newName_7 : decode cX3_newName 7 = .ok (.iconst 3, 1) := by decide +kernel
theorem dX3_newName_8 : decode cX3_newName 8 = .ok (.if_icmp .eq 9, 3) := by decide +kernel
theorem dX3_newName_11 : decode cX3_newName 11 = .ok (.aload_n 0, 1) := by decide +kernel
theorem dX3_newName_12 : decode cX3_newName 12 = .ok (.iconst 2, 1) := by decide +kernel
theorem dX3_newName_13 : decode cX3_newName 13 = .ok (.invokevirtual 75, 3) := by decide +kernel
theorem dX3_newName_16 : decode cX3_newName 16 = .ok (.ireturn, 1) := by decide +kernel
theorem dX3_newName_17 : decode cX3_newName 17 = .ok (.iconst 0, 1) := by decide +kernel
theorem dX3_newName_18 : decode cX3_newName 18 = .ok (.istore_n 3, 1) := by decide +kernel
theorem dX3_newName_19 : decode cX3_newName 19 = .ok (.iload_n 3, 1) := by decide +kernel
theorem dX3_newName_20 : decode cX3_newName 20 = .ok (.iload_n 2, 1) := by decide +kernel
theorem dX3_newName_21 : decode cX3_newName 21 = .ok (.if_icmp .ge 29, 3) := by decide +kernel
theorem dX3_newName_24 : decode cX3_newName 24 = .ok (.aload_n 1, 1) := by decide +kernel
theorem dX3_newName_25 : decode cX3_newName 25 = .ok (.iload_n 3, 1) := by decide +kernel
theorem dX3_newName_26 : decode cX3_newName 26 = .ok (.laload, 1) := by decide +kernel
theorem dX3_newName_27 : decode cX3_newName 27 = .ok (.aload_n 0, 1) := by decide +kernel
theorem dX3_newName_28 : decode cX3_newName 28 = .ok (.getfield 24, 3) := by decide +kernel
theorem dX3_newName_31 : decode cX3_newName 31 = .ok (.getfield 212, 3) := by decide +kernel
theorem dX3_newName_34 : decode cX3_newName 34 = .ok (.lcmp, 1) := by decide +kernel
theorem dX3_newName_35 : decode cX3_newName 35 = .ok (.ifCond .ne 9, 3) := by decide +kernel
theorem dX3_newName_38 : decode cX3_newName 38 = .ok (.aload_n 0, 1) := by decide +kernel
theorem dX3_newName_39 : decode cX3_newName 39 = .ok (.iconst 3, 1) := by decide +kernel
theorem dX3_newName_40 : decode cX3_newName 40 = .ok (.invokevirtual 75, 3) := by decide +kernel
theorem dX3_newName_43 : decode cX3_newName 43 = .ok (.ireturn, 1) := by decide +kernel
theorem dX3_newName_44 : decode cX3_newName 44 = .ok (.iinc 3 1, 3) := by decide +kernel
theorem dX3_newName_47 : decode cX3_newName 47 = .ok (.goto (-28), 3) := by decide +kernel
theorem dX3_newName_50 : decode cX3_newName 50 = .ok (.aload_n 1, 1) := by decide +kernel
theorem dX3_newName_51 : decode cX3_newName 51 = .ok (.iload_n 2, 1) := by decide +kernel
theorem dX3_newName_52 : decode cX3_newName 52 = .ok (.aload_n 0, 1) := by decide +kernel
theorem dX3_newName_53 : decode cX3_newName 53 = .ok (.getfield 24, 3) := by decide +kernel
theorem dX3_newName_56 : decode cX3_newName 56 = .ok (.getfield 212, 3) := by decide +kernel
theorem dX3_newName_59 : decode cX3_newName 59 = .ok (.lastore, 1) := by decide +kernel
theorem dX3_newName_60 : decode cX3_newName 60 = .ok (.aload_n 0, 1) := by decide +kernel
theorem dX3_newName_61 : decode cX3_newName 61 = .ok (.getfield 24, 3) := by decide +kernel
theorem dX3_newName_64 : decode cX3_newName 64 = .ok (.invokevirtual 103, 3) := by decide +kernel
theorem dX3_newName_67 : decode cX3_newName 67 = .ok (.iconst 1, 1) := by decide +kernel
theorem dX3_newName_68 : decode cX3_newName 68 = .ok (.ireturn, 1) := by decide +kernel
theorem dX3_atPlace_0 : decode cX3_atPlace 0 = .ok (.aload_n 0, 1) := by decide +kernel
theorem dX3_atPlace_1 : decode cX3_atPlace 1 = .ok (.getfield 24, 3) := by decide +kernel
theorem dX3_atPlace_4 : decode cX3_atPlace 4 = .ok (.bipush 18, 2) := by decide +kernel
theorem dX3_atPlace_6 : decode cX3_atPlace 6 = .ok (.invokevirtual 165, 3) := by decide +kernel
theorem dX3_atPlace_9 : decode cX3_atPlace 9 = .ok (.ifCond .ne 9, 3) := by decide +kernel
theorem dX3_atPlace_12 : decode cX3_atPlace 12 = .ok (.aload_n 0, 1) := by decide +kernel
theorem dX3_atPlace_13 : decode cX3_atPlace 13 = .ok (.iconst 2, 1) := by decide +kernel
theorem dX3_atPlace_14 : decode cX3_atPlace 14 = .ok (.invokevirtual 75, 3) := by decide +kernel
theorem dX3_atPlace_17 : decode cX3_atPlace 17 = .ok (.ireturn, 1) := by decide +kernel
theorem dX3_atPlace_18 : decode cX3_atPlace 18 = .ok (.aload_n 0, 1) := by decide +kernel
theorem dX3_atPlace_19 : decode cX3_atPlace 19 = .ok (.getfield 24, 3) := by decide +kernel
theorem dX3_atPlace_22 : decode cX3_atPlace 22 = .ok (.invokevirtual 103, 3) := by decide +kernel
theorem dX3_atPlace_25 : decode cX3_atPlace 25 = .ok (.aload_n 0, 1) := by decide +kernel
theorem dX3_atPlace_26 : decode cX3_atPlace 26 = .ok (.invokevirtual 127, 3) := by decide +kernel
theorem dX3_atPlace_29 : decode cX3_atPlace 29 = .ok (.istore_n 3, 1) := by decide +kernel
theorem dX3_atPlace_30 : decode cX3_atPlace 30 = .ok (.iload_n 3, 1) := by decide +kernel
theorem dX3_atPlace_31 : decode cX3_atPlace 31 = .ok (.iconst (-1), 1) := by decide +kernel
theorem dX3_atPlace_32 : decode cX3_atPlace 32 = .ok (.if_icmp .ne 5, 3) := by decide +kernel
theorem dX3_atPlace_35 : decode cX3_atPlace 35 = .ok (.iconst 0, 1) := by decide +kernel
theorem dX3_atPlace_36 : decode cX3_atPlace 36 = .ok (.ireturn, 1) := by decide +kernel
theorem dX3_atPlace_37 : decode cX3_atPlace 37 = .ok (.aload_n 1, 1) := by decide +kernel
theorem dX3_atPlace_38 : decode cX3_atPlace 38 = .ok (.iload_n 2, 1) := by decide +kernel
theorem dX3_atPlace_39 : decode cX3_atPlace 39 = .ok (.iload_n 3, 1) := by decide +kernel
theorem dX3_atPlace_40 : decode cX3_atPlace 40 = .ok (.iastore, 1) := by decide +kernel
theorem dX3_atPlace_41 : decode cX3_atPlace 41 = .ok (.aload_n 0, 1) := by decide +kernel
theorem dX3_atPlace_42 : decode cX3_atPlace 42 = .ok (.getfield 24, 3) := by decide +kernel
theorem dX3_atPlace_45 : decode cX3_atPlace 45 = .ok (.invokevirtual 103, 3) := by decide +kernel
theorem dX3_atPlace_48 : decode cX3_atPlace 48 = .ok (.iconst 1, 1) := by decide +kernel
theorem dX3_atPlace_49 : decode cX3_atPlace 49 = .ok (.ireturn, 1) := by decide +kernel
theorem dX3_placeHere_0 : decode cX3_placeHere 0 = .ok (.aload_n 0, 1) := by decide +kernel
theorem dX3_placeHere_1 : decode cX3_placeHere 1 = .ok (.getfield 24, 3) := by decide +kernel
theorem dX3_placeHere_4 : decode cX3_placeHere 4 = .ok (.getfield 60, 3) := by decide +kernel
theorem dX3_placeHere_7 : decode cX3_placeHere 7 = .ok (.iconst 3, 1) := by decide +kernel
theorem dX3_placeHere_8 : decode cX3_placeHere 8 = .ok (.if_icmp .eq 11, 3) := by decide +kernel
theorem dX3_placeHere_11 : decode cX3_placeHere 11 = .ok (.aload_n 0, 1) := by decide +kernel
theorem dX3_placeHere_12 : decode cX3_placeHere 12 = .ok (.iconst 2, 1) := by decide +kernel
theorem dX3_placeHere_13 : decode cX3_placeHere 13 = .ok (.invokevirtual 75, 3) := by decide +kernel
theorem dX3_placeHere_16 : decode cX3_placeHere 16 = .ok (.pop, 1) := by decide +kernel
theorem dX3_placeHere_17 : decode cX3_placeHere 17 = .ok (.iconst (-1), 1) := by decide +kernel
theorem dX3_placeHere_18 : decode cX3_placeHere 18 = .ok (.ireturn, 1) := by decide +kernel
theorem dX3_placeHere_19 : decode cX3_placeHere 19 = .ok (.iconst 0, 1) := by decide +kernel
theorem dX3_placeHere_20 : decode cX3_placeHere 20 = .ok (.istore_n 1, 1) := by decide +kernel
theorem dX3_placeHere_21 : decode cX3_placeHere 21 = .ok (.iload_n 1, 1) := by decide +kernel
theorem dX3_placeHere_22 : decode cX3_placeHere 22 = .ok (.aload_n 0, 1) := by decide +kernel
theorem dX3_placeHere_23 : decode cX3_placeHere 23 = .ok (.getfield 38, 3) := by decide +kernel
theorem dX3_placeHere_26 : decode cX3_placeHere 26 = .ok (.getfield 100, 3) := by decide +kernel
theorem dX3_placeHere_29 : decode cX3_placeHere 29 = .ok (.if_icmp .ge 31, 3) := by decide +kernel
theorem dX3_placeHere_32 : decode cX3_placeHere 32 = .ok (.aload_n 0, 1) := by decide +kernel
theorem dX3_placeHere_33 : decode cX3_placeHere 33 = .ok (.getfield 38, 3) := by decide +kernel
theorem dX3_placeHere_36 : decode cX3_placeHere 36 = .ok (.getfield 106, 3) := by decide +kernel
theorem dX3_placeHere_39 : decode cX3_placeHere 39 = .ok (.iload_n 1, 1) := by decide +kernel
theorem dX3_placeHere_40 : decode cX3_placeHere 40 = .ok (.laload, 1) := by decide +kernel
theorem dX3_placeHere_41 : decode cX3_placeHere 41 = .ok (.aload_n 0, 1) := by decide +kernel
theorem dX3_placeHere_42 : decode cX3_placeHere 42 = .ok (.getfield 24, 3) := by decide +kernel
theorem dX3_placeHere_45 : decode cX3_placeHere 45 = .ok (.getfield 212, 3) := by decide +kernel
theorem dX3_placeHere_48 : decode cX3_placeHere 48 = .ok (.lcmp, 1) := by decide +kernel
theorem dX3_placeHere_49 : decode cX3_placeHere 49 = .ok (.ifCond .ne 5, 3) := by decide +kernel
theorem dX3_placeHere_52 : decode cX3_placeHere 52 = .ok (.iload_n 1, 1) := by decide +kernel
theorem dX3_placeHere_53 : decode cX3_placeHere 53 = .ok (.ireturn, 1) := by decide +kernel
theorem dX3_placeHere_54 : decode cX3_placeHere 54 = .ok (.iinc 1 1, 3) := by decide +kernel
theorem dX3_placeHere_57 : decode cX3_placeHere 57 = .ok (.goto (-36), 3) := by decide +kernel
theorem dX3_placeHere_60 : decode cX3_placeHere 60 = .ok (.aload_n 0, 1) := by decide +kernel
theorem dX3_placeHere_61 : decode cX3_placeHere 61 = .ok (.iconst 5, 1) := by decide +kernel
theorem dX3_placeHere_62 : decode cX3_placeHere 62 = .ok (.invokevirtual 75, 3) := by decide +kernel
theorem dX3_placeHere_65 : decode cX3_placeHere 65 = .ok (.pop, 1) := by decide +kernel
theorem dX3_placeHere_66 : decode cX3_placeHere 66 = .ok (.iconst (-1), 1) := by decide +kernel
theorem dX3_placeHere_67 : decode cX3_placeHere 67 = .ok (.ireturn, 1) := by decide +kernel
theorem dX3_either_0 : decode cX3_either 0 = .ok (.aload_n 0, 1) := by decide +kernel
theorem dX3_either_1 : decode cX3_either 1 = .ok (.iload_n 1, 1) := by decide +kernel
theorem dX3_either_2 : decode cX3_either 2 = .ok (.invokevirtual 216, 3) := by decide +kernel
theorem dX3_either_5 : decode cX3_either 5 = .ok (.ifCond .ne 5, 3) := by decide +kernel
theorem dX3_either_8 : decode cX3_either 8 = .ok (.iconst 0, 1) := by decide +kernel
theorem dX3_either_9 : decode cX3_either 9 = .ok (.ireturn, 1) := by decide +kernel
theorem dX3_either_10 : decode cX3_either 10 = .ok (.iconst 0, 1) := by decide +kernel
theorem dX3_either_11 : decode cX3_either 11 = .ok (.istore_n 2, 1) := by decide +kernel
theorem dX3_either_12 : decode cX3_either 12 = .ok (.iload_n 2, 1) := by decide +kernel
theorem dX3_either_13 : decode cX3_either 13 = .ok (.sipush 1700, 3) := by decide +kernel
theorem dX3_either_16 : decode cX3_either 16 = .ok (.if_icmp .ge 48, 3) := by decide +kernel
theorem dX3_either_19 : decode cX3_either 19 = .ok (.aload_n 0, 1) := by decide +kernel
theorem dX3_either_20 : decode cX3_either 20 = .ok (.getfield 24, 3) := by decide +kernel
theorem dX3_either_23 : decode cX3_either 23 = .ok (.bipush 11, 2) := by decide +kernel
theorem dX3_either_25 : decode cX3_either 25 = .ok (.invokevirtual 165, 3) := by decide +kernel
theorem dX3_either_28 : decode cX3_either 28 = .ok (.ifCond .eq 36, 3) := by decide +kernel
theorem dX3_either_31 : decode cX3_either 31 = .ok (.aload_n 0, 1) := by decide +kernel
theorem dX3_either_32 : decode cX3_either 32 = .ok (.getfield 24, 3) := by decide +kernel
theorem dX3_either_35 : decode cX3_either 35 = .ok (.invokevirtual 103, 3) := by decide +kernel
theorem dX3_either_38 : decode cX3_either 38 = .ok (.aload_n 0, 1) := by decide +kernel
theorem dX3_either_39 : decode cX3_either 39 = .ok (.iload_n 1, 1) := by decide +kernel
theorem dX3_either_40 : decode cX3_either 40 = .ok (.invokevirtual 216, 3) := by decide +kernel
theorem dX3_either_43 : decode cX3_either 43 = .ok (.ifCond .ne 5, 3) := by decide +kernel
theorem dX3_either_46 : decode cX3_either 46 = .ok (.iconst 0, 1) := by decide +kernel
theorem dX3_either_47 : decode cX3_either 47 = .ok (.ireturn, 1) := by decide +kernel
theorem dX3_either_48 : decode cX3_either 48 = .ok (.aload_n 0, 1) := by decide +kernel
theorem dX3_either_49 : decode cX3_either 49 = .ok (.getfield 43, 3) := by decide +kernel
theorem dX3_either_52 : decode cX3_either 52 = .ok (.sipush 20258, 3) := by decide +kernel
theorem dX3_either_55 : decode cX3_either 55 = .ok (.invokevirtual 219, 3) := by decide +kernel
theorem dX3_either_58 : decode cX3_either 58 = .ok (.iinc 2 1, 3) := by decide +kernel
theorem dX3_either_61 : decode cX3_either 61 = .ok (.goto (-49), 3) := by decide +kernel
theorem dX3_either_64 : decode cX3_either 64 = .ok (.iconst 1, 1) := by decide +kernel
theorem dX3_either_65 : decode cX3_either 65 = .ok (.ireturn, 1) := by decide +kernel
theorem dX3_both_0 : decode cX3_both 0 = .ok (.aload_n 0, 1) := by decide +kernel
theorem dX3_both_1 : decode cX3_both 1 = .ok (.iload_n 1, 1) := by decide +kernel
theorem dX3_both_2 : decode cX3_both 2 = .ok (.invokevirtual 223, 3) := by decide +kernel
theorem dX3_both_5 : decode cX3_both 5 = .ok (.ifCond .ne 5, 3) := by decide +kernel
theorem dX3_both_8 : decode cX3_both 8 = .ok (.iconst 0, 1) := by decide +kernel
theorem dX3_both_9 : decode cX3_both 9 = .ok (.ireturn, 1) := by decide +kernel
theorem dX3_both_10 : decode cX3_both 10 = .ok (.iconst 0, 1) := by decide +kernel
theorem dX3_both_11 : decode cX3_both 11 = .ok (.istore_n 2, 1) := by decide +kernel
theorem dX3_both_12 : decode cX3_both 12 = .ok (.iload_n 2, 1) := by decide +kernel
theorem dX3_both_13 : decode cX3_both 13 = .ok (.sipush 1700, 3) := by decide +kernel
theorem dX3_both_16 : decode cX3_both 16 = .ok (.if_icmp .ge 48, 3) := by decide +kernel
theorem dX3_both_19 : decode cX3_both 19 = .ok (.aload_n 0, 1) := by decide +kernel
theorem dX3_both_20 : decode cX3_both 20 = .ok (.getfield 24, 3) := by decide +kernel
theorem dX3_both_23 : decode cX3_both 23 = .ok (.bipush 12, 2) := by decide +kernel
theorem dX3_both_25 : decode cX3_both 25 = .ok (.invokevirtual 165, 3) := by decide +kernel
theorem dX3_both_28 : decode cX3_both 28 = .ok (.ifCond .eq 36, 3) := by decide +kernel
theorem dX3_both_31 : decode cX3_both 31 = .ok (.aload_n 0, 1) := by decide +kernel
theorem dX3_both_32 : decode cX3_both 32 = .ok (.getfield 24, 3) := by decide +kernel
theorem dX3_both_35 : decode cX3_both 35 = .ok (.invokevirtual 103, 3) := by decide +kernel
theorem dX3_both_38 : decode cX3_both 38 = .ok (.aload_n 0, 1) := by decide +kernel
theorem dX3_both_39 : decode cX3_both 39 = .ok (.iload_n 1, 1) := by decide +kernel
theorem dX3_both_40 : decode cX3_both 40 = .ok (.invokevirtual 223, 3) := by decide +kernel
theorem dX3_both_43 : decode cX3_both 43 = .ok (.ifCond .ne 5, 3) := by decide +kernel
theorem dX3_both_46 : decode cX3_both 46 = .ok (.iconst 0, 1) := by decide +kernel
theorem dX3_both_47 : decode cX3_both 47 = .ok (.ireturn, 1) := by decide +kernel
theorem dX3_both_48 : decode cX3_both 48 = .ok (.aload_n 0, 1) := by decide +kernel
theorem dX3_both_49 : decode cX3_both 49 = .ok (.getfield 43, 3) := by decide +kernel
theorem dX3_both_52 : decode cX3_both 52 = .ok (.sipush 20257, 3) := by decide +kernel
theorem dX3_both_55 : decode cX3_both 55 = .ok (.invokevirtual 219, 3) := by decide +kernel
theorem dX3_both_58 : decode cX3_both 58 = .ok (.iinc 2 1, 3) := by decide +kernel
theorem dX3_both_61 : decode cX3_both 61 = .ok (.goto (-49), 3) := by decide +kernel
theorem dX3_both_64 : decode cX3_both 64 = .ok (.iconst 1, 1) := by decide +kernel
theorem dX3_both_65 : decode cX3_both 65 = .ok (.ireturn, 1) := by decide +kernel
theorem dX3_one_0 : decode cX3_one 0 = .ok (.aload_n 0, 1) := by decide +kernel
theorem dX3_one_1 : decode cX3_one 1 = .ok (.getfield 24, 3) := by decide +kernel
theorem dX3_one_4 : decode cX3_one 4 = .ok (.bipush 13, 2) := by decide +kernel
theorem dX3_one_6 : decode cX3_one 6 = .ok (.invokevirtual 165, 3) := by decide +kernel
theorem dX3_one_9 : decode cX3_one 9 = .ok (.ifCond .eq 9, 3) := by decide +kernel
theorem dX3_one_12 : decode cX3_one 12 = .ok (.aload_n 0, 1) := by decide +kernel
theorem dX3_one_13 : decode cX3_one 13 = .ok (.iload_n 1, 1) := by decide +kernel
theorem dX3_one_14 : decode cX3_one 14 = .ok (.invokevirtual 226, 3) := by decide +kernel
theorem dX3_one_17 : decode cX3_one 17 = .ok (.ireturn, 1) := by decide +kernel
theorem dX3_one_18 : decode cX3_one 18 = .ok (.aload_n 0, 1) := by decide +kernel
theorem dX3_one_19 : decode cX3_one 19 = .ok (.iload_n 1, 1) := by decide +kernel
theorem dX3_one_20 : decode cX3_one 20 = .ok (.invokevirtual 229, 3) := by decide +kernel
theorem dX3_one_23 : decode cX3_one 23 = .ok (.ifCond .ne 5, 3) := by decide +kernel
theorem dX3_one_26 : decode cX3_one 26 = .ok (.iconst 0, 1) := by decide +kernel
theorem dX3_one_27 : decode cX3_one 27 = .ok (.ireturn, 1) := by decide +kernel
theorem dX3_one_28 : decode cX3_one 28 = .ok (.aload_n 0, 1) := by decide +kernel
theorem dX3_one_29 : decode cX3_one 29 = .ok (.getfield 24, 3) := by decide +kernel
theorem dX3_one_32 : decode cX3_one 32 = .ok (.bipush 60, 2) := by decide +kernel
theorem dX3_one_34 : decode cX3_one 34 = .ok (.invokevirtual 209, 3) := by decide +kernel
theorem dX3_one_37 : decode cX3_one 37 = .ok (.ifCond .ne 29, 3) := by decide +kernel
theorem dX3_one_40 : decode cX3_one 40 = .ok (.aload_n 0, 1) := by decide +kernel
theorem dX3_one_41 : decode cX3_one 41 = .ok (.getfield 24, 3) := by decide +kernel
theorem dX3_one_44 : decode cX3_one 44 = .ok (.bipush 62, 2) := by decide +kernel
theorem dX3_one_46 : decode cX3_one 46 = .ok (.invokevirtual 209, 3) := by decide +kernel
theorem dX3_one_49 : decode cX3_one 49 = .ok (.ifCond .ne 17, 3) := by decide +kernel
theorem dX3_one_52 : decode cX3_one 52 = .ok (.aload_n 0, 1) := by decide +kernel
theorem dX3_one_53 : decode cX3_one 53 = .ok (.getfield 24, 3) := by decide +kernel
theorem dX3_one_56 : decode cX3_one 56 = .ok (.bipush 61, 2) := by decide +kernel
theorem dX3_one_58 : decode cX3_one 58 = .ok (.invokevirtual 209, 3) := by decide +kernel
theorem dX3_one_61 : decode cX3_one 61 = .ok (.ifCond .ne 5, 3) := by decide +kernel
theorem dX3_one_64 : decode cX3_one 64 = .ok (.iconst 1, 1) := by decide +kernel
theorem dX3_one_65 : decode cX3_one 65 = .ok (.ireturn, 1) := by decide +kernel
theorem dX3_one_66 : decode cX3_one 66 = .ok (.sipush 20000, 3) := by decide +kernel
theorem dX3_one_69 : decode cX3_one 69 = .ok (.aload_n 0, 1) := by decide +kernel
theorem dX3_one_70 : decode cX3_one 70 = .ok (.getfield 24, 3) := by decide +kernel
theorem dX3_one_73 : decode cX3_one 73 = .ok (.getfield 79, 3) := by decide +kernel
theorem dX3_one_76 : decode cX3_one 76 = .ok (.iadd, 1) := by decide +kernel
theorem dX3_one_77 : decode cX3_one 77 = .ok (.istore_n 2, 1) := by decide +kernel
theorem dX3_one_78 : decode cX3_one 78 = .ok (.aload_n 0, 1) := by decide +kernel
theorem dX3_one_79 : decode cX3_one 79 = .ok (.getfield 24, 3) := by decide +kernel
theorem dX3_one_82 : decode cX3_one 82 = .ok (.invokevirtual 103, 3) := by decide +kernel
theorem dX3_one_85 : decode cX3_one 85 = .ok (.aload_n 0, 1) := by decide +kernel
theorem dX3_one_86 : decode cX3_one 86 = .ok (.iload_n 1, 1) := by decide +kernel
theorem dX3_one_87 : decode cX3_one 87 = .ok (.invokevirtual 229, 3) := by decide +kernel
theorem dX3_one_90 : decode cX3_one 90 = .ok (.ifCond .ne 5, 3) := by decide +kernel
theorem dX3_one_93 : decode cX3_one 93 = .ok (.iconst 0, 1) := by decide +kernel
theorem dX3_one_94 : decode cX3_one 94 = .ok (.ireturn, 1) := by decide +kernel
theorem dX3_one_95 : decode cX3_one 95 = .ok (.aload_n 0, 1) := by decide +kernel
theorem dX3_one_96 : decode cX3_one 96 = .ok (.getfield 43, 3) := by decide +kernel
theorem dX3_one_99 : decode cX3_one 99 = .ok (.iload_n 2, 1) := by decide +kernel
theorem dX3_one_100 : decode cX3_one 100 = .ok (.invokevirtual 219, 3) := by decide +kernel
theorem dX3_one_103 : decode cX3_one 103 = .ok (.iconst 1, 1) := by decide +kernel
theorem dX3_one_104 : decode cX3_one 104 = .ok (.ireturn, 1) := by decide +kernel
theorem dX3_negated_0 : decode cX3_negated 0 = .ok (.iload_n 1, 1) := by decide +kernel
theorem dX3_negated_1 : decode cX3_negated 1 = .ok (.bipush 6, 2) := by decide +kernel
theorem dX3_negated_3 : decode cX3_negated 3 = .ok (.if_icmp .le 9, 3) := by decide +kernel
theorem dX3_negated_6 : decode cX3_negated 6 = .ok (.aload_n 0, 1) := by decide +kernel
theorem dX3_negated_7 : decode cX3_negated 7 = .ok (.iconst 2, 1) := by decide +kernel
theorem dX3_negated_8 : decode cX3_negated 8 = .ok (.invokevirtual 75, 3) := by decide +kernel
theorem dX3_negated_11 : decode cX3_negated 11 = .ok (.ireturn, 1) := by decide +kernel
theorem dX3_negated_12 : decode cX3_negated 12 = .ok (.aload_n 0, 1) := by decide +kernel
theorem dX3_negated_13 : decode cX3_negated 13 = .ok (.getfield 24, 3) := by decide +kernel
theorem dX3_negated_16 : decode cX3_negated 16 = .ok (.invokevirtual 103, 3) := by decide +kernel
theorem dX3_negated_19 : decode cX3_negated 19 = .ok (.aload_n 0, 1) := by decide +kernel
theorem dX3_negated_20 : decode cX3_negated 20 = .ok (.iload_n 1, 1) := by decide +kernel
theorem dX3_negated_21 : decode cX3_negated 21 = .ok (.iconst 1, 1) := by decide +kernel
theorem dX3_negated_22 : decode cX3_negated 22 = .ok (.iadd, 1) := by decide +kernel
theorem dX3_negated_23 : decode cX3_negated 23 = .ok (.invokevirtual 223, 3) := by decide +kernel
theorem dX3_negated_26 : decode cX3_negated 26 = .ok (.ifCond .ne 5, 3) := by decide +kernel
theorem dX3_negated_29 : decode cX3_negated 29 = .ok (.iconst 0, 1) := by decide +kernel
theorem dX3_negated_30 : decode cX3_negated 30 = .ok (.ireturn, 1) := by decide +kernel
theorem dX3_negated_31 : decode cX3_negated 31 = .ok (.aload_n 0, 1) := by decide +kernel
theorem dX3_negated_32 : decode cX3_negated 32 = .ok (.getfield 43, 3) := by decide +kernel
theorem dX3_negated_35 : decode cX3_negated 35 = .ok (.sipush 20256, 3) := by decide +kernel
theorem dX3_negated_38 : decode cX3_negated 38 = .ok (.invokevirtual 219, 3) := by decide +kernel
theorem dX3_negated_41 : decode cX3_negated 41 = .ok (.iconst 1, 1) := by decide +kernel
theorem dX3_negated_42 : decode cX3_negated 42 = .ok (.ireturn, 1) := by decide +kernel
theorem dX3_sum_0 : decode cX3_sum 0 = .ok (.aload_n 0, 1) := by decide +kernel
theorem dX3_sum_1 : decode cX3_sum 1 = .ok (.iload_n 1, 1) := by decide +kernel
theorem dX3_sum_2 : decode cX3_sum 2 = .ok (.invokevirtual 232, 3) := by decide +kernel
theorem dX3_sum_5 : decode cX3_sum 5 = .ok (.ifCond .ne 5, 3) := by decide +kernel
theorem dX3_sum_8 : decode cX3_sum 8 = .ok (.iconst 0, 1) := by decide +kernel
theorem dX3_sum_9 : decode cX3_sum 9 = .ok (.ireturn, 1) := by decide +kernel
theorem dX3_sum_10 : decode cX3_sum 10 = .ok (.iconst 0, 1) := by decide +kernel
theorem dX3_sum_11 : decode cX3_sum 11 = .ok (.istore_n 2, 1) := by decide +kernel
theorem dX3_sum_12 : decode cX3_sum 12 = .ok (.iload_n 2, 1) := by decide +kernel
theorem dX3_sum_13 : decode cX3_sum 13 = .ok (.sipush 1700, 3) := by decide +kernel
theorem dX3_sum_16 : decode cX3_sum 16 = .ok (.if_icmp .ge 70, 3) := by decide +kernel
theorem dX3_sum_19 : decode cX3_sum 19 = .ok (.aload_n 0, 1) := by decide +kernel
theorem dX3_sum_20 : decode cX3_sum 20 = .ok (.getfield 24, 3) := by decide +kernel
theorem dX3_sum_23 : decode cX3_sum 23 = .ok (.bipush 43, 2) := by decide +kernel
theorem dX3_sum_25 : decode cX3_sum 25 = .ok (.invokevirtual 209, 3) := by decide +kernel
theorem dX3_sum_28 : decode cX3_sum 28 = .ok (.ifCond .ne 15, 3) := by decide +kernel
theorem dX3_sum_31 : decode cX3_sum 31 = .ok (.aload_n 0, 1) := by decide +kernel
theorem dX3_sum_32 : decode cX3_sum 32 = .ok (.getfield 24, 3) := by decide +kernel
theorem dX3_sum_35 : decode cX3_sum 35 = .ok (.bipush 45, 2) := by decide +kernel
theorem dX3_sum_37 : decode cX3_sum 37 = .ok (.invokevirtual 209, 3) := by decide +kernel
theorem dX3_sum_40 : decode cX3_sum 40 = .ok (.ifCond .eq 46, 3) := by decide +kernel
theorem dX3_sum_43 : decode cX3_sum 43 = .ok (.sipush 20000, 3) := by decide +kernel
theorem dX3_sum_46 : decode cX3_sum 46 = .ok (.aload_n 0, 1) := by decide +kernel
theorem dX3_sum_47 : decode cX3_sum 47 = .ok (.getfield 24, 3) := by decide +kernel
theorem dX3_sum_50 : decode cX3_sum 50 = .ok (.getfield 79, 3) := by decide +kernel
theorem dX3_sum_53 : decode cX3_sum 53 = .ok (.iadd, 1) := by decide +kernel
theorem dX3_sum_54 : decode cX3_sum 54 = .ok (.istore_n 3, 1) := by decide +kernel
theorem dX3_sum_55 : decode cX3_sum 55 = .ok (.aload_n 0, 1) := by decide +kernel
theorem dX3_sum_56 : decode cX3_sum 56 = .ok (.getfield 24, 3) := by decide +kernel
theorem dX3_sum_59 : decode cX3_sum 59 = .ok (.invokevirtual 103, 3) := by decide +kernel
theorem dX3_sum_62 : decode cX3_sum 62 = .ok (.aload_n 0, 1) := by decide +kernel
theorem dX3_sum_63 : decode cX3_sum 63 = .ok (.iload_n 1, 1) := by decide +kernel
theorem dX3_sum_64 : decode cX3_sum 64 = .ok (.invokevirtual 232, 3) := by decide +kernel
theorem dX3_sum_67 : decode cX3_sum 67 = .ok (.ifCond .ne 5, 3) := by decide +kernel
theorem dX3_sum_70 : decode cX3_sum 70 = .ok (.iconst 0, 1) := by decide +kernel
theorem dX3_sum_71 : decode cX3_sum 71 = .ok (.ireturn, 1) := by decide +kernel
theorem dX3_sum_72 : decode cX3_sum 72 = .ok (.aload_n 0, 1) := by decide +kernel
theorem dX3_sum_73 : decode cX3_sum 73 = .ok (.getfield 43, 3) := by decide +kernel
theorem dX3_sum_76 : decode cX3_sum 76 = .ok (.iload_n 3, 1) := by decide +kernel
theorem dX3_sum_77 : decode cX3_sum 77 = .ok (.invokevirtual 219, 3) := by decide +kernel
theorem dX3_sum_80 : decode cX3_sum 80 = .ok (.iinc 2 1, 3) := by decide +kernel
theorem dX3_sum_83 : decode cX3_sum 83 = .ok (.goto (-71), 3) := by decide +kernel
theorem dX3_sum_86 : decode cX3_sum 86 = .ok (.iconst 1, 1) := by decide +kernel
theorem dX3_sum_87 : decode cX3_sum 87 = .ok (.ireturn, 1) := by decide +kernel
theorem dX3_term_0 : decode cX3_term 0 = .ok (.aload_n 0, 1) := by decide +kernel
theorem dX3_term_1 : decode cX3_term 1 = .ok (.iload_n 1, 1) := by decide +kernel
theorem dX3_term_2 : decode cX3_term 2 = .ok (.invokevirtual 235, 3) := by decide +kernel
theorem dX3_term_5 : decode cX3_term 5 = .ok (.ifCond .ne 5, 3) := by decide +kernel
theorem dX3_term_8 : decode cX3_term 8 = .ok (.iconst 0, 1) := by decide +kernel
theorem dX3_term_9 : decode cX3_term 9 = .ok (.ireturn, 1) := by decide +kernel
theorem dX3_term_10 : decode cX3_term 10 = .ok (.iconst 0, 1) := by decide +kernel
theorem dX3_term_11 : decode cX3_term 11 = .ok (.istore_n 2, 1) := by decide +kernel
theorem dX3_term_12 : decode cX3_term 12 = .ok (.iload_n 2, 1) := by decide +kernel
theorem dX3_term_13 : decode cX3_term 13 = .ok (.sipush 1700, 3) := by decide +kernel
theorem dX3_term_16 : decode cX3_term 16 = .ok (.if_icmp .ge 48, 3) := by decide +kernel
theorem dX3_term_19 : decode cX3_term 19 = .ok (.aload_n 0, 1) := by decide +kernel
theorem dX3_term_20 : decode cX3_term 20 = .ok (.getfield 24, 3) := by decide +kernel
theorem dX3_term_23 : decode cX3_term 23 = .ok (.bipush 42, 2) := by decide +kernel
theorem dX3_term_25 : decode cX3_term 25 = .ok (.invokevirtual 209, 3) := by decide +kernel
theorem dX3_term_28 : decode cX3_term 28 = .ok (.ifCond .eq 36, 3) := by decide +kernel
theorem dX3_term_31 : decode cX3_term 31 = .ok (.aload_n 0, 1) := by decide +kernel
theorem dX3_term_32 : decode cX3_term 32 = .ok (.getfield 24, 3) := by decide +kernel
theorem dX3_term_35 : decode cX3_term 35 = .ok (.invokevirtual 103, 3) := by decide +kernel
theorem dX3_term_38 : decode cX3_term 38 = .ok (.aload_n 0, 1) := by decide +kernel
theorem dX3_term_39 : decode cX3_term 39 = .ok (.iload_n 1, 1) := by decide +kernel
theorem dX3_term_40 : decode cX3_term 40 = .ok (.invokevirtual 235, 3) := by decide +kernel
theorem dX3_term_43 : decode cX3_term 43 = .ok (.ifCond .ne 5, 3) := by decide +kernel
theorem dX3_term_46 : decode cX3_term 46 = .ok (.iconst 0, 1) := by decide +kernel
theorem dX3_term_47 : decode cX3_term 47 = .ok (.ireturn, 1) := by decide +kernel
theorem dX3_term_48 : decode cX3_term 48 = .ok (.aload_n 0, 1) := by decide +kernel
theorem dX3_term_49 : decode cX3_term 49 = .ok (.getfield 43, 3) := by decide +kernel
theorem dX3_term_52 : decode cX3_term 52 = .ok (.sipush 20042, 3) := by decide +kernel
theorem dX3_term_55 : decode cX3_term 55 = .ok (.invokevirtual 219, 3) := by decide +kernel
theorem dX3_term_58 : decode cX3_term 58 = .ok (.iinc 2 1, 3) := by decide +kernel
theorem dX3_term_61 : decode cX3_term 61 = .ok (.goto (-49), 3) := by decide +kernel
theorem dX3_term_64 : decode cX3_term 64 = .ok (.iconst 1, 1) := by decide +kernel
theorem dX3_term_65 : decode cX3_term 65 = .ok (.ireturn, 1) := by decide +kernel
theorem dX3_unit_0 : decode cX3_unit 0 = .ok (.aload_n 0, 1) := by decide +kernel
theorem dX3_unit_1 : decode cX3_unit 1 = .ok (.getfield 24, 3) := by decide +kernel
theorem dX3_unit_4 : decode cX3_unit 4 = .ok (.getfield 60, 3) := by decide +kernel
theorem dX3_unit_7 : decode cX3_unit 7 = .ok (.iconst 4, 1) := by decide +kernel
theorem dX3_unit_8 : decode cX3_unit 8 = .ok (.if_icmp .ne 7, 3) := by decide +kernel
theorem dX3_unit_11 : decode cX3_unit 11 = .ok (.iconst 1, 1) := by decide +kernel
theorem dX3_unit_12 : decode cX3_unit 12 = .ok (.goto 4, 3) := by decide +kernel
theorem dX3_unit_15 : decode cX3_unit 15 = .ok (.iconst 0, 1) := by decide +kernel
theorem dX3_unit_16 : decode cX3_unit 16 = .ok (.istore_n 2, 1) := by decide +kernel
theorem dX3_unit_17 : decode cX3_unit 17 = .ok (.aload_n 0, 1) := by decide +kernel
theorem dX3_unit_18 : decode cX3_unit 18 = .ok (.getfield 24, 3) := by decide +kernel
theorem dX3_unit_21 : decode cX3_unit 21 = .ok (.getfield 60, 3) := by decide +kernel
theorem dX3_unit_24 : decode cX3_unit 24 = .ok (.iconst 2, 1) := by decide +kernel
theorem dX3_unit_25 : decode cX3_unit 25 = .ok (.if_icmp .ne 19, 3) := by decide +kernel
theorem dX3_unit_28 : decode cX3_unit 28 = .ok (.aload_n 0, 1) := by decide +kernel
theorem dX3_unit_29 : decode cX3_unit 29 = .ok (.getfield 24, 3) := by decide +kernel
theorem dX3_unit_32 : decode cX3_unit 32 = .ok (.getfield 79, 3) := by decide +kernel
theorem dX3_unit_35 : decode cX3_unit 35 = .ok (.bipush 11, 2) := by decide +kernel
theorem dX3_unit_37 : decode cX3_unit 37 = .ok (.if_icmp .ge 7, 3) := by decide +kernel
theorem dX3_unit_40 : decode cX3_unit 40 = .ok (.iconst 1, 1) := by decide +kernel
theorem dX3_unit_41 : decode cX3_unit 41 = .ok (.goto 4, 3) := by decide +kernel
theorem dX3_unit_44 : decode cX3_unit 44 = .ok (.iconst 0, 1) := by decide +kernel
theorem dX3_unit_45 : decode cX3_unit 45 = .ok (.istore_n 3, 1) := by decide +kernel
theorem dX3_unit_46 : decode cX3_unit 46 = .ok (.aload_n 0, 1) := by decide +kernel
theorem dX3_unit_47 : decode cX3_unit 47 = .ok (.getfield 24, 3) := by decide +kernel
theorem dX3_unit_50 : decode cX3_unit 50 = .ok (.bipush 40, 2) := by decide +kernel
theorem dX3_unit_52 : decode cX3_unit 52 = .ok (.invokevirtual 209, 3) := by decide +kernel
theorem dX3_unit_55 : decode cX3_unit 55 = .ok (.ifCond .eq 13, 3) := by decide +kernel
theorem dX3_unit_58 : decode cX3_unit 58 = .ok (.iload_n 1, 1) := by decide +kernel
theorem dX3_unit_59 : decode cX3_unit 59 = .ok (.bipush 6, 2) := by decide +kernel
theorem dX3_unit_61 : decode cX3_unit 61 = .ok (.if_icmp .gt 7, 3) := by decide +kernel
theorem dX3_unit_64 : decode cX3_unit 64 = .ok (.iconst 1, 1) := by decide +kernel
theorem dX3_unit_65 : decode cX3_unit 65 = .ok (.goto 4, 3) := by decide +kernel
theorem dX3_unit_68 : decode cX3_unit 68 = .ok (.iconst 0, 1) := by decide +kernel
theorem dX3_unit_69 : decode cX3_unit 69 = .ok (.istore 4, 2) := by decide +kernel
theorem dX3_unit_71 : decode cX3_unit 71 = .ok (.aload_n 0, 1) := by decide +kernel
theorem dX3_unit_72 : decode cX3_unit 72 = .ok (.getfield 43, 3) := by decide +kernel
theorem dX3_unit_75 : decode cX3_unit 75 = .ok (.getfield 238, 3) := by decide +kernel
theorem dX3_unit_78 : decode cX3_unit 78 = .ok (.bipush 80, 2) := by decide +kernel
theorem dX3_unit_80 : decode cX3_unit 80 = .ok (.if_icmp .ge 16, 3) := by decide +kernel
theorem dX3_unit_83 : decode cX3_unit 83 = .ok (.iload_n 2, 1) := by decide +kernel
theorem dX3_unit_84 : decode cX3_unit 84 = .ok (.ifCond .ne 18, 3) := by decide +kernel
theorem dX3_unit_87 : decode cX3_unit 87 = .ok (.iload_n 3, 1) := by decide +kernel
theorem dX3_unit_88 : decode cX3_unit 88 = .ok (.ifCond .ne 14, 3) := by decide +kernel
theorem dX3_unit_91 : decode cX3_unit 91 = .ok (.iload 4, 2) := by decide +kernel
theorem dX3_unit_93 : decode cX3_unit 93 = .ok (.ifCond .ne 9, 3) := by decide +kernel
theorem dX3_unit_96 : decode cX3_unit 96 = .ok (.aload_n 0, 1) := by decide +kernel
theorem dX3_unit_97 : decode cX3_unit 97 = .ok (.iconst 2, 1) := by decide +kernel
theorem dX3_unit_98 : decode cX3_unit 98 = .ok (.invokevirtual 75, 3) := by decide +kernel
theorem dX3_unit_101 : decode cX3_unit 101 = .ok (.ireturn, 1) := by decide +kernel
theorem dX3_unit_102 : decode cX3_unit 102 = .ok (.aload_n 0, 1) := by decide +kernel
theorem dX3_unit_103 : decode cX3_unit 103 = .ok (.getfield 43, 3) := by decide +kernel
theorem dX3_unit_106 : decode cX3_unit 106 = .ok (.dup, 1) := by decide +kernel
theorem dX3_unit_107 : decode cX3_unit 107 = .ok (.getfield 238, 3) := by decide +kernel
theorem dX3_unit_110 : decode cX3_unit 110 = .ok (.iconst 1, 1) := by decide +kernel
theorem dX3_unit_111 : decode cX3_unit 111 = .ok (.iadd, 1) := by decide +kernel
theorem dX3_unit_112 : decode cX3_unit 112 = .ok (.putfield 238, 3) := by decide +kernel
theorem dX3_unit_115 : decode cX3_unit 115 = .ok (.iload 4, 2) := by decide +kernel
theorem dX3_unit_117 : decode cX3_unit 117 = .ok (.ifCond .ne 35, 3) := by decide +kernel
theorem dX3_unit_120 : decode cX3_unit 120 = .ok (.aload_n 0, 1) := by decide +kernel
theorem dX3_unit_121 : decode cX3_unit 121 = .ok (.getfield 43, 3) := by decide +kernel
theorem dX3_unit_124 : decode cX3_unit 124 = .ok (.iload_n 2, 1) := by decide +kernel
theorem dX3_unit_125 : decode cX3_unit 125 = .ok (.ifCond .eq 13, 3) := by decide +kernel
theorem dX3_unit_128 : decode cX3_unit 128 = .ok (.aload_n 0, 1) := by decide +kernel
theorem dX3_unit_129 : decode cX3_unit 129 = .ok (.getfield 24, 3) := by decide +kernel
theorem dX3_unit_132 : decode cX3_unit 132 = .ok (.getfield 79, 3) := by decide +kernel
theorem dX3_unit_135 : decode cX3_unit 135 = .ok (.goto 14, 3) := by decide +kernel
theorem dX3_unit_138 : decode cX3_unit 138 = .ok (.sipush 10000, 3) := by decide +kernel
theorem dX3_unit_141 : decode cX3_unit 141 = .ok (.aload_n 0, 1) := by decide +kernel
theorem dX3_unit_142 : decode cX3_unit 142 = .ok (.getfield 24, 3) := by decide +kernel
theorem dX3_unit_145 : decode cX3_unit 145 = .ok (.getfield 79, 3) := by decide +kernel
theorem dX3_unit_148 : decode cX3_unit 148 = .ok (.iadd, 1) := by decide +kernel
theorem dX3_unit_149 : decode cX3_unit 149 = .ok (.invokevirtual 219, 3) := by decide +kernel
theorem dX3_unit_152 : decode cX3_unit 152 = .ok (.aload_n 0, 1) := by decide +kernel
theorem dX3_unit_153 : decode cX3_unit 153 = .ok (.getfield 24, 3) := by decide +kernel
theorem dX3_unit_156 : decode cX3_unit 156 = .ok (.invokevirtual 103, 3) := by decide +kernel
theorem dX3_unit_159 : decode cX3_unit 159 = .ok (.iload 4, 2) := by decide +kernel
theorem dX3_unit_161 : decode cX3_unit 161 = .ok (.ifCond .eq 13, 3) := by decide +kernel
theorem dX3_unit_164 : decode cX3_unit 164 = .ok (.aload_n 0, 1) := by decide +kernel
theorem dX3_unit_165 : decode cX3_unit 165 = .ok (.iload_n 1, 1) := by decide +kernel
theorem dX3_unit_166 : decode cX3_unit 166 = .ok (.iconst 1, 1) := by decide +kernel
theorem dX3_unit_167 : decode cX3_unit 167 = .ok (.iadd, 1) := by decide +kernel
theorem dX3_unit_168 : decode cX3_unit 168 = .ok (.invokevirtual 241, 3) := by decide +kernel
theorem dX3_unit_171 : decode cX3_unit 171 = .ok (.ifCond .eq 7, 3) := by decide +kernel
theorem dX3_unit_174 : decode cX3_unit 174 = .ok (.iconst 1, 1) := by decide +kernel
theorem dX3_unit_175 : decode cX3_unit 175 = .ok (.goto 4, 3) := by decide +kernel
theorem dX3_unit_178 : decode cX3_unit 178 = .ok (.iconst 0, 1) := by decide +kernel
theorem dX3_unit_179 : decode cX3_unit 179 = .ok (.ireturn, 1) := by decide +kernel
theorem dX3_enclosed_0 : decode cX3_enclosed 0 = .ok (.aload_n 0, 1) := by decide +kernel
theorem dX3_enclosed_1 : decode cX3_enclosed 1 = .ok (.iload_n 1, 1) := by decide +kernel
theorem dX3_enclosed_2 : decode cX3_enclosed 2 = .ok (.invokevirtual 197, 3) := by decide +kernel
theorem dX3_enclosed_5 : decode cX3_enclosed 5 = .ok (.ifCond .ne 5, 3) := by decide +kernel
theorem dX3_enclosed_8 : decode cX3_enclosed 8 = .ok (.iconst 0, 1) := by decide +kernel
theorem dX3_enclosed_9 : decode cX3_enclosed 9 = .ok (.ireturn, 1) := by decide +kernel
theorem dX3_enclosed_10 : decode cX3_enclosed 10 = .ok (.aload_n 0, 1) := by decide +kernel
theorem dX3_enclosed_11 : decode cX3_enclosed 11 = .ok (.getfield 24, 3) := by decide +kernel
theorem dX3_enclosed_14 : decode cX3_enclosed 14 = .ok (.bipush 41, 2) := by decide +kernel
theorem dX3_enclosed_16 : decode cX3_enclosed 16 = .ok (.invokevirtual 209, 3) := by decide +kernel
theorem dX3_enclosed_19 : decode cX3_enclosed 19 = .ok (.ifCond .ne 9, 3) := by decide +kernel
theorem dX3_enclosed_22 : decode cX3_enclosed 22 = .ok (.aload_n 0, 1) := by decide +kernel
theorem dX3_enclosed_23 : decode cX3_enclosed 23 = .ok (.iconst 2, 1) := by decide +kernel
theorem dX3_enclosed_24 : decode cX3_enclosed 24 = .ok (.invokevirtual 75, 3) := by decide +kernel
theorem dX3_enclosed_27 : decode cX3_enclosed 27 = .ok (.ireturn, 1) := by decide +kernel
theorem dX3_enclosed_28 : decode cX3_enclosed 28 = .ok (.aload_n 0, 1) := by decide +kernel
theorem dX3_enclosed_29 : decode cX3_enclosed 29 = .ok (.getfield 24, 3) := by decide +kernel
theorem dX3_enclosed_32 : decode cX3_enclosed 32 = .ok (.invokevirtual 103, 3) := by decide +kernel
theorem dX3_enclosed_35 : decode cX3_enclosed 35 = .ok (.iconst 1, 1) := by decide +kernel
theorem dX3_enclosed_36 : decode cX3_enclosed 36 = .ok (.ireturn, 1) := by decide +kernel
theorem dX4_init_0 : decode cX4_init 0 = .ok (.aload_n 0, 1) := by decide +kernel
theorem dX4_init_1 : decode cX4_init 1 = .ok (.invokespecial 3, 3) := by decide +kernel
theorem dX4_init_4 : decode cX4_init 4 = .ok (.aload_n 0, 1) := by decide +kernel
theorem dX4_init_5 : decode cX4_init 5 = .ok (.bipush 6, 2) := by decide +kernel
theorem dX4_init_7 : decode cX4_init 7 = .ok (.newarray .int, 2) := by decide +kernel
theorem dX4_init_9 : decode cX4_init 9 = .ok (.putfield 9, 3) := by decide +kernel
theorem dX4_init_12 : decode cX4_init 12 = .ok (.aload_n 0, 1) := by decide +kernel
theorem dX4_init_13 : decode cX4_init 13 = .ok (.bipush 6, 2) := by decide +kernel
theorem dX4_init_15 : decode cX4_init 15 = .ok (.newarray .int, 2) := by decide +kernel
theorem dX4_init_17 : decode cX4_init 17 = .ok (.putfield 15, 3) := by decide +kernel
theorem dX4_init_20 : decode cX4_init 20 = .ok (.aload_n 0, 1) := by decide +kernel
theorem dX4_init_21 : decode cX4_init 21 = .ok (.sipush 720, 3) := by decide +kernel
theorem dX4_init_24 : decode cX4_init 24 = .ok (.newarray .int, 2) := by decide +kernel
theorem dX4_init_26 : decode cX4_init 26 = .ok (.putfield 18, 3) := by decide +kernel
theorem dX4_init_29 : decode cX4_init 29 = .ok (.aload_n 0, 1) := by decide +kernel
theorem dX4_init_30 : decode cX4_init 30 = .ok (.bipush 80, 2) := by decide +kernel
theorem dX4_init_32 : decode cX4_init 32 = .ok (.newarray .int, 2) := by decide +kernel
theorem dX4_init_34 : decode cX4_init 34 = .ok (.putfield 21, 3) := by decide +kernel
theorem dX4_init_37 : decode cX4_init 37 = .ok (.return_, 1) := by decide +kernel
theorem dX4_clear_0 : decode cX4_clear 0 = .ok (.aload_n 0, 1) := by decide +kernel
theorem dX4_clear_1 : decode cX4_clear 1 = .ok (.iconst 0, 1) := by decide +kernel
theorem dX4_clear_2 : decode cX4_clear 2 = .ok (.putfield 24, 3) := by decide +kernel
theorem dX4_clear_5 : decode cX4_clear 5 = .ok (.aload_n 0, 1) := by decide +kernel
theorem dX4_clear_6 : decode cX4_clear 6 = .ok (.iconst 0, 1) := by decide +kernel
theorem dX4_clear_7 : decode cX4_clear 7 = .ok (.putfield 28, 3) := by decide +kernel
theorem dX4_clear_10 : decode cX4_clear 10 = .ok (.return_, 1) := by decide +kernel
theorem dX4_copyFrom_0 : decode cX4_copyFrom 0 = .ok (.aload_n 0, 1) := by decide +kernel
theorem dX4_copyFrom_1 : decode cX4_copyFrom 1 = .ok (.aload_n 1, 1) := by decide +kernel
theorem dX4_copyFrom_2 : decode cX4_copyFrom 2 = .ok (.getfield 24, 3) := by decide +kernel
theorem dX4_copyFrom_5 : decode cX4_copyFrom 5 = .ok (.putfield 24, 3) := by decide +kernel
theorem dX4_copyFrom_8 : decode cX4_copyFrom 8 = .ok (.aload_n 1, 1) := by decide +kernel
theorem dX4_copyFrom_9 : decode cX4_copyFrom 9 = .ok (.getfield 9, 3) := by decide +kernel
theorem dX4_copyFrom_12 : decode cX4_copyFrom 12 = .ok (.iconst 0, 1) := by decide +kernel
theorem dX4_copyFrom_13 : decode cX4_copyFrom 13 = .ok (.aload_n 0, 1) := by decide +kernel
theorem dX4_copyFrom_14 : decode cX4_copyFrom 14 = .ok (.getfield 9, 3) := by decide +kernel
theorem dX4_copyFrom_17 : decode cX4_copyFrom 17 = .ok (.iconst 0, 1) := by decide +kernel
theorem dX4_copyFrom_18 : decode cX4_copyFrom 18 = .ok (.bipush 6, 2) := by decide +kernel
theorem dX4_copyFrom_20 : decode cX4_copyFrom 20 = .ok (.invokestatic 31, 3) := by decide +kernel
theorem dX4_copyFrom_23 : decode cX4_copyFrom 23 = .ok (.aload_n 1, 1) := by decide +kernel
theorem dX4_copyFrom_24 : decode cX4_copyFrom 24 = .ok (.getfield 15, 3) := by decide +kernel
theorem dX4_copyFrom_27 : decode cX4_copyFrom 27 = .ok (.iconst 0, 1) := by decide +kernel
theorem dX4_copyFrom_28 : decode cX4_copyFrom 28 = .ok (.aload_n 0, 1) := by decide +kernel
theorem dX4_copyFrom_29 : decode cX4_copyFrom 29 = .ok (.getfield 15, 3) := by decide +kernel
theorem dX4_copyFrom_32 : decode cX4_copyFrom 32 = .ok (.iconst 0, 1) := by decide +kernel
theorem dX4_copyFrom_33 : decode cX4_copyFrom 33 = .ok (.bipush 6, 2) := by decide +kernel
theorem dX4_copyFrom_35 : decode cX4_copyFrom 35 = .ok (.invokestatic 31, 3) := by decide +kernel
theorem dX4_copyFrom_38 : decode cX4_copyFrom 38 = .ok (.aload_n 1, 1) := by decide +kernel
theorem dX4_copyFrom_39 : decode cX4_copyFrom 39 = .ok (.getfield 18, 3) := by decide +kernel
theorem dX4_copyFrom_42 : decode cX4_copyFrom 42 = .ok (.iconst 0, 1) := by decide +kernel
theorem dX4_copyFrom_43 : decode cX4_copyFrom 43 = .ok (.aload_n 0, 1) := by decide +kernel
theorem dX4_copyFrom_44 : decode cX4_copyFrom 44 = .ok (.getfield 18, 3) := by decide +kernel
theorem dX4_copyFrom_47 : decode cX4_copyFrom 47 = .ok (.iconst 0, 1) := by decide +kernel
theorem dX4_copyFrom_48 : decode cX4_copyFrom 48 = .ok (.sipush 720, 3) := by decide +kernel
theorem dX4_copyFrom_51 : decode cX4_copyFrom 51 = .ok (.invokestatic 31, 3) := by decide +kernel
theorem dX4_copyFrom_54 : decode cX4_copyFrom 54 = .ok (.return_, 1) := by decide +kernel
theorem dX4_add_0 : decode cX4_add 0 = .ok (.aload_n 0, 1) := by decide +kernel
theorem dX4_add_1 : decode cX4_add 1 = .ok (.getfield 28, 3) := by decide +kernel
theorem dX4_add_4 : decode cX4_add 4 = .ok (.sipush 720, 3) := by decide +kernel
theorem dX4_add_7 : decode cX4_add 7 = .ok (.if_icmp .ge 23, 3) := by decide +kernel
theorem dX4_add_10 : decode cX4_add 10 = .ok (.aload_n 0, 1) := by decide +kernel
theorem dX4_add_11 : decode cX4_add 11 = .ok (.getfield 18, 3) := by decide +kernel
theorem dX4_add_14 : decode cX4_add 14 = .ok (.aload_n 0, 1) := by decide +kernel
theorem dX4_add_15 : decode cX4_add 15 = .ok (.getfield 28, 3) := by decide +kernel
theorem dX4_add_18 : decode cX4_add 18 = .ok (.iload_n 1, 1) := by decide +kernel
theorem dX4_add_19 : decode cX4_add 19 = .ok (.iastore, 1) := by decide +kernel
theorem dX4_add_20 : decode cX4_add 20 = .ok (.aload_n 0, 1) := by decide +kernel
theorem dX4_add_21 : decode cX4_add 21 = .ok (.dup, 1) := by decide +kernel
theorem dX4_add_22 : decode cX4_add 22 = .ok (.getfield 28, 3) := by decide +kernel
theorem dX4_add_25 : decode cX4_add 25 = .ok (.iconst 1, 1) := by decide +kernel
theorem dX4_add_26 : decode cX4_add 26 = .ok (.iadd, 1) := by decide +kernel
theorem dX4_add_27 : decode cX4_add 27 = .ok (.putfield 28, 3) := by decide +kernel
theorem dX4_add_30 : decode cX4_add 30 = .ok (.return_, 1) := by decide +kernel
theorem dX4_value_0 : decode cX4_value 0 = .ok (.iconst 0, 1) := by decide +kernel
theorem dX4_value_1 : decode cX4_value 1 = .ok (.istore_n 3, 1) := by decide +kernel
theorem dX4_value_2 : decode cX4_value 2 = .ok (.aload_n 0, 1) := by decide +kernel
theorem dX4_value_3 : decode cX4_value 3 = .ok (.getfield 9, 3) := by decide +kernel
theorem dX4_value_6 : decode cX4_value 6 = .ok (.iload_n 1, 1) := by decide +kernel
theorem dX4_value_7 : decode cX4_value 7 = .ok (.iaload, 1) := by decide +kernel
theorem dX4_value_8 : decode cX4_value 8 = .ok (.istore 4, 2) := by decide +kernel
theorem dX4_value_10 : decode cX4_value 10 = .ok (.iload 4, 2) := by decide +kernel
theorem dX4_value_12 : decode cX4_value 12 = .ok (.aload_n 0, 1) := by decide +kernel
theorem dX4_value_13 : decode cX4_value 13 = .ok (.getfield 15, 3) := by decide +kernel
theorem dX4_value_16 : decode cX4_value 16 = .ok (.iload_n 1, 1) := by decide +kernel
theorem dX4_value_17 : decode cX4_value 17 = .ok (.iaload, 1) := by decide +kernel
theorem dX4_value_18 : decode cX4_value 18 = .ok (.if_icmp .ge 328, 3) := by decide +kernel
theorem dX4_value_21 : decode cX4_value 21 = .ok (.aload_n 0, 1) := by decide +kernel
theorem dX4_value_22 : decode cX4_value 22 = .ok (.getfield 18, 3) := by decide +kernel
theorem dX4_value_25 : decode cX4_value 25 = .ok (.iload 4, 2) := by decide +kernel
theorem dX4_value_27 : decode cX4_value 27 = .ok (.iaload, 1) := by decide +kernel
theorem dX4_value_28 : decode cX4_value 28 = .ok (.istore 5, 2) := by decide +kernel
theorem dX4_value_30 : decode cX4_value 30 = .ok (.iload 5, 2) := by decide +kernel
theorem dX4_value_32 : decode cX4_value 32 = .ok (.sipush 20000, 3) := by decide +kernel
theorem dX4_value_35 : decode cX4_value 35 = .ok (.if_icmp .ge 42, 3) := by decide +kernel
theorem dX4_value_38 : decode cX4_value 38 = .ok (.iload_n 3, 1) := by decide +kernel
theorem dX4_value_39 : decode cX4_value 39 = .ok (.bipush 80, 2) := by decide +kernel
theorem dX4_value_41 : decode cX4_value 41 = .ok (.if_icmp .ge 36, 3) := by decide +kernel
theorem dX4_value_44 : decode cX4_value 44 = .ok (.aload_n 0, 1) := by decide +kernel
theorem dX4_value_45 : decode cX4_value 45 = .ok (.getfield 21, 3) := by decide +kernel
theorem dX4_value_48 : decode cX4_value 48 = .ok (.iload_n 3, 1) := by decide +kernel
theorem dX4_value_49 : decode cX4_value 49 = .ok (.iload 5, 2) := by decide +kernel
theorem dX4_value_51 : decode cX4_value 51 = .ok (.sipush 10000, 3) := by decide +kernel
theorem dX4_value_54 : decode cX4_value 54 = .ok (.if_icmp .ge 8, 3) := by decide +kernel
theorem dX4_value_57 : decode cX4_value 57 = .ok (.iload 5, 2) := by decide +kernel
theorem dX4_value_59 : decode cX4_value 59 = .ok (.goto 11, 3) := by decide +kernel
theorem dX4_value_62 : decode cX4_value 62 = .ok (.aload_n 2, 1) := by decide +kernel
theorem dX4_value_63 : decode cX4_value 63 = .ok (.iload 5, 2) := by decide +kernel
theorem dX4_value_65 : decode cX4_value 65 = .ok (.sipush 10000, 3) := by decide +kernel
theorem dX4_value_68 : decode cX4_value 68 = .ok (.isub, 1) := by decide +kernel
theorem dX4_value_69 : decode cX4_value 69 = .ok (.iaload, 1) := by decide +kernel
theorem dX4_value_70 : decode cX4_value 70 = .ok (.iastore, 1) := by decide +kernel
theorem dX4_value_71 : decode cX4_value 71 = .ok (.iinc 3 1, 3) := by decide +kernel
theorem dX4_value_74 : decode cX4_value 74 = .ok (.goto 266, 3) := by decide +kernel
theorem dX4_value_77 : decode cX4_value 77 = .ok (.iload 5, 2) := by decide +kernel
theorem dX4_value_79 : decode cX4_value 79 = .ok (.sipush 20256, 3) := by decide +kernel
theorem dX4_value_82 : decode cX4_value 82 = .ok (.if_icmp .ne 34, 3) := by decide +kernel
theorem dX4_value_85 : decode cX4_value 85 = .ok (.iload_n 3, 1) := by decide +kernel
theorem dX4_value_86 : decode cX4_value 86 = .ok (.ifCond .le 30, 3) := by decide +kernel
theorem dX4_value_89 : decode cX4_value 89 = .ok (.aload_n 0, 1) := by decide +kernel
theorem dX4_value_90 : decode cX4_value 90 = .ok (.getfield 21, 3) := by decide +kernel
theorem dX4_value_93 : decode cX4_value 93 = .ok (.iload_n 3, 1) := by decide +kernel
theorem dX4_value_94 : decode cX4_value 94 = .ok (.iconst 1, 1) := by decide +kernel
theorem dX4_value_95 : decode cX4_value 95 = .ok (.isub, 1) := by decide +kernel
theorem dX4_value_96 : decode cX4_value 96 = .ok (.aload_n 0, 1) := by decide +kernel
theorem dX4_value_97 : decode cX4_value 97 = .ok (.getfield 21, 3) := by decide +kernel
theorem dX4_value_100 : decode cX4_value 100 = .ok (.iload_n 3, 1) := by decide +kernel
theorem dX4_value_101 : decode cX4_value 101 = .ok (.iconst 1, 1) := by decide +kernel
theorem dX4_value_102 : decode cX4_value 102 = .ok (.isub, 1) := by decide +kernel
theorem dX4_value_103 : decode cX4_value 103 = .ok (.iaload, 1) := by decide +kernel
theorem dX4_value_104 : decode cX4_value 104 = .ok (.ifCond .ne 7, 3) := by decide +kernel
theorem dX4_value_107 : decode cX4_value 107 = .ok (.iconst 1, 1) := by decide +kernel
theorem dX4_value_108 : decode cX4_value 108 = .ok (.goto 4, 3) := by decide +kernel
theorem dX4_value_111 : decode cX4_value 111 = .ok (.iconst 0, 1) := by decide +kernel
theorem dX4_value_112 : decode cX4_value 112 = .ok (.iastore, 1) := by decide +kernel
theorem dX4_value_113 : decode cX4_value 113 = .ok (.goto 227, 3) := by decide +kernel
theorem dX4_value_116 : decode cX4_value 116 = .ok (.iload_n 3, 1) := by decide +kernel
theorem dX4_value_117 : decode cX4_value 117 = .ok (.iconst 1, 1) := by decide +kernel
theorem dX4_value_118 : decode cX4_value 118 = .ok (.if_icmp .le 222, 3) := by decide +kernel
theorem dX4_value_121 : decode cX4_value 121 = .ok (.iinc 3 (-1), 3) := by decide +kernel
theorem dX4_value_124 : decode cX4_value 124 = .ok (.aload_n 0, 1) := by decide +kernel
theorem dX4_value_125 : decode cX4_value 125 = .ok (.getfield 21, 3) := by decide +kernel
theorem dX4_value_128 : decode cX4_value 128 = .ok (.iload_n 3, 1) := by decide +kernel
theorem dX4_value_129 : decode cX4_value 129 = .ok (.iconst 1, 1) := by decide +kernel
theorem dX4_value_130 : decode cX4_value 130 = .ok (.isub, 1) := by decide +kernel
theorem dX4_value_131 : decode cX4_value 131 = .ok (.iaload, 1) := by decide +kernel
theorem dX4_value_132 : decode cX4_value 132 = .ok (.istore 6, 2) := by decide +kernel
theorem dX4_value_134 : decode cX4_value 134 = .ok (.aload_n 0, 1) := by decide +kernel
theorem dX4_value_135 : decode cX4_value 135 = .ok (.getfield 21, 3) := by decide +kernel
theorem dX4_value_138 : decode cX4_value 138 = .ok (.iload_n 3, 1) := by decide +kernel
theorem dX4_value_139 : decode cX4_value 139 = .ok (.iaload, 1) := by decide +kernel
theorem dX4_value_140 : decode cX4_value 140 = .ok (.istore 7, 2) := by decide +kernel
theorem dX4_value_142 : decode cX4_value 142 = .ok (.iload 5, 2) := by decide +kernel
theorem dX4_value_144 : decode cX4_value 144 = .ok (.lookupswitch 169 #[(20042, 88), (20043, 68), (20045, 78), (20060, 98), (20061, 132), (20062, 115), (20257, 149)], 68) := by decide +kernel
theorem dX4_value_212 : decode cX4_value 212 = .ok (.iload 6, 2) := by decide +kernel
theorem dX4_value_214 : decode cX4_value 214 = .ok (.iload 7, 2) := by decide +kernel
theorem dX4_value_216 : decode cX4_value 216 = .ok (.iadd, 1) := by decide +kernel
theorem dX4_value_217 : decode cX4_value 217 = .ok (.istore 6, 2) := by decide +kernel
theorem dX4_value_219 : decode cX4_value 219 = .ok (.goto 111, 3) := by decide +kernel
theorem dX4_value_222 : decode cX4_value 222 = .ok (.iload 6, 2) := by decide +kernel
theorem dX4_value_224 : decode cX4_value 224 = .ok (.iload 7, 2) := by decide +kernel
theorem dX4_value_226 : decode cX4_value 226 = .ok (.isub, 1) := by decide +kernel
theorem dX4_value_227 : decode cX4_value 227 = .ok (.istore 6, 2) := by decide +kernel
theorem dX4_value_229 : decode cX4_value 229 = .ok (.goto 101, 3) := by decide +kernel
theorem dX4_value_232 : decode cX4_value 232 = .ok (.iload 6, 2) := by decide +kernel
theorem dX4_value_234 : decode cX4_value 234 = .ok (.iload 7, 2) := by decide +kernel
theorem dX4_value_236 : decode cX4_value 236 = .ok (.imul, 1) := by decide +kernel
theorem dX4_value_237 : decode cX4_value 237 = .ok (.istore 6, 2) := by decide +kernel
theorem dX4_value_239 : decode cX4_value 239 = .ok (.goto 91, 3) := by decide +kernel
theorem dX4_value_242 : decode cX4_value 242 = .ok (.iload 6, 2) := by decide +kernel
theorem dX4_value_244 : decode cX4_value 244 = .ok (.iload 7, 2) := by decide +kernel
theorem dX4_value_246 : decode cX4_value 246 = .ok (.if_icmp .ge 7, 3) := by decide +kernel
theorem dX4_value_249 : decode cX4_value 249 = .ok (.iconst 1, 1) := by decide +kernel
theorem dX4_value_250 : decode cX4_value 250 = .ok (.goto 4, 3) := by decide +kernel
theorem dX4_value_253 : decode cX4_value 253 = .ok (.iconst 0, 1) := by decide +kernel
theorem dX4_value_254 : decode cX4_value 254 = .ok (.istore 6, 2) := by decide +kernel
theorem dX4_value_256 : decode cX4_value 256 = .ok (.goto 74, 3) := by decide +kernel
theorem dX4_value_259 : decode cX4_value 259 = .ok (.iload 6, 2) := by decide +kernel
theorem dX4_value_261 : decode cX4_value 261 = .ok (.iload 7, 2) := by decide +kernel
theorem dX4_value_263 : decode cX4_value 263 = .ok (.if_icmp .le 7, 3) := by decide +kernel
theorem dX4_value_266 : decode cX4_value 266 = .ok (.iconst 1, 1) := by decide +kernel
theorem dX4_value_267 : decode cX4_value 267 = .ok (.goto 4, 3) := by decide +kernel
theorem dX4_value_270 : decode cX4_value 270 = .ok (.iconst 0, 1) := by decide +kernel
theorem dX4_value_271 : decode cX4_value 271 = .ok (.istore 6, 2) := by decide +kernel
theorem dX4_value_273 : decode cX4_value 273 = .ok (.goto 57, 3) := by decide +kernel
theorem dX4_value_276 : decode cX4_value 276 = .ok (.iload 6, 2) := by decide +kernel
theorem dX4_value_278 : decode cX4_value 278 = .ok (.iload 7, 2) := by decide +kernel
theorem dX4_value_280 : decode cX4_value 280 = .ok (.if_icmp .ne 7, 3) := by decide +kernel
theorem dX4_value_283 : decode cX4_value 283 = .ok (.iconst 1, 1) := by decide +kernel
theorem dX4_value_284 : decode cX4_value 284 = .ok (.goto 4, 3) := by decide +kernel
theorem dX4_value_287 : decode cX4_value 287 = .ok (.iconst 0, 1) := by decide +kernel
theorem dX4_value_288 : decode cX4_value 288 = .ok (.istore 6, 2) := by decide +kernel
theorem dX4_value_290 : decode cX4_value 290 = .ok (.goto 40, 3) := by decide +kernel
theorem dX4_value_293 : decode cX4_value 293 = .ok (.iload 6, 2) := by decide +kernel
theorem dX4_value_295 : decode cX4_value 295 = .ok (.ifCond .eq 12, 3) := by decide +kernel
theorem dX4_value_298 : decode cX4_value 298 = .ok (.iload 7, 2) := by decide +kernel
theorem dX4_value_300 : decode cX4_value 300 = .ok (.ifCond .eq 7, 3) := by decide +kernel
theorem dX4_value_303 : decode cX4_value 303 = .ok (.iconst 1, 1) := by decide +kernel
theorem dX4_value_304 : decode cX4_value 304 = .ok (.goto 4, 3) := by decide +kernel
theorem dX4_value_307 : decode cX4_value 307 = .ok (.iconst 0, 1) := by decide +kernel
theorem dX4_value_308 : decode cX4_value 308 = .ok (.istore 6, 2) := by decide +kernel
theorem dX4_value_310 : decode cX4_value 310 = .ok (.goto 20, 3) := by decide +kernel
theorem dX4_value_313 : decode cX4_value 313 = .ok (.iload 6, 2) := by decide +kernel
theorem dX4_value_315 : decode cX4_value 315 = .ok (.ifCond .ne 8, 3) := by decide +kernel
theorem dX4_value_318 : decode cX4_value 318 = .ok (.iload 7, 2) := by decide +kernel
theorem dX4_value_320 : decode cX4_value 320 = .ok (.ifCond .eq 7, 3) := by decide +kernel
theorem dX4_value_323 : decode cX4_value 323 = .ok (.iconst 1, 1) := by decide +kernel
theorem dX4_value_324 : decode cX4_value 324 = .ok (.goto 4, 3) := by decide +kernel
theorem dX4_value_327 : decode cX4_value 327 = .ok (.iconst 0, 1) := by decide +kernel
theorem dX4_value_328 : decode cX4_value 328 = .ok (.istore 6, 2) := by decide +kernel
theorem dX4_value_330 : decode cX4_value 330 = .ok (.aload_n 0, 1) := by decide +kernel
theorem dX4_value_331 : decode cX4_value 331 = .ok (.getfield 21, 3) := by decide +kernel
theorem dX4_value_334 : decode cX4_value 334 = .ok (.iload_n 3, 1) := by decide +kernel
theorem dX4_value_335 : decode cX4_value 335 = .ok (.iconst 1, 1) := by decide +kernel
theorem dX4_value_336 : decode cX4_value 336 = .ok (.isub, 1) := by decide +kernel
theorem dX4_value_337 : decode cX4_value 337 = .ok (.iload 6, 2) := by decide +kernel
theorem dX4_value_339 : decode cX4_value 339 = .ok (.iastore, 1) := by decide +kernel
theorem dX4_value_340 : decode cX4_value 340 = .ok (.iinc 4 1, 3) := by decide +kernel
theorem dX4_value_343 : decode cX4_value 343 = .ok (.goto (-333), 3) := by decide +kernel
theorem dX4_value_346 : decode cX4_value 346 = .ok (.iload_n 3, 1) := by decide +kernel
theorem dX4_value_347 : decode cX4_value 347 = .ok (.ifCond .le 12, 3) := by decide +kernel
theorem dX4_value_350 : decode cX4_value 350 = .ok (.aload_n 0, 1) := by decide +kernel
theorem dX4_value_351 : decode cX4_value 351 = .ok (.getfield 21, 3) := by decide +kernel
theorem dX4_value_354 : decode cX4_value 354 = .ok (.iconst 0, 1) := by decide +kernel
theorem dX4_value_355 : decode cX4_value 355 = .ok (.iaload, 1) := by decide +kernel
theorem dX4_value_356 : decode cX4_value 356 = .ok (.goto 4, 3) := by decide +kernel
theorem dX4_value_359 : decode cX4_value 359 = .ok (.iconst 0, 1) := by decide +kernel
theorem dX4_value_360 : decode cX4_value 360 = .ok (.ireturn, 1) := by decide +kernel
theorem dX5_init_0 : decode cX5_init 0 = .ok (.aload_n 0, 1) := by decide +kernel
theorem dX5_init_1 : decode cX5_init 1 = .ok (.invokespecial 3, 3) := by decide +kernel
theorem dX5_init_4 : decode cX5_init 4 = .ok (.aload_n 0, 1) := by decide +kernel
theorem dX5_init_5 : decode cX5_init 5 = .ok (.bipush 66, 2) := by decide +kernel
theorem dX5_init_7 : decode cX5_init 7 = .ok (.newarray .int, 2) := by decide +kernel
theorem dX5_init_9 : decode cX5_init 9 = .ok (.putfield 9, 3) := by decide +kernel
theorem dX5_init_12 : decode cX5_init 12 = .ok (.aload_n 0, 1) := by decide +kernel
theorem dX5_init_13 : decode cX5_init 13 = .ok (.bipush 6, 2) := by decide +kernel
theorem dX5_init_15 : decode cX5_init 15 = .ok (.newarray .int, 2) := by decide +kernel
theorem dX5_init_17 : decode cX5_init 17 = .ok (.putfield 15, 3) := by decide +kernel
theorem dX5_init_20 : decode cX5_init 20 = .ok (.aload_n 0, 1) := by decide +kernel
theorem dX5_init_21 : decode cX5_init 21 = .ok (.bipush 6, 2) := by decide +kernel
theorem dX5_init_23 : decode cX5_init 23 = .ok (.newarray .int, 2) := by decide +kernel
theorem dX5_init_25 : decode cX5_init 25 = .ok (.putfield 18, 3) := by decide +kernel
theorem dX5_init_28 : decode cX5_init 28 = .ok (.aload_n 0, 1) := by decide +kernel
theorem dX5_init_29 : decode cX5_init 29 = .ok (.bipush 6, 2) := by decide +kernel
theorem dX5_init_31 : decode cX5_init 31 = .ok (.newarray .int, 2) := by decide +kernel
theorem dX5_init_33 : decode cX5_init 33 = .ok (.putfield 21, 3) := by decide +kernel
theorem dX5_init_36 : decode cX5_init 36 = .ok (.aload_n 0, 1) := by decide +kernel
theorem dX5_init_37 : decode cX5_init 37 = .ok (.aload_n 1, 1) := by decide +kernel
theorem dX5_init_38 : decode cX5_init 38 = .ok (.putfield 24, 3) := by decide +kernel
theorem dX5_init_41 : decode cX5_init 41 = .ok (.aload_n 0, 1) := by decide +kernel
theorem dX5_init_42 : decode cX5_init 42 = .ok (.aload_n 2, 1) := by decide +kernel
theorem dX5_init_43 : decode cX5_init 43 = .ok (.putfield 28, 3) := by decide +kernel
theorem dX5_init_46 : decode cX5_init 46 = .ok (.return_, 1) := by decide +kernel
theorem dX5_isSpent_0 : decode cX5_isSpent 0 = .ok (.iconst 1, 1) := by decide +kernel
theorem dX5_isSpent_1 : decode cX5_isSpent 1 = .ok (.istore_n 1, 1) := by decide +kernel
theorem dX5_isSpent_2 : decode cX5_isSpent 2 = .ok (.iconst 0, 1) := by decide +kernel
theorem dX5_isSpent_3 : decode cX5_isSpent 3 = .ok (.istore_n 2, 1) := by decide +kernel
theorem dX5_isSpent_4 : decode cX5_isSpent 4 = .ok (.iload_n 2, 1) := by decide +kernel
theorem dX5_isSpent_5 : decode cX5_isSpent 5 = .ok (.aload_n 0, 1) := by decide +kernel
theorem dX5_isSpent_6 : decode cX5_isSpent 6 = .ok (.getfield 24, 3) := by decide +kernel
theorem dX5_isSpent_9 : decode cX5_isSpent 9 = .ok (.getfield 32, 3) := by decide +kernel
theorem dX5_isSpent_12 : decode cX5_isSpent 12 = .ok (.if_icmp .ge 21, 3) := by decide +kernel
theorem dX5_isSpent_15 : decode cX5_isSpent 15 = .ok (.iload_n 1, 1) := by decide +kernel
theorem dX5_isSpent_16 : decode cX5_isSpent 16 = .ok (.aload_n 0, 1) := by decide +kernel
theorem dX5_isSpent_17 : decode cX5_isSpent 17 = .ok (.getfield 24, 3) := by decide +kernel
theorem dX5_isSpent_20 : decode cX5_isSpent 20 = .ok (.getfield 38, 3) := by decide +kernel
theorem dX5_isSpent_23 : decode cX5_isSpent 23 = .ok (.iconst 1, 1) := by decide +kernel
theorem dX5_isSpent_24 : decode cX5_isSpent 24 = .ok (.iadd, 1) := by decide +kernel
theorem dX5_isSpent_25 : decode cX5_isSpent 25 = .ok (.imul, 1) := by decide +kernel
theorem dX5_isSpent_26 : decode cX5_isSpent 26 = .ok (.istore_n 1, 1) := by decide +kernel
theorem dX5_isSpent_27 : decode cX5_isSpent 27 = .ok (.iinc 2 1, 3) := by decide +kernel
theorem dX5_isSpent_30 : decode cX5_isSpent 30 = .ok (.goto (-26), 3) := by decide +kernel
theorem dX5_isSpent_33 : decode cX5_isSpent 33 = .ok (.iload_n 1, 1) := by decide +kernel
theorem dX5_isSpent_34 : decode cX5_isSpent 34 = .ok (.sipush 20000, 3) := by decide +kernel
theorem dX5_isSpent_37 : decode cX5_isSpent 37 = .ok (.if_icmp .le 7, 3) := by decide +kernel
theorem dX5_isSpent_40 : decode cX5_isSpent 40 = .ok (.iconst 1, 1) := by decide +kernel
theorem dX5_isSpent_41 : decode cX5_isSpent 41 = .ok (.goto 4, 3) := by decide +kernel
theorem dX5_isSpent_44 : decode cX5_isSpent 44 = .ok (.iconst 0, 1) := by decide +kernel
theorem dX5_isSpent_45 : decode cX5_isSpent 45 = .ok (.ireturn, 1) := by decide +kernel
theorem dX5_seek_0 : decode cX5_seek 0 = .ok (.aload_n 0, 1) := by decide +kernel
theorem dX5_seek_1 : decode cX5_seek 1 = .ok (.iconst 0, 1) := by decide +kernel
theorem dX5_seek_2 : decode cX5_seek 2 = .ok (.putfield 41, 3) := by decide +kernel
theorem dX5_seek_5 : decode cX5_seek 5 = .ok (.aload_n 0, 1) := by decide +kernel
theorem dX5_seek_6 : decode cX5_seek 6 = .ok (.iconst 0, 1) := by decide +kernel
theorem dX5_seek_7 : decode cX5_seek 7 = .ok (.putfield 44, 3) := by decide +kernel
theorem dX5_seek_10 : decode cX5_seek 10 = .ok (.aload_n 0, 1) := by decide +kernel
theorem dX5_seek_11 : decode cX5_seek 11 = .ok (.bipush 6, 2) := by decide +kernel
theorem dX5_seek_13 : decode cX5_seek 13 = .ok (.putfield 47, 3) := by decide +kernel
theorem dX5_seek_16 : decode cX5_seek 16 = .ok (.aload_n 0, 1) := by decide +kernel
theorem dX5_seek_17 : decode cX5_seek 17 = .ok (.invokevirtual 50, 3) := by decide +kernel
theorem dX5_seek_20 : decode cX5_seek 20 = .ok (.iconst 1, 1) := by decide +kernel
theorem dX5_seek_21 : decode cX5_seek 21 = .ok (.istore_n 2, 1) := by decide +kernel
theorem dX5_seek_22 : decode cX5_seek 22 = .ok (.iconst 0, 1) := by decide +kernel
theorem dX5_seek_23 : decode cX5_seek 23 = .ok (.istore_n 3, 1) := by decide +kernel
theorem dX5_seek_24 : decode cX5_seek 24 = .ok (.iload_n 3, 1) := by decide +kernel
theorem dX5_seek_25 : decode cX5_seek 25 = .ok (.sipush 20000, 3) := by decide +kernel
theorem dX5_seek_28 : decode cX5_seek 28 = .ok (.if_icmp .ge 75, 3) := by decide +kernel
theorem dX5_seek_31 : decode cX5_seek 31 = .ok (.iload_n 2, 1) := by decide +kernel
theorem dX5_seek_32 : decode cX5_seek 32 = .ok (.ifCond .eq 71, 3) := by decide +kernel
theorem dX5_seek_35 : decode cX5_seek 35 = .ok (.aload_n 0, 1) := by decide +kernel
theorem dX5_seek_36 : decode cX5_seek 36 = .ok (.invokevirtual 53, 3) := by decide +kernel
theorem dX5_seek_39 : decode cX5_seek 39 = .ok (.ifCond .eq 53, 3) := by decide +kernel
theorem dX5_seek_42 : decode cX5_seek 42 = .ok (.aload_n 0, 1) := by decide +kernel
theorem dX5_seek_43 : decode cX5_seek 43 = .ok (.getfield 41, 3) := by decide +kernel
theorem dX5_seek_46 : decode cX5_seek 46 = .ok (.iload_n 1, 1) := by decide +kernel
theorem dX5_seek_47 : decode cX5_seek 47 = .ok (.if_icmp .ne 5, 3) := by decide +kernel
theorem dX5_seek_50 : decode cX5_seek 50 = .ok (.iconst 1, 1) := by decide +kernel
theorem dX5_seek_51 : decode cX5_seek 51 = .ok (.ireturn, 1) := by decide +kernel
theorem dX5_seek_52 : decode cX5_seek 52 = .ok (.aload_n 0, 1) := by decide +kernel
theorem dX5_seek_53 : decode cX5_seek 53 = .ok (.dup, 1) := by decide +kernel
theorem dX5_seek_54 : decode cX5_seek 54 = .ok (.getfield 41, 3) := by decide +kernel
theorem dX5_seek_57 : decode cX5_seek 57 = .ok (.iconst 1, 1) := by decide +kernel
theorem dX5_seek_58 : decode cX5_seek 58 = .ok (.iadd, 1) := by decide +kernel
theorem dX5_seek_59 : decode cX5_seek 59 = .ok (.putfield 41, 3) := by decide +kernel
theorem dX5_seek_62 : decode cX5_seek 62 = .ok (.aload_n 0, 1) := by decide +kernel
theorem dX5_seek_63 : decode cX5_seek 63 = .ok (.aload_n 0, 1) := by decide +kernel
theorem dX5_seek_64 : decode cX5_seek 64 = .ok (.getfield 44, 3) := by decide +kernel
theorem dX5_seek_67 : decode cX5_seek 67 = .ok (.aload_n 0, 1) := by decide +kernel
theorem dX5_seek_68 : decode cX5_seek 68 = .ok (.invokevirtual 57, 3) := by decide +kernel
theorem dX5_seek_71 : decode cX5_seek 71 = .ok (.invokestatic 61, 3) := by decide +kernel
theorem dX5_seek_74 : decode cX5_seek 74 = .ok (.putfield 44, 3) := by decide +kernel
theorem dX5_seek_77 : decode cX5_seek 77 = .ok (.aload_n 0, 1) := by decide +kernel
theorem dX5_seek_78 : decode cX5_seek 78 = .ok (.aload_n 0, 1) := by decide +kernel
theorem dX5_seek_79 : decode cX5_seek 79 = .ok (.getfield 47, 3) := by decide +kernel
theorem dX5_seek_82 : decode cX5_seek 82 = .ok (.aload_n 0, 1) := by decide +kernel
theorem dX5_seek_83 : decode cX5_seek 83 = .ok (.invokevirtual 67, 3) := by decide +kernel
theorem dX5_seek_86 : decode cX5_seek 86 = .ok (.invokestatic 70, 3) := by decide +kernel
theorem dX5_seek_89 : decode cX5_seek 89 = .ok (.putfield 47, 3) := by decide +kernel
theorem dX5_seek_92 : decode cX5_seek 92 = .ok (.aload_n 0, 1) := by decide +kernel
theorem dX5_seek_93 : decode cX5_seek 93 = .ok (.invokevirtual 73, 3) := by decide +kernel
theorem dX5_seek_96 : decode cX5_seek 96 = .ok (.istore_n 2, 1) := by decide +kernel
theorem dX5_seek_97 : decode cX5_seek 97 = .ok (.iinc 3 1, 3) := by decide +kernel
theorem dX5_seek_100 : decode cX5_seek 100 = .ok (.goto (-76), 3) := by decide +kernel
theorem dX5_seek_103 : decode cX5_seek 103 = .ok (.iconst 0, 1) := by decide +kernel
theorem dX5_seek_104 : decode cX5_seek 104 = .ok (.ireturn, 1) := by decide +kernel
theorem dX5_listChoices_0 : decode cX5_listChoices 0 = .ok (.iconst 0, 1) := by decide +kernel
theorem dX5_listChoices_1 : decode cX5_listChoices 1 = .ok (.istore_n 1, 1) := by decide +kernel
theorem dX5_listChoices_2 : decode cX5_listChoices 2 = .ok (.iload_n 1, 1) := by decide +kernel
theorem dX5_listChoices_3 : decode cX5_listChoices 3 = .ok (.aload_n 0, 1) := by decide +kernel
theorem dX5_listChoices_4 : decode cX5_listChoices 4 = .ok (.getfield 24, 3) := by decide +kernel
theorem dX5_listChoices_7 : decode cX5_listChoices 7 = .ok (.getfield 32, 3) := by decide +kernel
theorem dX5_listChoices_10 : decode cX5_listChoices 10 = .ok (.if_icmp .ge 111, 3) := by decide +kernel
theorem dX5_listChoices_13 : decode cX5_listChoices 13 = .ok (.aload_n 0, 1) := by decide +kernel
theorem dX5_listChoices_14 : decode cX5_listChoices 14 = .ok (.getfield 15, 3) := by decide +kernel
theorem dX5_listChoices_17 : decode cX5_listChoices 17 = .ok (.iload_n 1, 1) := by decide +kernel
theorem dX5_listChoices_18 : decode cX5_listChoices 18 = .ok (.iconst 0, 1) := by decide +kernel
theorem dX5_listChoices_19 : decode cX5_listChoices 19 = .ok (.iastore, 1) := by decide +kernel
theorem dX5_listChoices_20 : decode cX5_listChoices 20 = .ok (.iconst 0, 1) := by decide +kernel
theorem dX5_listChoices_21 : decode cX5_listChoices 21 = .ok (.istore_n 2, 1) := by decide +kernel
theorem dX5_listChoices_22 : decode cX5_listChoices 22 = .ok (.iload_n 2, 1) := by decide +kernel
theorem dX5_listChoices_23 : decode cX5_listChoices 23 = .ok (.aload_n 0, 1) := by decide +kernel
theorem dX5_listChoices_24 : decode cX5_listChoices 24 = .ok (.getfield 24, 3) := by decide +kernel
theorem dX5_listChoices_27 : decode cX5_listChoices 27 = .ok (.getfield 38, 3) := by decide +kernel
theorem dX5_listChoices_30 : decode cX5_listChoices 30 = .ok (.if_icmp .ge 73, 3) := by decide +kernel
theorem dX5_listChoices_33 : decode cX5_listChoices 33 = .ok (.aload_n 0, 1) := by decide +kernel
theorem dX5_listChoices_34 : decode cX5_listChoices 34 = .ok (.getfield 24, 3) := by decide +kernel
theorem dX5_listChoices_37 : decode cX5_listChoices 37 = .ok (.getfield 76, 3) := by decide +kernel
theorem dX5_listChoices_40 : decode cX5_listChoices 40 = .ok (.iload_n 2, 1) := by decide +kernel
theorem dX5_listChoices_41 : decode cX5_listChoices 41 = .ok (.iaload, 1) := by decide +kernel
theorem dX5_listChoices_42 : decode cX5_listChoices 42 = .ok (.istore_n 3, 1) := by decide +kernel
theorem dX5_listChoices_43 : decode cX5_listChoices 43 = .ok (.aload_n 0, 1) := by decide +kernel
theorem dX5_listChoices_44 : decode cX5_listChoices 44 = .ok (.iload_n 1, 1) := by decide +kernel
theorem dX5_listChoices_45 : decode cX5_listChoices 45 = .ok (.iload_n 2, 1) := by decide +kernel
theorem dX5_listChoices_46 : decode cX5_listChoices 46 = .ok (.invokevirtual 79, 3) := by decide +kernel
theorem dX5_listChoices_49 : decode cX5_listChoices 49 = .ok (.bipush 60, 2) := by decide +kernel
theorem dX5_listChoices_51 : decode cX5_listChoices 51 = .ok (.aload_n 0, 1) := by decide +kernel
theorem dX5_listChoices_52 : decode cX5_listChoices 52 = .ok (.getfield 24, 3) := by decide +kernel
theorem dX5_listChoices_55 : decode cX5_listChoices 55 = .ok (.getfield 82, 3) := by decide +kernel
theorem dX5_listChoices_58 : decode cX5_listChoices 58 = .ok (.getfield 86, 3) := by decide +kernel
theorem dX5_listChoices_61 : decode cX5_listChoices 61 = .ok (.iload_n 3, 1) := by decide +kernel
theorem dX5_listChoices_62 : decode cX5_listChoices 62 = .ok (.iaload, 1) := by decide +kernel
theorem dX5_listChoices_63 : decode cX5_listChoices 63 = .ok (.iadd, 1) := by decide +kernel
theorem dX5_listChoices_64 : decode cX5_listChoices 64 = .ok (.if_icmp .gt 7, 3) := by decide +kernel
theorem dX5_listChoices_67 : decode cX5_listChoices 67 = .ok (.iconst 1, 1) := by decide +kernel
theorem dX5_listChoices_68 : decode cX5_listChoices 68 = .ok (.goto 4, 3) := by decide +kernel
theorem dX5_listChoices_71 : decode cX5_listChoices 71 = .ok (.iconst 0, 1) := by decide +kernel
theorem dX5_listChoices_72 : decode cX5_listChoices 72 = .ok (.istore 4, 2) := by decide +kernel
theorem dX5_listChoices_74 : decode cX5_listChoices 74 = .ok (.iload 4, 2) := by decide +kernel
theorem dX5_listChoices_76 : decode cX5_listChoices 76 = .ok (.ifCond .eq 21, 3) := by decide +kernel
theorem dX5_listChoices_79 : decode cX5_listChoices 79 = .ok (.aload_n 0, 1) := by decide +kernel
theorem dX5_listChoices_80 : decode cX5_listChoices 80 = .ok (.getfield 28, 3) := by decide +kernel
theorem dX5_listChoices_83 : decode cX5_listChoices 83 = .ok (.getfield 91, 3) := by decide +kernel
theorem dX5_listChoices_86 : decode cX5_listChoices 86 = .ok (.iload_n 2, 1) := by decide +kernel
theorem dX5_listChoices_87 : decode cX5_listChoices 87 = .ok (.baload, 1) := by decide +kernel
theorem dX5_listChoices_88 : decode cX5_listChoices 88 = .ok (.ifCond .ne 9, 3) := by decide +kernel
theorem dX5_listChoices_91 : decode cX5_listChoices 91 = .ok (.aload_n 0, 1) := by decide +kernel
theorem dX5_listChoices_92 : decode cX5_listChoices 92 = .ok (.iload_n 1, 1) := by decide +kernel
theorem dX5_listChoices_93 : decode cX5_listChoices 93 = .ok (.iload_n 2, 1) := by decide +kernel
theorem dX5_listChoices_94 : decode cX5_listChoices 94 = .ok (.invokevirtual 97, 3) := by decide +kernel
theorem dX5_listChoices_97 : decode cX5_listChoices 97 = .ok (.iinc 2 1, 3) := by decide +kernel
theorem dX5_listChoices_100 : decode cX5_listChoices 100 = .ok (.goto (-78), 3) := by decide +kernel
theorem dX5_listChoices_103 : decode cX5_listChoices 103 = .ok (.aload_n 0, 1) := by decide +kernel
theorem dX5_listChoices_104 : decode cX5_listChoices 104 = .ok (.iload_n 1, 1) := by decide +kernel
theorem dX5_listChoices_105 : decode cX5_listChoices 105 = .ok (.iconst (-1), 1) := by decide +kernel
theorem dX5_listChoices_106 : decode cX5_listChoices 106 = .ok (.invokevirtual 97, 3) := by decide +kernel
theorem dX5_listChoices_109 : decode cX5_listChoices 109 = .ok (.aload_n 0, 1) := by decide +kernel
theorem dX5_listChoices_110 : decode cX5_listChoices 110 = .ok (.iload_n 1, 1) := by decide +kernel
theorem dX5_listChoices_111 : decode cX5_listChoices 111 = .ok (.iconst 0, 1) := by decide +kernel
theorem dX5_listChoices_112 : decode cX5_listChoices 112 = .ok (.invokevirtual 101, 3) := by decide +kernel
theorem dX5_listChoices_115 : decode cX5_listChoices 115 = .ok (.iinc 1 1, 3) := by decide +kernel
theorem dX5_listChoices_118 : decode cX5_listChoices 118 = .ok (.goto (-116), 3) := by decide +kernel
theorem dX5_listChoices_121 : decode cX5_listChoices 121 = .ok (.return_, 1) := by decide +kernel
theorem dX5_addChoice_0 : decode cX5_addChoice 0 = .ok (.aload_n 0, 1) := by decide +kernel
theorem dX5_addChoice_1 : decode cX5_addChoice 1 = .ok (.getfield 9, 3) := by decide +kernel
theorem dX5_addChoice_4 : decode cX5_addChoice 4 = .ok (.iload_n 1, 1) := by decide +kernel
theorem dX5_addChoice_5 : decode cX5_addChoice 5 = .ok (.bipush 11, 2) := by decide +kernel
theorem dX5_addChoice_7 : decode cX5_addChoice 7 = .ok (.imul, 1) := by decide +kernel
theorem dX5_addChoice_8 : decode cX5_addChoice 8 = .ok (.aload_n 0, 1) := by decide +kernel
theorem dX5_addChoice_9 : decode cX5_addChoice 9 = .ok (.getfield 15, 3) := by decide +kernel
theorem dX5_addChoice_12 : decode cX5_addChoice 12 = .ok (.iload_n 1, 1) := by decide +kernel
theorem dX5_addChoice_13 : decode cX5_addChoice 13 = .ok (.iaload, 1) := by decide +kernel
theorem dX5_addChoice_14 : decode cX5_addChoice 14 = .ok (.iadd, 1) := by decide +kernel
theorem dX5_addChoice_15 : decode cX5_addChoice 15 = .ok (.iload_n 2, 1) := by decide +kernel
theorem dX5_addChoice_16 : decode cX5_addChoice 16 = .ok (.iastore, 1) := by decide +kernel
theorem dX5_addChoice_17 : decode cX5_addChoice 17 = .ok (.aload_n 0, 1) := by decide +kernel
theorem dX5_addChoice_18 : decode cX5_addChoice 18 = .ok (.getfield 15, 3) := by decide +kernel
theorem dX5_addChoice_21 : decode cX5_addChoice 21 = .ok (.iload_n 1, 1) := by decide +kernel
theorem dX5_addChoice_22 : decode cX5_addChoice 22 = .ok (.dup2, 1) := by decide +kernel
theorem dX5_addChoice_23 : decode cX5_addChoice 23 = .ok (.iaload, 1) := by decide +kernel
theorem dX5_addChoice_24 : decode cX5_addChoice 24 = .ok (.iconst 1, 1) := by decide +kernel
theorem dX5_addChoice_25 : decode cX5_addChoice 25 = .ok (.iadd, 1) := by decide +kernel
theorem dX5_addChoice_26 : decode cX5_addChoice 26 = .ok (.iastore, 1) := by decide +kernel
theorem dX5_addChoice_27 : decode cX5_addChoice 27 = .ok (.return_, 1) := by decide +kernel
theorem dX5_choose_0 : decode cX5_choose 0 = .ok (.aload_n 0, 1) := by decide +kernel
theorem dX5_choose_1 : decode cX5_choose 1 = .ok (.getfield 18, 3) := by decide +kernel
theorem dX5_choose_4 : decode cX5_choose 4 = .ok (.iload_n 1, 1) := by decide +kernel
theorem dX5_choose_5 : decode cX5_choose 5 = .ok (.iload_n 2, 1) := by decide +kernel
theorem dX5_choose_6 : decode cX5_choose 6 = .ok (.iastore, 1) := by decide +kernel
theorem dX5_choose_7 : decode cX5_choose 7 = .ok (.aload_n 0, 1) := by decide +kernel
theorem dX5_choose_8 : decode cX5_choose 8 = .ok (.getfield 21, 3) := by decide +kernel
theorem dX5_choose_11 : decode cX5_choose 11 = .ok (.iload_n 1, 1) := by decide +kernel
theorem dX5_choose_12 : decode cX5_choose 12 = .ok (.aload_n 0, 1) := by decide +kernel
theorem dX5_choose_13 : decode cX5_choose 13 = .ok (.iload_n 1, 1) := by decide +kernel
theorem dX5_choose_14 : decode cX5_choose 14 = .ok (.iload_n 2, 1) := by decide +kernel
theorem dX5_choose_15 : decode cX5_choose 15 = .ok (.invokevirtual 104, 3) := by decide +kernel
theorem dX5_choose_18 : decode cX5_choose 18 = .ok (.iastore, 1) := by decide +kernel
theorem dX5_choose_19 : decode cX5_choose 19 = .ok (.return_, 1) := by decide +kernel
theorem dX5_choiceOf_0 : decode cX5_choiceOf 0 = .ok (.aload_n 0, 1) := by decide +kernel
theorem dX5_choiceOf_1 : decode cX5_choiceOf 1 = .ok (.getfield 9, 3) := by decide +kernel
theorem dX5_choiceOf_4 : decode cX5_choiceOf 4 = .ok (.iload_n 1, 1) := by decide +kernel
theorem dX5_choiceOf_5 : decode cX5_choiceOf 5 = .ok (.bipush 11, 2) := by decide +kernel
theorem dX5_choiceOf_7 : decode cX5_choiceOf 7 = .ok (.imul, 1) := by decide +kernel
theorem dX5_choiceOf_8 : decode cX5_choiceOf 8 = .ok (.iload_n 2, 1) := by decide +kernel
theorem dX5_choiceOf_9 : decode cX5_choiceOf 9 = .ok (.iadd, 1) := by decide +kernel
theorem dX5_choiceOf_10 : decode cX5_choiceOf 10 = .ok (.iaload, 1) := by decide +kernel
theorem dX5_choiceOf_11 : decode cX5_choiceOf 11 = .ok (.ireturn, 1) := by decide +kernel
theorem dX5_goOn_0 : decode cX5_goOn 0 = .ok (.aload_n 0, 1) := by decide +kernel
theorem dX5_goOn_1 : decode cX5_goOn 1 = .ok (.getfield 24, 3) := by decide +kernel
theorem dX5_goOn_4 : decode cX5_goOn 4 = .ok (.getfield 32, 3) := by decide +kernel
theorem dX5_goOn_7 : decode cX5_goOn 7 = .ok (.iconst 1, 1) := by decide +kernel
theorem dX5_goOn_8 : decode cX5_goOn 8 = .ok (.isub, 1) := by decide +kernel
theorem dX5_goOn_9 : decode cX5_goOn 9 = .ok (.istore_n 1, 1) := by decide +kernel
theorem dX5_goOn_10 : decode cX5_goOn 10 = .ok (.iload_n 1, 1) := by decide +kernel
theorem dX5_goOn_11 : decode cX5_goOn 11 = .ok (.ifCond .lt 47, 3) := by decide +kernel
theorem dX5_goOn_14 : decode cX5_goOn 14 = .ok (.aload_n 0, 1) := by decide +kernel
theorem dX5_goOn_15 : decode cX5_goOn 15 = .ok (.getfield 18, 3) := by decide +kernel
theorem dX5_goOn_18 : decode cX5_goOn 18 = .ok (.iload_n 1, 1) := by decide +kernel
theorem dX5_goOn_19 : decode cX5_goOn 19 = .ok (.iaload, 1) := by decide +kernel
theorem dX5_goOn_20 : decode cX5_goOn 20 = .ok (.iconst 1, 1) := by decide +kernel
theorem dX5_goOn_21 : decode cX5_goOn 21 = .ok (.iadd, 1) := by decide +kernel
theorem dX5_goOn_22 : decode cX5_goOn 22 = .ok (.aload_n 0, 1) := by decide +kernel
theorem dX5_goOn_23 : decode cX5_goOn 23 = .ok (.getfield 15, 3) := by decide +kernel
theorem dX5_goOn_26 : decode cX5_goOn 26 = .ok (.iload_n 1, 1) := by decide +kernel
theorem dX5_goOn_27 : decode cX5_goOn 27 = .ok (.iaload, 1) := by decide +kernel
theorem dX5_goOn_28 : decode cX5_goOn 28 = .ok (.if_icmp .ge 18, 3) := by decide +kernel
theorem dX5_goOn_31 : decode cX5_goOn 31 = .ok (.aload_n 0, 1) := by decide +kernel
theorem dX5_goOn_32 : decode cX5_goOn 32 = .ok (.iload_n 1, 1) := by decide +kernel
theorem dX5_goOn_33 : decode cX5_goOn 33 = .ok (.aload_n 0, 1) := by decide +kernel
theorem dX5_goOn_34 : decode cX5_goOn 34 = .ok (.getfield 18, 3) := by decide +kernel
theorem dX5_goOn_37 : decode cX5_goOn 37 = .ok (.iload_n 1, 1) := by decide +kernel
theorem dX5_goOn_38 : decode cX5_goOn 38 = .ok (.iaload, 1) := by decide +kernel
theorem dX5_goOn_39 : decode cX5_goOn 39 = .ok (.iconst 1, 1) := by decide +kernel
theorem dX5_goOn_40 : decode cX5_goOn 40 = .ok (.iadd, 1) := by decide +kernel
theorem dX5_goOn_41 : decode cX5_goOn 41 = .ok (.invokevirtual 101, 3) := by decide +kernel
theorem dX5_goOn_44 : decode cX5_goOn 44 = .ok (.iconst 1, 1) := by decide +kernel
theorem dX5_goOn_45 : decode cX5_goOn 45 = .ok (.ireturn, 1) := by decide +kernel
theorem dX5_goOn_46 : decode cX5_goOn 46 = .ok (.aload_n 0, 1) := by decide +kernel
theorem dX5_goOn_47 : decode cX5_goOn 47 = .ok (.iload_n 1, 1) := by decide +kernel
theorem dX5_goOn_48 : decode cX5_goOn 48 = .ok (.iconst 0, 1) := by decide +kernel
theorem dX5_goOn_49 : decode cX5_goOn 49 = .ok (.invokevirtual 101, 3) := by decide +kernel
theorem dX5_goOn_52 : decode cX5_goOn 52 = .ok (.iinc 1 (-1), 3) := by decide +kernel
theorem dX5_goOn_55 : decode cX5_goOn 55 = .ok (.goto (-45), 3) := by decide +kernel
theorem dX5_goOn_58 : decode cX5_goOn 58 = .ok (.iconst 0, 1) := by decide +kernel
theorem dX5_goOn_59 : decode cX5_goOn 59 = .ok (.ireturn, 1) := by decide +kernel
theorem dX5_isAtRest_0 : decode cX5_isAtRest 0 = .ok (.iconst 0, 1) := by decide +kernel
theorem dX5_isAtRest_1 : decode cX5_isAtRest 1 = .ok (.istore_n 1, 1) := by decide +kernel
theorem dX5_isAtRest_2 : decode cX5_isAtRest 2 = .ok (.iload_n 1, 1) := by decide +kernel
theorem dX5_isAtRest_3 : decode cX5_isAtRest 3 = .ok (.aload_n 0, 1) := by decide +kernel
theorem dX5_isAtRest_4 : decode cX5_isAtRest 4 = .ok (.getfield 24, 3) := by decide +kernel
theorem dX5_isAtRest_7 : decode cX5_isAtRest 7 = .ok (.getfield 32, 3) := by decide +kernel
theorem dX5_isAtRest_10 : decode cX5_isAtRest 10 = .ok (.if_icmp .ge 56, 3) := by decide +kernel
theorem dX5_isAtRest_13 : decode cX5_isAtRest 13 = .ok (.aload_n 0, 1) := by decide +kernel
theorem dX5_isAtRest_14 : decode cX5_isAtRest 14 = .ok (.iload_n 1, 1) := by decide +kernel
theorem dX5_isAtRest_15 : decode cX5_isAtRest 15 = .ok (.aload_n 0, 1) := by decide +kernel
theorem dX5_isAtRest_16 : decode cX5_isAtRest 16 = .ok (.getfield 21, 3) := by decide +kernel
theorem dX5_isAtRest_19 : decode cX5_isAtRest 19 = .ok (.iload_n 1, 1) := by decide +kernel
theorem dX5_isAtRest_20 : decode cX5_isAtRest 20 = .ok (.iaload, 1) := by decide +kernel
theorem dX5_isAtRest_21 : decode cX5_isAtRest 21 = .ok (.invokevirtual 107, 3) := by decide +kernel
theorem dX5_isAtRest_24 : decode cX5_isAtRest 24 = .ok (.istore_n 2, 1) := by decide +kernel
theorem dX5_isAtRest_25 : decode cX5_isAtRest 25 = .ok (.iconst 0, 1) := by decide +kernel
theorem dX5_isAtRest_26 : decode cX5_isAtRest 26 = .ok (.istore_n 3, 1) := by decide +kernel
theorem dX5_isAtRest_27 : decode cX5_isAtRest 27 = .ok (.iload_n 3, 1) := by decide +kernel
theorem dX5_isAtRest_28 : decode cX5_isAtRest 28 = .ok (.aload_n 0, 1) := by decide +kernel
theorem dX5_isAtRest_29 : decode cX5_isAtRest 29 = .ok (.getfield 15, 3) := by decide +kernel
theorem dX5_isAtRest_32 : decode cX5_isAtRest 32 = .ok (.iload_n 1, 1) := by decide +kernel
theorem dX5_isAtRest_33 : decode cX5_isAtRest 33 = .ok (.iaload, 1) := by decide +kernel
theorem dX5_isAtRest_34 : decode cX5_isAtRest 34 = .ok (.if_icmp .ge 26, 3) := by decide +kernel
theorem dX5_isAtRest_37 : decode cX5_isAtRest 37 = .ok (.aload_n 0, 1) := by decide +kernel
theorem dX5_isAtRest_38 : decode cX5_isAtRest 38 = .ok (.iload_n 1, 1) := by decide +kernel
theorem dX5_isAtRest_39 : decode cX5_isAtRest 39 = .ok (.aload_n 0, 1) := by decide +kernel
theorem dX5_isAtRest_40 : decode cX5_isAtRest 40 = .ok (.iload_n 1, 1) := by decide +kernel
theorem dX5_isAtRest_41 : decode cX5_isAtRest 41 = .ok (.iload_n 3, 1) := by decide +kernel
theorem dX5_isAtRest_42 : decode cX5_isAtRest 42 = .ok (.invokevirtual 104, 3) := by decide +kernel
theorem dX5_isAtRest_45 : decode cX5_isAtRest 45 = .ok (.invokevirtual 107, 3) := by decide +kernel
theorem dX5_isAtRest_48 : decode cX5_isAtRest 48 = .ok (.iload_n 2, 1) := by decide +kernel
theorem dX5_isAtRest_49 : decode cX5_isAtRest 49 = .ok (.if_icmp .le 5, 3) := by decide +kernel
theorem dX5_isAtRest_52 : decode cX5_isAtRest 52 = .ok (.iconst 0, 1) := by decide +kernel
theorem dX5_isAtRest_53 : decode cX5_isAtRest 53 = .ok (.ireturn, 1) := by decide +kernel
theorem dX5_isAtRest_54 : decode cX5_isAtRest 54 = .ok (.iinc 3 1, 3) := by decide +kernel
theorem dX5_isAtRest_57 : decode cX5_isAtRest 57 = .ok (.goto (-30), 3) := by decide +kernel
theorem dX5_isAtRest_60 : decode cX5_isAtRest 60 = .ok (.iinc 1 1, 3) := by decide +kernel
theorem dX5_isAtRest_63 : decode cX5_isAtRest 63 = .ok (.goto (-61), 3) := by decide +kernel
theorem dX5_isAtRest_66 : decode cX5_isAtRest 66 = .ok (.iconst 1, 1) := by decide +kernel
theorem dX5_isAtRest_67 : decode cX5_isAtRest 67 = .ok (.ireturn, 1) := by decide +kernel
theorem dX5_payFor_0 : decode cX5_payFor 0 = .ok (.iload_n 2, 1) := by decide +kernel
theorem dX5_payFor_1 : decode cX5_payFor 1 = .ok (.iconst (-1), 1) := by decide +kernel
theorem dX5_payFor_2 : decode cX5_payFor 2 = .ok (.if_icmp .eq 15, 3) := by decide +kernel
theorem dX5_payFor_5 : decode cX5_payFor 5 = .ok (.aload_n 0, 1) := by decide +kernel
theorem dX5_payFor_6 : decode cX5_payFor 6 = .ok (.getfield 24, 3) := by decide +kernel
theorem dX5_payFor_9 : decode cX5_payFor 9 = .ok (.iload_n 1, 1) := by decide +kernel
theorem dX5_payFor_10 : decode cX5_payFor 10 = .ok (.iload_n 2, 1) := by decide +kernel
theorem dX5_payFor_11 : decode cX5_payFor 11 = .ok (.invokevirtual 110, 3) := by decide +kernel
theorem dX5_payFor_14 : decode cX5_payFor 14 = .ok (.ifCond .ne 5, 3) := by decide +kernel
theorem dX5_payFor_17 : decode cX5_payFor 17 = .ok (.iconst 0, 1) := by decide +kernel
theorem dX5_payFor_18 : decode cX5_payFor 18 = .ok (.ireturn, 1) := by decide +kernel
theorem dX5_payFor_19 : decode cX5_payFor 19 = .ok (.aload_n 0, 1) := by decide +kernel
theorem dX5_payFor_20 : decode cX5_payFor 20 = .ok (.getfield 28, 3) := by decide +kernel
theorem dX5_payFor_23 : decode cX5_payFor 23 = .ok (.getfield 114, 3) := by decide +kernel
theorem dX5_payFor_26 : decode cX5_payFor 26 = .ok (.iload_n 2, 1) := by decide +kernel
theorem dX5_payFor_27 : decode cX5_payFor 27 = .ok (.iaload, 1) := by decide +kernel
theorem dX5_payFor_28 : decode cX5_payFor 28 = .ok (.aload_n 0, 1) := by decide +kernel
theorem dX5_payFor_29 : decode cX5_payFor 29 = .ok (.getfield 28, 3) := by decide +kernel
theorem dX5_payFor_32 : decode cX5_payFor 32 = .ok (.getfield 117, 3) := by decide +kernel
theorem dX5_payFor_35 : decode cX5_payFor 35 = .ok (.iload_n 2, 1) := by decide +kernel
theorem dX5_payFor_36 : decode cX5_payFor 36 = .ok (.iaload, 1) := by decide +kernel
theorem dX5_payFor_37 : decode cX5_payFor 37 = .ok (.imul, 1) := by decide +kernel
theorem dX5_payFor_38 : decode cX5_payFor 38 = .ok (.bipush 100, 2) := by decide +kernel
theorem dX5_payFor_40 : decode cX5_payFor 40 = .ok (.idiv, 1) := by decide +kernel
theorem dX5_payFor_41 : decode cX5_payFor 41 = .ok (.istore_n 3, 1) := by decide +kernel
theorem dX5_payFor_42 : decode cX5_payFor 42 = .ok (.iconst 1, 1) := by decide +kernel
theorem dX5_payFor_43 : decode cX5_payFor 43 = .ok (.istore 4, 2) := by decide +kernel
theorem dX5_payFor_45 : decode cX5_payFor 45 = .ok (.iconst 0, 1) := by decide +kernel
theorem dX5_payFor_46 : decode cX5_payFor 46 = .ok (.istore 5, 2) := by decide +kernel
theorem dX5_payFor_48 : decode cX5_payFor 48 = .ok (.iload 5, 2) := by decide +kernel
theorem dX5_payFor_50 : decode cX5_payFor 50 = .ok (.aload_n 0, 1) := by decide +kernel
theorem dX5_payFor_51 : decode cX5_payFor 51 = .ok (.getfield 24, 3) := by decide +kernel
theorem dX5_payFor_54 : decode cX5_payFor 54 = .ok (.getfield 32, 3) := by decide +kernel
theorem dX5_payFor_57 : decode cX5_payFor 57 = .ok (.if_icmp .ge 66, 3) := by decide +kernel
theorem dX5_payFor_60 : decode cX5_payFor 60 = .ok (.iload 5, 2) := by decide +kernel
theorem dX5_payFor_62 : decode cX5_payFor 62 = .ok (.iload_n 1, 1) := by decide +kernel
theorem dX5_payFor_63 : decode cX5_payFor 63 = .ok (.if_icmp .eq 54, 3) := by decide +kernel
theorem dX5_payFor_66 : decode cX5_payFor 66 = .ok (.aload_n 0, 1) := by decide +kernel
theorem dX5_payFor_67 : decode cX5_payFor 67 = .ok (.getfield 21, 3) := by decide +kernel
theorem dX5_payFor_70 : decode cX5_payFor 70 = .ok (.iload 5, 2) := by decide +kernel
theorem dX5_payFor_72 : decode cX5_payFor 72 = .ok (.iaload, 1) := by decide +kernel
theorem dX5_payFor_73 : decode cX5_payFor 73 = .ok (.iload_n 2, 1) := by decide +kernel
theorem dX5_payFor_74 : decode cX5_payFor 74 = .ok (.if_icmp .ne 43, 3) := by decide +kernel
theorem dX5_payFor_77 : decode cX5_payFor 77 = .ok (.aload_n 0, 1) := by decide +kernel
