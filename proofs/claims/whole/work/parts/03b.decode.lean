theorem dX5_init_4 : decode cX5_init 4 = .ok (.aload_n 0, 1) := by decide +kernel
theorem dX5_init_5 : decode cX5_init 5 = .ok (.new 7, 3) := by decide +kernel
theorem dX5_init_8 : decode cX5_init 8 = .ok (.dup, 1) := by decide +kernel
theorem dX5_init_9 : decode cX5_init 9 = .ok (.invokespecial 9, 3) := by decide +kernel
theorem dX5_init_12 : decode cX5_init 12 = .ok (.putfield 10, 3) := by decide +kernel
theorem dX5_init_15 : decode cX5_init 15 = .ok (.aload_n 0, 1) := by decide +kernel
theorem dX5_init_16 : decode cX5_init 16 = .ok (.new 16, 3) := by decide +kernel
theorem dX5_init_19 : decode cX5_init 19 = .ok (.dup, 1) := by decide +kernel
theorem dX5_init_20 : decode cX5_init 20 = .ok (.invokespecial 18, 3) := by decide +kernel
theorem dX5_init_23 : decode cX5_init 23 = .ok (.putfield 19, 3) := by decide +kernel
theorem dX5_init_26 : decode cX5_init 26 = .ok (.aload_n 0, 1) := by decide +kernel
theorem dX5_init_27 : decode cX5_init 27 = .ok (.new 16, 3) := by decide +kernel
theorem dX5_init_30 : decode cX5_init 30 = .ok (.dup, 1) := by decide +kernel
theorem dX5_init_31 : decode cX5_init 31 = .ok (.invokespecial 18, 3) := by decide +kernel
theorem dX5_init_34 : decode cX5_init 34 = .ok (.putfield 23, 3) := by decide +kernel
theorem dX5_init_37 : decode cX5_init 37 = .ok (.aload_n 0, 1) := by decide +kernel
theorem dX5_init_38 : decode cX5_init 38 = .ok (.new 26, 3) := by decide +kernel
theorem dX5_init_41 : decode cX5_init 41 = .ok (.dup, 1) := by decide +kernel
theorem dX5_init_42 : decode cX5_init 42 = .ok (.invokespecial 28, 3) := by decide +kernel
theorem dX5_init_45 : decode cX5_init 45 = .ok (.putfield 29, 3) := by decide +kernel
theorem dX5_init_48 : decode cX5_init 48 = .ok (.aload_n 0, 1) := by decide +kernel
theorem dX5_init_49 : decode cX5_init 49 = .ok (.new 33, 3) := by decide +kernel
theorem dX5_init_52 : decode cX5_init 52 = .ok (.dup, 1) := by decide +kernel
theorem dX5_init_53 : decode cX5_init 53 = .ok (.invokespecial 35, 3) := by decide +kernel
theorem dX5_init_56 : decode cX5_init 56 = .ok (.putfield 36, 3) := by decide +kernel
theorem dX5_init_59 : decode cX5_init 59 = .ok (.aload_n 0, 1) := by decide +kernel
theorem dX5_init_60 : decode cX5_init 60 = .ok (.new 33, 3) := by decide +kernel
theorem dX5_init_63 : decode cX5_init 63 = .ok (.dup, 1) := by decide +kernel
theorem dX5_init_64 : decode cX5_init 64 = .ok (.invokespecial 35, 3) := by decide +kernel
theorem dX5_init_67 : decode cX5_init 67 = .ok (.putfield 40, 3) := by decide +kernel
theorem dX5_init_70 : decode cX5_init 70 = .ok (.aload_n 0, 1) := by decide +kernel
theorem dX5_init_71 : decode cX5_init 71 = .ok (.new 43, 3) := by decide +kernel
theorem dX5_init_74 : decode cX5_init 74 = .ok (.dup, 1) := by decide +kernel
theorem dX5_init_75 : decode cX5_init 75 = .ok (.invokespecial 45, 3) := by decide +kernel
theorem dX5_init_78 : decode cX5_init 78 = .ok (.putfield 46, 3) := by decide +kernel
theorem dX5_init_81 : decode cX5_init 81 = .ok (.aload_n 0, 1) := by decide +kernel
theorem dX5_init_82 : decode cX5_init 82 = .ok (.iconst 2, 1) := by decide +kernel
theorem dX5_init_83 : decode cX5_init 83 = .ok (.anewarray 33, 3) := by decide +kernel
theorem dX5_init_86 : decode cX5_init 86 = .ok (.putfield 50, 3) := by decide +kernel
theorem dX5_init_89 : decode cX5_init 89 = .ok (.aload_n 0, 1) := by decide +kernel
theorem dX5_init_90 : decode cX5_init 90 = .ok (.bipush 6, 2) := by decide +kernel
theorem dX5_init_92 : decode cX5_init 92 = .ok (.newarray .int, 2) := by decide +kernel
theorem dX5_init_94 : decode cX5_init 94 = .ok (.putfield 54, 3) := by decide +kernel
theorem dX5_init_97 : decode cX5_init 97 = .ok (.aload_n 0, 1) := by decide +kernel
theorem dX5_init_98 : decode cX5_init 98 = .ok (.bipush 6, 2) := by decide +kernel
theorem dX5_init_100 : decode cX5_init 100 = .ok (.newarray .int, 2) := by decide +kernel
theorem dX5_init_102 : decode cX5_init 102 = .ok (.putfield 58, 3) := by decide +kernel
theorem dX5_init_105 : decode cX5_init 105 = .ok (.aload_n 0, 1) := by decide +kernel
theorem dX5_init_106 : decode cX5_init 106 = .ok (.iconst 4, 1) := by decide +kernel
theorem dX5_init_107 : decode cX5_init 107 = .ok (.newarray .int, 2) := by decide +kernel
theorem dX5_init_109 : decode cX5_init 109 = .ok (.putfield 61, 3) := by decide +kernel
theorem dX5_init_112 : decode cX5_init 112 = .ok (.iconst 0, 1) := by decide +kernel
theorem dX5_init_113 : decode cX5_init 113 = .ok (.istore_n 1, 1) := by decide +kernel
theorem dX5_init_114 : decode cX5_init 114 = .ok (.iload_n 1, 1) := by decide +kernel
theorem dX5_init_115 : decode cX5_init 115 = .ok (.iconst 2, 1) := by decide +kernel
theorem dX5_init_116 : decode cX5_init 116 = .ok (.if_icmp .ge 22, 3) := by decide +kernel
theorem dX5_init_119 : decode cX5_init 119 = .ok (.aload_n 0, 1) := by decide +kernel
theorem dX5_init_120 : decode cX5_init 120 = .ok (.getfield 50, 3) := by decide +kernel
theorem dX5_init_123 : decode cX5_init 123 = .ok (.iload_n 1, 1) := by decide +kernel
theorem dX5_init_124 : decode cX5_init 124 = .ok (.new 33, 3) := by decide +kernel
theorem dX5_init_127 : decode cX5_init 127 = .ok (.dup, 1) := by decide +kernel
theorem dX5_init_128 : decode cX5_init 128 = .ok (.invokespecial 35, 3) := by decide +kernel
theorem dX5_init_131 : decode cX5_init 131 = .ok (.aastore, 1) := by decide +kernel
theorem dX5_init_132 : decode cX5_init 132 = .ok (.iinc 1 1, 3) := by decide +kernel
theorem dX5_init_135 : decode cX5_init 135 = .ok (.goto (-21), 3) := by decide +kernel
theorem dX5_init_138 : decode cX5_init 138 = .ok (.return_, 1) := by decide +kernel
theorem dX5_type_0 : decode cX5_type 0 = .ok (.iload_n 1, 1) := by decide +kernel
theorem dX5_type_1 : decode cX5_type 1 = .ok (.ifCond .lt 10, 3) := by decide +kernel
theorem dX5_type_4 : decode cX5_type 4 = .ok (.iload_n 1, 1) := by decide +kernel
theorem dX5_type_5 : decode cX5_type 5 = .ok (.sipush 255, 3) := by decide +kernel
theorem dX5_type_8 : decode cX5_type 8 = .ok (.if_icmp .le 5, 3) := by decide +kernel
theorem dX5_type_11 : decode cX5_type 11 = .ok (.iconst (-1), 1) := by decide +kernel
theorem dX5_type_12 : decode cX5_type 12 = .ok (.ireturn, 1) := by decide +kernel
theorem dX5_type_13 : decode cX5_type 13 = .ok (.aload_n 0, 1) := by decide +kernel
theorem dX5_type_14 : decode cX5_type 14 = .ok (.getfield 10, 3) := by decide +kernel
theorem dX5_type_17 : decode cX5_type 17 = .ok (.iload_n 1, 1) := by decide +kernel
theorem dX5_type_18 : decode cX5_type 18 = .ok (.invokevirtual 64, 3) := by decide +kernel
theorem dX5_type_21 : decode cX5_type 21 = .ok (.ifCond .eq 13, 3) := by decide +kernel
theorem dX5_type_24 : decode cX5_type 24 = .ok (.aload_n 0, 1) := by decide +kernel
theorem dX5_type_25 : decode cX5_type 25 = .ok (.getfield 10, 3) := by decide +kernel
theorem dX5_type_28 : decode cX5_type 28 = .ok (.getfield 68, 3) := by decide +kernel
theorem dX5_type_31 : decode cX5_type 31 = .ok (.goto 5, 3) := by decide +kernel
theorem dX5_type_34 : decode cX5_type 34 = .ok (.bipush (-3), 2) := by decide +kernel
theorem dX5_type_36 : decode cX5_type 36 = .ok (.ireturn, 1) := by decide +kernel
theorem dX5_clear_0 : decode cX5_clear 0 = .ok (.aload_n 0, 1) := by decide +kernel
theorem dX5_clear_1 : decode cX5_clear 1 = .ok (.getfield 10, 3) := by decide +kernel
theorem dX5_clear_4 : decode cX5_clear 4 = .ok (.invokevirtual 72, 3) := by decide +kernel
theorem dX5_clear_7 : decode cX5_clear 7 = .ok (.ireturn, 1) := by decide +kernel
theorem dX5_net_0 : decode cX5_net 0 = .ok (.aload_n 0, 1) := by decide +kernel
theorem dX5_net_1 : decode cX5_net 1 = .ok (.getfield 10, 3) := by decide +kernel
theorem dX5_net_4 : decode cX5_net 4 = .ok (.aload_n 0, 1) := by decide +kernel
theorem dX5_net_5 : decode cX5_net 5 = .ok (.getfield 23, 3) := by decide +kernel
theorem dX5_net_8 : decode cX5_net 8 = .ok (.invokevirtual 76, 3) := by decide +kernel
theorem dX5_net_11 : decode cX5_net 11 = .ok (.istore_n 1, 1) := by decide +kernel
theorem dX5_net_12 : decode cX5_net 12 = .ok (.iload_n 1, 1) := by decide +kernel
theorem dX5_net_13 : decode cX5_net 13 = .ok (.ifCond .ge 5, 3) := by decide +kernel
theorem dX5_net_16 : decode cX5_net 16 = .ok (.iload_n 1, 1) := by decide +kernel
theorem dX5_net_17 : decode cX5_net 17 = .ok (.ireturn, 1) := by decide +kernel
theorem dX5_net_18 : decode cX5_net 18 = .ok (.aload_n 0, 1) := by decide +kernel
theorem dX5_net_19 : decode cX5_net 19 = .ok (.getfield 19, 3) := by decide +kernel
theorem dX5_net_22 : decode cX5_net 22 = .ok (.aload_n 0, 1) := by decide +kernel
theorem dX5_net_23 : decode cX5_net 23 = .ok (.getfield 23, 3) := by decide +kernel
theorem dX5_net_26 : decode cX5_net 26 = .ok (.invokevirtual 80, 3) := by decide +kernel
theorem dX5_net_29 : decode cX5_net 29 = .ok (.aload_n 0, 1) := by decide +kernel
theorem dX5_net_30 : decode cX5_net 30 = .ok (.getfield 36, 3) := by decide +kernel
theorem dX5_net_33 : decode cX5_net 33 = .ok (.aload_n 0, 1) := by decide +kernel
theorem dX5_net_34 : decode cX5_net 34 = .ok (.getfield 19, 3) := by decide +kernel
theorem dX5_net_37 : decode cX5_net 37 = .ok (.invokevirtual 84, 3) := by decide +kernel
theorem dX5_net_40 : decode cX5_net 40 = .ok (.aload_n 0, 1) := by decide +kernel
theorem dX5_net_41 : decode cX5_net 41 = .ok (.getfield 10, 3) := by decide +kernel
theorem dX5_net_44 : decode cX5_net 44 = .ok (.invokevirtual 72, 3) := by decide +kernel
theorem dX5_net_47 : decode cX5_net 47 = .ok (.pop, 1) := by decide +kernel
theorem dX5_net_48 : decode cX5_net 48 = .ok (.aload_n 0, 1) := by decide +kernel
theorem dX5_net_49 : decode cX5_net 49 = .ok (.getfield 46, 3) := by decide +kernel
theorem dX5_net_52 : decode cX5_net 52 = .ok (.invokevirtual 87, 3) := by decide +kernel
theorem dX5_net_55 : decode cX5_net 55 = .ok (.aload_n 0, 1) := by decide +kernel
theorem dX5_net_56 : decode cX5_net 56 = .ok (.iconst 0, 1) := by decide +kernel
theorem dX5_net_57 : decode cX5_net 57 = .ok (.putfield 90, 3) := by decide +kernel
theorem dX5_net_60 : decode cX5_net 60 = .ok (.aload_n 0, 1) := by decide +kernel
theorem dX5_net_61 : decode cX5_net 61 = .ok (.iconst 0, 1) := by decide +kernel
theorem dX5_net_62 : decode cX5_net 62 = .ok (.putfield 93, 3) := by decide +kernel
theorem dX5_net_65 : decode cX5_net 65 = .ok (.iload_n 1, 1) := by decide +kernel
theorem dX5_net_66 : decode cX5_net 66 = .ok (.ireturn, 1) := by decide +kernel
theorem dX5_ticks_0 : decode cX5_ticks 0 = .ok (.iload_n 1, 1) := by decide +kernel
theorem dX5_ticks_1 : decode cX5_ticks 1 = .ok (.iconst 1, 1) := by decide +kernel
theorem dX5_ticks_2 : decode cX5_ticks 2 = .ok (.if_icmp .lt 9, 3) := by decide +kernel
theorem dX5_ticks_5 : decode cX5_ticks 5 = .ok (.iload_n 1, 1) := by decide +kernel
theorem dX5_ticks_6 : decode cX5_ticks 6 = .ok (.bipush 12, 2) := by decide +kernel
theorem dX5_ticks_8 : decode cX5_ticks 8 = .ok (.if_icmp .le 5, 3) := by decide +kernel
theorem dX5_ticks_11 : decode cX5_ticks 11 = .ok (.iconst (-1), 1) := by decide +kernel
theorem dX5_ticks_12 : decode cX5_ticks 12 = .ok (.ireturn, 1) := by decide +kernel
theorem dX5_ticks_13 : decode cX5_ticks 13 = .ok (.aload_n 0, 1) := by decide +kernel
theorem dX5_ticks_14 : decode cX5_ticks 14 = .ok (.getfield 36, 3) := by decide +kernel
theorem dX5_ticks_17 : decode cX5_ticks 17 = .ok (.getfield 96, 3) := by decide +kernel
theorem dX5_ticks_20 : decode cX5_ticks 20 = .ok (.iload_n 1, 1) := by decide +kernel
theorem dX5_ticks_21 : decode cX5_ticks 21 = .ok (.iadd, 1) := by decide +kernel
theorem dX5_ticks_22 : decode cX5_ticks 22 = .ok (.sipush 999, 3) := by decide +kernel
theorem dX5_ticks_25 : decode cX5_ticks 25 = .ok (.if_icmp .le 6, 3) := by decide +kernel
theorem dX5_ticks_28 : decode cX5_ticks 28 = .ok (.bipush (-3), 2) := by decide +kernel
theorem dX5_ticks_30 : decode cX5_ticks 30 = .ok (.ireturn, 1) := by decide +kernel
theorem dX5_ticks_31 : decode cX5_ticks 31 = .ok (.iconst 0, 1) := by decide +kernel
theorem dX5_ticks_32 : decode cX5_ticks 32 = .ok (.istore_n 2, 1) := by decide +kernel
theorem dX5_ticks_33 : decode cX5_ticks 33 = .ok (.iload_n 2, 1) := by decide +kernel
theorem dX5_ticks_34 : decode cX5_ticks 34 = .ok (.iload_n 1, 1) := by decide +kernel
theorem dX5_ticks_35 : decode cX5_ticks 35 = .ok (.if_icmp .ge 35, 3) := by decide +kernel
theorem dX5_ticks_38 : decode cX5_ticks 38 = .ok (.aload_n 0, 1) := by decide +kernel
theorem dX5_ticks_39 : decode cX5_ticks 39 = .ok (.getfield 46, 3) := by decide +kernel
theorem dX5_ticks_42 : decode cX5_ticks 42 = .ok (.aload_n 0, 1) := by decide +kernel
theorem dX5_ticks_43 : decode cX5_ticks 43 = .ok (.getfield 36, 3) := by decide +kernel
theorem dX5_ticks_46 : decode cX5_ticks 46 = .ok (.invokevirtual 99, 3) := by decide +kernel
theorem dX5_ticks_49 : decode cX5_ticks 49 = .ok (.aload_n 0, 1) := by decide +kernel
theorem dX5_ticks_50 : decode cX5_ticks 50 = .ok (.getfield 29, 3) := by decide +kernel
theorem dX5_ticks_53 : decode cX5_ticks 53 = .ok (.aload_n 0, 1) := by decide +kernel
theorem dX5_ticks_54 : decode cX5_ticks 54 = .ok (.getfield 19, 3) := by decide +kernel
theorem dX5_ticks_57 : decode cX5_ticks 57 = .ok (.aload_n 0, 1) := by decide +kernel
theorem dX5_ticks_58 : decode cX5_ticks 58 = .ok (.getfield 36, 3) := by decide +kernel
theorem dX5_ticks_61 : decode cX5_ticks 61 = .ok (.invokevirtual 103, 3) := by decide +kernel
theorem dX5_ticks_64 : decode cX5_ticks 64 = .ok (.iinc 2 1, 3) := by decide +kernel
theorem dX5_ticks_67 : decode cX5_ticks 67 = .ok (.goto (-34), 3) := by decide +kernel
theorem dX5_ticks_70 : decode cX5_ticks 70 = .ok (.iconst 0, 1) := by decide +kernel
theorem dX5_ticks_71 : decode cX5_ticks 71 = .ok (.istore_n 2, 1) := by decide +kernel
theorem dX5_ticks_72 : decode cX5_ticks 72 = .ok (.iconst 0, 1) := by decide +kernel
theorem dX5_ticks_73 : decode cX5_ticks 73 = .ok (.istore_n 3, 1) := by decide +kernel
theorem dX5_ticks_74 : decode cX5_ticks 74 = .ok (.iload_n 3, 1) := by decide +kernel
theorem dX5_ticks_75 : decode cX5_ticks 75 = .ok (.aload_n 0, 1) := by decide +kernel
theorem dX5_ticks_76 : decode cX5_ticks 76 = .ok (.getfield 19, 3) := by decide +kernel
theorem dX5_ticks_79 : decode cX5_ticks 79 = .ok (.getfield 107, 3) := by decide +kernel
theorem dX5_ticks_82 : decode cX5_ticks 82 = .ok (.if_icmp .ge 28, 3) := by decide +kernel
theorem dX5_ticks_85 : decode cX5_ticks 85 = .ok (.iload_n 2, 1) := by decide +kernel
theorem dX5_ticks_86 : decode cX5_ticks 86 = .ok (.aload_n 0, 1) := by decide +kernel
theorem dX5_ticks_87 : decode cX5_ticks 87 = .ok (.getfield 36, 3) := by decide +kernel
theorem dX5_ticks_90 : decode cX5_ticks 90 = .ok (.iload_n 3, 1) := by decide +kernel
theorem dX5_ticks_91 : decode cX5_ticks 91 = .ok (.invokevirtual 110, 3) := by decide +kernel
theorem dX5_ticks_94 : decode cX5_ticks 94 = .ok (.ifCond .eq 7, 3) := by decide +kernel
theorem dX5_ticks_97 : decode cX5_ticks 97 = .ok (.iconst 1, 1) := by decide +kernel
theorem dX5_ticks_98 : decode cX5_ticks 98 = .ok (.goto 4, 3) := by decide +kernel
theorem dX5_ticks_101 : decode cX5_ticks 101 = .ok (.iconst 0, 1) := by decide +kernel
theorem dX5_ticks_102 : decode cX5_ticks 102 = .ok (.iadd, 1) := by decide +kernel
theorem dX5_ticks_103 : decode cX5_ticks 103 = .ok (.istore_n 2, 1) := by decide +kernel
theorem dX5_ticks_104 : decode cX5_ticks 104 = .ok (.iinc 3 1, 3) := by decide +kernel
theorem dX5_ticks_107 : decode cX5_ticks 107 = .ok (.goto (-33), 3) := by decide +kernel
theorem dX5_ticks_110 : decode cX5_ticks 110 = .ok (.iload_n 2, 1) := by decide +kernel
theorem dX5_ticks_111 : decode cX5_ticks 111 = .ok (.ireturn, 1) := by decide +kernel
theorem dX5_presses_0 : decode cX5_presses 0 = .ok (.aload_n 0, 1) := by decide +kernel
theorem dX5_presses_1 : decode cX5_presses 1 = .ok (.getfield 19, 3) := by decide +kernel
theorem dX5_presses_4 : decode cX5_presses 4 = .ok (.iload_n 1, 1) := by decide +kernel
theorem dX5_presses_5 : decode cX5_presses 5 = .ok (.invokevirtual 113, 3) := by decide +kernel
theorem dX5_presses_8 : decode cX5_presses 8 = .ok (.ifCond .eq 10, 3) := by decide +kernel
theorem dX5_presses_11 : decode cX5_presses 11 = .ok (.iload_n 2, 1) := by decide +kernel
theorem dX5_presses_12 : decode cX5_presses 12 = .ok (.invokestatic 116, 3) := by decide +kernel
theorem dX5_presses_15 : decode cX5_presses 15 = .ok (.ifCond .ne 5, 3) := by decide +kernel
theorem dX5_presses_18 : decode cX5_presses 18 = .ok (.iconst (-1), 1) := by decide +kernel
theorem dX5_presses_19 : decode cX5_presses 19 = .ok (.ireturn, 1) := by decide +kernel
theorem dX5_presses_20 : decode cX5_presses 20 = .ok (.aload_n 0, 1) := by decide +kernel
theorem dX5_presses_21 : decode cX5_presses 21 = .ok (.getfield 36, 3) := by decide +kernel
theorem dX5_presses_24 : decode cX5_presses 24 = .ok (.getfield 119, 3) := by decide +kernel
theorem dX5_presses_27 : decode cX5_presses 27 = .ok (.iload_n 1, 1) := by decide +kernel
theorem dX5_presses_28 : decode cX5_presses 28 = .ok (.iaload, 1) := by decide +kernel
theorem dX5_presses_29 : decode cX5_presses 29 = .ok (.ifCond .eq 6, 3) := by decide +kernel
theorem dX5_presses_32 : decode cX5_presses 32 = .ok (.bipush (-2), 2) := by decide +kernel
theorem dX5_presses_34 : decode cX5_presses 34 = .ok (.ireturn, 1) := by decide +kernel
theorem dX5_presses_35 : decode cX5_presses 35 = .ok (.aload_n 0, 1) := by decide +kernel
theorem dX5_presses_36 : decode cX5_presses 36 = .ok (.getfield 46, 3) := by decide +kernel
theorem dX5_presses_39 : decode cX5_presses 39 = .ok (.aload_n 0, 1) := by decide +kernel
theorem dX5_presses_40 : decode cX5_presses 40 = .ok (.getfield 36, 3) := by decide +kernel
theorem dX5_presses_43 : decode cX5_presses 43 = .ok (.invokevirtual 99, 3) := by decide +kernel
theorem dX5_presses_46 : decode cX5_presses 46 = .ok (.aload_n 0, 1) := by decide +kernel
theorem dX5_presses_47 : decode cX5_presses 47 = .ok (.getfield 36, 3) := by decide +kernel
theorem dX5_presses_50 : decode cX5_presses 50 = .ok (.iload_n 1, 1) := by decide +kernel
theorem dX5_presses_51 : decode cX5_presses 51 = .ok (.iconst 1, 1) := by decide +kernel
theorem dX5_presses_52 : decode cX5_presses 52 = .ok (.invokevirtual 122, 3) := by decide +kernel
theorem dX5_presses_55 : decode cX5_presses 55 = .ok (.aload_n 0, 1) := by decide +kernel
theorem dX5_presses_56 : decode cX5_presses 56 = .ok (.getfield 36, 3) := by decide +kernel
theorem dX5_presses_59 : decode cX5_presses 59 = .ok (.getfield 126, 3) := by decide +kernel
theorem dX5_presses_62 : decode cX5_presses 62 = .ok (.iload_n 1, 1) := by decide +kernel
theorem dX5_presses_63 : decode cX5_presses 63 = .ok (.iload_n 2, 1) := by decide +kernel
theorem dX5_presses_64 : decode cX5_presses 64 = .ok (.iastore, 1) := by decide +kernel
theorem dX5_presses_65 : decode cX5_presses 65 = .ok (.aload_n 0, 1) := by decide +kernel
theorem dX5_presses_66 : decode cX5_presses 66 = .ok (.getfield 36, 3) := by decide +kernel
theorem dX5_presses_69 : decode cX5_presses 69 = .ok (.getfield 129, 3) := by decide +kernel
theorem dX5_presses_72 : decode cX5_presses 72 = .ok (.iload_n 1, 1) := by decide +kernel
theorem dX5_presses_73 : decode cX5_presses 73 = .ok (.iaload, 1) := by decide +kernel
theorem dX5_presses_74 : decode cX5_presses 74 = .ok (.ireturn, 1) := by decide +kernel
theorem dX5_releases_0 : decode cX5_releases 0 = .ok (.aload_n 0, 1) := by decide +kernel
theorem dX5_releases_1 : decode cX5_releases 1 = .ok (.getfield 19, 3) := by decide +kernel
theorem dX5_releases_4 : decode cX5_releases 4 = .ok (.iload_n 1, 1) := by decide +kernel
theorem dX5_releases_5 : decode cX5_releases 5 = .ok (.invokevirtual 113, 3) := by decide +kernel
theorem dX5_releases_8 : decode cX5_releases 8 = .ok (.ifCond .ne 5, 3) := by decide +kernel
theorem dX5_releases_11 : decode cX5_releases 11 = .ok (.iconst (-1), 1) := by decide +kernel
theorem dX5_releases_12 : decode cX5_releases 12 = .ok (.ireturn, 1) := by decide +kernel
theorem dX5_releases_13 : decode cX5_releases 13 = .ok (.aload_n 0, 1) := by decide +kernel
theorem dX5_releases_14 : decode cX5_releases 14 = .ok (.getfield 36, 3) := by decide +kernel
theorem dX5_releases_17 : decode cX5_releases 17 = .ok (.getfield 119, 3) := by decide +kernel
theorem dX5_releases_20 : decode cX5_releases 20 = .ok (.iload_n 1, 1) := by decide +kernel
theorem dX5_releases_21 : decode cX5_releases 21 = .ok (.iaload, 1) := by decide +kernel
theorem dX5_releases_22 : decode cX5_releases 22 = .ok (.istore_n 2, 1) := by decide +kernel
theorem dX5_releases_23 : decode cX5_releases 23 = .ok (.iload_n 2, 1) := by decide +kernel
theorem dX5_releases_24 : decode cX5_releases 24 = .ok (.ifCond .ne 6, 3) := by decide +kernel
theorem dX5_releases_27 : decode cX5_releases 27 = .ok (.bipush (-2), 2) := by decide +kernel
theorem dX5_releases_29 : decode cX5_releases 29 = .ok (.ireturn, 1) := by decide +kernel
theorem dX5_releases_30 : decode cX5_releases 30 = .ok (.aload_n 0, 1) := by decide +kernel
theorem dX5_releases_31 : decode cX5_releases 31 = .ok (.getfield 46, 3) := by decide +kernel
theorem dX5_releases_34 : decode cX5_releases 34 = .ok (.aload_n 0, 1) := by decide +kernel
theorem dX5_releases_35 : decode cX5_releases 35 = .ok (.getfield 36, 3) := by decide +kernel
theorem dX5_releases_38 : decode cX5_releases 38 = .ok (.invokevirtual 99, 3) := by decide +kernel
theorem dX5_releases_41 : decode cX5_releases 41 = .ok (.aload_n 0, 1) := by decide +kernel
theorem dX5_releases_42 : decode cX5_releases 42 = .ok (.getfield 36, 3) := by decide +kernel
theorem dX5_releases_45 : decode cX5_releases 45 = .ok (.iload_n 1, 1) := by decide +kernel
theorem dX5_releases_46 : decode cX5_releases 46 = .ok (.invokevirtual 132, 3) := by decide +kernel
theorem dX5_releases_49 : decode cX5_releases 49 = .ok (.iload_n 2, 1) := by decide +kernel
theorem dX5_releases_50 : decode cX5_releases 50 = .ok (.ireturn, 1) := by decide +kernel
theorem dX5_controls_0 : decode cX5_controls 0 = .ok (.iload_n 1, 1) := by decide +kernel
theorem dX5_controls_1 : decode cX5_controls 1 = .ok (.invokestatic 136, 3) := by decide +kernel
theorem dX5_controls_4 : decode cX5_controls 4 = .ok (.ifCond .eq 10, 3) := by decide +kernel
theorem dX5_controls_7 : decode cX5_controls 7 = .ok (.iload_n 2, 1) := by decide +kernel
theorem dX5_controls_8 : decode cX5_controls 8 = .ok (.invokestatic 116, 3) := by decide +kernel
theorem dX5_controls_11 : decode cX5_controls 11 = .ok (.ifCond .ne 5, 3) := by decide +kernel
theorem dX5_controls_14 : decode cX5_controls 14 = .ok (.iconst (-1), 1) := by decide +kernel
theorem dX5_controls_15 : decode cX5_controls 15 = .ok (.ireturn, 1) := by decide +kernel
theorem dX5_controls_16 : decode cX5_controls 16 = .ok (.aload_n 0, 1) := by decide +kernel
theorem dX5_controls_17 : decode cX5_controls 17 = .ok (.getfield 36, 3) := by decide +kernel
theorem dX5_controls_20 : decode cX5_controls 20 = .ok (.iload_n 1, 1) := by decide +kernel
theorem dX5_controls_21 : decode cX5_controls 21 = .ok (.invokevirtual 139, 3) := by decide +kernel
theorem dX5_controls_24 : decode cX5_controls 24 = .ok (.istore_n 3, 1) := by decide +kernel
theorem dX5_controls_25 : decode cX5_controls 25 = .ok (.iload_n 3, 1) := by decide +kernel
theorem dX5_controls_26 : decode cX5_controls 26 = .ok (.iload_n 2, 1) := by decide +kernel
theorem dX5_controls_27 : decode cX5_controls 27 = .ok (.iconst 1, 1) := by decide +kernel
theorem dX5_controls_28 : decode cX5_controls 28 = .ok (.if_icmp .ne 7, 3) := by decide +kernel
theorem dX5_controls_31 : decode cX5_controls 31 = .ok (.iconst 1, 1) := by decide +kernel
theorem dX5_controls_32 : decode cX5_controls 32 = .ok (.goto 4, 3) := by decide +kernel
theorem dX5_controls_35 : decode cX5_controls 35 = .ok (.iconst 0, 1) := by decide +kernel
theorem dX5_controls_36 : decode cX5_controls 36 = .ok (.if_icmp .ne 6, 3) := by decide +kernel
theorem dX5_controls_39 : decode cX5_controls 39 = .ok (.bipush (-2), 2) := by decide +kernel
theorem dX5_controls_41 : decode cX5_controls 41 = .ok (.ireturn, 1) := by decide +kernel
theorem dX5_controls_42 : decode cX5_controls 42 = .ok (.iload_n 3, 1) := by decide +kernel
theorem dX5_controls_43 : decode cX5_controls 43 = .ok (.ifCond .eq 7, 3) := by decide +kernel
theorem dX5_controls_46 : decode cX5_controls 46 = .ok (.iconst 0, 1) := by decide +kernel
theorem dX5_controls_47 : decode cX5_controls 47 = .ok (.goto 12, 3) := by decide +kernel
theorem dX5_controls_50 : decode cX5_controls 50 = .ok (.aload_n 0, 1) := by decide +kernel
theorem dX5_controls_51 : decode cX5_controls 51 = .ok (.getfield 36, 3) := by decide +kernel
theorem dX5_controls_54 : decode cX5_controls 54 = .ok (.getfield 142, 3) := by decide +kernel
theorem dX5_controls_57 : decode cX5_controls 57 = .ok (.iload_n 1, 1) := by decide +kernel
theorem dX5_controls_58 : decode cX5_controls 58 = .ok (.iaload, 1) := by decide +kernel
theorem dX5_controls_59 : decode cX5_controls 59 = .ok (.istore 4, 2) := by decide +kernel
theorem dX5_controls_61 : decode cX5_controls 61 = .ok (.aload_n 0, 1) := by decide +kernel
theorem dX5_controls_62 : decode cX5_controls 62 = .ok (.getfield 46, 3) := by decide +kernel
theorem dX5_controls_65 : decode cX5_controls 65 = .ok (.aload_n 0, 1) := by decide +kernel
theorem dX5_controls_66 : decode cX5_controls 66 = .ok (.getfield 36, 3) := by decide +kernel
theorem dX5_controls_69 : decode cX5_controls 69 = .ok (.invokevirtual 99, 3) := by decide +kernel
theorem dX5_controls_72 : decode cX5_controls 72 = .ok (.aload_n 0, 1) := by decide +kernel
theorem dX5_controls_73 : decode cX5_controls 73 = .ok (.getfield 36, 3) := by decide +kernel
theorem dX5_controls_76 : decode cX5_controls 76 = .ok (.getfield 142, 3) := by decide +kernel
theorem dX5_controls_79 : decode cX5_controls 79 = .ok (.iload_n 1, 1) := by decide +kernel
theorem dX5_controls_80 : decode cX5_controls 80 = .ok (.iload_n 3, 1) := by decide +kernel
theorem dX5_controls_81 : decode cX5_controls 81 = .ok (.ifCond .eq 7, 3) := by decide +kernel
theorem dX5_controls_84 : decode cX5_controls 84 = .ok (.iconst 0, 1) := by decide +kernel
theorem dX5_controls_85 : decode cX5_controls 85 = .ok (.goto 4, 3) := by decide +kernel
theorem dX5_controls_88 : decode cX5_controls 88 = .ok (.iconst (-1), 1) := by decide +kernel
theorem dX5_controls_89 : decode cX5_controls 89 = .ok (.iastore, 1) := by decide +kernel
theorem dX5_controls_90 : decode cX5_controls 90 = .ok (.iload 4, 2) := by decide +kernel
theorem dX5_controls_92 : decode cX5_controls 92 = .ok (.ireturn, 1) := by decide +kernel
theorem dX5_moves_0 : decode cX5_moves 0 = .ok (.aload_n 0, 1) := by decide +kernel
theorem dX5_moves_1 : decode cX5_moves 1 = .ok (.getfield 19, 3) := by decide +kernel
theorem dX5_moves_4 : decode cX5_moves 4 = .ok (.iload_n 1, 1) := by decide +kernel
theorem dX5_moves_5 : decode cX5_moves 5 = .ok (.invokevirtual 113, 3) := by decide +kernel
theorem dX5_moves_8 : decode cX5_moves 8 = .ok (.ifCond .ne 5, 3) := by decide +kernel
theorem dX5_moves_11 : decode cX5_moves 11 = .ok (.iconst (-1), 1) := by decide +kernel
theorem dX5_moves_12 : decode cX5_moves 12 = .ok (.ireturn, 1) := by decide +kernel
theorem dX5_moves_13 : decode cX5_moves 13 = .ok (.aload_n 0, 1) := by decide +kernel
theorem dX5_moves_14 : decode cX5_moves 14 = .ok (.getfield 36, 3) := by decide +kernel
theorem dX5_moves_17 : decode cX5_moves 17 = .ok (.getfield 119, 3) := by decide +kernel
theorem dX5_moves_20 : decode cX5_moves 20 = .ok (.iload_n 1, 1) := by decide +kernel
theorem dX5_moves_21 : decode cX5_moves 21 = .ok (.iaload, 1) := by decide +kernel
theorem dX5_moves_22 : decode cX5_moves 22 = .ok (.ifCond .eq 6, 3) := by decide +kernel
theorem dX5_moves_25 : decode cX5_moves 25 = .ok (.bipush (-2), 2) := by decide +kernel
theorem dX5_moves_27 : decode cX5_moves 27 = .ok (.ireturn, 1) := by decide +kernel
theorem dX5_moves_28 : decode cX5_moves 28 = .ok (.aload_n 0, 1) := by decide +kernel
theorem dX5_moves_29 : decode cX5_moves 29 = .ok (.getfield 46, 3) := by decide +kernel
theorem dX5_moves_32 : decode cX5_moves 32 = .ok (.aload_n 0, 1) := by decide +kernel
theorem dX5_moves_33 : decode cX5_moves 33 = .ok (.getfield 36, 3) := by decide +kernel
theorem dX5_moves_36 : decode cX5_moves 36 = .ok (.invokevirtual 99, 3) := by decide +kernel
theorem dX5_moves_39 : decode cX5_moves 39 = .ok (.aload_n 0, 1) := by decide +kernel
theorem dX5_moves_40 : decode cX5_moves 40 = .ok (.getfield 36, 3) := by decide +kernel
theorem dX5_moves_43 : decode cX5_moves 43 = .ok (.getfield 129, 3) := by decide +kernel
theorem dX5_moves_46 : decode cX5_moves 46 = .ok (.iload_n 1, 1) := by decide +kernel
theorem dX5_moves_47 : decode cX5_moves 47 = .ok (.iconst 1, 1) := by decide +kernel
theorem dX5_moves_48 : decode cX5_moves 48 = .ok (.aload_n 0, 1) := by decide +kernel
theorem dX5_moves_49 : decode cX5_moves 49 = .ok (.getfield 36, 3) := by decide +kernel
theorem dX5_moves_52 : decode cX5_moves 52 = .ok (.getfield 129, 3) := by decide +kernel
theorem dX5_moves_55 : decode cX5_moves 55 = .ok (.iload_n 1, 1) := by decide +kernel
theorem dX5_moves_56 : decode cX5_moves 56 = .ok (.iaload, 1) := by decide +kernel
theorem dX5_moves_57 : decode cX5_moves 57 = .ok (.isub, 1) := by decide +kernel
theorem dX5_moves_58 : decode cX5_moves 58 = .ok (.iastore, 1) := by decide +kernel
theorem dX5_moves_59 : decode cX5_moves 59 = .ok (.aload_n 0, 1) := by decide +kernel
theorem dX5_moves_60 : decode cX5_moves 60 = .ok (.getfield 36, 3) := by decide +kernel
theorem dX5_moves_63 : decode cX5_moves 63 = .ok (.getfield 129, 3) := by decide +kernel
theorem dX5_moves_66 : decode cX5_moves 66 = .ok (.iload_n 1, 1) := by decide +kernel
theorem dX5_moves_67 : decode cX5_moves 67 = .ok (.iaload, 1) := by decide +kernel
theorem dX5_moves_68 : decode cX5_moves 68 = .ok (.ireturn, 1) := by decide +kernel
theorem dX5_undo_0 : decode cX5_undo 0 = .ok (.aload_n 0, 1) := by decide +kernel
theorem dX5_undo_1 : decode cX5_undo 1 = .ok (.getfield 46, 3) := by decide +kernel
theorem dX5_undo_4 : decode cX5_undo 4 = .ok (.aload_n 0, 1) := by decide +kernel
theorem dX5_undo_5 : decode cX5_undo 5 = .ok (.getfield 36, 3) := by decide +kernel
theorem dX5_undo_8 : decode cX5_undo 8 = .ok (.invokevirtual 145, 3) := by decide +kernel
theorem dX5_undo_11 : decode cX5_undo 11 = .ok (.ifCond .eq 13, 3) := by decide +kernel
theorem dX5_undo_14 : decode cX5_undo 14 = .ok (.aload_n 0, 1) := by decide +kernel
theorem dX5_undo_15 : decode cX5_undo 15 = .ok (.getfield 46, 3) := by decide +kernel
theorem dX5_undo_18 : decode cX5_undo 18 = .ok (.getfield 149, 3) := by decide +kernel
theorem dX5_undo_21 : decode cX5_undo 21 = .ok (.goto 5, 3) := by decide +kernel
theorem dX5_undo_24 : decode cX5_undo 24 = .ok (.bipush (-2), 2) := by decide +kernel
theorem dX5_undo_26 : decode cX5_undo 26 = .ok (.ireturn, 1) := by decide +kernel
theorem dX5_radio_0 : decode cX5_radio 0 = .ok (.aload_n 0, 1) := by decide +kernel
theorem dX5_radio_1 : decode cX5_radio 1 = .ok (.getfield 19, 3) := by decide +kernel
theorem dX5_radio_4 : decode cX5_radio 4 = .ok (.iload_n 1, 1) := by decide +kernel
theorem dX5_radio_5 : decode cX5_radio 5 = .ok (.invokevirtual 113, 3) := by decide +kernel
theorem dX5_radio_8 : decode cX5_radio 8 = .ok (.ifCond .ne 5, 3) := by decide +kernel
theorem dX5_radio_11 : decode cX5_radio 11 = .ok (.iconst (-1), 1) := by decide +kernel
theorem dX5_radio_12 : decode cX5_radio 12 = .ok (.ireturn, 1) := by decide +kernel
theorem dX5_radio_13 : decode cX5_radio 13 = .ok (.iload_n 2, 1) := by decide +kernel
theorem dX5_radio_14 : decode cX5_radio 14 = .ok (.tableswitch 112 0 6 #[42, 52, 62, 72, 82, 92, 102], 42) := by decide +kernel
theorem dX5_radio_56 : decode cX5_radio 56 = .ok (.aload_n 0, 1) := by decide +kernel
theorem dX5_radio_57 : decode cX5_radio 57 = .ok (.getfield 36, 3) := by decide +kernel
theorem dX5_radio_60 : decode cX5_radio 60 = .ok (.getfield 129, 3) := by decide +kernel
theorem dX5_radio_63 : decode cX5_radio 63 = .ok (.iload_n 1, 1) := by decide +kernel
theorem dX5_radio_64 : decode cX5_radio 64 = .ok (.iaload, 1) := by decide +kernel
theorem dX5_radio_65 : decode cX5_radio 65 = .ok (.ireturn, 1) := by decide +kernel
theorem dX5_radio_66 : decode cX5_radio 66 = .ok (.aload_n 0, 1) := by decide +kernel
theorem dX5_radio_67 : decode cX5_radio 67 = .ok (.getfield 19, 3) := by decide +kernel
theorem dX5_radio_70 : decode cX5_radio 70 = .ok (.getfield 152, 3) := by decide +kernel
theorem dX5_radio_73 : decode cX5_radio 73 = .ok (.iload_n 1, 1) := by decide +kernel
theorem dX5_radio_74 : decode cX5_radio 74 = .ok (.iaload, 1) := by decide +kernel
theorem dX5_radio_75 : decode cX5_radio 75 = .ok (.ireturn, 1) := by decide +kernel
theorem dX5_radio_76 : decode cX5_radio 76 = .ok (.aload_n 0, 1) := by decide +kernel
theorem dX5_radio_77 : decode cX5_radio 77 = .ok (.getfield 19, 3) := by decide +kernel
theorem dX5_radio_80 : decode cX5_radio 80 = .ok (.getfield 155, 3) := by decide +kernel
theorem dX5_radio_83 : decode cX5_radio 83 = .ok (.iload_n 1, 1) := by decide +kernel
theorem dX5_radio_84 : decode cX5_radio 84 = .ok (.iaload, 1) := by decide +kernel
theorem dX5_radio_85 : decode cX5_radio 85 = .ok (.ireturn, 1) := by decide +kernel
theorem dX5_radio_86 : decode cX5_radio 86 = .ok (.aload_n 0, 1) := by decide +kernel
theorem dX5_radio_87 : decode cX5_radio 87 = .ok (.getfield 36, 3) := by decide +kernel
theorem dX5_radio_90 : decode cX5_radio 90 = .ok (.getfield 119, 3) := by decide +kernel
theorem dX5_radio_93 : decode cX5_radio 93 = .ok (.iload_n 1, 1) := by decide +kernel
theorem dX5_radio_94 : decode cX5_radio 94 = .ok (.iaload, 1) := by decide +kernel
theorem dX5_radio_95 : decode cX5_radio 95 = .ok (.ireturn, 1) := by decide +kernel
theorem dX5_radio_96 : decode cX5_radio 96 = .ok (.aload_n 0, 1) := by decide +kernel
theorem dX5_radio_97 : decode cX5_radio 97 = .ok (.getfield 36, 3) := by decide +kernel
theorem dX5_radio_100 : decode cX5_radio 100 = .ok (.getfield 158, 3) := by decide +kernel
theorem dX5_radio_103 : decode cX5_radio 103 = .ok (.iload_n 1, 1) := by decide +kernel
theorem dX5_radio_104 : decode cX5_radio 104 = .ok (.iaload, 1) := by decide +kernel
theorem dX5_radio_105 : decode cX5_radio 105 = .ok (.ireturn, 1) := by decide +kernel
theorem dX5_radio_106 : decode cX5_radio 106 = .ok (.aload_n 0, 1) := by decide +kernel
theorem dX5_radio_107 : decode cX5_radio 107 = .ok (.getfield 36, 3) := by decide +kernel
theorem dX5_radio_110 : decode cX5_radio 110 = .ok (.getfield 126, 3) := by decide +kernel
theorem dX5_radio_113 : decode cX5_radio 113 = .ok (.iload_n 1, 1) := by decide +kernel
theorem dX5_radio_114 : decode cX5_radio 114 = .ok (.iaload, 1) := by decide +kernel
theorem dX5_radio_115 : decode cX5_radio 115 = .ok (.ireturn, 1) := by decide +kernel
theorem dX5_radio_116 : decode cX5_radio 116 = .ok (.aload_n 0, 1) := by decide +kernel
theorem dX5_radio_117 : decode cX5_radio 117 = .ok (.getfield 36, 3) := by decide +kernel
theorem dX5_radio_120 : decode cX5_radio 120 = .ok (.getfield 161, 3) := by decide +kernel
theorem dX5_radio_123 : decode cX5_radio 123 = .ok (.iload_n 1, 1) := by decide +kernel
theorem dX5_radio_124 : decode cX5_radio 124 = .ok (.iaload, 1) := by decide +kernel
theorem dX5_radio_125 : decode cX5_radio 125 = .ok (.ireturn, 1) := by decide +kernel
theorem dX5_radio_126 : decode cX5_radio 126 = .ok (.iconst (-1), 1) := by decide +kernel
theorem dX5_radio_127 : decode cX5_radio 127 = .ok (.ireturn, 1) := by decide +kernel
theorem dX5_site_0 : decode cX5_site 0 = .ok (.iload_n 1, 1) := by decide +kernel
theorem dX5_site_1 : decode cX5_site 1 = .ok (.invokestatic 136, 3) := by decide +kernel
theorem dX5_site_4 : decode cX5_site 4 = .ok (.ifCond .ne 5, 3) := by decide +kernel
theorem dX5_site_7 : decode cX5_site 7 = .ok (.iconst (-1), 1) := by decide +kernel
theorem dX5_site_8 : decode cX5_site 8 = .ok (.ireturn, 1) := by decide +kernel
theorem dX5_site_9 : decode cX5_site 9 = .ok (.iload_n 2, 1) := by decide +kernel
theorem dX5_site_10 : decode cX5_site 10 = .ok (.tableswitch 95 0 3 #[30, 40, 53, 70], 30) := by decide +kernel
theorem dX5_site_40 : decode cX5_site 40 = .ok (.aload_n 0, 1) := by decide +kernel
theorem dX5_site_41 : decode cX5_site 41 = .ok (.getfield 19, 3) := by decide +kernel
theorem dX5_site_44 : decode cX5_site 44 = .ok (.getfield 164, 3) := by decide +kernel
theorem dX5_site_47 : decode cX5_site 47 = .ok (.iload_n 1, 1) := by decide +kernel
theorem dX5_site_48 : decode cX5_site 48 = .ok (.iaload, 1) := by decide +kernel
theorem dX5_site_49 : decode cX5_site 49 = .ok (.ireturn, 1) := by decide +kernel
theorem dX5_site_50 : decode cX5_site 50 = .ok (.aload_n 0, 1) := by decide +kernel
theorem dX5_site_51 : decode cX5_site 51 = .ok (.getfield 36, 3) := by decide +kernel
theorem dX5_site_54 : decode cX5_site 54 = .ok (.aload_n 0, 1) := by decide +kernel
theorem dX5_site_55 : decode cX5_site 55 = .ok (.getfield 19, 3) := by decide +kernel
theorem dX5_site_58 : decode cX5_site 58 = .ok (.iload_n 1, 1) := by decide +kernel
theorem dX5_site_59 : decode cX5_site 59 = .ok (.invokevirtual 167, 3) := by decide +kernel
theorem dX5_site_62 : decode cX5_site 62 = .ok (.ireturn, 1) := by decide +kernel
theorem dX5_site_63 : decode cX5_site 63 = .ok (.aload_n 0, 1) := by decide +kernel
theorem dX5_site_64 : decode cX5_site 64 = .ok (.getfield 36, 3) := by decide +kernel
theorem dX5_site_67 : decode cX5_site 67 = .ok (.iload_n 1, 1) := by decide +kernel
theorem dX5_site_68 : decode cX5_site 68 = .ok (.invokevirtual 139, 3) := by decide +kernel
theorem dX5_site_71 : decode cX5_site 71 = .ok (.ifCond .eq 7, 3) := by decide +kernel
theorem dX5_site_74 : decode cX5_site 74 = .ok (.iconst 1, 1) := by decide +kernel
theorem dX5_site_75 : decode cX5_site 75 = .ok (.goto 4, 3) := by decide +kernel
theorem dX5_site_78 : decode cX5_site 78 = .ok (.iconst 0, 1) := by decide +kernel
theorem dX5_site_79 : decode cX5_site 79 = .ok (.ireturn, 1) := by decide +kernel
theorem dX5_site_80 : decode cX5_site 80 = .ok (.aload_n 0, 1) := by decide +kernel
theorem dX5_site_81 : decode cX5_site 81 = .ok (.getfield 36, 3) := by decide +kernel
theorem dX5_site_84 : decode cX5_site 84 = .ok (.iload_n 1, 1) := by decide +kernel
theorem dX5_site_85 : decode cX5_site 85 = .ok (.invokevirtual 139, 3) := by decide +kernel
theorem dX5_site_88 : decode cX5_site 88 = .ok (.ifCond .eq 7, 3) := by decide +kernel
theorem dX5_site_91 : decode cX5_site 91 = .ok (.iconst 0, 1) := by decide +kernel
theorem dX5_site_92 : decode cX5_site 92 = .ok (.goto 12, 3) := by decide +kernel
theorem dX5_site_95 : decode cX5_site 95 = .ok (.aload_n 0, 1) := by decide +kernel
theorem dX5_site_96 : decode cX5_site 96 = .ok (.getfield 36, 3) := by decide +kernel
theorem dX5_site_99 : decode cX5_site 99 = .ok (.getfield 142, 3) := by decide +kernel
theorem dX5_site_102 : decode cX5_site 102 = .ok (.iload_n 1, 1) := by decide +kernel
theorem dX5_site_103 : decode cX5_site 103 = .ok (.iaload, 1) := by decide +kernel
theorem dX5_site_104 : decode cX5_site 104 = .ok (.ireturn, 1) := by decide +kernel
theorem dX5_site_105 : decode cX5_site 105 = .ok (.iconst (-1), 1) := by decide +kernel
theorem dX5_site_106 : decode cX5_site 106 = .ok (.ireturn, 1) := by decide +kernel
theorem dX5_talker_0 : decode cX5_talker 0 = .ok (.iload_n 1, 1) := by decide +kernel
theorem dX5_talker_1 : decode cX5_talker 1 = .ok (.ifCond .lt 9, 3) := by decide +kernel
theorem dX5_talker_4 : decode cX5_talker 4 = .ok (.iload_n 1, 1) := by decide +kernel
theorem dX5_talker_5 : decode cX5_talker 5 = .ok (.bipush 6, 2) := by decide +kernel
theorem dX5_talker_7 : decode cX5_talker 7 = .ok (.if_icmp .lt 7, 3) := by decide +kernel
theorem dX5_talker_10 : decode cX5_talker 10 = .ok (.iconst (-1), 1) := by decide +kernel
theorem dX5_talker_11 : decode cX5_talker 11 = .ok (.goto 15, 3) := by decide +kernel
theorem dX5_talker_14 : decode cX5_talker 14 = .ok (.aload_n 0, 1) := by decide +kernel
theorem dX5_talker_15 : decode cX5_talker 15 = .ok (.getfield 36, 3) := by decide +kernel
theorem dX5_talker_18 : decode cX5_talker 18 = .ok (.aload_n 0, 1) := by decide +kernel
theorem dX5_talker_19 : decode cX5_talker 19 = .ok (.getfield 19, 3) := by decide +kernel
theorem dX5_talker_22 : decode cX5_talker 22 = .ok (.iload_n 1, 1) := by decide +kernel
theorem dX5_talker_23 : decode cX5_talker 23 = .ok (.invokevirtual 171, 3) := by decide +kernel
theorem dX5_talker_26 : decode cX5_talker 26 = .ok (.ireturn, 1) := by decide +kernel
theorem dX5_queue_0 : decode cX5_queue 0 = .ok (.iload_n 1, 1) := by decide +kernel
theorem dX5_queue_1 : decode cX5_queue 1 = .ok (.ifCond .ge 5, 3) := by decide +kernel
theorem dX5_queue_4 : decode cX5_queue 4 = .ok (.iconst (-1), 1) := by decide +kernel
theorem dX5_queue_5 : decode cX5_queue 5 = .ok (.ireturn, 1) := by decide +kernel
theorem dX5_queue_6 : decode cX5_queue 6 = .ok (.aload_n 0, 1) := by decide +kernel
theorem dX5_queue_7 : decode cX5_queue 7 = .ok (.getfield 29, 3) := by decide +kernel
theorem dX5_queue_10 : decode cX5_queue 10 = .ok (.aload_n 0, 1) := by decide +kernel
theorem dX5_queue_11 : decode cX5_queue 11 = .ok (.getfield 19, 3) := by decide +kernel
theorem dX5_queue_14 : decode cX5_queue 14 = .ok (.aload_n 0, 1) := by decide +kernel
theorem dX5_queue_15 : decode cX5_queue 15 = .ok (.getfield 36, 3) := by decide +kernel
theorem dX5_queue_18 : decode cX5_queue 18 = .ok (.invokevirtual 174, 3) := by decide +kernel
theorem dX5_queue_21 : decode cX5_queue 21 = .ok (.istore_n 2, 1) := by decide +kernel
theorem dX5_queue_22 : decode cX5_queue 22 = .ok (.iload_n 1, 1) := by decide +kernel
theorem dX5_queue_23 : decode cX5_queue 23 = .ok (.iload_n 2, 1) := by decide +kernel
theorem dX5_queue_24 : decode cX5_queue 24 = .ok (.if_icmp .ge 21, 3) := by decide +kernel
theorem dX5_queue_27 : decode cX5_queue 27 = .ok (.iload_n 1, 1) := by decide +kernel
theorem dX5_queue_28 : decode cX5_queue 28 = .ok (.bipush 7, 2) := by decide +kernel
theorem dX5_queue_30 : decode cX5_queue 30 = .ok (.if_icmp .ge 15, 3) := by decide +kernel
theorem dX5_queue_33 : decode cX5_queue 33 = .ok (.aload_n 0, 1) := by decide +kernel
theorem dX5_queue_34 : decode cX5_queue 34 = .ok (.getfield 29, 3) := by decide +kernel
theorem dX5_queue_37 : decode cX5_queue 37 = .ok (.getfield 178, 3) := by decide +kernel
theorem dX5_queue_40 : decode cX5_queue 40 = .ok (.iload_n 1, 1) := by decide +kernel
theorem dX5_queue_41 : decode cX5_queue 41 = .ok (.iaload, 1) := by decide +kernel
theorem dX5_queue_42 : decode cX5_queue 42 = .ok (.goto 5, 3) := by decide +kernel
theorem dX5_queue_45 : decode cX5_queue 45 = .ok (.bipush (-9), 2) := by decide +kernel
theorem dX5_queue_47 : decode cX5_queue 47 = .ok (.ireturn, 1) := by decide +kernel
theorem dX5_soon_0 : decode cX5_soon 0 = .ok (.aload_n 0, 1) := by decide +kernel
theorem dX5_soon_1 : decode cX5_soon 1 = .ok (.getfield 19, 3) := by decide +kernel
theorem dX5_soon_4 : decode cX5_soon 4 = .ok (.iload_n 1, 1) := by decide +kernel
theorem dX5_soon_5 : decode cX5_soon 5 = .ok (.invokevirtual 113, 3) := by decide +kernel
theorem dX5_soon_8 : decode cX5_soon 8 = .ok (.ifCond .ne 5, 3) := by decide +kernel
theorem dX5_soon_11 : decode cX5_soon 11 = .ok (.iconst (-1), 1) := by decide +kernel
theorem dX5_soon_12 : decode cX5_soon 12 = .ok (.ireturn, 1) := by decide +kernel
theorem dX5_soon_13 : decode cX5_soon 13 = .ok (.aload_n 0, 1) := by decide +kernel
theorem dX5_soon_14 : decode cX5_soon 14 = .ok (.getfield 40, 3) := by decide +kernel
theorem dX5_soon_17 : decode cX5_soon 17 = .ok (.aload_n 0, 1) := by decide +kernel
theorem dX5_soon_18 : decode cX5_soon 18 = .ok (.getfield 36, 3) := by decide +kernel
theorem dX5_soon_21 : decode cX5_soon 21 = .ok (.invokevirtual 181, 3) := by decide +kernel
theorem dX5_soon_24 : decode cX5_soon 24 = .ok (.iconst 0, 1) := by decide +kernel
theorem dX5_soon_25 : decode cX5_soon 25 = .ok (.istore_n 2, 1) := by decide +kernel
theorem dX5_soon_26 : decode cX5_soon 26 = .ok (.iload_n 2, 1) := by decide +kernel
theorem dX5_soon_27 : decode cX5_soon 27 = .ok (.bipush 60, 2) := by decide +kernel
theorem dX5_soon_29 : decode cX5_soon 29 = .ok (.if_icmp .gt 52, 3) := by decide +kernel
theorem dX5_soon_32 : decode cX5_soon 32 = .ok (.aload_n 0, 1) := by decide +kernel
theorem dX5_soon_33 : decode cX5_soon 33 = .ok (.getfield 40, 3) := by decide +kernel
theorem dX5_soon_36 : decode cX5_soon 36 = .ok (.iload_n 1, 1) := by decide +kernel
theorem dX5_soon_37 : decode cX5_soon 37 = .ok (.invokevirtual 110, 3) := by decide +kernel
theorem dX5_soon_40 : decode cX5_soon 40 = .ok (.ifCond .eq 5, 3) := by decide +kernel
theorem dX5_soon_43 : decode cX5_soon 43 = .ok (.iload_n 2, 1) := by decide +kernel
theorem dX5_soon_44 : decode cX5_soon 44 = .ok (.ireturn, 1) := by decide +kernel
theorem dX5_soon_45 : decode cX5_soon 45 = .ok (.aload_n 0, 1) := by decide +kernel
theorem dX5_soon_46 : decode cX5_soon 46 = .ok (.getfield 40, 3) := by decide +kernel
theorem dX5_soon_49 : decode cX5_soon 49 = .ok (.getfield 119, 3) := by decide +kernel
theorem dX5_soon_52 : decode cX5_soon 52 = .ok (.iload_n 1, 1) := by decide +kernel
theorem dX5_soon_53 : decode cX5_soon 53 = .ok (.iaload, 1) := by decide +kernel
theorem dX5_soon_54 : decode cX5_soon 54 = .ok (.ifCond .ne 6, 3) := by decide +kernel
theorem dX5_soon_57 : decode cX5_soon 57 = .ok (.bipush (-9), 2) := by decide +kernel
theorem dX5_soon_59 : decode cX5_soon 59 = .ok (.ireturn, 1) := by decide +kernel
theorem dX5_soon_60 : decode cX5_soon 60 = .ok (.aload_n 0, 1) := by decide +kernel
theorem dX5_soon_61 : decode cX5_soon 61 = .ok (.getfield 29, 3) := by decide +kernel
theorem dX5_soon_64 : decode cX5_soon 64 = .ok (.aload_n 0, 1) := by decide +kernel
theorem dX5_soon_65 : decode cX5_soon 65 = .ok (.getfield 19, 3) := by decide +kernel
theorem dX5_soon_68 : decode cX5_soon 68 = .ok (.aload_n 0, 1) := by decide +kernel
theorem dX5_soon_69 : decode cX5_soon 69 = .ok (.getfield 40, 3) := by decide +kernel
theorem dX5_soon_72 : decode cX5_soon 72 = .ok (.invokevirtual 103, 3) := by decide +kernel
theorem dX5_soon_75 : decode cX5_soon 75 = .ok (.iinc 2 1, 3) := by decide +kernel
theorem dX5_soon_78 : decode cX5_soon 78 = .ok (.goto (-52), 3) := by decide +kernel
theorem dX5_soon_81 : decode cX5_soon 81 = .ok (.bipush (-9), 2) := by decide +kernel
theorem dX5_soon_83 : decode cX5_soon 83 = .ok (.ireturn, 1) := by decide +kernel
theorem dX5_within_0 : decode cX5_within 0 = .ok (.iload_n 1, 1) := by decide +kernel
theorem dX5_within_1 : decode cX5_within 1 = .ok (.iconst 1, 1) := by decide +kernel
theorem dX5_within_2 : decode cX5_within 2 = .ok (.if_icmp .lt 18, 3) := by decide +kernel
theorem dX5_within_5 : decode cX5_within 5 = .ok (.iload_n 1, 1) := by decide +kernel
theorem dX5_within_6 : decode cX5_within 6 = .ok (.bipush 60, 2) := by decide +kernel
theorem dX5_within_8 : decode cX5_within 8 = .ok (.if_icmp .gt 12, 3) := by decide +kernel
theorem dX5_within_11 : decode cX5_within 11 = .ok (.iload_n 2, 1) := by decide +kernel
theorem dX5_within_12 : decode cX5_within 12 = .ok (.ifCond .lt 8, 3) := by decide +kernel
theorem dX5_within_15 : decode cX5_within 15 = .ok (.iload_n 2, 1) := by decide +kernel
theorem dX5_within_16 : decode cX5_within 16 = .ok (.iconst 3, 1) := by decide +kernel
theorem dX5_within_17 : decode cX5_within 17 = .ok (.if_icmp .le 5, 3) := by decide +kernel
theorem dX5_within_20 : decode cX5_within 20 = .ok (.iconst (-1), 1) := by decide +kernel
theorem dX5_within_21 : decode cX5_within 21 = .ok (.ireturn, 1) := by decide +kernel
theorem dX5_within_22 : decode cX5_within 22 = .ok (.iconst 0, 1) := by decide +kernel
theorem dX5_within_23 : decode cX5_within 23 = .ok (.istore_n 3, 1) := by decide +kernel
theorem dX5_within_24 : decode cX5_within 24 = .ok (.aload_n 0, 1) := by decide +kernel
theorem dX5_within_25 : decode cX5_within 25 = .ok (.getfield 40, 3) := by decide +kernel
theorem dX5_within_28 : decode cX5_within 28 = .ok (.aload_n 0, 1) := by decide +kernel
theorem dX5_within_29 : decode cX5_within 29 = .ok (.getfield 36, 3) := by decide +kernel
theorem dX5_within_32 : decode cX5_within 32 = .ok (.invokevirtual 181, 3) := by decide +kernel
theorem dX5_within_35 : decode cX5_within 35 = .ok (.iconst 0, 1) := by decide +kernel
theorem dX5_within_36 : decode cX5_within 36 = .ok (.istore 4, 2) := by decide +kernel
theorem dX5_within_38 : decode cX5_within 38 = .ok (.iload 4, 2) := by decide +kernel
theorem dX5_within_40 : decode cX5_within 40 = .ok (.iload_n 1, 1) := by decide +kernel
theorem dX5_within_41 : decode cX5_within 41 = .ok (.if_icmp .ge 49, 3) := by decide +kernel
theorem dX5_within_44 : decode cX5_within 44 = .ok (.aload_n 0, 1) := by decide +kernel
theorem dX5_within_45 : decode cX5_within 45 = .ok (.getfield 29, 3) := by decide +kernel
theorem dX5_within_48 : decode cX5_within 48 = .ok (.aload_n 0, 1) := by decide +kernel
theorem dX5_within_49 : decode cX5_within 49 = .ok (.getfield 19, 3) := by decide +kernel
theorem dX5_within_52 : decode cX5_within 52 = .ok (.aload_n 0, 1) := by decide +kernel
theorem dX5_within_53 : decode cX5_within 53 = .ok (.getfield 40, 3) := by decide +kernel
theorem dX5_within_56 : decode cX5_within 56 = .ok (.invokevirtual 103, 3) := by decide +kernel
theorem dX5_within_59 : decode cX5_within 59 = .ok (.iload_n 2, 1) := by decide +kernel
theorem dX5_within_60 : decode cX5_within 60 = .ok (.invokestatic 136, 3) := by decide +kernel
theorem dX5_within_63 : decode cX5_within 63 = .ok (.ifCond .eq 21, 3) := by decide +kernel
theorem dX5_within_66 : decode cX5_within 66 = .ok (.iload_n 3, 1) := by decide +kernel
theorem dX5_within_67 : decode cX5_within 67 = .ok (.aload_n 0, 1) := by decide +kernel
theorem dX5_within_68 : decode cX5_within 68 = .ok (.getfield 40, 3) := by decide +kernel
theorem dX5_within_71 : decode cX5_within 71 = .ok (.aload_n 0, 1) := by decide +kernel
theorem dX5_within_72 : decode cX5_within 72 = .ok (.getfield 19, 3) := by decide +kernel
theorem dX5_within_75 : decode cX5_within 75 = .ok (.invokevirtual 183, 3) := by decide +kernel
theorem dX5_within_78 : decode cX5_within 78 = .ok (.iload_n 2, 1) := by decide +kernel
theorem dX5_within_79 : decode cX5_within 79 = .ok (.ishr, 1) := by decide +kernel
theorem dX5_within_80 : decode cX5_within 80 = .ok (.iconst 1, 1) := by decide +kernel
theorem dX5_within_81 : decode cX5_within 81 = .ok (.iand, 1) := by decide +kernel
theorem dX5_within_82 : decode cX5_within 82 = .ok (.iadd, 1) := by decide +kernel
theorem dX5_within_83 : decode cX5_within 83 = .ok (.istore_n 3, 1) := by decide +kernel
theorem dX5_within_84 : decode cX5_within 84 = .ok (.iinc 4 1, 3) := by decide +kernel
theorem dX5_within_87 : decode cX5_within 87 = .ok (.goto (-49), 3) := by decide +kernel
theorem dX5_within_90 : decode cX5_within 90 = .ok (.iload_n 2, 1) := by decide +kernel
theorem dX5_within_91 : decode cX5_within 91 = .ok (.invokestatic 136, 3) := by decide +kernel
theorem dX5_within_94 : decode cX5_within 94 = .ok (.ifCond .eq 5, 3) := by decide +kernel
theorem dX5_within_97 : decode cX5_within 97 = .ok (.iload_n 3, 1) := by decide +kernel
theorem dX5_within_98 : decode cX5_within 98 = .ok (.ireturn, 1) := by decide +kernel
theorem dX5_within_99 : decode cX5_within 99 = .ok (.iload_n 2, 1) := by decide +kernel
theorem dX5_within_100 : decode cX5_within 100 = .ok (.iconst 2, 1) := by decide +kernel
theorem dX5_within_101 : decode cX5_within 101 = .ok (.if_icmp .ne 21, 3) := by decide +kernel
theorem dX5_within_104 : decode cX5_within 104 = .ok (.aload_n 0, 1) := by decide +kernel
theorem dX5_within_105 : decode cX5_within 105 = .ok (.getfield 40, 3) := by decide +kernel
theorem dX5_within_108 : decode cX5_within 108 = .ok (.getfield 186, 3) := by decide +kernel
theorem dX5_within_111 : decode cX5_within 111 = .ok (.aload_n 0, 1) := by decide +kernel
theorem dX5_within_112 : decode cX5_within 112 = .ok (.getfield 36, 3) := by decide +kernel
theorem dX5_within_115 : decode cX5_within 115 = .ok (.getfield 186, 3) := by decide +kernel
theorem dX5_within_118 : decode cX5_within 118 = .ok (.isub, 1) := by decide +kernel
theorem dX5_within_119 : decode cX5_within 119 = .ok (.goto 18, 3) := by decide +kernel
theorem dX5_within_122 : decode cX5_within 122 = .ok (.aload_n 0, 1) := by decide +kernel
theorem dX5_within_123 : decode cX5_within 123 = .ok (.getfield 40, 3) := by decide +kernel
theorem dX5_within_126 : decode cX5_within 126 = .ok (.getfield 189, 3) := by decide +kernel
theorem dX5_within_129 : decode cX5_within 129 = .ok (.aload_n 0, 1) := by decide +kernel
theorem dX5_within_130 : decode cX5_within 130 = .ok (.getfield 36, 3) := by decide +kernel
theorem dX5_within_133 : decode cX5_within 133 = .ok (.getfield 189, 3) := by decide +kernel
theorem dX5_within_136 : decode cX5_within 136 = .ok (.isub, 1) := by decide +kernel
theorem dX5_within_137 : decode cX5_within 137 = .ok (.ireturn, 1) := by decide +kernel
theorem dX5_wave_0 : decode cX5_wave 0 = .ok (.iload_n 1, 1) := by decide +kernel
theorem dX5_wave_1 : decode cX5_wave 1 = .ok (.ifCond .lt 23, 3) := by decide +kernel
theorem dX5_wave_4 : decode cX5_wave 4 = .ok (.iload_n 1, 1) := by decide +kernel
theorem dX5_wave_5 : decode cX5_wave 5 = .ok (.iconst 1, 1) := by decide +kernel
theorem dX5_wave_6 : decode cX5_wave 6 = .ok (.aload_n 0, 1) := by decide +kernel
theorem dX5_wave_7 : decode cX5_wave 7 = .ok (.getfield 19, 3) := by decide +kernel
theorem dX5_wave_10 : decode cX5_wave 10 = .ok (.getfield 107, 3) := by decide +kernel
theorem dX5_wave_13 : decode cX5_wave 13 = .ok (.ishl, 1) := by decide +kernel
theorem dX5_wave_14 : decode cX5_wave 14 = .ok (.if_icmp .ge 10, 3) := by decide +kernel
theorem dX5_wave_17 : decode cX5_wave 17 = .ok (.iload_n 2, 1) := by decide +kernel
theorem dX5_wave_18 : decode cX5_wave 18 = .ok (.invokestatic 116, 3) := by decide +kernel
theorem dX5_wave_21 : decode cX5_wave 21 = .ok (.ifCond .ne 5, 3) := by decide +kernel
theorem dX5_wave_24 : decode cX5_wave 24 = .ok (.iconst (-1), 1) := by decide +kernel
theorem dX5_wave_25 : decode cX5_wave 25 = .ok (.ireturn, 1) := by decide +kernel
theorem dX5_wave_26 : decode cX5_wave 26 = .ok (.iload_n 2, 1) := by decide +kernel
theorem dX5_wave_27 : decode cX5_wave 27 = .ok (.ifCond .ne 9, 3) := by decide +kernel
theorem dX5_wave_30 : decode cX5_wave 30 = .ok (.aload_n 0, 1) := by decide +kernel
theorem dX5_wave_31 : decode cX5_wave 31 = .ok (.iload_n 1, 1) := by decide +kernel
theorem dX5_wave_32 : decode cX5_wave 32 = .ok (.invokevirtual 192, 3) := by decide +kernel
theorem dX5_wave_35 : decode cX5_wave 35 = .ok (.ireturn, 1) := by decide +kernel
theorem dX5_wave_36 : decode cX5_wave 36 = .ok (.iconst 1, 1) := by decide +kernel
theorem dX5_wave_37 : decode cX5_wave 37 = .ok (.istore_n 3, 1) := by decide +kernel
theorem dX5_wave_38 : decode cX5_wave 38 = .ok (.iload_n 3, 1) := by decide +kernel
theorem dX5_wave_39 : decode cX5_wave 39 = .ok (.iconst 3, 1) := by decide +kernel
theorem dX5_wave_40 : decode cX5_wave 40 = .ok (.if_icmp .gt 87, 3) := by decide +kernel
theorem dX5_wave_43 : decode cX5_wave 43 = .ok (.aload_n 0, 1) := by decide +kernel
theorem dX5_wave_44 : decode cX5_wave 44 = .ok (.getfield 23, 3) := by decide +kernel
theorem dX5_wave_47 : decode cX5_wave 47 = .ok (.aload_n 0, 1) := by decide +kernel
theorem dX5_wave_48 : decode cX5_wave 48 = .ok (.getfield 19, 3) := by decide +kernel
theorem dX5_wave_51 : decode cX5_wave 51 = .ok (.invokevirtual 80, 3) := by decide +kernel
theorem dX5_wave_54 : decode cX5_wave 54 = .ok (.iconst 0, 1) := by decide +kernel
theorem dX5_wave_55 : decode cX5_wave 55 = .ok (.istore 4, 2) := by decide +kernel
theorem dX5_wave_57 : decode cX5_wave 57 = .ok (.iload 4, 2) := by decide +kernel
theorem dX5_wave_59 : decode cX5_wave 59 = .ok (.iconst 2, 1) := by decide +kernel
theorem dX5_wave_60 : decode cX5_wave 60 = .ok (.if_icmp .ge 51, 3) := by decide +kernel
theorem dX5_wave_63 : decode cX5_wave 63 = .ok (.aload_n 0, 1) := by decide +kernel
theorem dX5_wave_64 : decode cX5_wave 64 = .ok (.getfield 19, 3) := by decide +kernel
theorem dX5_wave_67 : decode cX5_wave 67 = .ok (.getfield 164, 3) := by decide +kernel
theorem dX5_wave_70 : decode cX5_wave 70 = .ok (.iload 4, 2) := by decide +kernel
theorem dX5_wave_72 : decode cX5_wave 72 = .ok (.iaload, 1) := by decide +kernel
theorem dX5_wave_73 : decode cX5_wave 73 = .ok (.aload_n 0, 1) := by decide +kernel
theorem dX5_wave_74 : decode cX5_wave 74 = .ok (.getfield 36, 3) := by decide +kernel
theorem dX5_wave_77 : decode cX5_wave 77 = .ok (.aload_n 0, 1) := by decide +kernel
theorem dX5_wave_78 : decode cX5_wave 78 = .ok (.getfield 19, 3) := by decide +kernel
theorem dX5_wave_81 : decode cX5_wave 81 = .ok (.iload 4, 2) := by decide +kernel
theorem dX5_wave_83 : decode cX5_wave 83 = .ok (.invokevirtual 167, 3) := by decide +kernel
theorem dX5_wave_86 : decode cX5_wave 86 = .ok (.isub, 1) := by decide +kernel
theorem dX5_wave_87 : decode cX5_wave 87 = .ok (.istore 5, 2) := by decide +kernel
theorem dX5_wave_89 : decode cX5_wave 89 = .ok (.aload_n 0, 1) := by decide +kernel
theorem dX5_wave_90 : decode cX5_wave 90 = .ok (.getfield 23, 3) := by decide +kernel
theorem dX5_wave_93 : decode cX5_wave 93 = .ok (.getfield 164, 3) := by decide +kernel
theorem dX5_wave_96 : decode cX5_wave 96 = .ok (.iload 4, 2) := by decide +kernel
theorem dX5_wave_98 : decode cX5_wave 98 = .ok (.iload_n 3, 1) := by decide +kernel
theorem dX5_wave_99 : decode cX5_wave 99 = .ok (.iload 5, 2) := by decide +kernel
theorem dX5_wave_101 : decode cX5_wave 101 = .ok (.invokestatic 196, 3) := by decide +kernel
theorem dX5_wave_104 : decode cX5_wave 104 = .ok (.iastore, 1) := by decide +kernel
theorem dX5_wave_105 : decode cX5_wave 105 = .ok (.iinc 4 1, 3) := by decide +kernel
theorem dX5_wave_108 : decode cX5_wave 108 = .ok (.goto (-51), 3) := by decide +kernel
theorem dX5_wave_111 : decode cX5_wave 111 = .ok (.aload_n 0, 1) := by decide +kernel
theorem dX5_wave_112 : decode cX5_wave 112 = .ok (.iload_n 1, 1) := by decide +kernel
theorem dX5_wave_113 : decode cX5_wave 113 = .ok (.invokevirtual 202, 3) := by decide +kernel
theorem dX5_wave_116 : decode cX5_wave 116 = .ok (.ifCond .eq 5, 3) := by decide +kernel
theorem dX5_wave_119 : decode cX5_wave 119 = .ok (.iload_n 3, 1) := by decide +kernel
theorem dX5_wave_120 : decode cX5_wave 120 = .ok (.ireturn, 1) := by decide +kernel
theorem dX5_wave_121 : decode cX5_wave 121 = .ok (.iinc 3 1, 3) := by decide +kernel
theorem dX5_wave_124 : decode cX5_wave 124 = .ok (.goto (-86), 3) := by decide +kernel
theorem dX5_wave_127 : decode cX5_wave 127 = .ok (.bipush (-9), 2) := by decide +kernel
theorem dX5_wave_129 : decode cX5_wave 129 = .ok (.ireturn, 1) := by decide +kernel
theorem dX5_odds_0 : decode cX5_odds 0 = .ok (.iload_n 1, 1) := by decide +kernel
theorem dX5_odds_1 : decode cX5_odds 1 = .ok (.ifCond .lt 39, 3) := by decide +kernel
theorem dX5_odds_4 : decode cX5_odds 4 = .ok (.iload_n 1, 1) := by decide +kernel
theorem dX5_odds_5 : decode cX5_odds 5 = .ok (.bipush 10, 2) := by decide +kernel
theorem dX5_odds_7 : decode cX5_odds 7 = .ok (.if_icmp .gt 33, 3) := by decide +kernel
theorem dX5_odds_10 : decode cX5_odds 10 = .ok (.aload_n 0, 1) := by decide +kernel
theorem dX5_odds_11 : decode cX5_odds 11 = .ok (.getfield 19, 3) := by decide +kernel
theorem dX5_odds_14 : decode cX5_odds 14 = .ok (.iload_n 2, 1) := by decide +kernel
theorem dX5_odds_15 : decode cX5_odds 15 = .ok (.invokevirtual 113, 3) := by decide +kernel
theorem dX5_odds_18 : decode cX5_odds 18 = .ok (.ifCond .eq 22, 3) := by decide +kernel
theorem dX5_odds_21 : decode cX5_odds 21 = .ok (.iload_n 3, 1) := by decide +kernel
theorem dX5_odds_22 : decode cX5_odds 22 = .ok (.iconst 1, 1) := by decide +kernel
theorem dX5_odds_23 : decode cX5_odds 23 = .ok (.if_icmp .lt 17, 3) := by decide +kernel
theorem dX5_odds_26 : decode cX5_odds 26 = .ok (.iload_n 3, 1) := by decide +kernel
theorem dX5_odds_27 : decode cX5_odds 27 = .ok (.bipush 20, 2) := by decide +kernel
theorem dX5_odds_29 : decode cX5_odds 29 = .ok (.if_icmp .gt 11, 3) := by decide +kernel
theorem dX5_odds_32 : decode cX5_odds 32 = .ok (.iload 4, 2) := by decide +kernel
theorem dX5_odds_34 : decode cX5_odds 34 = .ok (.invokestatic 116, 3) := by decide +kernel
theorem dX5_odds_37 : decode cX5_odds 37 = .ok (.ifCond .ne 5, 3) := by decide +kernel
theorem dX5_odds_40 : decode cX5_odds 40 = .ok (.iconst (-1), 1) := by decide +kernel
theorem dX5_odds_41 : decode cX5_odds 41 = .ok (.ireturn, 1) := by decide +kernel
theorem dX5_odds_42 : decode cX5_odds 42 = .ok (.aload_n 0, 1) := by decide +kernel
theorem dX5_odds_43 : decode cX5_odds 43 = .ok (.getfield 36, 3) := by decide +kernel
theorem dX5_odds_46 : decode cX5_odds 46 = .ok (.aload_n 0, 1) := by decide +kernel
theorem dX5_odds_47 : decode cX5_odds 47 = .ok (.getfield 19, 3) := by decide +kernel
theorem dX5_odds_50 : decode cX5_odds 50 = .ok (.invokevirtual 205, 3) := by decide +kernel
theorem dX5_odds_53 : decode cX5_odds 53 = .ok (.iconst 1, 1) := by decide +kernel
theorem dX5_odds_54 : decode cX5_odds 54 = .ok (.iload_n 2, 1) := by decide +kernel
theorem dX5_odds_55 : decode cX5_odds 55 = .ok (.ishl, 1) := by decide +kernel
theorem dX5_odds_56 : decode cX5_odds 56 = .ok (.iconst (-1), 1) := by decide +kernel
theorem dX5_odds_57 : decode cX5_odds 57 = .ok (.ixor, 1) := by decide +kernel
theorem dX5_odds_58 : decode cX5_odds 58 = .ok (.iand, 1) := by decide +kernel
theorem dX5_odds_59 : decode cX5_odds 59 = .ok (.istore 5, 2) := by decide +kernel
theorem dX5_odds_61 : decode cX5_odds 61 = .ok (.iconst 0, 1) := by decide +kernel
theorem dX5_odds_62 : decode cX5_odds 62 = .ok (.istore 6, 2) := by decide +kernel
theorem dX5_odds_64 : decode cX5_odds 64 = .ok (.iconst 0, 1) := by decide +kernel
theorem dX5_odds_65 : decode cX5_odds 65 = .ok (.istore 7, 2) := by decide +kernel
theorem dX5_odds_67 : decode cX5_odds 67 = .ok (.iload 7, 2) := by decide +kernel
theorem dX5_odds_69 : decode cX5_odds 69 = .ok (.iconst 1, 1) := by decide +kernel
theorem dX5_odds_70 : decode cX5_odds 70 = .ok (.aload_n 0, 1) := by decide +kernel
theorem dX5_odds_71 : decode cX5_odds 71 = .ok (.getfield 19, 3) := by decide +kernel
theorem dX5_odds_74 : decode cX5_odds 74 = .ok (.getfield 107, 3) := by decide +kernel
theorem dX5_odds_77 : decode cX5_odds 77 = .ok (.ishl, 1) := by decide +kernel
theorem dX5_odds_78 : decode cX5_odds 78 = .ok (.if_icmp .ge 74, 3) := by decide +kernel
theorem dX5_odds_81 : decode cX5_odds 81 = .ok (.iload 7, 2) := by decide +kernel
theorem dX5_odds_83 : decode cX5_odds 83 = .ok (.iload 5, 2) := by decide +kernel
theorem dX5_odds_85 : decode cX5_odds 85 = .ok (.iconst (-1), 1) := by decide +kernel
theorem dX5_odds_86 : decode cX5_odds 86 = .ok (.ixor, 1) := by decide +kernel
theorem dX5_odds_87 : decode cX5_odds 87 = .ok (.iand, 1) := by decide +kernel
theorem dX5_odds_88 : decode cX5_odds 88 = .ok (.ifCond .eq 6, 3) := by decide +kernel
theorem dX5_odds_91 : decode cX5_odds 91 = .ok (.goto 55, 3) := by decide +kernel
theorem dX5_odds_94 : decode cX5_odds 94 = .ok (.iload_n 1, 1) := by decide +kernel
theorem dX5_odds_95 : decode cX5_odds 95 = .ok (.iload 7, 2) := by decide +kernel
theorem dX5_odds_97 : decode cX5_odds 97 = .ok (.invokestatic 208, 3) := by decide +kernel
theorem dX5_odds_100 : decode cX5_odds 100 = .ok (.invokestatic 213, 3) := by decide +kernel
theorem dX5_odds_103 : decode cX5_odds 103 = .ok (.bipush 10, 2) := by decide +kernel
theorem dX5_odds_105 : decode cX5_odds 105 = .ok (.iload_n 1, 1) := by decide +kernel
theorem dX5_odds_106 : decode cX5_odds 106 = .ok (.isub, 1) := by decide +kernel
theorem dX5_odds_107 : decode cX5_odds 107 = .ok (.iload 5, 2) := by decide +kernel
theorem dX5_odds_109 : decode cX5_odds 109 = .ok (.iload 7, 2) := by decide +kernel
theorem dX5_odds_111 : decode cX5_odds 111 = .ok (.iconst (-1), 1) := by decide +kernel
theorem dX5_odds_112 : decode cX5_odds 112 = .ok (.ixor, 1) := by decide +kernel
theorem dX5_odds_113 : decode cX5_odds 113 = .ok (.iand, 1) := by decide +kernel
theorem dX5_odds_114 : decode cX5_odds 114 = .ok (.invokestatic 208, 3) := by decide +kernel
theorem dX5_odds_117 : decode cX5_odds 117 = .ok (.invokestatic 213, 3) := by decide +kernel
theorem dX5_odds_120 : decode cX5_odds 120 = .ok (.imul, 1) := by decide +kernel
theorem dX5_odds_121 : decode cX5_odds 121 = .ok (.istore 8, 2) := by decide +kernel
theorem dX5_odds_123 : decode cX5_odds 123 = .ok (.iload 8, 2) := by decide +kernel
theorem dX5_odds_125 : decode cX5_odds 125 = .ok (.ifCond .le 21, 3) := by decide +kernel
theorem dX5_odds_128 : decode cX5_odds 128 = .ok (.aload_n 0, 1) := by decide +kernel
theorem dX5_odds_129 : decode cX5_odds 129 = .ok (.iload 7, 2) := by decide +kernel
theorem dX5_odds_131 : decode cX5_odds 131 = .ok (.iload_n 2, 1) := by decide +kernel
theorem dX5_odds_132 : decode cX5_odds 132 = .ok (.iload_n 3, 1) := by decide +kernel
theorem dX5_odds_133 : decode cX5_odds 133 = .ok (.invokevirtual 216, 3) := by decide +kernel
theorem dX5_odds_136 : decode cX5_odds 136 = .ok (.ifCond .eq 10, 3) := by decide +kernel
theorem dX5_odds_139 : decode cX5_odds 139 = .ok (.iload 6, 2) := by decide +kernel
theorem dX5_odds_141 : decode cX5_odds 141 = .ok (.iload 8, 2) := by decide +kernel
theorem dX5_odds_143 : decode cX5_odds 143 = .ok (.iadd, 1) := by decide +kernel
theorem dX5_odds_144 : decode cX5_odds 144 = .ok (.istore 6, 2) := by decide +kernel
theorem dX5_odds_146 : decode cX5_odds 146 = .ok (.iinc 7 1, 3) := by decide +kernel
theorem dX5_odds_149 : decode cX5_odds 149 = .ok (.goto (-82), 3) := by decide +kernel
theorem dX5_odds_152 : decode cX5_odds 152 = .ok (.bipush 10, 2) := by decide +kernel
theorem dX5_odds_154 : decode cX5_odds 154 = .ok (.iload 5, 2) := by decide +kernel
theorem dX5_odds_156 : decode cX5_odds 156 = .ok (.invokestatic 208, 3) := by decide +kernel
theorem dX5_odds_159 : decode cX5_odds 159 = .ok (.invokestatic 213, 3) := by decide +kernel
theorem dX5_odds_162 : decode cX5_odds 162 = .ok (.istore 7, 2) := by decide +kernel
theorem dX5_odds_164 : decode cX5_odds 164 = .ok (.iload 6, 2) := by decide +kernel
theorem dX5_odds_166 : decode cX5_odds 166 = .ok (.iload 7, 2) := by decide +kernel
theorem dX5_odds_168 : decode cX5_odds 168 = .ok (.invokestatic 220, 3) := by decide +kernel
theorem dX5_odds_171 : decode cX5_odds 171 = .ok (.istore 8, 2) := by decide +kernel
theorem dX5_odds_173 : decode cX5_odds 173 = .ok (.iload 4, 2) := by decide +kernel
theorem dX5_odds_175 : decode cX5_odds 175 = .ok (.ifCond .ne 8, 3) := by decide +kernel
theorem dX5_odds_178 : decode cX5_odds 178 = .ok (.iload 6, 2) := by decide +kernel
theorem dX5_odds_180 : decode cX5_odds 180 = .ok (.goto 5, 3) := by decide +kernel
theorem dX5_odds_183 : decode cX5_odds 183 = .ok (.iload 7, 2) := by decide +kernel
theorem dX5_odds_185 : decode cX5_odds 185 = .ok (.iload 8, 2) := by decide +kernel
theorem dX5_odds_187 : decode cX5_odds 187 = .ok (.idiv, 1) := by decide +kernel
theorem dX5_odds_188 : decode cX5_odds 188 = .ok (.ireturn, 1) := by decide +kernel
theorem dX5_sees_0 : decode cX5_sees 0 = .ok (.iload_n 1, 1) := by decide +kernel
theorem dX5_sees_1 : decode cX5_sees 1 = .ok (.iconst 1, 1) := by decide +kernel
theorem dX5_sees_2 : decode cX5_sees 2 = .ok (.if_icmp .lt 16, 3) := by decide +kernel
theorem dX5_sees_5 : decode cX5_sees 5 = .ok (.iload_n 1, 1) := by decide +kernel
theorem dX5_sees_6 : decode cX5_sees 6 = .ok (.bipush 20, 2) := by decide +kernel
theorem dX5_sees_8 : decode cX5_sees 8 = .ok (.if_icmp .gt 10, 3) := by decide +kernel
theorem dX5_sees_11 : decode cX5_sees 11 = .ok (.iload_n 2, 1) := by decide +kernel
theorem dX5_sees_12 : decode cX5_sees 12 = .ok (.invokestatic 116, 3) := by decide +kernel
theorem dX5_sees_15 : decode cX5_sees 15 = .ok (.ifCond .ne 5, 3) := by decide +kernel
theorem dX5_sees_18 : decode cX5_sees 18 = .ok (.iconst (-1), 1) := by decide +kernel
theorem dX5_sees_19 : decode cX5_sees 19 = .ok (.ireturn, 1) := by decide +kernel
theorem dX5_sees_20 : decode cX5_sees 20 = .ok (.aload_n 0, 1) := by decide +kernel
theorem dX5_sees_21 : decode cX5_sees 21 = .ok (.getfield 90, 3) := by decide +kernel
theorem dX5_sees_24 : decode cX5_sees 24 = .ok (.bipush 6, 2) := by decide +kernel
theorem dX5_sees_26 : decode cX5_sees 26 = .ok (.if_icmp .lt 6, 3) := by decide +kernel
theorem dX5_sees_29 : decode cX5_sees 29 = .ok (.bipush (-3), 2) := by decide +kernel
theorem dX5_sees_31 : decode cX5_sees 31 = .ok (.ireturn, 1) := by decide +kernel
theorem dX5_sees_32 : decode cX5_sees 32 = .ok (.aload_n 0, 1) := by decide +kernel
theorem dX5_sees_33 : decode cX5_sees 33 = .ok (.getfield 54, 3) := by decide +kernel
theorem dX5_sees_36 : decode cX5_sees 36 = .ok (.aload_n 0, 1) := by decide +kernel
theorem dX5_sees_37 : decode cX5_sees 37 = .ok (.getfield 90, 3) := by decide +kernel
theorem dX5_sees_40 : decode cX5_sees 40 = .ok (.iload_n 1, 1) := by decide +kernel
theorem dX5_sees_41 : decode cX5_sees 41 = .ok (.iastore, 1) := by decide +kernel
theorem dX5_sees_42 : decode cX5_sees 42 = .ok (.aload_n 0, 1) := by decide +kernel
theorem dX5_sees_43 : decode cX5_sees 43 = .ok (.getfield 58, 3) := by decide +kernel
theorem dX5_sees_46 : decode cX5_sees 46 = .ok (.aload_n 0, 1) := by decide +kernel
theorem dX5_sees_47 : decode cX5_sees 47 = .ok (.getfield 90, 3) := by decide +kernel
theorem dX5_sees_50 : decode cX5_sees 50 = .ok (.iload_n 2, 1) := by decide +kernel
theorem dX5_sees_51 : decode cX5_sees 51 = .ok (.iastore, 1) := by decide +kernel
theorem dX5_sees_52 : decode cX5_sees 52 = .ok (.aload_n 0, 1) := by decide +kernel
theorem dX5_sees_53 : decode cX5_sees 53 = .ok (.dup, 1) := by decide +kernel
theorem dX5_sees_54 : decode cX5_sees 54 = .ok (.getfield 90, 3) := by decide +kernel
theorem dX5_sees_57 : decode cX5_sees 57 = .ok (.iconst 1, 1) := by decide +kernel
theorem dX5_sees_58 : decode cX5_sees 58 = .ok (.iadd, 1) := by decide +kernel
theorem dX5_sees_59 : decode cX5_sees 59 = .ok (.putfield 90, 3) := by decide +kernel
theorem dX5_sees_62 : decode cX5_sees 62 = .ok (.aload_n 0, 1) := by decide +kernel
theorem dX5_sees_63 : decode cX5_sees 63 = .ok (.getfield 90, 3) := by decide +kernel
theorem dX5_sees_66 : decode cX5_sees 66 = .ok (.ireturn, 1) := by decide +kernel
theorem dX5_forget_0 : decode cX5_forget 0 = .ok (.aload_n 0, 1) := by decide +kernel
theorem dX5_forget_1 : decode cX5_forget 1 = .ok (.getfield 90, 3) := by decide +kernel
theorem dX5_forget_4 : decode cX5_forget 4 = .ok (.istore_n 1, 1) := by decide +kernel
theorem dX5_forget_5 : decode cX5_forget 5 = .ok (.aload_n 0, 1) := by decide +kernel
theorem dX5_forget_6 : decode cX5_forget 6 = .ok (.iconst 0, 1) := by decide +kernel
theorem dX5_forget_7 : decode cX5_forget 7 = .ok (.putfield 90, 3) := by decide +kernel
theorem dX5_forget_10 : decode cX5_forget 10 = .ok (.iload_n 1, 1) := by decide +kernel
theorem dX5_forget_11 : decode cX5_forget 11 = .ok (.ireturn, 1) := by decide +kernel
theorem dX5_ranks_0 : decode cX5_ranks 0 = .ok (.aload_n 0, 1) := by decide +kernel
theorem dX5_ranks_1 : decode cX5_ranks 1 = .ok (.getfield 19, 3) := by decide +kernel
theorem dX5_ranks_4 : decode cX5_ranks 4 = .ok (.iload_n 1, 1) := by decide +kernel
theorem dX5_ranks_5 : decode cX5_ranks 5 = .ok (.invokevirtual 113, 3) := by decide +kernel
theorem dX5_ranks_8 : decode cX5_ranks 8 = .ok (.ifCond .eq 11, 3) := by decide +kernel
theorem dX5_ranks_11 : decode cX5_ranks 11 = .ok (.aload_n 0, 1) := by decide +kernel
theorem dX5_ranks_12 : decode cX5_ranks 12 = .ok (.iload_n 1, 1) := by decide +kernel
theorem dX5_ranks_13 : decode cX5_ranks 13 = .ok (.invokevirtual 223, 3) := by decide +kernel
theorem dX5_ranks_16 : decode cX5_ranks 16 = .ok (.goto 4, 3) := by decide +kernel
theorem dX5_ranks_19 : decode cX5_ranks 19 = .ok (.iconst (-1), 1) := by decide +kernel
theorem dX5_ranks_20 : decode cX5_ranks 20 = .ok (.ireturn, 1) := by decide +kernel
theorem dX5_look_0 : decode cX5_look 0 = .ok (.aload_n 0, 1) := by decide +kernel
theorem dX5_look_1 : decode cX5_look 1 = .ok (.getfield 19, 3) := by decide +kernel
theorem dX5_look_4 : decode cX5_look 4 = .ok (.iload_n 1, 1) := by decide +kernel
theorem dX5_look_5 : decode cX5_look 5 = .ok (.invokevirtual 113, 3) := by decide +kernel
theorem dX5_look_8 : decode cX5_look 8 = .ok (.ifCond .ne 5, 3) := by decide +kernel
theorem dX5_look_11 : decode cX5_look 11 = .ok (.iconst (-1), 1) := by decide +kernel
theorem dX5_look_12 : decode cX5_look 12 = .ok (.ireturn, 1) := by decide +kernel
theorem dX5_look_13 : decode cX5_look 13 = .ok (.aload_n 0, 1) := by decide +kernel
theorem dX5_look_14 : decode cX5_look 14 = .ok (.iload_n 1, 1) := by decide +kernel
theorem dX5_look_15 : decode cX5_look 15 = .ok (.invokevirtual 223, 3) := by decide +kernel
theorem dX5_look_18 : decode cX5_look 18 = .ok (.istore_n 2, 1) := by decide +kernel
theorem dX5_look_19 : decode cX5_look 19 = .ok (.iload_n 2, 1) := by decide +kernel
theorem dX5_look_20 : decode cX5_look 20 = .ok (.invokestatic 208, 3) := by decide +kernel
theorem dX5_look_23 : decode cX5_look 23 = .ok (.istore_n 3, 1) := by decide +kernel
theorem dX5_look_24 : decode cX5_look 24 = .ok (.iload_n 3, 1) := by decide +kernel
theorem dX5_look_25 : decode cX5_look 25 = .ok (.iconst 1, 1) := by decide +kernel
theorem dX5_look_26 : decode cX5_look 26 = .ok (.if_icmp .gt 6, 3) := by decide +kernel
theorem dX5_look_29 : decode cX5_look 29 = .ok (.bipush (-9), 2) := by decide +kernel
theorem dX5_look_31 : decode cX5_look 31 = .ok (.ireturn, 1) := by decide +kernel
theorem dX5_look_32 : decode cX5_look 32 = .ok (.bipush (-9), 2) := by decide +kernel
theorem dX5_look_34 : decode cX5_look 34 = .ok (.istore 4, 2) := by decide +kernel
theorem dX5_look_36 : decode cX5_look 36 = .ok (.iconst 5, 1) := by decide +kernel
theorem dX5_look_37 : decode cX5_look 37 = .ok (.istore 5, 2) := by decide +kernel
theorem dX5_look_39 : decode cX5_look 39 = .ok (.iconst 1, 1) := by decide +kernel
theorem dX5_look_40 : decode cX5_look 40 = .ok (.istore 6, 2) := by decide +kernel
theorem dX5_look_42 : decode cX5_look 42 = .ok (.iload 6, 2) := by decide +kernel
theorem dX5_look_44 : decode cX5_look 44 = .ok (.bipush 20, 2) := by decide +kernel
theorem dX5_look_46 : decode cX5_look 46 = .ok (.if_icmp .gt 44, 3) := by decide +kernel
theorem dX5_look_49 : decode cX5_look 49 = .ok (.aload_n 0, 1) := by decide +kernel
theorem dX5_look_50 : decode cX5_look 50 = .ok (.iload_n 2, 1) := by decide +kernel
theorem dX5_look_51 : decode cX5_look 51 = .ok (.iload 6, 2) := by decide +kernel
theorem dX5_look_53 : decode cX5_look 53 = .ok (.invokevirtual 226, 3) := by decide +kernel
theorem dX5_look_56 : decode cX5_look 56 = .ok (.istore 7, 2) := by decide +kernel
theorem dX5_look_58 : decode cX5_look 58 = .ok (.iload 7, 2) := by decide +kernel
theorem dX5_look_60 : decode cX5_look 60 = .ok (.iload_n 3, 1) := by decide +kernel
theorem dX5_look_61 : decode cX5_look 61 = .ok (.iload 7, 2) := by decide +kernel
theorem dX5_look_63 : decode cX5_look 63 = .ok (.isub, 1) := by decide +kernel
theorem dX5_look_64 : decode cX5_look 64 = .ok (.invokestatic 196, 3) := by decide +kernel
theorem dX5_look_67 : decode cX5_look 67 = .ok (.istore 8, 2) := by decide +kernel
theorem dX5_look_69 : decode cX5_look 69 = .ok (.iload 8, 2) := by decide +kernel
theorem dX5_look_71 : decode cX5_look 71 = .ok (.iload 5, 2) := by decide +kernel
theorem dX5_look_73 : decode cX5_look 73 = .ok (.if_icmp .ge 11, 3) := by decide +kernel
theorem dX5_look_76 : decode cX5_look 76 = .ok (.iload 8, 2) := by decide +kernel
theorem dX5_look_78 : decode cX5_look 78 = .ok (.istore 5, 2) := by decide +kernel
theorem dX5_look_80 : decode cX5_look 80 = .ok (.iload 6, 2) := by decide +kernel
theorem dX5_look_82 : decode cX5_look 82 = .ok (.istore 4, 2) := by decide +kernel
theorem dX5_look_84 : decode cX5_look 84 = .ok (.iinc 6 1, 3) := by decide +kernel
theorem dX5_look_87 : decode cX5_look 87 = .ok (.goto (-45), 3) := by decide +kernel
theorem dX5_look_90 : decode cX5_look 90 = .ok (.iload 4, 2) := by decide +kernel
theorem dX5_look_92 : decode cX5_look 92 = .ok (.ireturn, 1) := by decide +kernel
theorem dX5_keep_0 : decode cX5_keep 0 = .ok (.iload_n 1, 1) := by decide +kernel
theorem dX5_keep_1 : decode cX5_keep 1 = .ok (.ifCond .lt 8, 3) := by decide +kernel
theorem dX5_keep_4 : decode cX5_keep 4 = .ok (.iload_n 1, 1) := by decide +kernel
theorem dX5_keep_5 : decode cX5_keep 5 = .ok (.iconst 2, 1) := by decide +kernel
theorem dX5_keep_6 : decode cX5_keep 6 = .ok (.if_icmp .lt 5, 3) := by decide +kernel
theorem dX5_keep_9 : decode cX5_keep 9 = .ok (.iconst (-1), 1) := by decide +kernel
theorem dX5_keep_10 : decode cX5_keep 10 = .ok (.ireturn, 1) := by decide +kernel
theorem dX5_keep_11 : decode cX5_keep 11 = .ok (.aload_n 0, 1) := by decide +kernel
theorem dX5_keep_12 : decode cX5_keep 12 = .ok (.getfield 50, 3) := by decide +kernel
theorem dX5_keep_15 : decode cX5_keep 15 = .ok (.iload_n 1, 1) := by decide +kernel
theorem dX5_keep_16 : decode cX5_keep 16 = .ok (.aaload, 1) := by decide +kernel
theorem dX5_keep_17 : decode cX5_keep 17 = .ok (.aload_n 0, 1) := by decide +kernel
theorem dX5_keep_18 : decode cX5_keep 18 = .ok (.getfield 36, 3) := by decide +kernel
theorem dX5_keep_21 : decode cX5_keep 21 = .ok (.invokevirtual 181, 3) := by decide +kernel
theorem dX5_keep_24 : decode cX5_keep 24 = .ok (.aload_n 0, 1) := by decide +kernel
theorem dX5_keep_25 : decode cX5_keep 25 = .ok (.dup, 1) := by decide +kernel
theorem dX5_keep_26 : decode cX5_keep 26 = .ok (.getfield 93, 3) := by decide +kernel
theorem dX5_keep_29 : decode cX5_keep 29 = .ok (.iconst 1, 1) := by decide +kernel
theorem dX5_keep_30 : decode cX5_keep 30 = .ok (.iload_n 1, 1) := by decide +kernel
theorem dX5_keep_31 : decode cX5_keep 31 = .ok (.ishl, 1) := by decide +kernel
theorem dX5_keep_32 : decode cX5_keep 32 = .ok (.ior, 1) := by decide +kernel
theorem dX5_keep_33 : decode cX5_keep 33 = .ok (.putfield 93, 3) := by decide +kernel
theorem dX5_keep_36 : decode cX5_keep 36 = .ok (.aload_n 0, 1) := by decide +kernel
theorem dX5_keep_37 : decode cX5_keep 37 = .ok (.getfield 36, 3) := by decide +kernel
theorem dX5_keep_40 : decode cX5_keep 40 = .ok (.getfield 96, 3) := by decide +kernel
theorem dX5_keep_43 : decode cX5_keep 43 = .ok (.ireturn, 1) := by decide +kernel
theorem dX5_back_0 : decode cX5_back 0 = .ok (.iload_n 1, 1) := by decide +kernel
theorem dX5_back_1 : decode cX5_back 1 = .ok (.ifCond .lt 8, 3) := by decide +kernel
theorem dX5_back_4 : decode cX5_back 4 = .ok (.iload_n 1, 1) := by decide +kernel
theorem dX5_back_5 : decode cX5_back 5 = .ok (.iconst 2, 1) := by decide +kernel
theorem dX5_back_6 : decode cX5_back 6 = .ok (.if_icmp .lt 5, 3) := by decide +kernel
theorem dX5_back_9 : decode cX5_back 9 = .ok (.iconst (-1), 1) := by decide +kernel
theorem dX5_back_10 : decode cX5_back 10 = .ok (.ireturn, 1) := by decide +kernel
theorem dX5_back_11 : decode cX5_back 11 = .ok (.aload_n 0, 1) := by decide +kernel
theorem dX5_back_12 : decode cX5_back 12 = .ok (.getfield 93, 3) := by decide +kernel
theorem dX5_back_15 : decode cX5_back 15 = .ok (.iload_n 1, 1) := by decide +kernel
theorem dX5_back_16 : decode cX5_back 16 = .ok (.ishr, 1) := by decide +kernel
theorem dX5_back_17 : decode cX5_back 17 = .ok (.iconst 1, 1) := by decide +kernel
theorem dX5_back_18 : decode cX5_back 18 = .ok (.iand, 1) := by decide +kernel
theorem dX5_back_19 : decode cX5_back 19 = .ok (.ifCond .ne 6, 3) := by decide +kernel
theorem dX5_back_22 : decode cX5_back 22 = .ok (.bipush (-2), 2) := by decide +kernel
theorem dX5_back_24 : decode cX5_back 24 = .ok (.ireturn, 1) := by decide +kernel
theorem dX5_back_25 : decode cX5_back 25 = .ok (.aload_n 0, 1) := by decide +kernel
theorem dX5_back_26 : decode cX5_back 26 = .ok (.getfield 36, 3) := by decide +kernel
theorem dX5_back_29 : decode cX5_back 29 = .ok (.aload_n 0, 1) := by decide +kernel
theorem dX5_back_30 : decode cX5_back 30 = .ok (.getfield 50, 3) := by decide +kernel
theorem dX5_back_33 : decode cX5_back 33 = .ok (.iload_n 1, 1) := by decide +kernel
theorem dX5_back_34 : decode cX5_back 34 = .ok (.aaload, 1) := by decide +kernel
theorem dX5_back_35 : decode cX5_back 35 = .ok (.invokevirtual 181, 3) := by decide +kernel
theorem dX5_back_38 : decode cX5_back 38 = .ok (.aload_n 0, 1) := by decide +kernel
theorem dX5_back_39 : decode cX5_back 39 = .ok (.getfield 46, 3) := by decide +kernel
theorem dX5_back_42 : decode cX5_back 42 = .ok (.invokevirtual 87, 3) := by decide +kernel
theorem dX5_back_45 : decode cX5_back 45 = .ok (.aload_n 0, 1) := by decide +kernel
theorem dX5_back_46 : decode cX5_back 46 = .ok (.getfield 36, 3) := by decide +kernel
theorem dX5_back_49 : decode cX5_back 49 = .ok (.getfield 96, 3) := by decide +kernel
theorem dX5_back_52 : decode cX5_back 52 = .ok (.ireturn, 1) := by decide +kernel
theorem dX5_count_0 : decode cX5_count 0 = .ok (.iload_n 1, 1) := by decide +kernel
theorem dX5_count_1 : decode cX5_count 1 = .ok (.tableswitch 152 0 10 #[59, 67, 75, 83, 91, 99, 107, 115, 131, 136, 144], 59) := by decide +kernel
theorem dX5_count_60 : decode cX5_count 60 = .ok (.aload_n 0, 1) := by decide +kernel
theorem dX5_count_61 : decode cX5_count 61 = .ok (.getfield 19, 3) := by decide +kernel
theorem dX5_count_64 : decode cX5_count 64 = .ok (.getfield 107, 3) := by decide +kernel
theorem dX5_count_67 : decode cX5_count 67 = .ok (.ireturn, 1) := by decide +kernel
theorem dX5_count_68 : decode cX5_count 68 = .ok (.aload_n 0, 1) := by decide +kernel
theorem dX5_count_69 : decode cX5_count 69 = .ok (.getfield 19, 3) := by decide +kernel
theorem dX5_count_72 : decode cX5_count 72 = .ok (.getfield 229, 3) := by decide +kernel
theorem dX5_count_75 : decode cX5_count 75 = .ok (.ireturn, 1) := by decide +kernel
theorem dX5_count_76 : decode cX5_count 76 = .ok (.aload_n 0, 1) := by decide +kernel
theorem dX5_count_77 : decode cX5_count 77 = .ok (.getfield 19, 3) := by decide +kernel
theorem dX5_count_80 : decode cX5_count 80 = .ok (.getfield 231, 3) := by decide +kernel
theorem dX5_count_83 : decode cX5_count 83 = .ok (.ireturn, 1) := by decide +kernel
theorem dX5_count_84 : decode cX5_count 84 = .ok (.aload_n 0, 1) := by decide +kernel
theorem dX5_count_85 : decode cX5_count 85 = .ok (.getfield 36, 3) := by decide +kernel
theorem dX5_count_88 : decode cX5_count 88 = .ok (.getfield 96, 3) := by decide +kernel
theorem dX5_count_91 : decode cX5_count 91 = .ok (.ireturn, 1) := by decide +kernel
theorem dX5_count_92 : decode cX5_count 92 = .ok (.aload_n 0, 1) := by decide +kernel
theorem dX5_count_93 : decode cX5_count 93 = .ok (.getfield 36, 3) := by decide +kernel
theorem dX5_count_96 : decode cX5_count 96 = .ok (.getfield 186, 3) := by decide +kernel
theorem dX5_count_99 : decode cX5_count 99 = .ok (.ireturn, 1) := by decide +kernel
theorem dX5_count_100 : decode cX5_count 100 = .ok (.aload_n 0, 1) := by decide +kernel
theorem dX5_count_101 : decode cX5_count 101 = .ok (.getfield 36, 3) := by decide +kernel
theorem dX5_count_104 : decode cX5_count 104 = .ok (.getfield 234, 3) := by decide +kernel
theorem dX5_count_107 : decode cX5_count 107 = .ok (.ireturn, 1) := by decide +kernel
theorem dX5_count_108 : decode cX5_count 108 = .ok (.aload_n 0, 1) := by decide +kernel
theorem dX5_count_109 : decode cX5_count 109 = .ok (.getfield 36, 3) := by decide +kernel
theorem dX5_count_112 : decode cX5_count 112 = .ok (.getfield 189, 3) := by decide +kernel
theorem dX5_count_115 : decode cX5_count 115 = .ok (.ireturn, 1) := by decide +kernel
theorem dX5_count_116 : decode cX5_count 116 = .ok (.aload_n 0, 1) := by decide +kernel
theorem dX5_count_117 : decode cX5_count 117 = .ok (.getfield 29, 3) := by decide +kernel
theorem dX5_count_120 : decode cX5_count 120 = .ok (.aload_n 0, 1) := by decide +kernel
theorem dX5_count_121 : decode cX5_count 121 = .ok (.getfield 19, 3) := by decide +kernel
theorem dX5_count_124 : decode cX5_count 124 = .ok (.aload_n 0, 1) := by decide +kernel
theorem dX5_count_125 : decode cX5_count 125 = .ok (.getfield 36, 3) := by decide +kernel
theorem dX5_count_128 : decode cX5_count 128 = .ok (.invokevirtual 174, 3) := by decide +kernel
theorem dX5_count_131 : decode cX5_count 131 = .ok (.ireturn, 1) := by decide +kernel
theorem dX5_count_132 : decode cX5_count 132 = .ok (.aload_n 0, 1) := by decide +kernel
theorem dX5_count_133 : decode cX5_count 133 = .ok (.getfield 90, 3) := by decide +kernel
theorem dX5_count_136 : decode cX5_count 136 = .ok (.ireturn, 1) := by decide +kernel
theorem dX5_count_137 : decode cX5_count 137 = .ok (.aload_n 0, 1) := by decide +kernel
theorem dX5_count_138 : decode cX5_count 138 = .ok (.getfield 10, 3) := by decide +kernel
theorem dX5_count_141 : decode cX5_count 141 = .ok (.getfield 68, 3) := by decide +kernel
theorem dX5_count_144 : decode cX5_count 144 = .ok (.ireturn, 1) := by decide +kernel
theorem dX5_count_145 : decode cX5_count 145 = .ok (.aload_n 0, 1) := by decide +kernel
theorem dX5_count_146 : decode cX5_count 146 = .ok (.getfield 46, 3) := by decide +kernel
theorem dX5_count_149 : decode cX5_count 149 = .ok (.getfield 149, 3) := by decide +kernel
theorem dX5_count_152 : decode cX5_count 152 = .ok (.ireturn, 1) := by decide +kernel
theorem dX5_count_153 : decode cX5_count 153 = .ok (.iconst (-1), 1) := by decide +kernel
theorem dX5_count_154 : decode cX5_count 154 = .ok (.ireturn, 1) := by decide +kernel
theorem dX5_isSite_0 : decode cX5_isSite 0 = .ok (.iload_n 0, 1) := by decide +kernel
theorem dX5_isSite_1 : decode cX5_isSite 1 = .ok (.ifCond .lt 12, 3) := by decide +kernel
theorem dX5_isSite_4 : decode cX5_isSite 4 = .ok (.iload_n 0, 1) := by decide +kernel
theorem dX5_isSite_5 : decode cX5_isSite 5 = .ok (.iconst 2, 1) := by decide +kernel
theorem dX5_isSite_6 : decode cX5_isSite 6 = .ok (.if_icmp .ge 7, 3) := by decide +kernel
theorem dX5_isSite_9 : decode cX5_isSite 9 = .ok (.iconst 1, 1) := by decide +kernel
theorem dX5_isSite_10 : decode cX5_isSite 10 = .ok (.goto 4, 3) := by decide +kernel
theorem dX5_isSite_13 : decode cX5_isSite 13 = .ok (.iconst 0, 1) := by decide +kernel
theorem dX5_isSite_14 : decode cX5_isSite 14 = .ok (.ireturn, 1) := by decide +kernel
theorem dX5_isBit_0 : decode cX5_isBit 0 = .ok (.iload_n 0, 1) := by decide +kernel
theorem dX5_isBit_1 : decode cX5_isBit 1 = .ok (.ifCond .eq 8, 3) := by decide +kernel
theorem dX5_isBit_4 : decode cX5_isBit 4 = .ok (.iload_n 0, 1) := by decide +kernel
theorem dX5_isBit_5 : decode cX5_isBit 5 = .ok (.iconst 1, 1) := by decide +kernel
theorem dX5_isBit_6 : decode cX5_isBit 6 = .ok (.if_icmp .ne 7, 3) := by decide +kernel
theorem dX5_isBit_9 : decode cX5_isBit 9 = .ok (.iconst 1, 1) := by decide +kernel
theorem dX5_isBit_10 : decode cX5_isBit 10 = .ok (.goto 4, 3) := by decide +kernel
theorem dX5_isBit_13 : decode cX5_isBit 13 = .ok (.iconst 0, 1) := by decide +kernel
theorem dX5_isBit_14 : decode cX5_isBit 14 = .ok (.ireturn, 1) := by decide +kernel
theorem dX5_waveLasts_0 : decode cX5_waveLasts 0 = .ok (.aload_n 0, 1) := by decide +kernel
theorem dX5_waveLasts_1 : decode cX5_waveLasts 1 = .ok (.getfield 40, 3) := by decide +kernel
theorem dX5_waveLasts_4 : decode cX5_waveLasts 4 = .ok (.aload_n 0, 1) := by decide +kernel
theorem dX5_waveLasts_5 : decode cX5_waveLasts 5 = .ok (.getfield 36, 3) := by decide +kernel
theorem dX5_waveLasts_8 : decode cX5_waveLasts 8 = .ok (.invokevirtual 181, 3) := by decide +kernel
theorem dX5_waveLasts_11 : decode cX5_waveLasts 11 = .ok (.aload_n 0, 1) := by decide +kernel
theorem dX5_waveLasts_12 : decode cX5_waveLasts 12 = .ok (.getfield 40, 3) := by decide +kernel
theorem dX5_waveLasts_15 : decode cX5_waveLasts 15 = .ok (.aload_n 0, 1) := by decide +kernel
theorem dX5_waveLasts_16 : decode cX5_waveLasts 16 = .ok (.getfield 19, 3) := by decide +kernel
theorem dX5_waveLasts_19 : decode cX5_waveLasts 19 = .ok (.iload_n 1, 1) := by decide +kernel
theorem dX5_waveLasts_20 : decode cX5_waveLasts 20 = .ok (.invokevirtual 237, 3) := by decide +kernel
theorem dX5_waveLasts_23 : decode cX5_waveLasts 23 = .ok (.iconst 0, 1) := by decide +kernel
theorem dX5_waveLasts_24 : decode cX5_waveLasts 24 = .ok (.istore_n 2, 1) := by decide +kernel
theorem dX5_waveLasts_25 : decode cX5_waveLasts 25 = .ok (.iload_n 2, 1) := by decide +kernel
theorem dX5_waveLasts_26 : decode cX5_waveLasts 26 = .ok (.bipush 60, 2) := by decide +kernel
theorem dX5_waveLasts_28 : decode cX5_waveLasts 28 = .ok (.if_icmp .gt 40, 3) := by decide +kernel
theorem dX5_waveLasts_31 : decode cX5_waveLasts 31 = .ok (.aload_n 0, 1) := by decide +kernel
theorem dX5_waveLasts_32 : decode cX5_waveLasts 32 = .ok (.getfield 40, 3) := by decide +kernel
theorem dX5_waveLasts_35 : decode cX5_waveLasts 35 = .ok (.aload_n 0, 1) := by decide +kernel
theorem dX5_waveLasts_36 : decode cX5_waveLasts 36 = .ok (.getfield 19, 3) := by decide +kernel
theorem dX5_waveLasts_39 : decode cX5_waveLasts 39 = .ok (.invokevirtual 241, 3) := by decide +kernel
theorem dX5_waveLasts_42 : decode cX5_waveLasts 42 = .ok (.ifCond .ne 5, 3) := by decide +kernel
theorem dX5_waveLasts_45 : decode cX5_waveLasts 45 = .ok (.iload_n 2, 1) := by decide +kernel
theorem dX5_waveLasts_46 : decode cX5_waveLasts 46 = .ok (.ireturn, 1) := by decide +kernel
theorem dX5_waveLasts_47 : decode cX5_waveLasts 47 = .ok (.aload_n 0, 1) := by decide +kernel
theorem dX5_waveLasts_48 : decode cX5_waveLasts 48 = .ok (.getfield 29, 3) := by decide +kernel
theorem dX5_waveLasts_51 : decode cX5_waveLasts 51 = .ok (.aload_n 0, 1) := by decide +kernel
theorem dX5_waveLasts_52 : decode cX5_waveLasts 52 = .ok (.getfield 19, 3) := by decide +kernel
theorem dX5_waveLasts_55 : decode cX5_waveLasts 55 = .ok (.aload_n 0, 1) := by decide +kernel
theorem dX5_waveLasts_56 : decode cX5_waveLasts 56 = .ok (.getfield 40, 3) := by decide +kernel
theorem dX5_waveLasts_59 : decode cX5_waveLasts 59 = .ok (.invokevirtual 103, 3) := by decide +kernel
theorem dX5_waveLasts_62 : decode cX5_waveLasts 62 = .ok (.iinc 2 1, 3) := by decide +kernel
theorem dX5_waveLasts_65 : decode cX5_waveLasts 65 = .ok (.goto (-40), 3) := by decide +kernel
theorem dX5_waveLasts_68 : decode cX5_waveLasts 68 = .ok (.bipush (-9), 2) := by decide +kernel
theorem dX5_waveLasts_70 : decode cX5_waveLasts 70 = .ok (.ireturn, 1) := by decide +kernel
theorem dX5_isEnough_0 : decode cX5_isEnough 0 = .ok (.aload_n 0, 1) := by decide +kernel
theorem dX5_isEnough_1 : decode cX5_isEnough 1 = .ok (.getfield 40, 3) := by decide +kernel
theorem dX5_isEnough_4 : decode cX5_isEnough 4 = .ok (.aload_n 0, 1) := by decide +kernel
theorem dX5_isEnough_5 : decode cX5_isEnough 5 = .ok (.getfield 36, 3) := by decide +kernel
theorem dX5_isEnough_8 : decode cX5_isEnough 8 = .ok (.invokevirtual 181, 3) := by decide +kernel
theorem dX5_isEnough_11 : decode cX5_isEnough 11 = .ok (.aload_n 0, 1) := by decide +kernel
theorem dX5_isEnough_12 : decode cX5_isEnough 12 = .ok (.getfield 40, 3) := by decide +kernel
theorem dX5_isEnough_15 : decode cX5_isEnough 15 = .ok (.aload_n 0, 1) := by decide +kernel
theorem dX5_isEnough_16 : decode cX5_isEnough 16 = .ok (.getfield 23, 3) := by decide +kernel
theorem dX5_isEnough_19 : decode cX5_isEnough 19 = .ok (.iload_n 1, 1) := by decide +kernel
theorem dX5_isEnough_20 : decode cX5_isEnough 20 = .ok (.invokevirtual 237, 3) := by decide +kernel
theorem dX5_isEnough_23 : decode cX5_isEnough 23 = .ok (.iconst 0, 1) := by decide +kernel
theorem dX5_isEnough_24 : decode cX5_isEnough 24 = .ok (.istore_n 2, 1) := by decide +kernel
theorem dX5_isEnough_25 : decode cX5_isEnough 25 = .ok (.iload_n 2, 1) := by decide +kernel
theorem dX5_isEnough_26 : decode cX5_isEnough 26 = .ok (.bipush 60, 2) := by decide +kernel
theorem dX5_isEnough_28 : decode cX5_isEnough 28 = .ok (.if_icmp .ge 57, 3) := by decide +kernel
theorem dX5_isEnough_31 : decode cX5_isEnough 31 = .ok (.aload_n 0, 1) := by decide +kernel
theorem dX5_isEnough_32 : decode cX5_isEnough 32 = .ok (.getfield 40, 3) := by decide +kernel
theorem dX5_isEnough_35 : decode cX5_isEnough 35 = .ok (.aload_n 0, 1) := by decide +kernel
theorem dX5_isEnough_36 : decode cX5_isEnough 36 = .ok (.getfield 23, 3) := by decide +kernel
theorem dX5_isEnough_39 : decode cX5_isEnough 39 = .ok (.invokevirtual 241, 3) := by decide +kernel
theorem dX5_isEnough_42 : decode cX5_isEnough 42 = .ok (.ifCond .eq 43, 3) := by decide +kernel
theorem dX5_isEnough_45 : decode cX5_isEnough 45 = .ok (.aload_n 0, 1) := by decide +kernel
theorem dX5_isEnough_46 : decode cX5_isEnough 46 = .ok (.getfield 29, 3) := by decide +kernel
theorem dX5_isEnough_49 : decode cX5_isEnough 49 = .ok (.aload_n 0, 1) := by decide +kernel
theorem dX5_isEnough_50 : decode cX5_isEnough 50 = .ok (.getfield 23, 3) := by decide +kernel
theorem dX5_isEnough_53 : decode cX5_isEnough 53 = .ok (.aload_n 0, 1) := by decide +kernel
theorem dX5_isEnough_54 : decode cX5_isEnough 54 = .ok (.getfield 40, 3) := by decide +kernel
theorem dX5_isEnough_57 : decode cX5_isEnough 57 = .ok (.invokevirtual 103, 3) := by decide +kernel
theorem dX5_isEnough_60 : decode cX5_isEnough 60 = .ok (.aload_n 0, 1) := by decide +kernel
theorem dX5_isEnough_61 : decode cX5_isEnough 61 = .ok (.getfield 40, 3) := by decide +kernel
theorem dX5_isEnough_64 : decode cX5_isEnough 64 = .ok (.getfield 189, 3) := by decide +kernel
theorem dX5_isEnough_67 : decode cX5_isEnough 67 = .ok (.aload_n 0, 1) := by decide +kernel
theorem dX5_isEnough_68 : decode cX5_isEnough 68 = .ok (.getfield 36, 3) := by decide +kernel
theorem dX5_isEnough_71 : decode cX5_isEnough 71 = .ok (.getfield 189, 3) := by decide +kernel
theorem dX5_isEnough_74 : decode cX5_isEnough 74 = .ok (.if_icmp .eq 5, 3) := by decide +kernel
theorem dX5_isEnough_77 : decode cX5_isEnough 77 = .ok (.iconst 0, 1) := by decide +kernel
theorem dX5_isEnough_78 : decode cX5_isEnough 78 = .ok (.ireturn, 1) := by decide +kernel
theorem dX5_isEnough_79 : decode cX5_isEnough 79 = .ok (.iinc 2 1, 3) := by decide +kernel
theorem dX5_isEnough_82 : decode cX5_isEnough 82 = .ok (.goto (-57), 3) := by decide +kernel
theorem dX5_isEnough_85 : decode cX5_isEnough 85 = .ok (.iconst 1, 1) := by decide +kernel
theorem dX5_isEnough_86 : decode cX5_isEnough 86 = .ok (.ireturn, 1) := by decide +kernel
theorem dX5_talksAmong_0 : decode cX5_talksAmong 0 = .ok (.aload_n 0, 1) := by decide +kernel
theorem dX5_talksAmong_1 : decode cX5_talksAmong 1 = .ok (.getfield 40, 3) := by decide +kernel
theorem dX5_talksAmong_4 : decode cX5_talksAmong 4 = .ok (.aload_n 0, 1) := by decide +kernel
theorem dX5_talksAmong_5 : decode cX5_talksAmong 5 = .ok (.getfield 36, 3) := by decide +kernel
theorem dX5_talksAmong_8 : decode cX5_talksAmong 8 = .ok (.invokevirtual 181, 3) := by decide +kernel
theorem dX5_talksAmong_11 : decode cX5_talksAmong 11 = .ok (.aload_n 0, 1) := by decide +kernel
theorem dX5_talksAmong_12 : decode cX5_talksAmong 12 = .ok (.getfield 40, 3) := by decide +kernel
theorem dX5_talksAmong_15 : decode cX5_talksAmong 15 = .ok (.aload_n 0, 1) := by decide +kernel
theorem dX5_talksAmong_16 : decode cX5_talksAmong 16 = .ok (.getfield 19, 3) := by decide +kernel
theorem dX5_talksAmong_19 : decode cX5_talksAmong 19 = .ok (.iload_n 1, 1) := by decide +kernel
theorem dX5_talksAmong_20 : decode cX5_talksAmong 20 = .ok (.iconst 1, 1) := by decide +kernel
theorem dX5_talksAmong_21 : decode cX5_talksAmong 21 = .ok (.iload_n 2, 1) := by decide +kernel
theorem dX5_talksAmong_22 : decode cX5_talksAmong 22 = .ok (.ishl, 1) := by decide +kernel
theorem dX5_talksAmong_23 : decode cX5_talksAmong 23 = .ok (.ior, 1) := by decide +kernel
theorem dX5_talksAmong_24 : decode cX5_talksAmong 24 = .ok (.invokevirtual 237, 3) := by decide +kernel
theorem dX5_talksAmong_27 : decode cX5_talksAmong 27 = .ok (.iconst 0, 1) := by decide +kernel
theorem dX5_talksAmong_28 : decode cX5_talksAmong 28 = .ok (.istore 4, 2) := by decide +kernel
theorem dX5_talksAmong_30 : decode cX5_talksAmong 30 = .ok (.iload 4, 2) := by decide +kernel
theorem dX5_talksAmong_32 : decode cX5_talksAmong 32 = .ok (.iload_n 3, 1) := by decide +kernel
theorem dX5_talksAmong_33 : decode cX5_talksAmong 33 = .ok (.if_icmp .ge 49, 3) := by decide +kernel
theorem dX5_talksAmong_36 : decode cX5_talksAmong 36 = .ok (.aload_n 0, 1) := by decide +kernel
theorem dX5_talksAmong_37 : decode cX5_talksAmong 37 = .ok (.getfield 40, 3) := by decide +kernel
theorem dX5_talksAmong_40 : decode cX5_talksAmong 40 = .ok (.getfield 119, 3) := by decide +kernel
theorem dX5_talksAmong_43 : decode cX5_talksAmong 43 = .ok (.iload_n 2, 1) := by decide +kernel
theorem dX5_talksAmong_44 : decode cX5_talksAmong 44 = .ok (.iaload, 1) := by decide +kernel
theorem dX5_talksAmong_45 : decode cX5_talksAmong 45 = .ok (.ifCond .eq 37, 3) := by decide +kernel
theorem dX5_talksAmong_48 : decode cX5_talksAmong 48 = .ok (.aload_n 0, 1) := by decide +kernel
theorem dX5_talksAmong_49 : decode cX5_talksAmong 49 = .ok (.getfield 29, 3) := by decide +kernel
theorem dX5_talksAmong_52 : decode cX5_talksAmong 52 = .ok (.aload_n 0, 1) := by decide +kernel
theorem dX5_talksAmong_53 : decode cX5_talksAmong 53 = .ok (.getfield 19, 3) := by decide +kernel
theorem dX5_talksAmong_56 : decode cX5_talksAmong 56 = .ok (.aload_n 0, 1) := by decide +kernel
theorem dX5_talksAmong_57 : decode cX5_talksAmong 57 = .ok (.getfield 40, 3) := by decide +kernel
theorem dX5_talksAmong_60 : decode cX5_talksAmong 60 = .ok (.invokevirtual 103, 3) := by decide +kernel
theorem dX5_talksAmong_63 : decode cX5_talksAmong 63 = .ok (.aload_n 0, 1) := by decide +kernel
theorem dX5_talksAmong_64 : decode cX5_talksAmong 64 = .ok (.getfield 40, 3) := by decide +kernel
theorem dX5_talksAmong_67 : decode cX5_talksAmong 67 = .ok (.iload_n 2, 1) := by decide +kernel
theorem dX5_talksAmong_68 : decode cX5_talksAmong 68 = .ok (.invokevirtual 110, 3) := by decide +kernel
theorem dX5_talksAmong_71 : decode cX5_talksAmong 71 = .ok (.ifCond .eq 5, 3) := by decide +kernel
theorem dX5_talksAmong_74 : decode cX5_talksAmong 74 = .ok (.iconst 1, 1) := by decide +kernel
theorem dX5_talksAmong_75 : decode cX5_talksAmong 75 = .ok (.ireturn, 1) := by decide +kernel
theorem dX5_talksAmong_76 : decode cX5_talksAmong 76 = .ok (.iinc 4 1, 3) := by decide +kernel
theorem dX5_talksAmong_79 : decode cX5_talksAmong 79 = .ok (.goto (-49), 3) := by decide +kernel
theorem dX5_talksAmong_82 : decode cX5_talksAmong 82 = .ok (.iconst 0, 1) := by decide +kernel
theorem dX5_talksAmong_83 : decode cX5_talksAmong 83 = .ok (.ireturn, 1) := by decide +kernel
theorem dX5_power_0 : decode cX5_power 0 = .ok (.iconst 1, 1) := by decide +kernel
theorem dX5_power_1 : decode cX5_power 1 = .ok (.istore_n 2, 1) := by decide +kernel
theorem dX5_power_2 : decode cX5_power 2 = .ok (.iconst 0, 1) := by decide +kernel
theorem dX5_power_3 : decode cX5_power 3 = .ok (.istore_n 3, 1) := by decide +kernel
theorem dX5_power_4 : decode cX5_power 4 = .ok (.iload_n 3, 1) := by decide +kernel
theorem dX5_power_5 : decode cX5_power 5 = .ok (.iload_n 1, 1) := by decide +kernel
theorem dX5_power_6 : decode cX5_power 6 = .ok (.if_icmp .ge 19, 3) := by decide +kernel
theorem dX5_power_9 : decode cX5_power 9 = .ok (.iload_n 3, 1) := by decide +kernel
theorem dX5_power_10 : decode cX5_power 10 = .ok (.bipush 7, 2) := by decide +kernel
theorem dX5_power_12 : decode cX5_power 12 = .ok (.if_icmp .ge 13, 3) := by decide +kernel
theorem dX5_power_15 : decode cX5_power 15 = .ok (.iload_n 2, 1) := by decide +kernel
theorem dX5_power_16 : decode cX5_power 16 = .ok (.iload_n 0, 1) := by decide +kernel
theorem dX5_power_17 : decode cX5_power 17 = .ok (.imul, 1) := by decide +kernel
theorem dX5_power_18 : decode cX5_power 18 = .ok (.istore_n 2, 1) := by decide +kernel
theorem dX5_power_19 : decode cX5_power 19 = .ok (.iinc 3 1, 3) := by decide +kernel
theorem dX5_power_22 : decode cX5_power 22 = .ok (.goto (-18), 3) := by decide +kernel
theorem dX5_power_25 : decode cX5_power 25 = .ok (.iload_n 2, 1) := by decide +kernel
theorem dX5_power_26 : decode cX5_power 26 = .ok (.ireturn, 1) := by decide +kernel
theorem dX5_commonDivisor_0 : decode cX5_commonDivisor 0 = .ok (.iload_n 0, 1) := by decide +kernel
theorem dX5_commonDivisor_1 : decode cX5_commonDivisor 1 = .ok (.istore_n 2, 1) := by decide +kernel
theorem dX5_commonDivisor_2 : decode cX5_commonDivisor 2 = .ok (.iload_n 1, 1) := by decide +kernel
theorem dX5_commonDivisor_3 : decode cX5_commonDivisor 3 = .ok (.istore_n 3, 1) := by decide +kernel
theorem dX5_commonDivisor_4 : decode cX5_commonDivisor 4 = .ok (.iconst 0, 1) := by decide +kernel
theorem dX5_commonDivisor_5 : decode cX5_commonDivisor 5 = .ok (.istore 4, 2) := by decide +kernel
theorem dX5_commonDivisor_7 : decode cX5_commonDivisor 7 = .ok (.iload 4, 2) := by decide +kernel
theorem dX5_commonDivisor_9 : decode cX5_commonDivisor 9 = .ok (.bipush 64, 2) := by decide +kernel
theorem dX5_commonDivisor_11 : decode cX5_commonDivisor 11 = .ok (.if_icmp .ge 23, 3) := by decide +kernel
theorem dX5_commonDivisor_14 : decode cX5_commonDivisor 14 = .ok (.iload_n 3, 1) := by decide +kernel
theorem dX5_commonDivisor_15 : decode cX5_commonDivisor 15 = .ok (.ifCond .eq 19, 3) := by decide +kernel
theorem dX5_commonDivisor_18 : decode cX5_commonDivisor 18 = .ok (.iload_n 2, 1) := by decide +kernel
theorem dX5_commonDivisor_19 : decode cX5_commonDivisor 19 = .ok (.iload_n 3, 1) := by decide +kernel
theorem dX5_commonDivisor_20 : decode cX5_commonDivisor 20 = .ok (.irem, 1) := by decide +kernel
theorem dX5_commonDivisor_21 : decode cX5_commonDivisor 21 = .ok (.istore 5, 2) := by decide +kernel
theorem dX5_commonDivisor_23 : decode cX5_commonDivisor 23 = .ok (.iload_n 3, 1) := by decide +kernel
theorem dX5_commonDivisor_24 : decode cX5_commonDivisor 24 = .ok (.istore_n 2, 1) := by decide +kernel
theorem dX5_commonDivisor_25 : decode cX5_commonDivisor 25 = .ok (.iload 5, 2) := by decide +kernel
theorem dX5_commonDivisor_27 : decode cX5_commonDivisor 27 = .ok (.istore_n 3, 1) := by decide +kernel
theorem dX5_commonDivisor_28 : decode cX5_commonDivisor 28 = .ok (.iinc 4 1, 3) := by decide +kernel
theorem dX5_commonDivisor_31 : decode cX5_commonDivisor 31 = .ok (.goto (-24), 3) := by decide +kernel
theorem dX5_commonDivisor_34 : decode cX5_commonDivisor 34 = .ok (.iconst 1, 1) := by decide +kernel
theorem dX5_commonDivisor_35 : decode cX5_commonDivisor 35 = .ok (.iload_n 2, 1) := by decide +kernel
theorem dX5_commonDivisor_36 : decode cX5_commonDivisor 36 = .ok (.invokestatic 196, 3) := by decide +kernel
theorem dX5_commonDivisor_39 : decode cX5_commonDivisor 39 = .ok (.ireturn, 1) := by decide +kernel
theorem dX5_ranksThatFit_0 : decode cX5_ranksThatFit 0 = .ok (.iconst 0, 1) := by decide +kernel
theorem dX5_ranksThatFit_1 : decode cX5_ranksThatFit 1 = .ok (.istore_n 2, 1) := by decide +kernel
theorem dX5_ranksThatFit_2 : decode cX5_ranksThatFit 2 = .ok (.aload_n 0, 1) := by decide +kernel
theorem dX5_ranksThatFit_3 : decode cX5_ranksThatFit 3 = .ok (.getfield 23, 3) := by decide +kernel
theorem dX5_ranksThatFit_6 : decode cX5_ranksThatFit 6 = .ok (.aload_n 0, 1) := by decide +kernel
theorem dX5_ranksThatFit_7 : decode cX5_ranksThatFit 7 = .ok (.getfield 19, 3) := by decide +kernel
theorem dX5_ranksThatFit_10 : decode cX5_ranksThatFit 10 = .ok (.invokevirtual 80, 3) := by decide +kernel
theorem dX5_ranksThatFit_13 : decode cX5_ranksThatFit 13 = .ok (.iconst 0, 1) := by decide +kernel
theorem dX5_ranksThatFit_14 : decode cX5_ranksThatFit 14 = .ok (.istore_n 3, 1) := by decide +kernel
theorem dX5_ranksThatFit_15 : decode cX5_ranksThatFit 15 = .ok (.iload_n 3, 1) := by decide +kernel
theorem dX5_ranksThatFit_16 : decode cX5_ranksThatFit 16 = .ok (.iconst 4, 1) := by decide +kernel
theorem dX5_ranksThatFit_17 : decode cX5_ranksThatFit 17 = .ok (.if_icmp .ge 49, 3) := by decide +kernel
theorem dX5_ranksThatFit_20 : decode cX5_ranksThatFit 20 = .ok (.aload_n 0, 1) := by decide +kernel
theorem dX5_ranksThatFit_21 : decode cX5_ranksThatFit 21 = .ok (.getfield 23, 3) := by decide +kernel
theorem dX5_ranksThatFit_24 : decode cX5_ranksThatFit 24 = .ok (.getfield 155, 3) := by decide +kernel
theorem dX5_ranksThatFit_27 : decode cX5_ranksThatFit 27 = .ok (.iload_n 1, 1) := by decide +kernel
theorem dX5_ranksThatFit_28 : decode cX5_ranksThatFit 28 = .ok (.iload_n 3, 1) := by decide +kernel
theorem dX5_ranksThatFit_29 : decode cX5_ranksThatFit 29 = .ok (.iastore, 1) := by decide +kernel
theorem dX5_ranksThatFit_30 : decode cX5_ranksThatFit 30 = .ok (.aload_n 0, 1) := by decide +kernel
theorem dX5_ranksThatFit_31 : decode cX5_ranksThatFit 31 = .ok (.getfield 61, 3) := by decide +kernel
theorem dX5_ranksThatFit_34 : decode cX5_ranksThatFit 34 = .ok (.iload_n 3, 1) := by decide +kernel
theorem dX5_ranksThatFit_35 : decode cX5_ranksThatFit 35 = .ok (.aload_n 0, 1) := by decide +kernel
theorem dX5_ranksThatFit_36 : decode cX5_ranksThatFit 36 = .ok (.iload_n 1, 1) := by decide +kernel
theorem dX5_ranksThatFit_37 : decode cX5_ranksThatFit 37 = .ok (.invokevirtual 245, 3) := by decide +kernel
theorem dX5_ranksThatFit_40 : decode cX5_ranksThatFit 40 = .ok (.iastore, 1) := by decide +kernel
theorem dX5_ranksThatFit_41 : decode cX5_ranksThatFit 41 = .ok (.aload_n 0, 1) := by decide +kernel
theorem dX5_ranksThatFit_42 : decode cX5_ranksThatFit 42 = .ok (.aload_n 0, 1) := by decide +kernel
theorem dX5_ranksThatFit_43 : decode cX5_ranksThatFit 43 = .ok (.getfield 61, 3) := by decide +kernel
theorem dX5_ranksThatFit_46 : decode cX5_ranksThatFit 46 = .ok (.iload_n 3, 1) := by decide +kernel
theorem dX5_ranksThatFit_47 : decode cX5_ranksThatFit 47 = .ok (.iaload, 1) := by decide +kernel
theorem dX5_ranksThatFit_48 : decode cX5_ranksThatFit 48 = .ok (.invokevirtual 248, 3) := by decide +kernel
theorem dX5_ranksThatFit_51 : decode cX5_ranksThatFit 51 = .ok (.ifCond .eq 9, 3) := by decide +kernel
theorem dX5_ranksThatFit_54 : decode cX5_ranksThatFit 54 = .ok (.iload_n 2, 1) := by decide +kernel
theorem dX5_ranksThatFit_55 : decode cX5_ranksThatFit 55 = .ok (.iconst 1, 1) := by decide +kernel
theorem dX5_ranksThatFit_56 : decode cX5_ranksThatFit 56 = .ok (.iload_n 3, 1) := by decide +kernel
theorem dX5_ranksThatFit_57 : decode cX5_ranksThatFit 57 = .ok (.ishl, 1) := by decide +kernel
theorem dX5_ranksThatFit_58 : decode cX5_ranksThatFit 58 = .ok (.ior, 1) := by decide +kernel
theorem dX5_ranksThatFit_59 : decode cX5_ranksThatFit 59 = .ok (.istore_n 2, 1) := by decide +kernel
theorem dX5_ranksThatFit_60 : decode cX5_ranksThatFit 60 = .ok (.iinc 3 1, 3) := by decide +kernel
theorem dX5_ranksThatFit_63 : decode cX5_ranksThatFit 63 = .ok (.goto (-48), 3) := by decide +kernel
theorem dX5_ranksThatFit_66 : decode cX5_ranksThatFit 66 = .ok (.iload_n 2, 1) := by decide +kernel
theorem dX5_ranksThatFit_67 : decode cX5_ranksThatFit 67 = .ok (.ireturn, 1) := by decide +kernel
theorem dX5_timesOnAir_0 : decode cX5_timesOnAir 0 = .ok (.iconst 0, 1) := by decide +kernel
theorem dX5_timesOnAir_1 : decode cX5_timesOnAir 1 = .ok (.istore_n 2, 1) := by decide +kernel
theorem dX5_timesOnAir_2 : decode cX5_timesOnAir 2 = .ok (.aload_n 0, 1) := by decide +kernel
theorem dX5_timesOnAir_3 : decode cX5_timesOnAir 3 = .ok (.getfield 40, 3) := by decide +kernel
theorem dX5_timesOnAir_6 : decode cX5_timesOnAir 6 = .ok (.aload_n 0, 1) := by decide +kernel
theorem dX5_timesOnAir_7 : decode cX5_timesOnAir 7 = .ok (.getfield 36, 3) := by decide +kernel
theorem dX5_timesOnAir_10 : decode cX5_timesOnAir 10 = .ok (.invokevirtual 181, 3) := by decide +kernel
theorem dX5_timesOnAir_13 : decode cX5_timesOnAir 13 = .ok (.iconst 1, 1) := by decide +kernel
theorem dX5_timesOnAir_14 : decode cX5_timesOnAir 14 = .ok (.istore_n 3, 1) := by decide +kernel
theorem dX5_timesOnAir_15 : decode cX5_timesOnAir 15 = .ok (.iload_n 3, 1) := by decide +kernel
theorem dX5_timesOnAir_16 : decode cX5_timesOnAir 16 = .ok (.bipush 20, 2) := by decide +kernel
theorem dX5_timesOnAir_18 : decode cX5_timesOnAir 18 = .ok (.if_icmp .gt 53, 3) := by decide +kernel
theorem dX5_timesOnAir_21 : decode cX5_timesOnAir 21 = .ok (.aload_n 0, 1) := by decide +kernel
theorem dX5_timesOnAir_22 : decode cX5_timesOnAir 22 = .ok (.getfield 40, 3) := by decide +kernel
theorem dX5_timesOnAir_25 : decode cX5_timesOnAir 25 = .ok (.getfield 119, 3) := by decide +kernel
theorem dX5_timesOnAir_28 : decode cX5_timesOnAir 28 = .ok (.iload_n 1, 1) := by decide +kernel
theorem dX5_timesOnAir_29 : decode cX5_timesOnAir 29 = .ok (.iaload, 1) := by decide +kernel
theorem dX5_timesOnAir_30 : decode cX5_timesOnAir 30 = .ok (.ifCond .eq 41, 3) := by decide +kernel
theorem dX5_timesOnAir_33 : decode cX5_timesOnAir 33 = .ok (.aload_n 0, 1) := by decide +kernel
theorem dX5_timesOnAir_34 : decode cX5_timesOnAir 34 = .ok (.getfield 29, 3) := by decide +kernel
theorem dX5_timesOnAir_37 : decode cX5_timesOnAir 37 = .ok (.aload_n 0, 1) := by decide +kernel
theorem dX5_timesOnAir_38 : decode cX5_timesOnAir 38 = .ok (.getfield 23, 3) := by decide +kernel
theorem dX5_timesOnAir_41 : decode cX5_timesOnAir 41 = .ok (.aload_n 0, 1) := by decide +kernel
theorem dX5_timesOnAir_42 : decode cX5_timesOnAir 42 = .ok (.getfield 40, 3) := by decide +kernel
theorem dX5_timesOnAir_45 : decode cX5_timesOnAir 45 = .ok (.invokevirtual 103, 3) := by decide +kernel
theorem dX5_timesOnAir_48 : decode cX5_timesOnAir 48 = .ok (.aload_n 0, 1) := by decide +kernel
theorem dX5_timesOnAir_49 : decode cX5_timesOnAir 49 = .ok (.getfield 40, 3) := by decide +kernel
theorem dX5_timesOnAir_52 : decode cX5_timesOnAir 52 = .ok (.iload_n 1, 1) := by decide +kernel
theorem dX5_timesOnAir_53 : decode cX5_timesOnAir 53 = .ok (.invokevirtual 110, 3) := by decide +kernel
theorem dX5_timesOnAir_56 : decode cX5_timesOnAir 56 = .ok (.ifCond .eq 9, 3) := by decide +kernel
theorem dX5_timesOnAir_59 : decode cX5_timesOnAir 59 = .ok (.iload_n 2, 1) := by decide +kernel
theorem dX5_timesOnAir_60 : decode cX5_timesOnAir 60 = .ok (.iconst 1, 1) := by decide +kernel
theorem dX5_timesOnAir_61 : decode cX5_timesOnAir 61 = .ok (.iload_n 3, 1) := by decide +kernel
theorem dX5_timesOnAir_62 : decode cX5_timesOnAir 62 = .ok (.ishl, 1) := by decide +kernel
theorem dX5_timesOnAir_63 : decode cX5_timesOnAir 63 = .ok (.ior, 1) := by decide +kernel
theorem dX5_timesOnAir_64 : decode cX5_timesOnAir 64 = .ok (.istore_n 2, 1) := by decide +kernel
theorem dX5_timesOnAir_65 : decode cX5_timesOnAir 65 = .ok (.iinc 3 1, 3) := by decide +kernel
theorem dX5_timesOnAir_68 : decode cX5_timesOnAir 68 = .ok (.goto (-53), 3) := by decide +kernel
theorem dX5_timesOnAir_71 : decode cX5_timesOnAir 71 = .ok (.iload_n 2, 1) := by decide +kernel
theorem dX5_timesOnAir_72 : decode cX5_timesOnAir 72 = .ok (.ireturn, 1) := by decide +kernel
theorem dX5_agreesWithSeen_0 : decode cX5_agreesWithSeen 0 = .ok (.iconst 0, 1) := by decide +kernel
theorem dX5_agreesWithSeen_1 : decode cX5_agreesWithSeen 1 = .ok (.istore_n 2, 1) := by decide +kernel
theorem dX5_agreesWithSeen_2 : decode cX5_agreesWithSeen 2 = .ok (.iload_n 2, 1) := by decide +kernel
theorem dX5_agreesWithSeen_3 : decode cX5_agreesWithSeen 3 = .ok (.aload_n 0, 1) := by decide +kernel
theorem dX5_agreesWithSeen_4 : decode cX5_agreesWithSeen 4 = .ok (.getfield 90, 3) := by decide +kernel
theorem dX5_agreesWithSeen_7 : decode cX5_agreesWithSeen 7 = .ok (.if_icmp .ge 36, 3) := by decide +kernel
theorem dX5_agreesWithSeen_10 : decode cX5_agreesWithSeen 10 = .ok (.iload_n 2, 1) := by decide +kernel
theorem dX5_agreesWithSeen_11 : decode cX5_agreesWithSeen 11 = .ok (.bipush 6, 2) := by decide +kernel
theorem dX5_agreesWithSeen_13 : decode cX5_agreesWithSeen 13 = .ok (.if_icmp .ge 30, 3) := by decide +kernel
theorem dX5_agreesWithSeen_16 : decode cX5_agreesWithSeen 16 = .ok (.iload_n 1, 1) := by decide +kernel
theorem dX5_agreesWithSeen_17 : decode cX5_agreesWithSeen 17 = .ok (.aload_n 0, 1) := by decide +kernel
theorem dX5_agreesWithSeen_18 : decode cX5_agreesWithSeen 18 = .ok (.getfield 54, 3) := by decide +kernel
theorem dX5_agreesWithSeen_21 : decode cX5_agreesWithSeen 21 = .ok (.iload_n 2, 1) := by decide +kernel
theorem dX5_agreesWithSeen_22 : decode cX5_agreesWithSeen 22 = .ok (.iaload, 1) := by decide +kernel
theorem dX5_agreesWithSeen_23 : decode cX5_agreesWithSeen 23 = .ok (.ishr, 1) := by decide +kernel
theorem dX5_agreesWithSeen_24 : decode cX5_agreesWithSeen 24 = .ok (.iconst 1, 1) := by decide +kernel
theorem dX5_agreesWithSeen_25 : decode cX5_agreesWithSeen 25 = .ok (.iand, 1) := by decide +kernel
theorem dX5_agreesWithSeen_26 : decode cX5_agreesWithSeen 26 = .ok (.aload_n 0, 1) := by decide +kernel
theorem dX5_agreesWithSeen_27 : decode cX5_agreesWithSeen 27 = .ok (.getfield 58, 3) := by decide +kernel
theorem dX5_agreesWithSeen_30 : decode cX5_agreesWithSeen 30 = .ok (.iload_n 2, 1) := by decide +kernel
theorem dX5_agreesWithSeen_31 : decode cX5_agreesWithSeen 31 = .ok (.iaload, 1) := by decide +kernel
theorem dX5_agreesWithSeen_32 : decode cX5_agreesWithSeen 32 = .ok (.if_icmp .eq 5, 3) := by decide +kernel
theorem dX5_agreesWithSeen_35 : decode cX5_agreesWithSeen 35 = .ok (.iconst 0, 1) := by decide +kernel
theorem dX5_agreesWithSeen_36 : decode cX5_agreesWithSeen 36 = .ok (.ireturn, 1) := by decide +kernel
theorem dX5_agreesWithSeen_37 : decode cX5_agreesWithSeen 37 = .ok (.iinc 2 1, 3) := by decide +kernel
theorem dX5_agreesWithSeen_40 : decode cX5_agreesWithSeen 40 = .ok (.goto (-38), 3) := by decide +kernel
theorem dX5_agreesWithSeen_43 : decode cX5_agreesWithSeen 43 = .ok (.iconst 1, 1) := by decide +kernel
theorem dX5_agreesWithSeen_44 : decode cX5_agreesWithSeen 44 = .ok (.ireturn, 1) := by decide +kernel
theorem dX5_ranksOnAir_0 : decode cX5_ranksOnAir 0 = .ok (.iconst 0, 1) := by decide +kernel
theorem dX5_ranksOnAir_1 : decode cX5_ranksOnAir 1 = .ok (.istore_n 3, 1) := by decide +kernel
theorem dX5_ranksOnAir_2 : decode cX5_ranksOnAir 2 = .ok (.iconst 0, 1) := by decide +kernel
theorem dX5_ranksOnAir_3 : decode cX5_ranksOnAir 3 = .ok (.istore 4, 2) := by decide +kernel
theorem dX5_ranksOnAir_5 : decode cX5_ranksOnAir 5 = .ok (.iload 4, 2) := by decide +kernel
theorem dX5_ranksOnAir_7 : decode cX5_ranksOnAir 7 = .ok (.iconst 4, 1) := by decide +kernel
theorem dX5_ranksOnAir_8 : decode cX5_ranksOnAir 8 = .ok (.if_icmp .ge 33, 3) := by decide +kernel
theorem dX5_ranksOnAir_11 : decode cX5_ranksOnAir 11 = .ok (.iload_n 1, 1) := by decide +kernel
theorem dX5_ranksOnAir_12 : decode cX5_ranksOnAir 12 = .ok (.iload 4, 2) := by decide +kernel
theorem dX5_ranksOnAir_14 : decode cX5_ranksOnAir 14 = .ok (.ishr, 1) := by decide +kernel
theorem dX5_ranksOnAir_15 : decode cX5_ranksOnAir 15 = .ok (.iconst 1, 1) := by decide +kernel
theorem dX5_ranksOnAir_16 : decode cX5_ranksOnAir 16 = .ok (.iand, 1) := by decide +kernel
theorem dX5_ranksOnAir_17 : decode cX5_ranksOnAir 17 = .ok (.iconst 1, 1) := by decide +kernel
theorem dX5_ranksOnAir_18 : decode cX5_ranksOnAir 18 = .ok (.if_icmp .ne 17, 3) := by decide +kernel
theorem dX5_ranksOnAir_21 : decode cX5_ranksOnAir 21 = .ok (.iload_n 3, 1) := by decide +kernel
theorem dX5_ranksOnAir_22 : decode cX5_ranksOnAir 22 = .ok (.aload_n 0, 1) := by decide +kernel
theorem dX5_ranksOnAir_23 : decode cX5_ranksOnAir 23 = .ok (.getfield 61, 3) := by decide +kernel
theorem dX5_ranksOnAir_26 : decode cX5_ranksOnAir 26 = .ok (.iload 4, 2) := by decide +kernel
theorem dX5_ranksOnAir_28 : decode cX5_ranksOnAir 28 = .ok (.iaload, 1) := by decide +kernel
theorem dX5_ranksOnAir_29 : decode cX5_ranksOnAir 29 = .ok (.iload_n 2, 1) := by decide +kernel
theorem dX5_ranksOnAir_30 : decode cX5_ranksOnAir 30 = .ok (.ishr, 1) := by decide +kernel
theorem dX5_ranksOnAir_31 : decode cX5_ranksOnAir 31 = .ok (.iconst 1, 1) := by decide +kernel
theorem dX5_ranksOnAir_32 : decode cX5_ranksOnAir 32 = .ok (.iand, 1) := by decide +kernel
theorem dX5_ranksOnAir_33 : decode cX5_ranksOnAir 33 = .ok (.iadd, 1) := by decide +kernel
theorem dX5_ranksOnAir_34 : decode cX5_ranksOnAir 34 = .ok (.istore_n 3, 1) := by decide +kernel
theorem dX5_ranksOnAir_35 : decode cX5_ranksOnAir 35 = .ok (.iinc 4 1, 3) := by decide +kernel
theorem dX5_ranksOnAir_38 : decode cX5_ranksOnAir 38 = .ok (.goto (-33), 3) := by decide +kernel
theorem dX5_ranksOnAir_41 : decode cX5_ranksOnAir 41 = .ok (.iload_n 3, 1) := by decide +kernel
theorem dX5_ranksOnAir_42 : decode cX5_ranksOnAir 42 = .ok (.ireturn, 1) := by decide +kernel
theorem dX6_init_0 : decode cX6_init 0 = .ok (.aload_n 0, 1) := by decide +kernel
theorem dX6_init_1 : decode cX6_init 1 = .ok (.invokespecial 1, 3) := by decide +kernel
theorem dX6_init_4 : decode cX6_init 4 = .ok (.aload_n 0, 1) := by decide +kernel
theorem dX6_init_5 : decode cX6_init 5 = .ok (.bipush 80, 2) := by decide +kernel
theorem dX6_init_7 : decode cX6_init 7 = .ok (.newarray .int, 2) := by decide +kernel
theorem dX6_init_9 : decode cX6_init 9 = .ok (.putfield 7, 3) := by decide +kernel
theorem dX6_init_12 : decode cX6_init 12 = .ok (.aload_n 0, 1) := by decide +kernel
theorem dX6_init_13 : decode cX6_init 13 = .ok (.bipush 19, 2) := by decide +kernel
theorem dX6_init_15 : decode cX6_init 15 = .ok (.newarray .int, 2) := by decide +kernel
theorem dX6_init_17 : decode cX6_init 17 = .ok (.putfield 13, 3) := by decide +kernel
theorem dX6_init_20 : decode cX6_init 20 = .ok (.aload_n 0, 1) := by decide +kernel
theorem dX6_init_21 : decode cX6_init 21 = .ok (.bipush 19, 2) := by decide +kernel
theorem dX6_init_23 : decode cX6_init 23 = .ok (.newarray .int, 2) := by decide +kernel
theorem dX6_init_25 : decode cX6_init 25 = .ok (.putfield 16, 3) := by decide +kernel
theorem dX6_init_28 : decode cX6_init 28 = .ok (.aload_n 0, 1) := by decide +kernel
theorem dX6_init_29 : decode cX6_init 29 = .ok (.bipush 41, 2) := by decide +kernel
theorem dX6_init_31 : decode cX6_init 31 = .ok (.newarray .int, 2) := by decide +kernel
theorem dX6_init_33 : decode cX6_init 33 = .ok (.putfield 19, 3) := by decide +kernel
theorem dX6_init_36 : decode cX6_init 36 = .ok (.aload_n 0, 1) := by decide +kernel
theorem dX6_init_37 : decode cX6_init 37 = .ok (.bipush 41, 2) := by decide +kernel
theorem dX6_init_39 : decode cX6_init 39 = .ok (.newarray .int, 2) := by decide +kernel
theorem dX6_init_41 : decode cX6_init 41 = .ok (.putfield 22, 3) := by decide +kernel
theorem dX6_init_44 : decode cX6_init 44 = .ok (.aload_n 0, 1) := by decide +kernel
theorem dX6_init_45 : decode cX6_init 45 = .ok (.bipush 41, 2) := by decide +kernel
theorem dX6_init_47 : decode cX6_init 47 = .ok (.newarray .int, 2) := by decide +kernel
theorem dX6_init_49 : decode cX6_init 49 = .ok (.putfield 25, 3) := by decide +kernel
theorem dX6_init_52 : decode cX6_init 52 = .ok (.aload_n 0, 1) := by decide +kernel
theorem dX6_init_53 : decode cX6_init 53 = .ok (.sipush 492, 3) := by decide +kernel
theorem dX6_init_56 : decode cX6_init 56 = .ok (.newarray .int, 2) := by decide +kernel
theorem dX6_init_58 : decode cX6_init 58 = .ok (.putfield 28, 3) := by decide +kernel
theorem dX6_init_61 : decode cX6_init 61 = .ok (.aload_n 0, 1) := by decide +kernel
theorem dX6_init_62 : decode cX6_init 62 = .ok (.bipush 82, 2) := by decide +kernel
theorem dX6_init_64 : decode cX6_init 64 = .ok (.newarray .int, 2) := by decide +kernel
theorem dX6_init_66 : decode cX6_init 66 = .ok (.putfield 31, 3) := by decide +kernel
theorem dX6_init_69 : decode cX6_init 69 = .ok (.aload_n 0, 1) := by decide +kernel
theorem dX6_init_70 : decode cX6_init 70 = .ok (.iconst 2, 1) := by decide +kernel
theorem dX6_init_71 : decode cX6_init 71 = .ok (.newarray .boolean, 2) := by decide +kernel
theorem dX6_init_73 : decode cX6_init 73 = .ok (.putfield 34, 3) := by decide +kernel
theorem dX6_init_76 : decode cX6_init 76 = .ok (.aload_n 0, 1) := by decide +kernel
theorem dX6_init_77 : decode cX6_init 77 = .ok (.bipush 6, 2) := by decide +kernel
theorem dX6_init_79 : decode cX6_init 79 = .ok (.newarray .int, 2) := by decide +kernel
theorem dX6_init_81 : decode cX6_init 81 = .ok (.putfield 38, 3) := by decide +kernel
theorem dX6_init_84 : decode cX6_init 84 = .ok (.aload_n 0, 1) := by decide +kernel
theorem dX6_init_85 : decode cX6_init 85 = .ok (.bipush 6, 2) := by decide +kernel
theorem dX6_init_87 : decode cX6_init 87 = .ok (.newarray .int, 2) := by decide +kernel
theorem dX6_init_89 : decode cX6_init 89 = .ok (.putfield 41, 3) := by decide +kernel
theorem dX6_init_92 : decode cX6_init 92 = .ok (.aload_n 0, 1) := by decide +kernel
theorem dX6_init_93 : decode cX6_init 93 = .ok (.bipush 7, 2) := by decide +kernel
theorem dX6_init_95 : decode cX6_init 95 = .ok (.newarray .int, 2) := by decide +kernel
theorem dX6_init_97 : decode cX6_init 97 = .ok (.putfield 44, 3) := by decide +kernel
theorem dX6_init_100 : decode cX6_init 100 = .ok (.aload_n 0, 1) := by decide +kernel
theorem dX6_init_101 : decode cX6_init 101 = .ok (.bipush 7, 2) := by decide +kernel
theorem dX6_init_103 : decode cX6_init 103 = .ok (.newarray .int, 2) := by decide +kernel
theorem dX6_init_105 : decode cX6_init 105 = .ok (.putfield 47, 3) := by decide +kernel
theorem dX6_init_108 : decode cX6_init 108 = .ok (.aload_n 0, 1) := by decide +kernel
theorem dX6_init_109 : decode cX6_init 109 = .ok (.bipush 21, 2) := by decide +kernel
theorem dX6_init_111 : decode cX6_init 111 = .ok (.newarray .int, 2) := by decide +kernel
theorem dX6_init_113 : decode cX6_init 113 = .ok (.putfield 50, 3) := by decide +kernel
theorem dX6_init_116 : decode cX6_init 116 = .ok (.aload_n 0, 1) := by decide +kernel
theorem dX6_init_117 : decode cX6_init 117 = .ok (.invokevirtual 53, 3) := by decide +kernel
theorem dX6_init_120 : decode cX6_init 120 = .ok (.aload_n 0, 1) := by decide +kernel
theorem dX6_init_121 : decode cX6_init 121 = .ok (.invokevirtual 56, 3) := by decide +kernel
theorem dX6_init_124 : decode cX6_init 124 = .ok (.return_, 1) := by decide +kernel
theorem dX6_in_0 : decode cX6_in 0 = .ok (.iload_n 0, 1) := by decide +kernel
theorem dX6_in_1 : decode cX6_in 1 = .ok (.iload_n 1, 1) := by decide +kernel
theorem dX6_in_2 : decode cX6_in 2 = .ok (.if_icmp .lt 12, 3) := by decide +kernel
theorem dX6_in_5 : decode cX6_in 5 = .ok (.iload_n 0, 1) := by decide +kernel
theorem dX6_in_6 : decode cX6_in 6 = .ok (.iload_n 2, 1) := by decide +kernel
theorem dX6_in_7 : decode cX6_in 7 = .ok (.if_icmp .gt 7, 3) := by decide +kernel
theorem dX6_in_10 : decode cX6_in 10 = .ok (.iconst 1, 1) := by decide +kernel
theorem dX6_in_11 : decode cX6_in 11 = .ok (.goto 4, 3) := by decide +kernel
theorem dX6_in_14 : decode cX6_in 14 = .ok (.iconst 0, 1) := by decide +kernel
theorem dX6_in_15 : decode cX6_in 15 = .ok (.ireturn, 1) := by decide +kernel
theorem dX6_has_0 : decode cX6_has 0 = .ok (.iload_n 0, 1) := by decide +kernel
theorem dX6_has_1 : decode cX6_has 1 = .ok (.iload_n 1, 1) := by decide +kernel
theorem dX6_has_2 : decode cX6_has 2 = .ok (.ishr, 1) := by decide +kernel
theorem dX6_has_3 : decode cX6_has 3 = .ok (.iconst 1, 1) := by decide +kernel
theorem dX6_has_4 : decode cX6_has 4 = .ok (.iand, 1) := by decide +kernel
theorem dX6_has_5 : decode cX6_has 5 = .ok (.iconst 1, 1) := by decide +kernel
theorem dX6_has_6 : decode cX6_has 6 = .ok (.if_icmp .ne 7, 3) := by decide +kernel
theorem dX6_has_9 : decode cX6_has 9 = .ok (.iconst 1, 1) := by decide +kernel
theorem dX6_has_10 : decode cX6_has 10 = .ok (.goto 4, 3) := by decide +kernel
theorem dX6_has_13 : decode cX6_has 13 = .ok (.iconst 0, 1) := by decide +kernel
theorem dX6_has_14 : decode cX6_has 14 = .ok (.ireturn, 1) := by decide +kernel
theorem dX6_type_0 : decode cX6_type 0 = .ok (.aload_n 0, 1) := by decide +kernel
theorem dX6_type_1 : decode cX6_type 1 = .ok (.iconst 0, 1) := by decide +kernel
theorem dX6_type_2 : decode cX6_type 2 = .ok (.putfield 59, 3) := by decide +kernel
theorem dX6_type_5 : decode cX6_type 5 = .ok (.iload_n 1, 1) := by decide +kernel
theorem dX6_type_6 : decode cX6_type 6 = .ok (.iconst 0, 1) := by decide +kernel
theorem dX6_type_7 : decode cX6_type 7 = .ok (.sipush 255, 3) := by decide +kernel
theorem dX6_type_10 : decode cX6_type 10 = .ok (.invokestatic 63, 3) := by decide +kernel
theorem dX6_type_13 : decode cX6_type 13 = .ok (.ifCond .ne 5, 3) := by decide +kernel
theorem dX6_type_16 : decode cX6_type 16 = .ok (.iconst (-1), 1) := by decide +kernel
theorem dX6_type_17 : decode cX6_type 17 = .ok (.ireturn, 1) := by decide +kernel
theorem dX6_type_18 : decode cX6_type 18 = .ok (.aload_n 0, 1) := by decide +kernel
theorem dX6_type_19 : decode cX6_type 19 = .ok (.getfield 67, 3) := by decide +kernel
theorem dX6_type_22 : decode cX6_type 22 = .ok (.bipush 80, 2) := by decide +kernel
theorem dX6_type_24 : decode cX6_type 24 = .ok (.if_icmp .ne 6, 3) := by decide +kernel
theorem dX6_type_27 : decode cX6_type 27 = .ok (.bipush (-3), 2) := by decide +kernel
theorem dX6_type_29 : decode cX6_type 29 = .ok (.ireturn, 1) := by decide +kernel
theorem dX6_type_30 : decode cX6_type 30 = .ok (.aload_n 0, 1) := by decide +kernel
theorem dX6_type_31 : decode cX6_type 31 = .ok (.getfield 7, 3) := by decide +kernel
theorem dX6_type_34 : decode cX6_type 34 = .ok (.aload_n 0, 1) := by decide +kernel
theorem dX6_type_35 : decode cX6_type 35 = .ok (.getfield 67, 3) := by decide +kernel
theorem dX6_type_38 : decode cX6_type 38 = .ok (.iload_n 1, 1) := by decide +kernel
theorem dX6_type_39 : decode cX6_type 39 = .ok (.iastore, 1) := by decide +kernel
theorem dX6_type_40 : decode cX6_type 40 = .ok (.aload_n 0, 1) := by decide +kernel
theorem dX6_type_41 : decode cX6_type 41 = .ok (.dup, 1) := by decide +kernel
theorem dX6_type_42 : decode cX6_type 42 = .ok (.getfield 67, 3) := by decide +kernel
theorem dX6_type_45 : decode cX6_type 45 = .ok (.iconst 1, 1) := by decide +kernel
theorem dX6_type_46 : decode cX6_type 46 = .ok (.iadd, 1) := by decide +kernel
theorem dX6_type_47 : decode cX6_type 47 = .ok (.putfield 67, 3) := by decide +kernel
theorem dX6_type_50 : decode cX6_type 50 = .ok (.aload_n 0, 1) := by decide +kernel
theorem dX6_type_51 : decode cX6_type 51 = .ok (.getfield 67, 3) := by decide +kernel
theorem dX6_type_54 : decode cX6_type 54 = .ok (.ireturn, 1) := by decide +kernel
theorem dX6_clear_0 : decode cX6_clear 0 = .ok (.aload_n 0, 1) := by decide +kernel
theorem dX6_clear_1 : decode cX6_clear 1 = .ok (.iconst 0, 1) := by decide +kernel
theorem dX6_clear_2 : decode cX6_clear 2 = .ok (.putfield 59, 3) := by decide +kernel
theorem dX6_clear_5 : decode cX6_clear 5 = .ok (.aload_n 0, 1) := by decide +kernel
theorem dX6_clear_6 : decode cX6_clear 6 = .ok (.getfield 67, 3) := by decide +kernel
theorem dX6_clear_9 : decode cX6_clear 9 = .ok (.istore_n 1, 1) := by decide +kernel
theorem dX6_clear_10 : decode cX6_clear 10 = .ok (.aload_n 0, 1) := by decide +kernel
theorem dX6_clear_11 : decode cX6_clear 11 = .ok (.iconst 0, 1) := by decide +kernel
theorem dX6_clear_12 : decode cX6_clear 12 = .ok (.putfield 67, 3) := by decide +kernel
theorem dX6_clear_15 : decode cX6_clear 15 = .ok (.iload_n 1, 1) := by decide +kernel
theorem dX6_clear_16 : decode cX6_clear 16 = .ok (.ireturn, 1) := by decide +kernel
theorem dX6_letterAt_0 : decode cX6_letterAt 0 = .ok (.iload_n 1, 1) := by decide +kernel
theorem dX6_letterAt_1 : decode cX6_letterAt 1 = .ok (.aload_n 0, 1) := by decide +kernel
theorem dX6_letterAt_2 : decode cX6_letterAt 2 = .ok (.getfield 67, 3) := by decide +kernel
theorem dX6_letterAt_5 : decode cX6_letterAt 5 = .ok (.if_icmp .ge 12, 3) := by decide +kernel
theorem dX6_letterAt_8 : decode cX6_letterAt 8 = .ok (.aload_n 0, 1) := by decide +kernel
theorem dX6_letterAt_9 : decode cX6_letterAt 9 = .ok (.getfield 7, 3) := by decide +kernel
theorem dX6_letterAt_12 : decode cX6_letterAt 12 = .ok (.iload_n 1, 1) := by decide +kernel
theorem dX6_letterAt_13 : decode cX6_letterAt 13 = .ok (.iaload, 1) := by decide +kernel
theorem dX6_letterAt_14 : decode cX6_letterAt 14 = .ok (.goto 4, 3) := by decide +kernel
theorem dX6_letterAt_17 : decode cX6_letterAt 17 = .ok (.iconst (-1), 1) := by decide +kernel
theorem dX6_letterAt_18 : decode cX6_letterAt 18 = .ok (.ireturn, 1) := by decide +kernel
theorem dX6_advances_0 : decode cX6_advances 0 = .ok (.aload_n 0, 1) := by decide +kernel
theorem dX6_advances_1 : decode cX6_advances 1 = .ok (.aload_n 0, 1) := by decide +kernel
theorem dX6_advances_2 : decode cX6_advances 2 = .ok (.getfield 70, 3) := by decide +kernel
theorem dX6_advances_5 : decode cX6_advances 5 = .ok (.invokevirtual 73, 3) := by decide +kernel
theorem dX6_advances_8 : decode cX6_advances 8 = .ok (.bipush 32, 2) := by decide +kernel
theorem dX6_advances_10 : decode cX6_advances 10 = .ok (.if_icmp .ne 16, 3) := by decide +kernel
theorem dX6_advances_13 : decode cX6_advances 13 = .ok (.aload_n 0, 1) := by decide +kernel
theorem dX6_advances_14 : decode cX6_advances 14 = .ok (.dup, 1) := by decide +kernel
theorem dX6_advances_15 : decode cX6_advances 15 = .ok (.getfield 70, 3) := by decide +kernel
theorem dX6_advances_18 : decode cX6_advances 18 = .ok (.iconst 1, 1) := by decide +kernel
theorem dX6_advances_19 : decode cX6_advances 19 = .ok (.iadd, 1) := by decide +kernel
theorem dX6_advances_20 : decode cX6_advances 20 = .ok (.putfield 70, 3) := by decide +kernel
theorem dX6_advances_23 : decode cX6_advances 23 = .ok (.goto (-23), 3) := by decide +kernel
theorem dX6_advances_26 : decode cX6_advances 26 = .ok (.aload_n 0, 1) := by decide +kernel
theorem dX6_advances_27 : decode cX6_advances 27 = .ok (.aload_n 0, 1) := by decide +kernel
theorem dX6_advances_28 : decode cX6_advances 28 = .ok (.getfield 70, 3) := by decide +kernel
theorem dX6_advances_31 : decode cX6_advances 31 = .ok (.putfield 77, 3) := by decide +kernel
theorem dX6_advances_34 : decode cX6_advances 34 = .ok (.aload_n 0, 1) := by decide +kernel
theorem dX6_advances_35 : decode cX6_advances 35 = .ok (.aload_n 0, 1) := by decide +kernel
theorem dX6_advances_36 : decode cX6_advances 36 = .ok (.getfield 70, 3) := by decide +kernel
theorem dX6_advances_39 : decode cX6_advances 39 = .ok (.invokevirtual 73, 3) := by decide +kernel
theorem dX6_advances_42 : decode cX6_advances 42 = .ok (.istore_n 1, 1) := by decide +kernel
theorem dX6_advances_43 : decode cX6_advances 43 = .ok (.iload_n 1, 1) := by decide +kernel
theorem dX6_advances_44 : decode cX6_advances 44 = .ok (.ifCond .ge 11, 3) := by decide +kernel
theorem dX6_advances_47 : decode cX6_advances 47 = .ok (.aload_n 0, 1) := by decide +kernel
theorem dX6_advances_48 : decode cX6_advances 48 = .ok (.iconst 0, 1) := by decide +kernel
theorem dX6_advances_49 : decode cX6_advances 49 = .ok (.putfield 80, 3) := by decide +kernel
theorem dX6_advances_52 : decode cX6_advances 52 = .ok (.goto 187, 3) := by decide +kernel
theorem dX6_advances_55 : decode cX6_advances 55 = .ok (.iload_n 1, 1) := by decide +kernel
theorem dX6_advances_56 : decode cX6_advances 56 = .ok (.bipush 48, 2) := by decide +kernel
theorem dX6_advances_58 : decode cX6_advances 58 = .ok (.bipush 57, 2) := by decide +kernel
theorem dX6_advances_60 : decode cX6_advances 60 = .ok (.invokestatic 63, 3) := by decide +kernel
theorem dX6_advances_63 : decode cX6_advances 63 = .ok (.ifCond .eq 118, 3) := by decide +kernel
theorem dX6_advances_66 : decode cX6_advances 66 = .ok (.aload_n 0, 1) := by decide +kernel
theorem dX6_advances_67 : decode cX6_advances 67 = .ok (.iconst 0, 1) := by decide +kernel
theorem dX6_advances_68 : decode cX6_advances 68 = .ok (.putfield 83, 3) := by decide +kernel
theorem dX6_advances_71 : decode cX6_advances 71 = .ok (.aload_n 0, 1) := by decide +kernel
theorem dX6_advances_72 : decode cX6_advances 72 = .ok (.aload_n 0, 1) := by decide +kernel
theorem dX6_advances_73 : decode cX6_advances 73 = .ok (.getfield 70, 3) := by decide +kernel
theorem dX6_advances_76 : decode cX6_advances 76 = .ok (.invokevirtual 73, 3) := by decide +kernel
theorem dX6_advances_79 : decode cX6_advances 79 = .ok (.bipush 48, 2) := by decide +kernel
theorem dX6_advances_81 : decode cX6_advances 81 = .ok (.bipush 57, 2) := by decide +kernel
theorem dX6_advances_83 : decode cX6_advances 83 = .ok (.invokestatic 63, 3) := by decide +kernel
theorem dX6_advances_86 : decode cX6_advances 86 = .ok (.ifCond .eq 55, 3) := by decide +kernel
theorem dX6_advances_89 : decode cX6_advances 89 = .ok (.aload_n 0, 1) := by decide +kernel
theorem dX6_advances_90 : decode cX6_advances 90 = .ok (.aload_n 0, 1) := by decide +kernel
theorem dX6_advances_91 : decode cX6_advances 91 = .ok (.getfield 83, 3) := by decide +kernel
theorem dX6_advances_94 : decode cX6_advances 94 = .ok (.bipush 99, 2) := by decide +kernel
theorem dX6_advances_96 : decode cX6_advances 96 = .ok (.if_icmp .le 10, 3) := by decide +kernel
theorem dX6_advances_99 : decode cX6_advances 99 = .ok (.aload_n 0, 1) := by decide +kernel
theorem dX6_advances_100 : decode cX6_advances 100 = .ok (.getfield 83, 3) := by decide +kernel
theorem dX6_advances_103 : decode cX6_advances 103 = .ok (.goto 22, 3) := by decide +kernel
theorem dX6_advances_106 : decode cX6_advances 106 = .ok (.bipush 10, 2) := by decide +kernel
theorem dX6_advances_108 : decode cX6_advances 108 = .ok (.aload_n 0, 1) := by decide +kernel
theorem dX6_advances_109 : decode cX6_advances 109 = .ok (.getfield 83, 3) := by decide +kernel
theorem dX6_advances_112 : decode cX6_advances 112 = .ok (.imul, 1) := by decide +kernel
theorem dX6_advances_113 : decode cX6_advances 113 = .ok (.aload_n 0, 1) := by decide +kernel
theorem dX6_advances_114 : decode cX6_advances 114 = .ok (.aload_n 0, 1) := by decide +kernel
theorem dX6_advances_115 : decode cX6_advances 115 = .ok (.getfield 70, 3) := by decide +kernel
theorem dX6_advances_118 : decode cX6_advances 118 = .ok (.invokevirtual 73, 3) := by decide +kernel
theorem dX6_advances_121 : decode cX6_advances 121 = .ok (.iadd, 1) := by decide +kernel
theorem dX6_advances_122 : decode cX6_advances 122 = .ok (.bipush 48, 2) := by decide +kernel
theorem dX6_advances_124 : decode cX6_advances 124 = .ok (.isub, 1) := by decide +kernel
theorem dX6_advances_125 : decode cX6_advances 125 = .ok (.putfield 83, 3) := by decide +kernel
theorem dX6_advances_128 : decode cX6_advances 128 = .ok (.aload_n 0, 1) := by decide +kernel
theorem dX6_advances_129 : decode cX6_advances 129 = .ok (.dup, 1) := by decide +kernel
theorem dX6_advances_130 : decode cX6_advances 130 = .ok (.getfield 70, 3) := by decide +kernel
theorem dX6_advances_133 : decode cX6_advances 133 = .ok (.iconst 1, 1) := by decide +kernel
theorem dX6_advances_134 : decode cX6_advances 134 = .ok (.iadd, 1) := by decide +kernel
theorem dX6_advances_135 : decode cX6_advances 135 = .ok (.putfield 70, 3) := by decide +kernel
theorem dX6_advances_138 : decode cX6_advances 138 = .ok (.goto (-67), 3) := by decide +kernel
theorem dX6_advances_141 : decode cX6_advances 141 = .ok (.aload_n 0, 1) := by decide +kernel
theorem dX6_advances_142 : decode cX6_advances 142 = .ok (.aload_n 0, 1) := by decide +kernel
theorem dX6_advances_143 : decode cX6_advances 143 = .ok (.getfield 83, 3) := by decide +kernel
theorem dX6_advances_146 : decode cX6_advances 146 = .ok (.bipush 99, 2) := by decide +kernel
theorem dX6_advances_148 : decode cX6_advances 148 = .ok (.if_icmp .gt 22, 3) := by decide +kernel
theorem dX6_advances_151 : decode cX6_advances 151 = .ok (.iload_n 1, 1) := by decide +kernel
theorem dX6_advances_152 : decode cX6_advances 152 = .ok (.bipush 48, 2) := by decide +kernel
theorem dX6_advances_154 : decode cX6_advances 154 = .ok (.if_icmp .ne 20, 3) := by decide +kernel
theorem dX6_advances_157 : decode cX6_advances 157 = .ok (.aload_n 0, 1) := by decide +kernel
theorem dX6_advances_158 : decode cX6_advances 158 = .ok (.getfield 70, 3) := by decide +kernel
theorem dX6_advances_161 : decode cX6_advances 161 = .ok (.aload_n 0, 1) := by decide +kernel
theorem dX6_advances_162 : decode cX6_advances 162 = .ok (.getfield 77, 3) := by decide +kernel
theorem dX6_advances_165 : decode cX6_advances 165 = .ok (.isub, 1) := by decide +kernel
theorem dX6_advances_166 : decode cX6_advances 166 = .ok (.iconst 1, 1) := by decide +kernel
theorem dX6_advances_167 : decode cX6_advances 167 = .ok (.if_icmp .le 7, 3) := by decide +kernel
theorem dX6_advances_170 : decode cX6_advances 170 = .ok (.iconst 4, 1) := by decide +kernel
theorem dX6_advances_171 : decode cX6_advances 171 = .ok (.goto 4, 3) := by decide +kernel
theorem dX6_advances_174 : decode cX6_advances 174 = .ok (.iconst 2, 1) := by decide +kernel
theorem dX6_advances_175 : decode cX6_advances 175 = .ok (.putfield 80, 3) := by decide +kernel
theorem dX6_advances_178 : decode cX6_advances 178 = .ok (.goto 61, 3) := by decide +kernel
theorem dX6_advances_181 : decode cX6_advances 181 = .ok (.aload_n 0, 1) := by decide +kernel
theorem dX6_advances_182 : decode cX6_advances 182 = .ok (.dup, 1) := by decide +kernel
theorem dX6_advances_183 : decode cX6_advances 183 = .ok (.getfield 70, 3) := by decide +kernel
theorem dX6_advances_186 : decode cX6_advances 186 = .ok (.iconst 1, 1) := by decide +kernel
theorem dX6_advances_187 : decode cX6_advances 187 = .ok (.iadd, 1) := by decide +kernel
theorem dX6_advances_188 : decode cX6_advances 188 = .ok (.putfield 70, 3) := by decide +kernel
theorem dX6_advances_191 : decode cX6_advances 191 = .ok (.aload_n 0, 1) := by decide +kernel
theorem dX6_advances_192 : decode cX6_advances 192 = .ok (.iload_n 1, 1) := by decide +kernel
theorem dX6_advances_193 : decode cX6_advances 193 = .ok (.putfield 83, 3) := by decide +kernel
theorem dX6_advances_196 : decode cX6_advances 196 = .ok (.aload_n 0, 1) := by decide +kernel
theorem dX6_advances_197 : decode cX6_advances 197 = .ok (.iload_n 1, 1) := by decide +kernel
theorem dX6_advances_198 : decode cX6_advances 198 = .ok (.bipush 59, 2) := by decide +kernel
theorem dX6_advances_200 : decode cX6_advances 200 = .ok (.if_icmp .ne 7, 3) := by decide +kernel
theorem dX6_advances_203 : decode cX6_advances 203 = .ok (.iconst 3, 1) := by decide +kernel
theorem dX6_advances_204 : decode cX6_advances 204 = .ok (.goto 32, 3) := by decide +kernel
theorem dX6_advances_207 : decode cX6_advances 207 = .ok (.iload_n 1, 1) := by decide +kernel
theorem dX6_advances_208 : decode cX6_advances 208 = .ok (.bipush 99, 2) := by decide +kernel
theorem dX6_advances_210 : decode cX6_advances 210 = .ok (.if_icmp .eq 21, 3) := by decide +kernel
theorem dX6_advances_213 : decode cX6_advances 213 = .ok (.iload_n 1, 1) := by decide +kernel
theorem dX6_advances_214 : decode cX6_advances 214 = .ok (.bipush 97, 2) := by decide +kernel
theorem dX6_advances_216 : decode cX6_advances 216 = .ok (.if_icmp .eq 15, 3) := by decide +kernel
theorem dX6_advances_219 : decode cX6_advances 219 = .ok (.iload_n 1, 1) := by decide +kernel
theorem dX6_advances_220 : decode cX6_advances 220 = .ok (.bipush 119, 2) := by decide +kernel
theorem dX6_advances_222 : decode cX6_advances 222 = .ok (.if_icmp .eq 9, 3) := by decide +kernel
theorem dX6_advances_225 : decode cX6_advances 225 = .ok (.iload_n 1, 1) := by decide +kernel
theorem dX6_advances_226 : decode cX6_advances 226 = .ok (.bipush 114, 2) := by decide +kernel
theorem dX6_advances_228 : decode cX6_advances 228 = .ok (.if_icmp .ne 7, 3) := by decide +kernel
theorem dX6_advances_231 : decode cX6_advances 231 = .ok (.iconst 1, 1) := by decide +kernel
theorem dX6_advances_232 : decode cX6_advances 232 = .ok (.goto 4, 3) := by decide +kernel
theorem dX6_advances_235 : decode cX6_advances 235 = .ok (.iconst 4, 1) := by decide +kernel
theorem dX6_advances_236 : decode cX6_advances 236 = .ok (.putfield 80, 3) := by decide +kernel
theorem dX6_advances_239 : decode cX6_advances 239 = .ok (.return_, 1) := by decide +kernel
theorem dX6_isWell_0 : decode cX6_isWell 0 = .ok (.aload_n 0, 1) := by decide +kernel
theorem dX6_isWell_1 : decode cX6_isWell 1 = .ok (.getfield 86, 3) := by decide +kernel
theorem dX6_isWell_4 : decode cX6_isWell 4 = .ok (.ifCond .ge 7, 3) := by decide +kernel
theorem dX6_isWell_7 : decode cX6_isWell 7 = .ok (.iconst 1, 1) := by decide +kernel
theorem dX6_isWell_8 : decode cX6_isWell 8 = .ok (.goto 4, 3) := by decide +kernel
theorem dX6_isWell_11 : decode cX6_isWell 11 = .ok (.iconst 0, 1) := by decide +kernel
theorem dX6_isWell_12 : decode cX6_isWell 12 = .ok (.ireturn, 1) := by decide +kernel
theorem dX6_takes_0 : decode cX6_takes 0 = .ok (.aload_n 0, 1) := by decide +kernel
theorem dX6_takes_1 : decode cX6_takes 1 = .ok (.invokevirtual 89, 3) := by decide +kernel
theorem dX6_takes_4 : decode cX6_takes 4 = .ok (.ifCond .ne 5, 3) := by decide +kernel
theorem dX6_takes_7 : decode cX6_takes 7 = .ok (.iconst 0, 1) := by decide +kernel
theorem dX6_takes_8 : decode cX6_takes 8 = .ok (.ireturn, 1) := by decide +kernel
theorem dX6_takes_9 : decode cX6_takes 9 = .ok (.iload_n 1, 1) := by decide +kernel
theorem dX6_takes_10 : decode cX6_takes 10 = .ok (.ifCond .ne 13, 3) := by decide +kernel
theorem dX6_takes_13 : decode cX6_takes 13 = .ok (.aload_n 0, 1) := by decide +kernel
theorem dX6_takes_14 : decode cX6_takes 14 = .ok (.aload_n 0, 1) := by decide +kernel
theorem dX6_takes_15 : decode cX6_takes 15 = .ok (.getfield 77, 3) := by decide +kernel
theorem dX6_takes_18 : decode cX6_takes 18 = .ok (.putfield 86, 3) := by decide +kernel
theorem dX6_takes_21 : decode cX6_takes 21 = .ok (.iconst 0, 1) := by decide +kernel
theorem dX6_takes_22 : decode cX6_takes 22 = .ok (.ireturn, 1) := by decide +kernel
theorem dX6_takes_23 : decode cX6_takes 23 = .ok (.aload_n 0, 1) := by decide +kernel
theorem dX6_takes_24 : decode cX6_takes 24 = .ok (.getfield 83, 3) := by decide +kernel
theorem dX6_takes_27 : decode cX6_takes 27 = .ok (.istore_n 2, 1) := by decide +kernel
theorem dX6_takes_28 : decode cX6_takes 28 = .ok (.aload_n 0, 1) := by decide +kernel
theorem dX6_takes_29 : decode cX6_takes 29 = .ok (.invokevirtual 93, 3) := by decide +kernel
theorem dX6_takes_32 : decode cX6_takes 32 = .ok (.iload_n 2, 1) := by decide +kernel
theorem dX6_takes_33 : decode cX6_takes 33 = .ok (.ireturn, 1) := by decide +kernel
theorem dX6_number_0 : decode cX6_number 0 = .ok (.aload_n 0, 1) := by decide +kernel
theorem dX6_number_1 : decode cX6_number 1 = .ok (.aload_n 0, 1) := by decide +kernel
theorem dX6_number_2 : decode cX6_number 2 = .ok (.getfield 80, 3) := by decide +kernel
theorem dX6_number_5 : decode cX6_number 5 = .ok (.iconst 2, 1) := by decide +kernel
theorem dX6_number_6 : decode cX6_number 6 = .ok (.if_icmp .ne 19, 3) := by decide +kernel
theorem dX6_number_9 : decode cX6_number 9 = .ok (.aload_n 0, 1) := by decide +kernel
theorem dX6_number_10 : decode cX6_number 10 = .ok (.getfield 83, 3) := by decide +kernel
theorem dX6_number_13 : decode cX6_number 13 = .ok (.iload_n 1, 1) := by decide +kernel
theorem dX6_number_14 : decode cX6_number 14 = .ok (.iload_n 2, 1) := by decide +kernel
theorem dX6_number_15 : decode cX6_number 15 = .ok (.invokestatic 63, 3) := by decide +kernel
theorem dX6_number_18 : decode cX6_number 18 = .ok (.ifCond .eq 7, 3) := by decide +kernel
theorem dX6_number_21 : decode cX6_number 21 = .ok (.iconst 1, 1) := by decide +kernel
theorem dX6_number_22 : decode cX6_number 22 = .ok (.goto 4, 3) := by decide +kernel
theorem dX6_number_25 : decode cX6_number 25 = .ok (.iconst 0, 1) := by decide +kernel
theorem dX6_number_26 : decode cX6_number 26 = .ok (.invokevirtual 96, 3) := by decide +kernel
theorem dX6_number_29 : decode cX6_number 29 = .ok (.ireturn, 1) := by decide +kernel
theorem dX6_begins_0 : decode cX6_begins 0 = .ok (.iconst 0, 1) := by decide +kernel
theorem dX6_begins_1 : decode cX6_begins 1 = .ok (.istore_n 1, 1) := by decide +kernel
theorem dX6_begins_2 : decode cX6_begins 2 = .ok (.iload_n 1, 1) := by decide +kernel
theorem dX6_begins_3 : decode cX6_begins 3 = .ok (.bipush 19, 2) := by decide +kernel
theorem dX6_begins_5 : decode cX6_begins 5 = .ok (.if_icmp .ge 16, 3) := by decide +kernel
theorem dX6_begins_8 : decode cX6_begins 8 = .ok (.aload_n 0, 1) := by decide +kernel
theorem dX6_begins_9 : decode cX6_begins 9 = .ok (.getfield 16, 3) := by decide +kernel
theorem dX6_begins_12 : decode cX6_begins 12 = .ok (.iload_n 1, 1) := by decide +kernel
theorem dX6_begins_13 : decode cX6_begins 13 = .ok (.iconst 0, 1) := by decide +kernel
theorem dX6_begins_14 : decode cX6_begins 14 = .ok (.iastore, 1) := by decide +kernel
theorem dX6_begins_15 : decode cX6_begins 15 = .ok (.iinc 1 1, 3) := by decide +kernel
theorem dX6_begins_18 : decode cX6_begins 18 = .ok (.goto (-16), 3) := by decide +kernel
theorem dX6_begins_21 : decode cX6_begins 21 = .ok (.iconst 0, 1) := by decide +kernel
theorem dX6_begins_22 : decode cX6_begins 22 = .ok (.istore_n 1, 1) := by decide +kernel
theorem dX6_begins_23 : decode cX6_begins 23 = .ok (.iload_n 1, 1) := by decide +kernel
theorem dX6_begins_24 : decode cX6_begins 24 = .ok (.bipush 41, 2) := by decide +kernel
theorem dX6_begins_26 : decode cX6_begins 26 = .ok (.if_icmp .ge 16, 3) := by decide +kernel
theorem dX6_begins_29 : decode cX6_begins 29 = .ok (.aload_n 0, 1) := by decide +kernel
theorem dX6_begins_30 : decode cX6_begins 30 = .ok (.getfield 19, 3) := by decide +kernel
theorem dX6_begins_33 : decode cX6_begins 33 = .ok (.iload_n 1, 1) := by decide +kernel
theorem dX6_begins_34 : decode cX6_begins 34 = .ok (.iconst 0, 1) := by decide +kernel
theorem dX6_begins_35 : decode cX6_begins 35 = .ok (.iastore, 1) := by decide +kernel
theorem dX6_begins_36 : decode cX6_begins 36 = .ok (.iinc 1 1, 3) := by decide +kernel
theorem dX6_begins_39 : decode cX6_begins 39 = .ok (.goto (-16), 3) := by decide +kernel
theorem dX6_begins_42 : decode cX6_begins 42 = .ok (.aload_n 0, 1) := by decide +kernel
theorem dX6_begins_43 : decode cX6_begins 43 = .ok (.getfield 16, 3) := by decide +kernel
theorem dX6_begins_46 : decode cX6_begins 46 = .ok (.iconst 1, 1) := by decide +kernel
theorem dX6_begins_47 : decode cX6_begins 47 = .ok (.iconst 4, 1) := by decide +kernel
theorem dX6_begins_48 : decode cX6_begins 48 = .ok (.iastore, 1) := by decide +kernel
theorem dX6_begins_49 : decode cX6_begins 49 = .ok (.aload_n 0, 1) := by decide +kernel
theorem dX6_begins_50 : decode cX6_begins 50 = .ok (.getfield 16, 3) := by decide +kernel
theorem dX6_begins_53 : decode cX6_begins 53 = .ok (.iconst 2, 1) := by decide +kernel
theorem dX6_begins_54 : decode cX6_begins 54 = .ok (.bipush 8, 2) := by decide +kernel
theorem dX6_begins_56 : decode cX6_begins 56 = .ok (.iastore, 1) := by decide +kernel
theorem dX6_begins_57 : decode cX6_begins 57 = .ok (.aload_n 0, 1) := by decide +kernel
theorem dX6_begins_58 : decode cX6_begins 58 = .ok (.getfield 16, 3) := by decide +kernel
theorem dX6_begins_61 : decode cX6_begins 61 = .ok (.iconst 3, 1) := by decide +kernel
theorem dX6_begins_62 : decode cX6_begins 62 = .ok (.iconst 2, 1) := by decide +kernel
theorem dX6_begins_63 : decode cX6_begins 63 = .ok (.iastore, 1) := by decide +kernel
theorem dX6_begins_64 : decode cX6_begins 64 = .ok (.aload_n 0, 1) := by decide +kernel
theorem dX6_begins_65 : decode cX6_begins 65 = .ok (.getfield 16, 3) := by decide +kernel
theorem dX6_begins_68 : decode cX6_begins 68 = .ok (.iconst 4, 1) := by decide +kernel
theorem dX6_begins_69 : decode cX6_begins 69 = .ok (.iconst 2, 1) := by decide +kernel
theorem dX6_begins_70 : decode cX6_begins 70 = .ok (.iastore, 1) := by decide +kernel
theorem dX6_begins_71 : decode cX6_begins 71 = .ok (.aload_n 0, 1) := by decide +kernel
theorem dX6_begins_72 : decode cX6_begins 72 = .ok (.getfield 19, 3) := by decide +kernel
theorem dX6_begins_75 : decode cX6_begins 75 = .ok (.iconst 0, 1) := by decide +kernel
theorem dX6_begins_76 : decode cX6_begins 76 = .ok (.iconst (-1), 1) := by decide +kernel
theorem dX6_begins_77 : decode cX6_begins 77 = .ok (.iastore, 1) := by decide +kernel
theorem dX6_begins_78 : decode cX6_begins 78 = .ok (.aload_n 0, 1) := by decide +kernel
theorem dX6_begins_79 : decode cX6_begins 79 = .ok (.getfield 19, 3) := by decide +kernel
theorem dX6_begins_82 : decode cX6_begins 82 = .ok (.iconst 1, 1) := by decide +kernel
theorem dX6_begins_83 : decode cX6_begins 83 = .ok (.iconst (-1), 1) := by decide +kernel
theorem dX6_begins_84 : decode cX6_begins 84 = .ok (.iastore, 1) := by decide +kernel
theorem dX6_begins_85 : decode cX6_begins 85 = .ok (.aload_n 0, 1) := by decide +kernel
theorem dX6_begins_86 : decode cX6_begins 86 = .ok (.iconst 0, 1) := by decide +kernel
theorem dX6_begins_87 : decode cX6_begins 87 = .ok (.putfield 100, 3) := by decide +kernel
theorem dX6_begins_90 : decode cX6_begins 90 = .ok (.return_, 1) := by decide +kernel
theorem dX6_bitOf_0 : decode cX6_bitOf 0 = .ok (.iload_n 0, 1) := by decide +kernel
theorem dX6_bitOf_1 : decode cX6_bitOf 1 = .ok (.bipush 99, 2) := by decide +kernel
theorem dX6_bitOf_3 : decode cX6_bitOf 3 = .ok (.if_icmp .ne 7, 3) := by decide +kernel
theorem dX6_bitOf_6 : decode cX6_bitOf 6 = .ok (.iconst 1, 1) := by decide +kernel
theorem dX6_bitOf_7 : decode cX6_bitOf 7 = .ok (.goto 14, 3) := by decide +kernel
theorem dX6_bitOf_10 : decode cX6_bitOf 10 = .ok (.iload_n 0, 1) := by decide +kernel
theorem dX6_bitOf_11 : decode cX6_bitOf 11 = .ok (.bipush 97, 2) := by decide +kernel
theorem dX6_bitOf_13 : decode cX6_bitOf 13 = .ok (.if_icmp .ne 7, 3) := by decide +kernel
theorem dX6_bitOf_16 : decode cX6_bitOf 16 = .ok (.iconst 2, 1) := by decide +kernel
theorem dX6_bitOf_17 : decode cX6_bitOf 17 = .ok (.goto 4, 3) := by decide +kernel
theorem dX6_bitOf_20 : decode cX6_bitOf 20 = .ok (.iconst 4, 1) := by decide +kernel
theorem dX6_bitOf_21 : decode cX6_bitOf 21 = .ok (.ireturn, 1) := by decide +kernel
theorem dX6_mayBegin_0 : decode cX6_mayBegin 0 = .ok (.aload_n 0, 1) := by decide +kernel
theorem dX6_mayBegin_1 : decode cX6_mayBegin 1 = .ok (.getfield 83, 3) := by decide +kernel
theorem dX6_mayBegin_4 : decode cX6_mayBegin 4 = .ok (.bipush 114, 2) := by decide +kernel
theorem dX6_mayBegin_6 : decode cX6_mayBegin 6 = .ok (.if_icmp .ne 22, 3) := by decide +kernel
theorem dX6_mayBegin_9 : decode cX6_mayBegin 9 = .ok (.aload_n 0, 1) := by decide +kernel
theorem dX6_mayBegin_10 : decode cX6_mayBegin 10 = .ok (.getfield 16, 3) := by decide +kernel
theorem dX6_mayBegin_13 : decode cX6_mayBegin 13 = .ok (.iconst 0, 1) := by decide +kernel
theorem dX6_mayBegin_14 : decode cX6_mayBegin 14 = .ok (.iaload, 1) := by decide +kernel
theorem dX6_mayBegin_15 : decode cX6_mayBegin 15 = .ok (.bipush 7, 2) := by decide +kernel
theorem dX6_mayBegin_17 : decode cX6_mayBegin 17 = .ok (.if_icmp .ge 7, 3) := by decide +kernel
theorem dX6_mayBegin_20 : decode cX6_mayBegin 20 = .ok (.iconst 1, 1) := by decide +kernel
theorem dX6_mayBegin_21 : decode cX6_mayBegin 21 = .ok (.goto 27, 3) := by decide +kernel
theorem dX6_mayBegin_24 : decode cX6_mayBegin 24 = .ok (.iconst 0, 1) := by decide +kernel
theorem dX6_mayBegin_25 : decode cX6_mayBegin 25 = .ok (.goto 23, 3) := by decide +kernel
theorem dX6_mayBegin_28 : decode cX6_mayBegin 28 = .ok (.aload_n 0, 1) := by decide +kernel
theorem dX6_mayBegin_29 : decode cX6_mayBegin 29 = .ok (.getfield 100, 3) := by decide +kernel
theorem dX6_mayBegin_32 : decode cX6_mayBegin 32 = .ok (.aload_n 0, 1) := by decide +kernel
theorem dX6_mayBegin_33 : decode cX6_mayBegin 33 = .ok (.getfield 83, 3) := by decide +kernel
theorem dX6_mayBegin_36 : decode cX6_mayBegin 36 = .ok (.invokestatic 103, 3) := by decide +kernel
theorem dX6_mayBegin_39 : decode cX6_mayBegin 39 = .ok (.iand, 1) := by decide +kernel
theorem dX6_mayBegin_40 : decode cX6_mayBegin 40 = .ok (.ifCond .ne 7, 3) := by decide +kernel
theorem dX6_mayBegin_43 : decode cX6_mayBegin 43 = .ok (.iconst 1, 1) := by decide +kernel
