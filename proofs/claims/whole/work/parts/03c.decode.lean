theorem dX6_mayBegin_44 : decode cX6_mayBegin 44 = .ok (.goto 4, 3) := by decide +kernel
theorem dX6_mayBegin_47 : decode cX6_mayBegin 47 = .ok (.iconst 0, 1) := by decide +kernel
theorem dX6_mayBegin_48 : decode cX6_mayBegin 48 = .ok (.ireturn, 1) := by decide +kernel
theorem dX6_readsItem_0 : decode cX6_readsItem 0 = .ok (.iload_n 1, 1) := by decide +kernel
theorem dX6_readsItem_1 : decode cX6_readsItem 1 = .ok (.bipush 114, 2) := by decide +kernel
theorem dX6_readsItem_3 : decode cX6_readsItem 3 = .ok (.if_icmp .ne 65, 3) := by decide +kernel
theorem dX6_readsItem_6 : decode cX6_readsItem 6 = .ok (.aload_n 0, 1) := by decide +kernel
theorem dX6_readsItem_7 : decode cX6_readsItem 7 = .ok (.getfield 16, 3) := by decide +kernel
theorem dX6_readsItem_10 : decode cX6_readsItem 10 = .ok (.iconst 0, 1) := by decide +kernel
theorem dX6_readsItem_11 : decode cX6_readsItem 11 = .ok (.iaload, 1) := by decide +kernel
theorem dX6_readsItem_12 : decode cX6_readsItem 12 = .ok (.istore_n 2, 1) := by decide +kernel
theorem dX6_readsItem_13 : decode cX6_readsItem 13 = .ok (.aload_n 0, 1) := by decide +kernel
theorem dX6_readsItem_14 : decode cX6_readsItem 14 = .ok (.getfield 19, 3) := by decide +kernel
theorem dX6_readsItem_17 : decode cX6_readsItem 17 = .ok (.bipush 6, 2) := by decide +kernel
theorem dX6_readsItem_19 : decode cX6_readsItem 19 = .ok (.iload_n 2, 1) := by decide +kernel
theorem dX6_readsItem_20 : decode cX6_readsItem 20 = .ok (.iadd, 1) := by decide +kernel
theorem dX6_readsItem_21 : decode cX6_readsItem 21 = .ok (.aload_n 0, 1) := by decide +kernel
theorem dX6_readsItem_22 : decode cX6_readsItem 22 = .ok (.iconst 0, 1) := by decide +kernel
theorem dX6_readsItem_23 : decode cX6_readsItem 23 = .ok (.iconst 1, 1) := by decide +kernel
theorem dX6_readsItem_24 : decode cX6_readsItem 24 = .ok (.invokevirtual 106, 3) := by decide +kernel
theorem dX6_readsItem_27 : decode cX6_readsItem 27 = .ok (.iastore, 1) := by decide +kernel
theorem dX6_readsItem_28 : decode cX6_readsItem 28 = .ok (.aload_n 0, 1) := by decide +kernel
theorem dX6_readsItem_29 : decode cX6_readsItem 29 = .ok (.getfield 16, 3) := by decide +kernel
theorem dX6_readsItem_32 : decode cX6_readsItem 32 = .ok (.iconst 5, 1) := by decide +kernel
theorem dX6_readsItem_33 : decode cX6_readsItem 33 = .ok (.iload_n 2, 1) := by decide +kernel
theorem dX6_readsItem_34 : decode cX6_readsItem 34 = .ok (.iadd, 1) := by decide +kernel
theorem dX6_readsItem_35 : decode cX6_readsItem 35 = .ok (.aload_n 0, 1) := by decide +kernel
theorem dX6_readsItem_36 : decode cX6_readsItem 36 = .ok (.iconst 0, 1) := by decide +kernel
theorem dX6_readsItem_37 : decode cX6_readsItem 37 = .ok (.iconst 5, 1) := by decide +kernel
theorem dX6_readsItem_38 : decode cX6_readsItem 38 = .ok (.invokevirtual 106, 3) := by decide +kernel
theorem dX6_readsItem_41 : decode cX6_readsItem 41 = .ok (.iastore, 1) := by decide +kernel
theorem dX6_readsItem_42 : decode cX6_readsItem 42 = .ok (.aload_n 0, 1) := by decide +kernel
theorem dX6_readsItem_43 : decode cX6_readsItem 43 = .ok (.getfield 16, 3) := by decide +kernel
theorem dX6_readsItem_46 : decode cX6_readsItem 46 = .ok (.bipush 12, 2) := by decide +kernel
theorem dX6_readsItem_48 : decode cX6_readsItem 48 = .ok (.iload_n 2, 1) := by decide +kernel
theorem dX6_readsItem_49 : decode cX6_readsItem 49 = .ok (.iadd, 1) := by decide +kernel
theorem dX6_readsItem_50 : decode cX6_readsItem 50 = .ok (.aload_n 0, 1) := by decide +kernel
theorem dX6_readsItem_51 : decode cX6_readsItem 51 = .ok (.iconst 0, 1) := by decide +kernel
theorem dX6_readsItem_52 : decode cX6_readsItem 52 = .ok (.iconst 3, 1) := by decide +kernel
theorem dX6_readsItem_53 : decode cX6_readsItem 53 = .ok (.invokevirtual 106, 3) := by decide +kernel
theorem dX6_readsItem_56 : decode cX6_readsItem 56 = .ok (.iastore, 1) := by decide +kernel
theorem dX6_readsItem_57 : decode cX6_readsItem 57 = .ok (.aload_n 0, 1) := by decide +kernel
theorem dX6_readsItem_58 : decode cX6_readsItem 58 = .ok (.getfield 16, 3) := by decide +kernel
theorem dX6_readsItem_61 : decode cX6_readsItem 61 = .ok (.iconst 0, 1) := by decide +kernel
theorem dX6_readsItem_62 : decode cX6_readsItem 62 = .ok (.dup2, 1) := by decide +kernel
theorem dX6_readsItem_63 : decode cX6_readsItem 63 = .ok (.iaload, 1) := by decide +kernel
theorem dX6_readsItem_64 : decode cX6_readsItem 64 = .ok (.iconst 1, 1) := by decide +kernel
theorem dX6_readsItem_65 : decode cX6_readsItem 65 = .ok (.iadd, 1) := by decide +kernel
theorem dX6_readsItem_66 : decode cX6_readsItem 66 = .ok (.iastore, 1) := by decide +kernel
theorem dX6_readsItem_67 : decode cX6_readsItem 67 = .ok (.return_, 1) := by decide +kernel
theorem dX6_readsItem_68 : decode cX6_readsItem 68 = .ok (.aload_n 0, 1) := by decide +kernel
theorem dX6_readsItem_69 : decode cX6_readsItem 69 = .ok (.dup, 1) := by decide +kernel
theorem dX6_readsItem_70 : decode cX6_readsItem 70 = .ok (.getfield 100, 3) := by decide +kernel
theorem dX6_readsItem_73 : decode cX6_readsItem 73 = .ok (.iload_n 1, 1) := by decide +kernel
theorem dX6_readsItem_74 : decode cX6_readsItem 74 = .ok (.invokestatic 103, 3) := by decide +kernel
theorem dX6_readsItem_77 : decode cX6_readsItem 77 = .ok (.ior, 1) := by decide +kernel
theorem dX6_readsItem_78 : decode cX6_readsItem 78 = .ok (.putfield 100, 3) := by decide +kernel
theorem dX6_readsItem_81 : decode cX6_readsItem 81 = .ok (.iload_n 1, 1) := by decide +kernel
theorem dX6_readsItem_82 : decode cX6_readsItem 82 = .ok (.bipush 99, 2) := by decide +kernel
theorem dX6_readsItem_84 : decode cX6_readsItem 84 = .ok (.if_icmp .ne 30, 3) := by decide +kernel
theorem dX6_readsItem_87 : decode cX6_readsItem 87 = .ok (.aload_n 0, 1) := by decide +kernel
theorem dX6_readsItem_88 : decode cX6_readsItem 88 = .ok (.getfield 16, 3) := by decide +kernel
theorem dX6_readsItem_91 : decode cX6_readsItem 91 = .ok (.iconst 3, 1) := by decide +kernel
theorem dX6_readsItem_92 : decode cX6_readsItem 92 = .ok (.aload_n 0, 1) := by decide +kernel
theorem dX6_readsItem_93 : decode cX6_readsItem 93 = .ok (.iconst 1, 1) := by decide +kernel
theorem dX6_readsItem_94 : decode cX6_readsItem 94 = .ok (.iconst 3, 1) := by decide +kernel
theorem dX6_readsItem_95 : decode cX6_readsItem 95 = .ok (.invokevirtual 106, 3) := by decide +kernel
theorem dX6_readsItem_98 : decode cX6_readsItem 98 = .ok (.iastore, 1) := by decide +kernel
theorem dX6_readsItem_99 : decode cX6_readsItem 99 = .ok (.aload_n 0, 1) := by decide +kernel
theorem dX6_readsItem_100 : decode cX6_readsItem 100 = .ok (.getfield 16, 3) := by decide +kernel
theorem dX6_readsItem_103 : decode cX6_readsItem 103 = .ok (.iconst 4, 1) := by decide +kernel
theorem dX6_readsItem_104 : decode cX6_readsItem 104 = .ok (.aload_n 0, 1) := by decide +kernel
theorem dX6_readsItem_105 : decode cX6_readsItem 105 = .ok (.iconst 1, 1) := by decide +kernel
theorem dX6_readsItem_106 : decode cX6_readsItem 106 = .ok (.iconst 3, 1) := by decide +kernel
theorem dX6_readsItem_107 : decode cX6_readsItem 107 = .ok (.invokevirtual 106, 3) := by decide +kernel
theorem dX6_readsItem_110 : decode cX6_readsItem 110 = .ok (.iastore, 1) := by decide +kernel
theorem dX6_readsItem_111 : decode cX6_readsItem 111 = .ok (.goto 38, 3) := by decide +kernel
theorem dX6_readsItem_114 : decode cX6_readsItem 114 = .ok (.iload_n 1, 1) := by decide +kernel
theorem dX6_readsItem_115 : decode cX6_readsItem 115 = .ok (.bipush 97, 2) := by decide +kernel
theorem dX6_readsItem_117 : decode cX6_readsItem 117 = .ok (.if_icmp .ne 19, 3) := by decide +kernel
theorem dX6_readsItem_120 : decode cX6_readsItem 120 = .ok (.aload_n 0, 1) := by decide +kernel
theorem dX6_readsItem_121 : decode cX6_readsItem 121 = .ok (.getfield 16, 3) := by decide +kernel
theorem dX6_readsItem_124 : decode cX6_readsItem 124 = .ok (.iconst 1, 1) := by decide +kernel
theorem dX6_readsItem_125 : decode cX6_readsItem 125 = .ok (.aload_n 0, 1) := by decide +kernel
theorem dX6_readsItem_126 : decode cX6_readsItem 126 = .ok (.iconst 1, 1) := by decide +kernel
theorem dX6_readsItem_127 : decode cX6_readsItem 127 = .ok (.bipush 9, 2) := by decide +kernel
theorem dX6_readsItem_129 : decode cX6_readsItem 129 = .ok (.invokevirtual 106, 3) := by decide +kernel
theorem dX6_readsItem_132 : decode cX6_readsItem 132 = .ok (.iastore, 1) := by decide +kernel
theorem dX6_readsItem_133 : decode cX6_readsItem 133 = .ok (.goto 16, 3) := by decide +kernel
theorem dX6_readsItem_136 : decode cX6_readsItem 136 = .ok (.aload_n 0, 1) := by decide +kernel
theorem dX6_readsItem_137 : decode cX6_readsItem 137 = .ok (.getfield 16, 3) := by decide +kernel
theorem dX6_readsItem_140 : decode cX6_readsItem 140 = .ok (.iconst 2, 1) := by decide +kernel
theorem dX6_readsItem_141 : decode cX6_readsItem 141 = .ok (.aload_n 0, 1) := by decide +kernel
theorem dX6_readsItem_142 : decode cX6_readsItem 142 = .ok (.iconst 1, 1) := by decide +kernel
theorem dX6_readsItem_143 : decode cX6_readsItem 143 = .ok (.bipush 20, 2) := by decide +kernel
theorem dX6_readsItem_145 : decode cX6_readsItem 145 = .ok (.invokevirtual 106, 3) := by decide +kernel
theorem dX6_readsItem_148 : decode cX6_readsItem 148 = .ok (.iastore, 1) := by decide +kernel
theorem dX6_readsItem_149 : decode cX6_readsItem 149 = .ok (.return_, 1) := by decide +kernel
theorem dX6_net_0 : decode cX6_net 0 = .ok (.aload_n 0, 1) := by decide +kernel
theorem dX6_net_1 : decode cX6_net 1 = .ok (.iconst 0, 1) := by decide +kernel
theorem dX6_net_2 : decode cX6_net 2 = .ok (.putfield 59, 3) := by decide +kernel
theorem dX6_net_5 : decode cX6_net 5 = .ok (.aload_n 0, 1) := by decide +kernel
theorem dX6_net_6 : decode cX6_net 6 = .ok (.iconst (-1), 1) := by decide +kernel
theorem dX6_net_7 : decode cX6_net 7 = .ok (.putfield 86, 3) := by decide +kernel
theorem dX6_net_10 : decode cX6_net 10 = .ok (.aload_n 0, 1) := by decide +kernel
theorem dX6_net_11 : decode cX6_net 11 = .ok (.iconst 0, 1) := by decide +kernel
theorem dX6_net_12 : decode cX6_net 12 = .ok (.putfield 70, 3) := by decide +kernel
theorem dX6_net_15 : decode cX6_net 15 = .ok (.aload_n 0, 1) := by decide +kernel
theorem dX6_net_16 : decode cX6_net 16 = .ok (.invokevirtual 53, 3) := by decide +kernel
theorem dX6_net_19 : decode cX6_net 19 = .ok (.iconst 0, 1) := by decide +kernel
theorem dX6_net_20 : decode cX6_net 20 = .ok (.istore_n 1, 1) := by decide +kernel
theorem dX6_net_21 : decode cX6_net 21 = .ok (.aload_n 0, 1) := by decide +kernel
theorem dX6_net_22 : decode cX6_net 22 = .ok (.invokevirtual 93, 3) := by decide +kernel
theorem dX6_net_25 : decode cX6_net 25 = .ok (.aload_n 0, 1) := by decide +kernel
theorem dX6_net_26 : decode cX6_net 26 = .ok (.invokevirtual 89, 3) := by decide +kernel
theorem dX6_net_29 : decode cX6_net 29 = .ok (.ifCond .eq 71, 3) := by decide +kernel
theorem dX6_net_32 : decode cX6_net 32 = .ok (.aload_n 0, 1) := by decide +kernel
theorem dX6_net_33 : decode cX6_net 33 = .ok (.getfield 80, 3) := by decide +kernel
theorem dX6_net_36 : decode cX6_net 36 = .ok (.ifCond .eq 64, 3) := by decide +kernel
theorem dX6_net_39 : decode cX6_net 39 = .ok (.aload_n 0, 1) := by decide +kernel
theorem dX6_net_40 : decode cX6_net 40 = .ok (.aload_n 0, 1) := by decide +kernel
theorem dX6_net_41 : decode cX6_net 41 = .ok (.getfield 80, 3) := by decide +kernel
theorem dX6_net_44 : decode cX6_net 44 = .ok (.iconst 1, 1) := by decide +kernel
theorem dX6_net_45 : decode cX6_net 45 = .ok (.if_icmp .ne 14, 3) := by decide +kernel
theorem dX6_net_48 : decode cX6_net 48 = .ok (.aload_n 0, 1) := by decide +kernel
theorem dX6_net_49 : decode cX6_net 49 = .ok (.invokevirtual 110, 3) := by decide +kernel
theorem dX6_net_52 : decode cX6_net 52 = .ok (.ifCond .eq 7, 3) := by decide +kernel
theorem dX6_net_55 : decode cX6_net 55 = .ok (.iconst 1, 1) := by decide +kernel
theorem dX6_net_56 : decode cX6_net 56 = .ok (.goto 4, 3) := by decide +kernel
theorem dX6_net_59 : decode cX6_net 59 = .ok (.iconst 0, 1) := by decide +kernel
theorem dX6_net_60 : decode cX6_net 60 = .ok (.invokevirtual 96, 3) := by decide +kernel
theorem dX6_net_63 : decode cX6_net 63 = .ok (.istore_n 2, 1) := by decide +kernel
theorem dX6_net_64 : decode cX6_net 64 = .ok (.aload_n 0, 1) := by decide +kernel
theorem dX6_net_65 : decode cX6_net 65 = .ok (.invokevirtual 89, 3) := by decide +kernel
theorem dX6_net_68 : decode cX6_net 68 = .ok (.ifCond .eq 8, 3) := by decide +kernel
theorem dX6_net_71 : decode cX6_net 71 = .ok (.aload_n 0, 1) := by decide +kernel
theorem dX6_net_72 : decode cX6_net 72 = .ok (.iload_n 2, 1) := by decide +kernel
theorem dX6_net_73 : decode cX6_net 73 = .ok (.invokevirtual 113, 3) := by decide +kernel
theorem dX6_net_76 : decode cX6_net 76 = .ok (.aload_n 0, 1) := by decide +kernel
theorem dX6_net_77 : decode cX6_net 77 = .ok (.aload_n 0, 1) := by decide +kernel
theorem dX6_net_78 : decode cX6_net 78 = .ok (.getfield 80, 3) := by decide +kernel
theorem dX6_net_81 : decode cX6_net 81 = .ok (.iconst 3, 1) := by decide +kernel
theorem dX6_net_82 : decode cX6_net 82 = .ok (.if_icmp .ne 7, 3) := by decide +kernel
theorem dX6_net_85 : decode cX6_net 85 = .ok (.iconst 1, 1) := by decide +kernel
theorem dX6_net_86 : decode cX6_net 86 = .ok (.goto 4, 3) := by decide +kernel
theorem dX6_net_89 : decode cX6_net 89 = .ok (.iconst 0, 1) := by decide +kernel
theorem dX6_net_90 : decode cX6_net 90 = .ok (.invokevirtual 96, 3) := by decide +kernel
theorem dX6_net_93 : decode cX6_net 93 = .ok (.pop, 1) := by decide +kernel
theorem dX6_net_94 : decode cX6_net 94 = .ok (.iinc 1 1, 3) := by decide +kernel
theorem dX6_net_97 : decode cX6_net 97 = .ok (.goto (-72), 3) := by decide +kernel
theorem dX6_net_100 : decode cX6_net 100 = .ok (.aload_n 0, 1) := by decide +kernel
theorem dX6_net_101 : decode cX6_net 101 = .ok (.invokevirtual 89, 3) := by decide +kernel
theorem dX6_net_104 : decode cX6_net 104 = .ok (.ifCond .ne 11, 3) := by decide +kernel
theorem dX6_net_107 : decode cX6_net 107 = .ok (.bipush (-10), 2) := by decide +kernel
theorem dX6_net_109 : decode cX6_net 109 = .ok (.aload_n 0, 1) := by decide +kernel
theorem dX6_net_110 : decode cX6_net 110 = .ok (.getfield 86, 3) := by decide +kernel
theorem dX6_net_113 : decode cX6_net 113 = .ok (.isub, 1) := by decide +kernel
theorem dX6_net_114 : decode cX6_net 114 = .ok (.ireturn, 1) := by decide +kernel
theorem dX6_net_115 : decode cX6_net 115 = .ok (.aload_n 0, 1) := by decide +kernel
theorem dX6_net_116 : decode cX6_net 116 = .ok (.invokevirtual 56, 3) := by decide +kernel
theorem dX6_net_119 : decode cX6_net 119 = .ok (.iload_n 1, 1) := by decide +kernel
theorem dX6_net_120 : decode cX6_net 120 = .ok (.ireturn, 1) := by decide +kernel
theorem dX6_settles_0 : decode cX6_settles 0 = .ok (.iconst 0, 1) := by decide +kernel
theorem dX6_settles_1 : decode cX6_settles 1 = .ok (.istore_n 1, 1) := by decide +kernel
theorem dX6_settles_2 : decode cX6_settles 2 = .ok (.iload_n 1, 1) := by decide +kernel
theorem dX6_settles_3 : decode cX6_settles 3 = .ok (.bipush 19, 2) := by decide +kernel
theorem dX6_settles_5 : decode cX6_settles 5 = .ok (.if_icmp .ge 21, 3) := by decide +kernel
theorem dX6_settles_8 : decode cX6_settles 8 = .ok (.aload_n 0, 1) := by decide +kernel
theorem dX6_settles_9 : decode cX6_settles 9 = .ok (.getfield 13, 3) := by decide +kernel
theorem dX6_settles_12 : decode cX6_settles 12 = .ok (.iload_n 1, 1) := by decide +kernel
theorem dX6_settles_13 : decode cX6_settles 13 = .ok (.aload_n 0, 1) := by decide +kernel
theorem dX6_settles_14 : decode cX6_settles 14 = .ok (.getfield 16, 3) := by decide +kernel
theorem dX6_settles_17 : decode cX6_settles 17 = .ok (.iload_n 1, 1) := by decide +kernel
theorem dX6_settles_18 : decode cX6_settles 18 = .ok (.iaload, 1) := by decide +kernel
theorem dX6_settles_19 : decode cX6_settles 19 = .ok (.iastore, 1) := by decide +kernel
theorem dX6_settles_20 : decode cX6_settles 20 = .ok (.iinc 1 1, 3) := by decide +kernel
theorem dX6_settles_23 : decode cX6_settles 23 = .ok (.goto (-21), 3) := by decide +kernel
theorem dX6_settles_26 : decode cX6_settles 26 = .ok (.aload_n 0, 1) := by decide +kernel
theorem dX6_settles_27 : decode cX6_settles 27 = .ok (.getfield 19, 3) := by decide +kernel
theorem dX6_settles_30 : decode cX6_settles 30 = .ok (.aload_n 0, 1) := by decide +kernel
theorem dX6_settles_31 : decode cX6_settles 31 = .ok (.getfield 22, 3) := by decide +kernel
theorem dX6_settles_34 : decode cX6_settles 34 = .ok (.invokestatic 117, 3) := by decide +kernel
theorem dX6_settles_37 : decode cX6_settles 37 = .ok (.aload_n 0, 1) := by decide +kernel
theorem dX6_settles_38 : decode cX6_settles 38 = .ok (.iconst 0, 1) := by decide +kernel
theorem dX6_settles_39 : decode cX6_settles 39 = .ok (.putfield 67, 3) := by decide +kernel
theorem dX6_settles_42 : decode cX6_settles 42 = .ok (.aload_n 0, 1) := by decide +kernel
theorem dX6_settles_43 : decode cX6_settles 43 = .ok (.iconst 0, 1) := by decide +kernel
theorem dX6_settles_44 : decode cX6_settles 44 = .ok (.putfield 121, 3) := by decide +kernel
theorem dX6_settles_47 : decode cX6_settles 47 = .ok (.aload_n 0, 1) := by decide +kernel
theorem dX6_settles_48 : decode cX6_settles 48 = .ok (.iconst 0, 1) := by decide +kernel
theorem dX6_settles_49 : decode cX6_settles 49 = .ok (.putfield 124, 3) := by decide +kernel
theorem dX6_settles_52 : decode cX6_settles 52 = .ok (.aload_n 0, 1) := by decide +kernel
theorem dX6_settles_53 : decode cX6_settles 53 = .ok (.getfield 34, 3) := by decide +kernel
theorem dX6_settles_56 : decode cX6_settles 56 = .ok (.iconst 0, 1) := by decide +kernel
theorem dX6_settles_57 : decode cX6_settles 57 = .ok (.iconst 0, 1) := by decide +kernel
theorem dX6_settles_58 : decode cX6_settles 58 = .ok (.bastore, 1) := by decide +kernel
theorem dX6_settles_59 : decode cX6_settles 59 = .ok (.aload_n 0, 1) := by decide +kernel
theorem dX6_settles_60 : decode cX6_settles 60 = .ok (.getfield 34, 3) := by decide +kernel
theorem dX6_settles_63 : decode cX6_settles 63 = .ok (.iconst 1, 1) := by decide +kernel
theorem dX6_settles_64 : decode cX6_settles 64 = .ok (.iconst 0, 1) := by decide +kernel
theorem dX6_settles_65 : decode cX6_settles 65 = .ok (.bastore, 1) := by decide +kernel
theorem dX6_settles_66 : decode cX6_settles 66 = .ok (.return_, 1) := by decide +kernel
theorem dX6_copies_0 : decode cX6_copies 0 = .ok (.iconst 0, 1) := by decide +kernel
theorem dX6_copies_1 : decode cX6_copies 1 = .ok (.istore_n 2, 1) := by decide +kernel
theorem dX6_copies_2 : decode cX6_copies 2 = .ok (.iload_n 2, 1) := by decide +kernel
theorem dX6_copies_3 : decode cX6_copies 3 = .ok (.bipush 41, 2) := by decide +kernel
theorem dX6_copies_5 : decode cX6_copies 5 = .ok (.if_icmp .ge 15, 3) := by decide +kernel
theorem dX6_copies_8 : decode cX6_copies 8 = .ok (.aload_n 1, 1) := by decide +kernel
theorem dX6_copies_9 : decode cX6_copies 9 = .ok (.iload_n 2, 1) := by decide +kernel
theorem dX6_copies_10 : decode cX6_copies 10 = .ok (.aload_n 0, 1) := by decide +kernel
theorem dX6_copies_11 : decode cX6_copies 11 = .ok (.iload_n 2, 1) := by decide +kernel
theorem dX6_copies_12 : decode cX6_copies 12 = .ok (.iaload, 1) := by decide +kernel
theorem dX6_copies_13 : decode cX6_copies 13 = .ok (.iastore, 1) := by decide +kernel
theorem dX6_copies_14 : decode cX6_copies 14 = .ok (.iinc 2 1, 3) := by decide +kernel
theorem dX6_copies_17 : decode cX6_copies 17 = .ok (.goto (-15), 3) := by decide +kernel
theorem dX6_copies_20 : decode cX6_copies 20 = .ok (.return_, 1) := by decide +kernel
theorem dX6_isRadio_0 : decode cX6_isRadio 0 = .ok (.iload_n 1, 1) := by decide +kernel
theorem dX6_isRadio_1 : decode cX6_isRadio 1 = .ok (.iconst 0, 1) := by decide +kernel
theorem dX6_isRadio_2 : decode cX6_isRadio 2 = .ok (.aload_n 0, 1) := by decide +kernel
theorem dX6_isRadio_3 : decode cX6_isRadio 3 = .ok (.getfield 13, 3) := by decide +kernel
theorem dX6_isRadio_6 : decode cX6_isRadio 6 = .ok (.iconst 0, 1) := by decide +kernel
theorem dX6_isRadio_7 : decode cX6_isRadio 7 = .ok (.iaload, 1) := by decide +kernel
theorem dX6_isRadio_8 : decode cX6_isRadio 8 = .ok (.iconst 1, 1) := by decide +kernel
theorem dX6_isRadio_9 : decode cX6_isRadio 9 = .ok (.isub, 1) := by decide +kernel
theorem dX6_isRadio_10 : decode cX6_isRadio 10 = .ok (.invokestatic 63, 3) := by decide +kernel
theorem dX6_isRadio_13 : decode cX6_isRadio 13 = .ok (.ireturn, 1) := by decide +kernel
theorem dX6_rests_0 : decode cX6_rests 0 = .ok (.aload_n 0, 1) := by decide +kernel
theorem dX6_rests_1 : decode cX6_rests 1 = .ok (.bipush 13, 2) := by decide +kernel
theorem dX6_rests_3 : decode cX6_rests 3 = .ok (.iload_n 1, 1) := by decide +kernel
theorem dX6_rests_4 : decode cX6_rests 4 = .ok (.iadd, 1) := by decide +kernel
theorem dX6_rests_5 : decode cX6_rests 5 = .ok (.iconst 0, 1) := by decide +kernel
theorem dX6_rests_6 : decode cX6_rests 6 = .ok (.iastore, 1) := by decide +kernel
theorem dX6_rests_7 : decode cX6_rests 7 = .ok (.aload_n 0, 1) := by decide +kernel
theorem dX6_rests_8 : decode cX6_rests 8 = .ok (.bipush 20, 2) := by decide +kernel
theorem dX6_rests_10 : decode cX6_rests 10 = .ok (.iload_n 1, 1) := by decide +kernel
theorem dX6_rests_11 : decode cX6_rests 11 = .ok (.iadd, 1) := by decide +kernel
theorem dX6_rests_12 : decode cX6_rests 12 = .ok (.iconst 0, 1) := by decide +kernel
theorem dX6_rests_13 : decode cX6_rests 13 = .ok (.iastore, 1) := by decide +kernel
theorem dX6_rests_14 : decode cX6_rests 14 = .ok (.aload_n 0, 1) := by decide +kernel
theorem dX6_rests_15 : decode cX6_rests 15 = .ok (.bipush 27, 2) := by decide +kernel
theorem dX6_rests_17 : decode cX6_rests 17 = .ok (.iload_n 1, 1) := by decide +kernel
theorem dX6_rests_18 : decode cX6_rests 18 = .ok (.iadd, 1) := by decide +kernel
theorem dX6_rests_19 : decode cX6_rests 19 = .ok (.iconst 0, 1) := by decide +kernel
theorem dX6_rests_20 : decode cX6_rests 20 = .ok (.iastore, 1) := by decide +kernel
theorem dX6_rests_21 : decode cX6_rests 21 = .ok (.aload_n 0, 1) := by decide +kernel
theorem dX6_rests_22 : decode cX6_rests 22 = .ok (.bipush 34, 2) := by decide +kernel
theorem dX6_rests_24 : decode cX6_rests 24 = .ok (.iload_n 1, 1) := by decide +kernel
theorem dX6_rests_25 : decode cX6_rests 25 = .ok (.iadd, 1) := by decide +kernel
theorem dX6_rests_26 : decode cX6_rests 26 = .ok (.iconst 0, 1) := by decide +kernel
theorem dX6_rests_27 : decode cX6_rests 27 = .ok (.iastore, 1) := by decide +kernel
theorem dX6_rests_28 : decode cX6_rests 28 = .ok (.return_, 1) := by decide +kernel
theorem dX6_becomes_0 : decode cX6_becomes 0 = .ok (.aload_n 0, 1) := by decide +kernel
theorem dX6_becomes_1 : decode cX6_becomes 1 = .ok (.bipush 13, 2) := by decide +kernel
theorem dX6_becomes_3 : decode cX6_becomes 3 = .ok (.iload_n 1, 1) := by decide +kernel
theorem dX6_becomes_4 : decode cX6_becomes 4 = .ok (.iadd, 1) := by decide +kernel
theorem dX6_becomes_5 : decode cX6_becomes 5 = .ok (.iload_n 2, 1) := by decide +kernel
theorem dX6_becomes_6 : decode cX6_becomes 6 = .ok (.iastore, 1) := by decide +kernel
theorem dX6_becomes_7 : decode cX6_becomes 7 = .ok (.aload_n 0, 1) := by decide +kernel
theorem dX6_becomes_8 : decode cX6_becomes 8 = .ok (.bipush 20, 2) := by decide +kernel
theorem dX6_becomes_10 : decode cX6_becomes 10 = .ok (.iload_n 1, 1) := by decide +kernel
theorem dX6_becomes_11 : decode cX6_becomes 11 = .ok (.iadd, 1) := by decide +kernel
theorem dX6_becomes_12 : decode cX6_becomes 12 = .ok (.iload_n 3, 1) := by decide +kernel
theorem dX6_becomes_13 : decode cX6_becomes 13 = .ok (.iastore, 1) := by decide +kernel
theorem dX6_becomes_14 : decode cX6_becomes 14 = .ok (.return_, 1) := by decide +kernel
theorem dX6_isSentAt_0 : decode cX6_isSentAt 0 = .ok (.aload_n 1, 1) := by decide +kernel
theorem dX6_isSentAt_1 : decode cX6_isSentAt 1 = .ok (.bipush 13, 2) := by decide +kernel
theorem dX6_isSentAt_3 : decode cX6_isSentAt 3 = .ok (.iload_n 2, 1) := by decide +kernel
theorem dX6_isSentAt_4 : decode cX6_isSentAt 4 = .ok (.iadd, 1) := by decide +kernel
theorem dX6_isSentAt_5 : decode cX6_isSentAt 5 = .ok (.iaload, 1) := by decide +kernel
theorem dX6_isSentAt_6 : decode cX6_isSentAt 6 = .ok (.iconst 1, 1) := by decide +kernel
theorem dX6_isSentAt_7 : decode cX6_isSentAt 7 = .ok (.if_icmp .ne 17, 3) := by decide +kernel
theorem dX6_isSentAt_10 : decode cX6_isSentAt 10 = .ok (.aload_n 1, 1) := by decide +kernel
theorem dX6_isSentAt_11 : decode cX6_isSentAt 11 = .ok (.bipush 6, 2) := by decide +kernel
theorem dX6_isSentAt_13 : decode cX6_isSentAt 13 = .ok (.iload_n 2, 1) := by decide +kernel
theorem dX6_isSentAt_14 : decode cX6_isSentAt 14 = .ok (.iadd, 1) := by decide +kernel
theorem dX6_isSentAt_15 : decode cX6_isSentAt 15 = .ok (.iaload, 1) := by decide +kernel
theorem dX6_isSentAt_16 : decode cX6_isSentAt 16 = .ok (.iload_n 3, 1) := by decide +kernel
theorem dX6_isSentAt_17 : decode cX6_isSentAt 17 = .ok (.if_icmp .ne 7, 3) := by decide +kernel
theorem dX6_isSentAt_20 : decode cX6_isSentAt 20 = .ok (.iconst 1, 1) := by decide +kernel
theorem dX6_isSentAt_21 : decode cX6_isSentAt 21 = .ok (.goto 4, 3) := by decide +kernel
theorem dX6_isSentAt_24 : decode cX6_isSentAt 24 = .ok (.iconst 0, 1) := by decide +kernel
theorem dX6_isSentAt_25 : decode cX6_isSentAt 25 = .ok (.ireturn, 1) := by decide +kernel
theorem dX6_heardAt_0 : decode cX6_heardAt 0 = .ok (.iconst 0, 1) := by decide +kernel
theorem dX6_heardAt_1 : decode cX6_heardAt 1 = .ok (.istore_n 3, 1) := by decide +kernel
theorem dX6_heardAt_2 : decode cX6_heardAt 2 = .ok (.bipush (-9), 2) := by decide +kernel
theorem dX6_heardAt_4 : decode cX6_heardAt 4 = .ok (.istore 4, 2) := by decide +kernel
theorem dX6_heardAt_6 : decode cX6_heardAt 6 = .ok (.bipush (-9), 2) := by decide +kernel
theorem dX6_heardAt_8 : decode cX6_heardAt 8 = .ok (.istore 5, 2) := by decide +kernel
theorem dX6_heardAt_10 : decode cX6_heardAt 10 = .ok (.aload_n 0, 1) := by decide +kernel
theorem dX6_heardAt_11 : decode cX6_heardAt 11 = .ok (.getfield 13, 3) := by decide +kernel
theorem dX6_heardAt_14 : decode cX6_heardAt 14 = .ok (.iconst 0, 1) := by decide +kernel
theorem dX6_heardAt_15 : decode cX6_heardAt 15 = .ok (.iaload, 1) := by decide +kernel
theorem dX6_heardAt_16 : decode cX6_heardAt 16 = .ok (.iconst 1, 1) := by decide +kernel
theorem dX6_heardAt_17 : decode cX6_heardAt 17 = .ok (.isub, 1) := by decide +kernel
theorem dX6_heardAt_18 : decode cX6_heardAt 18 = .ok (.istore 6, 2) := by decide +kernel
theorem dX6_heardAt_20 : decode cX6_heardAt 20 = .ok (.iload 6, 2) := by decide +kernel
theorem dX6_heardAt_22 : decode cX6_heardAt 22 = .ok (.ifCond .lt 47, 3) := by decide +kernel
theorem dX6_heardAt_25 : decode cX6_heardAt 25 = .ok (.aload_n 0, 1) := by decide +kernel
theorem dX6_heardAt_26 : decode cX6_heardAt 26 = .ok (.aload_n 1, 1) := by decide +kernel
theorem dX6_heardAt_27 : decode cX6_heardAt 27 = .ok (.iload 6, 2) := by decide +kernel
theorem dX6_heardAt_29 : decode cX6_heardAt 29 = .ok (.iload_n 2, 1) := by decide +kernel
theorem dX6_heardAt_30 : decode cX6_heardAt 30 = .ok (.invokevirtual 127, 3) := by decide +kernel
theorem dX6_heardAt_33 : decode cX6_heardAt 33 = .ok (.ifCond .eq 30, 3) := by decide +kernel
theorem dX6_heardAt_36 : decode cX6_heardAt 36 = .ok (.iinc 3 1, 3) := by decide +kernel
theorem dX6_heardAt_39 : decode cX6_heardAt 39 = .ok (.iload 6, 2) := by decide +kernel
theorem dX6_heardAt_41 : decode cX6_heardAt 41 = .ok (.istore 4, 2) := by decide +kernel
theorem dX6_heardAt_43 : decode cX6_heardAt 43 = .ok (.aload_n 1, 1) := by decide +kernel
theorem dX6_heardAt_44 : decode cX6_heardAt 44 = .ok (.bipush 27, 2) := by decide +kernel
theorem dX6_heardAt_46 : decode cX6_heardAt 46 = .ok (.iload 6, 2) := by decide +kernel
theorem dX6_heardAt_48 : decode cX6_heardAt 48 = .ok (.iadd, 1) := by decide +kernel
theorem dX6_heardAt_49 : decode cX6_heardAt 49 = .ok (.iaload, 1) := by decide +kernel
theorem dX6_heardAt_50 : decode cX6_heardAt 50 = .ok (.iconst 1, 1) := by decide +kernel
theorem dX6_heardAt_51 : decode cX6_heardAt 51 = .ok (.if_icmp .ne 8, 3) := by decide +kernel
theorem dX6_heardAt_54 : decode cX6_heardAt 54 = .ok (.iload 6, 2) := by decide +kernel
theorem dX6_heardAt_56 : decode cX6_heardAt 56 = .ok (.goto 5, 3) := by decide +kernel
theorem dX6_heardAt_59 : decode cX6_heardAt 59 = .ok (.iload 5, 2) := by decide +kernel
theorem dX6_heardAt_61 : decode cX6_heardAt 61 = .ok (.istore 5, 2) := by decide +kernel
theorem dX6_heardAt_63 : decode cX6_heardAt 63 = .ok (.iinc 6 (-1), 3) := by decide +kernel
theorem dX6_heardAt_66 : decode cX6_heardAt 66 = .ok (.goto (-46), 3) := by decide +kernel
theorem dX6_heardAt_69 : decode cX6_heardAt 69 = .ok (.iload 5, 2) := by decide +kernel
theorem dX6_heardAt_71 : decode cX6_heardAt 71 = .ok (.bipush (-9), 2) := by decide +kernel
theorem dX6_heardAt_73 : decode cX6_heardAt 73 = .ok (.if_icmp .eq 8, 3) := by decide +kernel
theorem dX6_heardAt_76 : decode cX6_heardAt 76 = .ok (.iload 5, 2) := by decide +kernel
theorem dX6_heardAt_78 : decode cX6_heardAt 78 = .ok (.goto 15, 3) := by decide +kernel
theorem dX6_heardAt_81 : decode cX6_heardAt 81 = .ok (.iload_n 3, 1) := by decide +kernel
theorem dX6_heardAt_82 : decode cX6_heardAt 82 = .ok (.iconst 1, 1) := by decide +kernel
theorem dX6_heardAt_83 : decode cX6_heardAt 83 = .ok (.if_icmp .ne 8, 3) := by decide +kernel
theorem dX6_heardAt_86 : decode cX6_heardAt 86 = .ok (.iload 4, 2) := by decide +kernel
theorem dX6_heardAt_88 : decode cX6_heardAt 88 = .ok (.goto 5, 3) := by decide +kernel
theorem dX6_heardAt_91 : decode cX6_heardAt 91 = .ok (.bipush (-9), 2) := by decide +kernel
theorem dX6_heardAt_93 : decode cX6_heardAt 93 = .ok (.ireturn, 1) := by decide +kernel
theorem dX6_controls2_0 : decode cX6_controls2 0 = .ok (.aload_n 0, 1) := by decide +kernel
theorem dX6_controls2_1 : decode cX6_controls2 1 = .ok (.aload_n 1, 1) := by decide +kernel
theorem dX6_controls2_2 : decode cX6_controls2 2 = .ok (.iload_n 2, 1) := by decide +kernel
theorem dX6_controls2_3 : decode cX6_controls2 3 = .ok (.invokevirtual 131, 3) := by decide +kernel
theorem dX6_controls2_6 : decode cX6_controls2 6 = .ok (.istore_n 3, 1) := by decide +kernel
theorem dX6_controls2_7 : decode cX6_controls2 7 = .ok (.iconst 0, 1) := by decide +kernel
theorem dX6_controls2_8 : decode cX6_controls2 8 = .ok (.istore 4, 2) := by decide +kernel
theorem dX6_controls2_10 : decode cX6_controls2 10 = .ok (.iload 4, 2) := by decide +kernel
theorem dX6_controls2_12 : decode cX6_controls2 12 = .ok (.aload_n 0, 1) := by decide +kernel
theorem dX6_controls2_13 : decode cX6_controls2 13 = .ok (.getfield 13, 3) := by decide +kernel
theorem dX6_controls2_16 : decode cX6_controls2 16 = .ok (.iconst 0, 1) := by decide +kernel
theorem dX6_controls2_17 : decode cX6_controls2 17 = .ok (.iaload, 1) := by decide +kernel
theorem dX6_controls2_18 : decode cX6_controls2 18 = .ok (.if_icmp .ge 53, 3) := by decide +kernel
theorem dX6_controls2_21 : decode cX6_controls2 21 = .ok (.aload_n 0, 1) := by decide +kernel
theorem dX6_controls2_22 : decode cX6_controls2 22 = .ok (.aload_n 1, 1) := by decide +kernel
theorem dX6_controls2_23 : decode cX6_controls2 23 = .ok (.iload 4, 2) := by decide +kernel
theorem dX6_controls2_25 : decode cX6_controls2 25 = .ok (.iload_n 2, 1) := by decide +kernel
theorem dX6_controls2_26 : decode cX6_controls2 26 = .ok (.invokevirtual 127, 3) := by decide +kernel
theorem dX6_controls2_29 : decode cX6_controls2 29 = .ok (.ifCond .eq 36, 3) := by decide +kernel
theorem dX6_controls2_32 : decode cX6_controls2 32 = .ok (.aload_n 1, 1) := by decide +kernel
theorem dX6_controls2_33 : decode cX6_controls2 33 = .ok (.iload 4, 2) := by decide +kernel
theorem dX6_controls2_35 : decode cX6_controls2 35 = .ok (.iload 4, 2) := by decide +kernel
theorem dX6_controls2_37 : decode cX6_controls2 37 = .ok (.iload_n 3, 1) := by decide +kernel
theorem dX6_controls2_38 : decode cX6_controls2 38 = .ok (.if_icmp .ne 7, 3) := by decide +kernel
theorem dX6_controls2_41 : decode cX6_controls2 41 = .ok (.iconst 3, 1) := by decide +kernel
theorem dX6_controls2_42 : decode cX6_controls2 42 = .ok (.goto 4, 3) := by decide +kernel
theorem dX6_controls2_45 : decode cX6_controls2 45 = .ok (.iconst 2, 1) := by decide +kernel
theorem dX6_controls2_46 : decode cX6_controls2 46 = .ok (.iload 4, 2) := by decide +kernel
theorem dX6_controls2_48 : decode cX6_controls2 48 = .ok (.iload_n 3, 1) := by decide +kernel
theorem dX6_controls2_49 : decode cX6_controls2 49 = .ok (.if_icmp .ne 7, 3) := by decide +kernel
theorem dX6_controls2_52 : decode cX6_controls2 52 = .ok (.iconst 0, 1) := by decide +kernel
theorem dX6_controls2_53 : decode cX6_controls2 53 = .ok (.goto 9, 3) := by decide +kernel
theorem dX6_controls2_56 : decode cX6_controls2 56 = .ok (.iconst 1, 1) := by decide +kernel
theorem dX6_controls2_57 : decode cX6_controls2 57 = .ok (.iload 4, 2) := by decide +kernel
theorem dX6_controls2_59 : decode cX6_controls2 59 = .ok (.iconst 3, 1) := by decide +kernel
theorem dX6_controls2_60 : decode cX6_controls2 60 = .ok (.irem, 1) := by decide +kernel
theorem dX6_controls2_61 : decode cX6_controls2 61 = .ok (.iadd, 1) := by decide +kernel
theorem dX6_controls2_62 : decode cX6_controls2 62 = .ok (.invokestatic 135, 3) := by decide +kernel
theorem dX6_controls2_65 : decode cX6_controls2 65 = .ok (.iinc 4 1, 3) := by decide +kernel
theorem dX6_controls2_68 : decode cX6_controls2 68 = .ok (.goto (-58), 3) := by decide +kernel
theorem dX6_controls2_71 : decode cX6_controls2 71 = .ok (.return_, 1) := by decide +kernel
theorem dX6_helpsItself_0 : decode cX6_helpsItself 0 = .ok (.aload_n 0, 1) := by decide +kernel
theorem dX6_helpsItself_1 : decode cX6_helpsItself 1 = .ok (.getfield 13, 3) := by decide +kernel
theorem dX6_helpsItself_4 : decode cX6_helpsItself 4 = .ok (.iconst 3, 1) := by decide +kernel
theorem dX6_helpsItself_5 : decode cX6_helpsItself 5 = .ok (.iload_n 2, 1) := by decide +kernel
theorem dX6_helpsItself_6 : decode cX6_helpsItself 6 = .ok (.iadd, 1) := by decide +kernel
theorem dX6_helpsItself_7 : decode cX6_helpsItself 7 = .ok (.iaload, 1) := by decide +kernel
theorem dX6_helpsItself_8 : decode cX6_helpsItself 8 = .ok (.istore_n 3, 1) := by decide +kernel
theorem dX6_helpsItself_9 : decode cX6_helpsItself 9 = .ok (.iconst 0, 1) := by decide +kernel
theorem dX6_helpsItself_10 : decode cX6_helpsItself 10 = .ok (.istore 4, 2) := by decide +kernel
theorem dX6_helpsItself_12 : decode cX6_helpsItself 12 = .ok (.iload 4, 2) := by decide +kernel
theorem dX6_helpsItself_14 : decode cX6_helpsItself 14 = .ok (.aload_n 0, 1) := by decide +kernel
theorem dX6_helpsItself_15 : decode cX6_helpsItself 15 = .ok (.getfield 13, 3) := by decide +kernel
theorem dX6_helpsItself_18 : decode cX6_helpsItself 18 = .ok (.iconst 0, 1) := by decide +kernel
theorem dX6_helpsItself_19 : decode cX6_helpsItself 19 = .ok (.iaload, 1) := by decide +kernel
theorem dX6_helpsItself_20 : decode cX6_helpsItself 20 = .ok (.if_icmp .ge 130, 3) := by decide +kernel
theorem dX6_helpsItself_23 : decode cX6_helpsItself 23 = .ok (.aload_n 0, 1) := by decide +kernel
theorem dX6_helpsItself_24 : decode cX6_helpsItself 24 = .ok (.aload_n 1, 1) := by decide +kernel
theorem dX6_helpsItself_25 : decode cX6_helpsItself 25 = .ok (.iload 4, 2) := by decide +kernel
theorem dX6_helpsItself_27 : decode cX6_helpsItself 27 = .ok (.iload_n 2, 1) := by decide +kernel
theorem dX6_helpsItself_28 : decode cX6_helpsItself 28 = .ok (.invokevirtual 127, 3) := by decide +kernel
theorem dX6_helpsItself_31 : decode cX6_helpsItself 31 = .ok (.istore 5, 2) := by decide +kernel
theorem dX6_helpsItself_33 : decode cX6_helpsItself 33 = .ok (.iconst 0, 1) := by decide +kernel
theorem dX6_helpsItself_34 : decode cX6_helpsItself 34 = .ok (.istore 6, 2) := by decide +kernel
theorem dX6_helpsItself_36 : decode cX6_helpsItself 36 = .ok (.iload 6, 2) := by decide +kernel
theorem dX6_helpsItself_38 : decode cX6_helpsItself 38 = .ok (.aload_n 0, 1) := by decide +kernel
theorem dX6_helpsItself_39 : decode cX6_helpsItself 39 = .ok (.getfield 13, 3) := by decide +kernel
theorem dX6_helpsItself_42 : decode cX6_helpsItself 42 = .ok (.iconst 0, 1) := by decide +kernel
theorem dX6_helpsItself_43 : decode cX6_helpsItself 43 = .ok (.iaload, 1) := by decide +kernel
theorem dX6_helpsItself_44 : decode cX6_helpsItself 44 = .ok (.if_icmp .ge 80, 3) := by decide +kernel
theorem dX6_helpsItself_47 : decode cX6_helpsItself 47 = .ok (.aload_n 1, 1) := by decide +kernel
theorem dX6_helpsItself_48 : decode cX6_helpsItself 48 = .ok (.bipush 13, 2) := by decide +kernel
theorem dX6_helpsItself_50 : decode cX6_helpsItself 50 = .ok (.iload 6, 2) := by decide +kernel
theorem dX6_helpsItself_52 : decode cX6_helpsItself 52 = .ok (.iadd, 1) := by decide +kernel
theorem dX6_helpsItself_53 : decode cX6_helpsItself 53 = .ok (.iaload, 1) := by decide +kernel
theorem dX6_helpsItself_54 : decode cX6_helpsItself 54 = .ok (.iconst 5, 1) := by decide +kernel
theorem dX6_helpsItself_55 : decode cX6_helpsItself 55 = .ok (.if_icmp .ne 18, 3) := by decide +kernel
theorem dX6_helpsItself_58 : decode cX6_helpsItself 58 = .ok (.aload_n 1, 1) := by decide +kernel
theorem dX6_helpsItself_59 : decode cX6_helpsItself 59 = .ok (.bipush 6, 2) := by decide +kernel
theorem dX6_helpsItself_61 : decode cX6_helpsItself 61 = .ok (.iload 6, 2) := by decide +kernel
theorem dX6_helpsItself_63 : decode cX6_helpsItself 63 = .ok (.iadd, 1) := by decide +kernel
theorem dX6_helpsItself_64 : decode cX6_helpsItself 64 = .ok (.iaload, 1) := by decide +kernel
theorem dX6_helpsItself_65 : decode cX6_helpsItself 65 = .ok (.iload_n 2, 1) := by decide +kernel
theorem dX6_helpsItself_66 : decode cX6_helpsItself 66 = .ok (.if_icmp .ne 7, 3) := by decide +kernel
theorem dX6_helpsItself_69 : decode cX6_helpsItself 69 = .ok (.iconst 1, 1) := by decide +kernel
theorem dX6_helpsItself_70 : decode cX6_helpsItself 70 = .ok (.goto 4, 3) := by decide +kernel
theorem dX6_helpsItself_73 : decode cX6_helpsItself 73 = .ok (.iconst 0, 1) := by decide +kernel
theorem dX6_helpsItself_74 : decode cX6_helpsItself 74 = .ok (.istore 7, 2) := by decide +kernel
theorem dX6_helpsItself_76 : decode cX6_helpsItself 76 = .ok (.iload 5, 2) := by decide +kernel
theorem dX6_helpsItself_78 : decode cX6_helpsItself 78 = .ok (.ifCond .eq 37, 3) := by decide +kernel
theorem dX6_helpsItself_81 : decode cX6_helpsItself 81 = .ok (.iload 7, 2) := by decide +kernel
theorem dX6_helpsItself_83 : decode cX6_helpsItself 83 = .ok (.ifCond .eq 28, 3) := by decide +kernel
theorem dX6_helpsItself_86 : decode cX6_helpsItself 86 = .ok (.aload_n 0, 1) := by decide +kernel
theorem dX6_helpsItself_87 : decode cX6_helpsItself 87 = .ok (.getfield 13, 3) := by decide +kernel
theorem dX6_helpsItself_90 : decode cX6_helpsItself 90 = .ok (.iconst 5, 1) := by decide +kernel
theorem dX6_helpsItself_91 : decode cX6_helpsItself 91 = .ok (.iload 6, 2) := by decide +kernel
theorem dX6_helpsItself_93 : decode cX6_helpsItself 93 = .ok (.iadd, 1) := by decide +kernel
theorem dX6_helpsItself_94 : decode cX6_helpsItself 94 = .ok (.iaload, 1) := by decide +kernel
theorem dX6_helpsItself_95 : decode cX6_helpsItself 95 = .ok (.iload_n 3, 1) := by decide +kernel
theorem dX6_helpsItself_96 : decode cX6_helpsItself 96 = .ok (.irem, 1) := by decide +kernel
theorem dX6_helpsItself_97 : decode cX6_helpsItself 97 = .ok (.aload_n 0, 1) := by decide +kernel
theorem dX6_helpsItself_98 : decode cX6_helpsItself 98 = .ok (.getfield 13, 3) := by decide +kernel
theorem dX6_helpsItself_101 : decode cX6_helpsItself 101 = .ok (.iconst 5, 1) := by decide +kernel
theorem dX6_helpsItself_102 : decode cX6_helpsItself 102 = .ok (.iload 4, 2) := by decide +kernel
theorem dX6_helpsItself_104 : decode cX6_helpsItself 104 = .ok (.iadd, 1) := by decide +kernel
theorem dX6_helpsItself_105 : decode cX6_helpsItself 105 = .ok (.iaload, 1) := by decide +kernel
theorem dX6_helpsItself_106 : decode cX6_helpsItself 106 = .ok (.iload_n 3, 1) := by decide +kernel
theorem dX6_helpsItself_107 : decode cX6_helpsItself 107 = .ok (.irem, 1) := by decide +kernel
theorem dX6_helpsItself_108 : decode cX6_helpsItself 108 = .ok (.if_icmp .eq 7, 3) := by decide +kernel
theorem dX6_helpsItself_111 : decode cX6_helpsItself 111 = .ok (.iconst 1, 1) := by decide +kernel
theorem dX6_helpsItself_112 : decode cX6_helpsItself 112 = .ok (.goto 4, 3) := by decide +kernel
theorem dX6_helpsItself_115 : decode cX6_helpsItself 115 = .ok (.iconst 0, 1) := by decide +kernel
theorem dX6_helpsItself_116 : decode cX6_helpsItself 116 = .ok (.istore 5, 2) := by decide +kernel
theorem dX6_helpsItself_118 : decode cX6_helpsItself 118 = .ok (.iinc 6 1, 3) := by decide +kernel
theorem dX6_helpsItself_121 : decode cX6_helpsItself 121 = .ok (.goto (-85), 3) := by decide +kernel
theorem dX6_helpsItself_124 : decode cX6_helpsItself 124 = .ok (.iload 5, 2) := by decide +kernel
theorem dX6_helpsItself_126 : decode cX6_helpsItself 126 = .ok (.ifCond .eq 18, 3) := by decide +kernel
theorem dX6_helpsItself_129 : decode cX6_helpsItself 129 = .ok (.aload_n 1, 1) := by decide +kernel
theorem dX6_helpsItself_130 : decode cX6_helpsItself 130 = .ok (.iload 4, 2) := by decide +kernel
theorem dX6_helpsItself_132 : decode cX6_helpsItself 132 = .ok (.iconst 5, 1) := by decide +kernel
theorem dX6_helpsItself_133 : decode cX6_helpsItself 133 = .ok (.iconst 0, 1) := by decide +kernel
theorem dX6_helpsItself_134 : decode cX6_helpsItself 134 = .ok (.invokestatic 135, 3) := by decide +kernel
theorem dX6_helpsItself_137 : decode cX6_helpsItself 137 = .ok (.aload_n 1, 1) := by decide +kernel
theorem dX6_helpsItself_138 : decode cX6_helpsItself 138 = .ok (.iconst 3, 1) := by decide +kernel
theorem dX6_helpsItself_139 : decode cX6_helpsItself 139 = .ok (.dup2, 1) := by decide +kernel
theorem dX6_helpsItself_140 : decode cX6_helpsItself 140 = .ok (.iaload, 1) := by decide +kernel
theorem dX6_helpsItself_141 : decode cX6_helpsItself 141 = .ok (.iconst 1, 1) := by decide +kernel
theorem dX6_helpsItself_142 : decode cX6_helpsItself 142 = .ok (.iadd, 1) := by decide +kernel
theorem dX6_helpsItself_143 : decode cX6_helpsItself 143 = .ok (.iastore, 1) := by decide +kernel
theorem dX6_helpsItself_144 : decode cX6_helpsItself 144 = .ok (.iinc 4 1, 3) := by decide +kernel
theorem dX6_helpsItself_147 : decode cX6_helpsItself 147 = .ok (.goto (-135), 3) := by decide +kernel
theorem dX6_helpsItself_150 : decode cX6_helpsItself 150 = .ok (.return_, 1) := by decide +kernel
theorem dX6_freeAt_0 : decode cX6_freeAt 0 = .ok (.aload_n 0, 1) := by decide +kernel
theorem dX6_freeAt_1 : decode cX6_freeAt 1 = .ok (.getfield 13, 3) := by decide +kernel
theorem dX6_freeAt_4 : decode cX6_freeAt 4 = .ok (.iconst 3, 1) := by decide +kernel
theorem dX6_freeAt_5 : decode cX6_freeAt 5 = .ok (.iload_n 2, 1) := by decide +kernel
theorem dX6_freeAt_6 : decode cX6_freeAt 6 = .ok (.iadd, 1) := by decide +kernel
theorem dX6_freeAt_7 : decode cX6_freeAt 7 = .ok (.iaload, 1) := by decide +kernel
theorem dX6_freeAt_8 : decode cX6_freeAt 8 = .ok (.istore_n 3, 1) := by decide +kernel
theorem dX6_freeAt_9 : decode cX6_freeAt 9 = .ok (.iconst 0, 1) := by decide +kernel
theorem dX6_freeAt_10 : decode cX6_freeAt 10 = .ok (.istore 4, 2) := by decide +kernel
theorem dX6_freeAt_12 : decode cX6_freeAt 12 = .ok (.iload 4, 2) := by decide +kernel
theorem dX6_freeAt_14 : decode cX6_freeAt 14 = .ok (.aload_n 0, 1) := by decide +kernel
theorem dX6_freeAt_15 : decode cX6_freeAt 15 = .ok (.getfield 13, 3) := by decide +kernel
theorem dX6_freeAt_18 : decode cX6_freeAt 18 = .ok (.iconst 0, 1) := by decide +kernel
theorem dX6_freeAt_19 : decode cX6_freeAt 19 = .ok (.iaload, 1) := by decide +kernel
theorem dX6_freeAt_20 : decode cX6_freeAt 20 = .ok (.if_icmp .ge 31, 3) := by decide +kernel
theorem dX6_freeAt_23 : decode cX6_freeAt 23 = .ok (.iload_n 3, 1) := by decide +kernel
theorem dX6_freeAt_24 : decode cX6_freeAt 24 = .ok (.aload_n 1, 1) := by decide +kernel
theorem dX6_freeAt_25 : decode cX6_freeAt 25 = .ok (.bipush 34, 2) := by decide +kernel
theorem dX6_freeAt_27 : decode cX6_freeAt 27 = .ok (.iload 4, 2) := by decide +kernel
theorem dX6_freeAt_29 : decode cX6_freeAt 29 = .ok (.iadd, 1) := by decide +kernel
theorem dX6_freeAt_30 : decode cX6_freeAt 30 = .ok (.iaload, 1) := by decide +kernel
theorem dX6_freeAt_31 : decode cX6_freeAt 31 = .ok (.iload_n 2, 1) := by decide +kernel
theorem dX6_freeAt_32 : decode cX6_freeAt 32 = .ok (.invokestatic 139, 3) := by decide +kernel
theorem dX6_freeAt_35 : decode cX6_freeAt 35 = .ok (.ifCond .eq 7, 3) := by decide +kernel
theorem dX6_freeAt_38 : decode cX6_freeAt 38 = .ok (.iconst 1, 1) := by decide +kernel
theorem dX6_freeAt_39 : decode cX6_freeAt 39 = .ok (.goto 4, 3) := by decide +kernel
theorem dX6_freeAt_42 : decode cX6_freeAt 42 = .ok (.iconst 0, 1) := by decide +kernel
theorem dX6_freeAt_43 : decode cX6_freeAt 43 = .ok (.isub, 1) := by decide +kernel
theorem dX6_freeAt_44 : decode cX6_freeAt 44 = .ok (.istore_n 3, 1) := by decide +kernel
theorem dX6_freeAt_45 : decode cX6_freeAt 45 = .ok (.iinc 4 1, 3) := by decide +kernel
theorem dX6_freeAt_48 : decode cX6_freeAt 48 = .ok (.goto (-36), 3) := by decide +kernel
theorem dX6_freeAt_51 : decode cX6_freeAt 51 = .ok (.iload_n 3, 1) := by decide +kernel
theorem dX6_freeAt_52 : decode cX6_freeAt 52 = .ok (.ireturn, 1) := by decide +kernel
theorem dX6_talkerOf_0 : decode cX6_talkerOf 0 = .ok (.bipush (-9), 2) := by decide +kernel
theorem dX6_talkerOf_2 : decode cX6_talkerOf 2 = .ok (.istore_n 3, 1) := by decide +kernel
theorem dX6_talkerOf_3 : decode cX6_talkerOf 3 = .ok (.iconst 0, 1) := by decide +kernel
theorem dX6_talkerOf_4 : decode cX6_talkerOf 4 = .ok (.istore 4, 2) := by decide +kernel
theorem dX6_talkerOf_6 : decode cX6_talkerOf 6 = .ok (.iload 4, 2) := by decide +kernel
theorem dX6_talkerOf_8 : decode cX6_talkerOf 8 = .ok (.aload_n 0, 1) := by decide +kernel
theorem dX6_talkerOf_9 : decode cX6_talkerOf 9 = .ok (.getfield 13, 3) := by decide +kernel
theorem dX6_talkerOf_12 : decode cX6_talkerOf 12 = .ok (.iconst 0, 1) := by decide +kernel
theorem dX6_talkerOf_13 : decode cX6_talkerOf 13 = .ok (.iaload, 1) := by decide +kernel
theorem dX6_talkerOf_14 : decode cX6_talkerOf 14 = .ok (.if_icmp .ge 40, 3) := by decide +kernel
theorem dX6_talkerOf_17 : decode cX6_talkerOf 17 = .ok (.aload_n 1, 1) := by decide +kernel
theorem dX6_talkerOf_18 : decode cX6_talkerOf 18 = .ok (.bipush 13, 2) := by decide +kernel
theorem dX6_talkerOf_20 : decode cX6_talkerOf 20 = .ok (.iload 4, 2) := by decide +kernel
theorem dX6_talkerOf_22 : decode cX6_talkerOf 22 = .ok (.iadd, 1) := by decide +kernel
theorem dX6_talkerOf_23 : decode cX6_talkerOf 23 = .ok (.iaload, 1) := by decide +kernel
theorem dX6_talkerOf_24 : decode cX6_talkerOf 24 = .ok (.iconst 4, 1) := by decide +kernel
theorem dX6_talkerOf_25 : decode cX6_talkerOf 25 = .ok (.if_icmp .ne 21, 3) := by decide +kernel
theorem dX6_talkerOf_28 : decode cX6_talkerOf 28 = .ok (.aload_n 0, 1) := by decide +kernel
theorem dX6_talkerOf_29 : decode cX6_talkerOf 29 = .ok (.getfield 13, 3) := by decide +kernel
theorem dX6_talkerOf_32 : decode cX6_talkerOf 32 = .ok (.iconst 5, 1) := by decide +kernel
theorem dX6_talkerOf_33 : decode cX6_talkerOf 33 = .ok (.iload 4, 2) := by decide +kernel
theorem dX6_talkerOf_35 : decode cX6_talkerOf 35 = .ok (.iadd, 1) := by decide +kernel
theorem dX6_talkerOf_36 : decode cX6_talkerOf 36 = .ok (.iaload, 1) := by decide +kernel
theorem dX6_talkerOf_37 : decode cX6_talkerOf 37 = .ok (.iload_n 2, 1) := by decide +kernel
theorem dX6_talkerOf_38 : decode cX6_talkerOf 38 = .ok (.if_icmp .ne 8, 3) := by decide +kernel
theorem dX6_talkerOf_41 : decode cX6_talkerOf 41 = .ok (.iload 4, 2) := by decide +kernel
theorem dX6_talkerOf_43 : decode cX6_talkerOf 43 = .ok (.goto 4, 3) := by decide +kernel
theorem dX6_talkerOf_46 : decode cX6_talkerOf 46 = .ok (.iload_n 3, 1) := by decide +kernel
theorem dX6_talkerOf_47 : decode cX6_talkerOf 47 = .ok (.istore_n 3, 1) := by decide +kernel
theorem dX6_talkerOf_48 : decode cX6_talkerOf 48 = .ok (.iinc 4 1, 3) := by decide +kernel
theorem dX6_talkerOf_51 : decode cX6_talkerOf 51 = .ok (.goto (-45), 3) := by decide +kernel
theorem dX6_talkerOf_54 : decode cX6_talkerOf 54 = .ok (.iload_n 3, 1) := by decide +kernel
theorem dX6_talkerOf_55 : decode cX6_talkerOf 55 = .ok (.ireturn, 1) := by decide +kernel
theorem dX6_isAhead_0 : decode cX6_isAhead 0 = .ok (.aload_n 1, 1) := by decide +kernel
theorem dX6_isAhead_1 : decode cX6_isAhead 1 = .ok (.bipush 27, 2) := by decide +kernel
theorem dX6_isAhead_3 : decode cX6_isAhead 3 = .ok (.iload_n 2, 1) := by decide +kernel
theorem dX6_isAhead_4 : decode cX6_isAhead 4 = .ok (.iadd, 1) := by decide +kernel
theorem dX6_isAhead_5 : decode cX6_isAhead 5 = .ok (.iaload, 1) := by decide +kernel
theorem dX6_isAhead_6 : decode cX6_isAhead 6 = .ok (.aload_n 1, 1) := by decide +kernel
theorem dX6_isAhead_7 : decode cX6_isAhead 7 = .ok (.bipush 27, 2) := by decide +kernel
theorem dX6_isAhead_9 : decode cX6_isAhead 9 = .ok (.iload_n 3, 1) := by decide +kernel
theorem dX6_isAhead_10 : decode cX6_isAhead 10 = .ok (.iadd, 1) := by decide +kernel
theorem dX6_isAhead_11 : decode cX6_isAhead 11 = .ok (.iaload, 1) := by decide +kernel
theorem dX6_isAhead_12 : decode cX6_isAhead 12 = .ok (.if_icmp .eq 19, 3) := by decide +kernel
theorem dX6_isAhead_15 : decode cX6_isAhead 15 = .ok (.aload_n 1, 1) := by decide +kernel
theorem dX6_isAhead_16 : decode cX6_isAhead 16 = .ok (.bipush 27, 2) := by decide +kernel
theorem dX6_isAhead_18 : decode cX6_isAhead 18 = .ok (.iload_n 2, 1) := by decide +kernel
theorem dX6_isAhead_19 : decode cX6_isAhead 19 = .ok (.iadd, 1) := by decide +kernel
theorem dX6_isAhead_20 : decode cX6_isAhead 20 = .ok (.iaload, 1) := by decide +kernel
theorem dX6_isAhead_21 : decode cX6_isAhead 21 = .ok (.iconst 1, 1) := by decide +kernel
theorem dX6_isAhead_22 : decode cX6_isAhead 22 = .ok (.if_icmp .ne 7, 3) := by decide +kernel
theorem dX6_isAhead_25 : decode cX6_isAhead 25 = .ok (.iconst 1, 1) := by decide +kernel
theorem dX6_isAhead_26 : decode cX6_isAhead 26 = .ok (.goto 4, 3) := by decide +kernel
theorem dX6_isAhead_29 : decode cX6_isAhead 29 = .ok (.iconst 0, 1) := by decide +kernel
theorem dX6_isAhead_30 : decode cX6_isAhead 30 = .ok (.ireturn, 1) := by decide +kernel
theorem dX6_isAhead_31 : decode cX6_isAhead 31 = .ok (.iconst 4, 1) := by decide +kernel
theorem dX6_isAhead_32 : decode cX6_isAhead 32 = .ok (.aload_n 0, 1) := by decide +kernel
theorem dX6_isAhead_33 : decode cX6_isAhead 33 = .ok (.getfield 13, 3) := by decide +kernel
theorem dX6_isAhead_36 : decode cX6_isAhead 36 = .ok (.bipush 12, 2) := by decide +kernel
theorem dX6_isAhead_38 : decode cX6_isAhead 38 = .ok (.iload_n 2, 1) := by decide +kernel
theorem dX6_isAhead_39 : decode cX6_isAhead 39 = .ok (.iadd, 1) := by decide +kernel
theorem dX6_isAhead_40 : decode cX6_isAhead 40 = .ok (.iaload, 1) := by decide +kernel
theorem dX6_isAhead_41 : decode cX6_isAhead 41 = .ok (.imul, 1) := by decide +kernel
theorem dX6_isAhead_42 : decode cX6_isAhead 42 = .ok (.aload_n 1, 1) := by decide +kernel
theorem dX6_isAhead_43 : decode cX6_isAhead 43 = .ok (.bipush 20, 2) := by decide +kernel
theorem dX6_isAhead_45 : decode cX6_isAhead 45 = .ok (.iload_n 2, 1) := by decide +kernel
theorem dX6_isAhead_46 : decode cX6_isAhead 46 = .ok (.iadd, 1) := by decide +kernel
theorem dX6_isAhead_47 : decode cX6_isAhead 47 = .ok (.iaload, 1) := by decide +kernel
theorem dX6_isAhead_48 : decode cX6_isAhead 48 = .ok (.iadd, 1) := by decide +kernel
theorem dX6_isAhead_49 : decode cX6_isAhead 49 = .ok (.istore 4, 2) := by decide +kernel
theorem dX6_isAhead_51 : decode cX6_isAhead 51 = .ok (.iconst 4, 1) := by decide +kernel
theorem dX6_isAhead_52 : decode cX6_isAhead 52 = .ok (.aload_n 0, 1) := by decide +kernel
theorem dX6_isAhead_53 : decode cX6_isAhead 53 = .ok (.getfield 13, 3) := by decide +kernel
theorem dX6_isAhead_56 : decode cX6_isAhead 56 = .ok (.bipush 12, 2) := by decide +kernel
theorem dX6_isAhead_58 : decode cX6_isAhead 58 = .ok (.iload_n 3, 1) := by decide +kernel
theorem dX6_isAhead_59 : decode cX6_isAhead 59 = .ok (.iadd, 1) := by decide +kernel
theorem dX6_isAhead_60 : decode cX6_isAhead 60 = .ok (.iaload, 1) := by decide +kernel
theorem dX6_isAhead_61 : decode cX6_isAhead 61 = .ok (.imul, 1) := by decide +kernel
theorem dX6_isAhead_62 : decode cX6_isAhead 62 = .ok (.aload_n 1, 1) := by decide +kernel
theorem dX6_isAhead_63 : decode cX6_isAhead 63 = .ok (.bipush 20, 2) := by decide +kernel
theorem dX6_isAhead_65 : decode cX6_isAhead 65 = .ok (.iload_n 3, 1) := by decide +kernel
theorem dX6_isAhead_66 : decode cX6_isAhead 66 = .ok (.iadd, 1) := by decide +kernel
theorem dX6_isAhead_67 : decode cX6_isAhead 67 = .ok (.iaload, 1) := by decide +kernel
theorem dX6_isAhead_68 : decode cX6_isAhead 68 = .ok (.iadd, 1) := by decide +kernel
theorem dX6_isAhead_69 : decode cX6_isAhead 69 = .ok (.istore 5, 2) := by decide +kernel
theorem dX6_isAhead_71 : decode cX6_isAhead 71 = .ok (.iload 4, 2) := by decide +kernel
theorem dX6_isAhead_73 : decode cX6_isAhead 73 = .ok (.iload 5, 2) := by decide +kernel
theorem dX6_isAhead_75 : decode cX6_isAhead 75 = .ok (.if_icmp .gt 15, 3) := by decide +kernel
theorem dX6_isAhead_78 : decode cX6_isAhead 78 = .ok (.iload 4, 2) := by decide +kernel
theorem dX6_isAhead_80 : decode cX6_isAhead 80 = .ok (.iload 5, 2) := by decide +kernel
theorem dX6_isAhead_82 : decode cX6_isAhead 82 = .ok (.if_icmp .ne 12, 3) := by decide +kernel
theorem dX6_isAhead_85 : decode cX6_isAhead 85 = .ok (.iload_n 2, 1) := by decide +kernel
theorem dX6_isAhead_86 : decode cX6_isAhead 86 = .ok (.iload_n 3, 1) := by decide +kernel
theorem dX6_isAhead_87 : decode cX6_isAhead 87 = .ok (.if_icmp .ge 7, 3) := by decide +kernel
theorem dX6_isAhead_90 : decode cX6_isAhead 90 = .ok (.iconst 1, 1) := by decide +kernel
theorem dX6_isAhead_91 : decode cX6_isAhead 91 = .ok (.goto 4, 3) := by decide +kernel
theorem dX6_isAhead_94 : decode cX6_isAhead 94 = .ok (.iconst 0, 1) := by decide +kernel
theorem dX6_isAhead_95 : decode cX6_isAhead 95 = .ok (.ireturn, 1) := by decide +kernel
theorem dX6_lines_0 : decode cX6_lines 0 = .ok (.aload_n 0, 1) := by decide +kernel
theorem dX6_lines_1 : decode cX6_lines 1 = .ok (.iconst 0, 1) := by decide +kernel
theorem dX6_lines_2 : decode cX6_lines 2 = .ok (.putfield 143, 3) := by decide +kernel
theorem dX6_lines_5 : decode cX6_lines 5 = .ok (.iconst 0, 1) := by decide +kernel
theorem dX6_lines_6 : decode cX6_lines 6 = .ok (.istore_n 2, 1) := by decide +kernel
theorem dX6_lines_7 : decode cX6_lines 7 = .ok (.iload_n 2, 1) := by decide +kernel
theorem dX6_lines_8 : decode cX6_lines 8 = .ok (.aload_n 0, 1) := by decide +kernel
theorem dX6_lines_9 : decode cX6_lines 9 = .ok (.getfield 13, 3) := by decide +kernel
theorem dX6_lines_12 : decode cX6_lines 12 = .ok (.iconst 0, 1) := by decide +kernel
theorem dX6_lines_13 : decode cX6_lines 13 = .ok (.iaload, 1) := by decide +kernel
theorem dX6_lines_14 : decode cX6_lines 14 = .ok (.if_icmp .ge 82, 3) := by decide +kernel
theorem dX6_lines_17 : decode cX6_lines 17 = .ok (.aload_n 1, 1) := by decide +kernel
theorem dX6_lines_18 : decode cX6_lines 18 = .ok (.bipush 13, 2) := by decide +kernel
theorem dX6_lines_20 : decode cX6_lines 20 = .ok (.iload_n 2, 1) := by decide +kernel
theorem dX6_lines_21 : decode cX6_lines 21 = .ok (.iadd, 1) := by decide +kernel
theorem dX6_lines_22 : decode cX6_lines 22 = .ok (.iaload, 1) := by decide +kernel
theorem dX6_lines_23 : decode cX6_lines 23 = .ok (.iconst 3, 1) := by decide +kernel
theorem dX6_lines_24 : decode cX6_lines 24 = .ok (.if_icmp .ne 66, 3) := by decide +kernel
theorem dX6_lines_27 : decode cX6_lines 27 = .ok (.aload_n 0, 1) := by decide +kernel
theorem dX6_lines_28 : decode cX6_lines 28 = .ok (.getfield 143, 3) := by decide +kernel
theorem dX6_lines_31 : decode cX6_lines 31 = .ok (.istore_n 3, 1) := by decide +kernel
theorem dX6_lines_32 : decode cX6_lines 32 = .ok (.iload_n 3, 1) := by decide +kernel
theorem dX6_lines_33 : decode cX6_lines 33 = .ok (.ifCond .le 40, 3) := by decide +kernel
theorem dX6_lines_36 : decode cX6_lines 36 = .ok (.aload_n 0, 1) := by decide +kernel
theorem dX6_lines_37 : decode cX6_lines 37 = .ok (.aload_n 1, 1) := by decide +kernel
theorem dX6_lines_38 : decode cX6_lines 38 = .ok (.iload_n 2, 1) := by decide +kernel
theorem dX6_lines_39 : decode cX6_lines 39 = .ok (.aload_n 0, 1) := by decide +kernel
theorem dX6_lines_40 : decode cX6_lines 40 = .ok (.getfield 44, 3) := by decide +kernel
theorem dX6_lines_43 : decode cX6_lines 43 = .ok (.iload_n 3, 1) := by decide +kernel
theorem dX6_lines_44 : decode cX6_lines 44 = .ok (.iconst 1, 1) := by decide +kernel
theorem dX6_lines_45 : decode cX6_lines 45 = .ok (.isub, 1) := by decide +kernel
theorem dX6_lines_46 : decode cX6_lines 46 = .ok (.iaload, 1) := by decide +kernel
theorem dX6_lines_47 : decode cX6_lines 47 = .ok (.invokevirtual 146, 3) := by decide +kernel
theorem dX6_lines_50 : decode cX6_lines 50 = .ok (.ifCond .eq 23, 3) := by decide +kernel
theorem dX6_lines_53 : decode cX6_lines 53 = .ok (.aload_n 0, 1) := by decide +kernel
theorem dX6_lines_54 : decode cX6_lines 54 = .ok (.getfield 44, 3) := by decide +kernel
theorem dX6_lines_57 : decode cX6_lines 57 = .ok (.iload_n 3, 1) := by decide +kernel
theorem dX6_lines_58 : decode cX6_lines 58 = .ok (.aload_n 0, 1) := by decide +kernel
theorem dX6_lines_59 : decode cX6_lines 59 = .ok (.getfield 44, 3) := by decide +kernel
theorem dX6_lines_62 : decode cX6_lines 62 = .ok (.iload_n 3, 1) := by decide +kernel
theorem dX6_lines_63 : decode cX6_lines 63 = .ok (.iconst 1, 1) := by decide +kernel
theorem dX6_lines_64 : decode cX6_lines 64 = .ok (.isub, 1) := by decide +kernel
theorem dX6_lines_65 : decode cX6_lines 65 = .ok (.iaload, 1) := by decide +kernel
theorem dX6_lines_66 : decode cX6_lines 66 = .ok (.iastore, 1) := by decide +kernel
theorem dX6_lines_67 : decode cX6_lines 67 = .ok (.iinc 3 (-1), 3) := by decide +kernel
theorem dX6_lines_70 : decode cX6_lines 70 = .ok (.goto (-38), 3) := by decide +kernel
theorem dX6_lines_73 : decode cX6_lines 73 = .ok (.aload_n 0, 1) := by decide +kernel
theorem dX6_lines_74 : decode cX6_lines 74 = .ok (.getfield 44, 3) := by decide +kernel
theorem dX6_lines_77 : decode cX6_lines 77 = .ok (.iload_n 3, 1) := by decide +kernel
theorem dX6_lines_78 : decode cX6_lines 78 = .ok (.iload_n 2, 1) := by decide +kernel
theorem dX6_lines_79 : decode cX6_lines 79 = .ok (.iastore, 1) := by decide +kernel
theorem dX6_lines_80 : decode cX6_lines 80 = .ok (.aload_n 0, 1) := by decide +kernel
theorem dX6_lines_81 : decode cX6_lines 81 = .ok (.dup, 1) := by decide +kernel
theorem dX6_lines_82 : decode cX6_lines 82 = .ok (.getfield 143, 3) := by decide +kernel
theorem dX6_lines_85 : decode cX6_lines 85 = .ok (.iconst 1, 1) := by decide +kernel
theorem dX6_lines_86 : decode cX6_lines 86 = .ok (.iadd, 1) := by decide +kernel
theorem dX6_lines_87 : decode cX6_lines 87 = .ok (.putfield 143, 3) := by decide +kernel
theorem dX6_lines_90 : decode cX6_lines 90 = .ok (.iinc 2 1, 3) := by decide +kernel
theorem dX6_lines_93 : decode cX6_lines 93 = .ok (.goto (-86), 3) := by decide +kernel
theorem dX6_lines_96 : decode cX6_lines 96 = .ok (.return_, 1) := by decide +kernel
theorem dX6_neededBy_0 : decode cX6_neededBy 0 = .ok (.iconst 1, 1) := by decide +kernel
theorem dX6_neededBy_1 : decode cX6_neededBy 1 = .ok (.aload_n 1, 1) := by decide +kernel
theorem dX6_neededBy_2 : decode cX6_neededBy 2 = .ok (.bipush 6, 2) := by decide +kernel
theorem dX6_neededBy_4 : decode cX6_neededBy 4 = .ok (.iload_n 2, 1) := by decide +kernel
theorem dX6_neededBy_5 : decode cX6_neededBy 5 = .ok (.iadd, 1) := by decide +kernel
theorem dX6_neededBy_6 : decode cX6_neededBy 6 = .ok (.iaload, 1) := by decide +kernel
theorem dX6_neededBy_7 : decode cX6_neededBy 7 = .ok (.isub, 1) := by decide +kernel
theorem dX6_neededBy_8 : decode cX6_neededBy 8 = .ok (.istore_n 3, 1) := by decide +kernel
theorem dX6_neededBy_9 : decode cX6_neededBy 9 = .ok (.iconst 0, 1) := by decide +kernel
theorem dX6_neededBy_10 : decode cX6_neededBy 10 = .ok (.istore 4, 2) := by decide +kernel
theorem dX6_neededBy_12 : decode cX6_neededBy 12 = .ok (.iconst 0, 1) := by decide +kernel
theorem dX6_neededBy_13 : decode cX6_neededBy 13 = .ok (.istore 5, 2) := by decide +kernel
theorem dX6_neededBy_15 : decode cX6_neededBy 15 = .ok (.iload 5, 2) := by decide +kernel
theorem dX6_neededBy_17 : decode cX6_neededBy 17 = .ok (.aload_n 0, 1) := by decide +kernel
theorem dX6_neededBy_18 : decode cX6_neededBy 18 = .ok (.getfield 13, 3) := by decide +kernel
theorem dX6_neededBy_21 : decode cX6_neededBy 21 = .ok (.iconst 0, 1) := by decide +kernel
theorem dX6_neededBy_22 : decode cX6_neededBy 22 = .ok (.iaload, 1) := by decide +kernel
theorem dX6_neededBy_23 : decode cX6_neededBy 23 = .ok (.if_icmp .ge 52, 3) := by decide +kernel
theorem dX6_neededBy_26 : decode cX6_neededBy 26 = .ok (.iload 4, 2) := by decide +kernel
theorem dX6_neededBy_28 : decode cX6_neededBy 28 = .ok (.ifCond .ne 34, 3) := by decide +kernel
theorem dX6_neededBy_31 : decode cX6_neededBy 31 = .ok (.aload_n 0, 1) := by decide +kernel
theorem dX6_neededBy_32 : decode cX6_neededBy 32 = .ok (.getfield 13, 3) := by decide +kernel
theorem dX6_neededBy_35 : decode cX6_neededBy 35 = .ok (.iconst 5, 1) := by decide +kernel
theorem dX6_neededBy_36 : decode cX6_neededBy 36 = .ok (.iload 5, 2) := by decide +kernel
theorem dX6_neededBy_38 : decode cX6_neededBy 38 = .ok (.iadd, 1) := by decide +kernel
theorem dX6_neededBy_39 : decode cX6_neededBy 39 = .ok (.iaload, 1) := by decide +kernel
theorem dX6_neededBy_40 : decode cX6_neededBy 40 = .ok (.aload_n 0, 1) := by decide +kernel
theorem dX6_neededBy_41 : decode cX6_neededBy 41 = .ok (.getfield 13, 3) := by decide +kernel
theorem dX6_neededBy_44 : decode cX6_neededBy 44 = .ok (.iconst 5, 1) := by decide +kernel
theorem dX6_neededBy_45 : decode cX6_neededBy 45 = .ok (.iload_n 2, 1) := by decide +kernel
theorem dX6_neededBy_46 : decode cX6_neededBy 46 = .ok (.iadd, 1) := by decide +kernel
theorem dX6_neededBy_47 : decode cX6_neededBy 47 = .ok (.iaload, 1) := by decide +kernel
theorem dX6_neededBy_48 : decode cX6_neededBy 48 = .ok (.if_icmp .ne 18, 3) := by decide +kernel
theorem dX6_neededBy_51 : decode cX6_neededBy 51 = .ok (.aload_n 1, 1) := by decide +kernel
theorem dX6_neededBy_52 : decode cX6_neededBy 52 = .ok (.bipush 6, 2) := by decide +kernel
theorem dX6_neededBy_54 : decode cX6_neededBy 54 = .ok (.iload 5, 2) := by decide +kernel
theorem dX6_neededBy_56 : decode cX6_neededBy 56 = .ok (.iadd, 1) := by decide +kernel
theorem dX6_neededBy_57 : decode cX6_neededBy 57 = .ok (.iaload, 1) := by decide +kernel
theorem dX6_neededBy_58 : decode cX6_neededBy 58 = .ok (.iload_n 3, 1) := by decide +kernel
theorem dX6_neededBy_59 : decode cX6_neededBy 59 = .ok (.if_icmp .ne 7, 3) := by decide +kernel
theorem dX6_neededBy_62 : decode cX6_neededBy 62 = .ok (.iconst 1, 1) := by decide +kernel
theorem dX6_neededBy_63 : decode cX6_neededBy 63 = .ok (.goto 4, 3) := by decide +kernel
theorem dX6_neededBy_66 : decode cX6_neededBy 66 = .ok (.iconst 0, 1) := by decide +kernel
theorem dX6_neededBy_67 : decode cX6_neededBy 67 = .ok (.istore 4, 2) := by decide +kernel
theorem dX6_neededBy_69 : decode cX6_neededBy 69 = .ok (.iinc 5 1, 3) := by decide +kernel
theorem dX6_neededBy_72 : decode cX6_neededBy 72 = .ok (.goto (-57), 3) := by decide +kernel
theorem dX6_neededBy_75 : decode cX6_neededBy 75 = .ok (.iconst 1, 1) := by decide +kernel
theorem dX6_neededBy_76 : decode cX6_neededBy 76 = .ok (.aload_n 1, 1) := by decide +kernel
theorem dX6_neededBy_77 : decode cX6_neededBy 77 = .ok (.bipush 6, 2) := by decide +kernel
theorem dX6_neededBy_79 : decode cX6_neededBy 79 = .ok (.iload_n 2, 1) := by decide +kernel
theorem dX6_neededBy_80 : decode cX6_neededBy 80 = .ok (.iadd, 1) := by decide +kernel
theorem dX6_neededBy_81 : decode cX6_neededBy 81 = .ok (.iaload, 1) := by decide +kernel
theorem dX6_neededBy_82 : decode cX6_neededBy 82 = .ok (.ishl, 1) := by decide +kernel
theorem dX6_neededBy_83 : decode cX6_neededBy 83 = .ok (.iload 4, 2) := by decide +kernel
theorem dX6_neededBy_85 : decode cX6_neededBy 85 = .ok (.ifCond .eq 17, 3) := by decide +kernel
theorem dX6_neededBy_88 : decode cX6_neededBy 88 = .ok (.aload_n 1, 1) := by decide +kernel
theorem dX6_neededBy_89 : decode cX6_neededBy 89 = .ok (.iconst 0, 1) := by decide +kernel
theorem dX6_neededBy_90 : decode cX6_neededBy 90 = .ok (.iload_n 3, 1) := by decide +kernel
theorem dX6_neededBy_91 : decode cX6_neededBy 91 = .ok (.iadd, 1) := by decide +kernel
theorem dX6_neededBy_92 : decode cX6_neededBy 92 = .ok (.iaload, 1) := by decide +kernel
theorem dX6_neededBy_93 : decode cX6_neededBy 93 = .ok (.ifCond .ge 9, 3) := by decide +kernel
theorem dX6_neededBy_96 : decode cX6_neededBy 96 = .ok (.iconst 1, 1) := by decide +kernel
theorem dX6_neededBy_97 : decode cX6_neededBy 97 = .ok (.iload_n 3, 1) := by decide +kernel
theorem dX6_neededBy_98 : decode cX6_neededBy 98 = .ok (.ishl, 1) := by decide +kernel
theorem dX6_neededBy_99 : decode cX6_neededBy 99 = .ok (.goto 4, 3) := by decide +kernel
theorem dX6_neededBy_102 : decode cX6_neededBy 102 = .ok (.iconst 0, 1) := by decide +kernel
theorem dX6_neededBy_103 : decode cX6_neededBy 103 = .ok (.ior, 1) := by decide +kernel
theorem dX6_neededBy_104 : decode cX6_neededBy 104 = .ok (.ireturn, 1) := by decide +kernel
theorem dX6_leastAt_0 : decode cX6_leastAt 0 = .ok (.bipush (-9), 2) := by decide +kernel
theorem dX6_leastAt_2 : decode cX6_leastAt 2 = .ok (.istore_n 3, 1) := by decide +kernel
theorem dX6_leastAt_3 : decode cX6_leastAt 3 = .ok (.iconst 0, 1) := by decide +kernel
theorem dX6_leastAt_4 : decode cX6_leastAt 4 = .ok (.istore 4, 2) := by decide +kernel
theorem dX6_leastAt_6 : decode cX6_leastAt 6 = .ok (.iload 4, 2) := by decide +kernel
theorem dX6_leastAt_8 : decode cX6_leastAt 8 = .ok (.aload_n 0, 1) := by decide +kernel
theorem dX6_leastAt_9 : decode cX6_leastAt 9 = .ok (.getfield 13, 3) := by decide +kernel
theorem dX6_leastAt_12 : decode cX6_leastAt 12 = .ok (.iconst 0, 1) := by decide +kernel
theorem dX6_leastAt_13 : decode cX6_leastAt 13 = .ok (.iaload, 1) := by decide +kernel
theorem dX6_leastAt_14 : decode cX6_leastAt 14 = .ok (.if_icmp .ge 91, 3) := by decide +kernel
theorem dX6_leastAt_17 : decode cX6_leastAt 17 = .ok (.aload_n 1, 1) := by decide +kernel
theorem dX6_leastAt_18 : decode cX6_leastAt 18 = .ok (.bipush 13, 2) := by decide +kernel
theorem dX6_leastAt_20 : decode cX6_leastAt 20 = .ok (.iload 4, 2) := by decide +kernel
theorem dX6_leastAt_22 : decode cX6_leastAt 22 = .ok (.iadd, 1) := by decide +kernel
theorem dX6_leastAt_23 : decode cX6_leastAt 23 = .ok (.iaload, 1) := by decide +kernel
theorem dX6_leastAt_24 : decode cX6_leastAt 24 = .ok (.iconst 4, 1) := by decide +kernel
theorem dX6_leastAt_25 : decode cX6_leastAt 25 = .ok (.if_icmp .ne 31, 3) := by decide +kernel
theorem dX6_leastAt_28 : decode cX6_leastAt 28 = .ok (.aload_n 1, 1) := by decide +kernel
theorem dX6_leastAt_29 : decode cX6_leastAt 29 = .ok (.bipush 27, 2) := by decide +kernel
theorem dX6_leastAt_31 : decode cX6_leastAt 31 = .ok (.iload 4, 2) := by decide +kernel
theorem dX6_leastAt_33 : decode cX6_leastAt 33 = .ok (.iadd, 1) := by decide +kernel
theorem dX6_leastAt_34 : decode cX6_leastAt 34 = .ok (.iaload, 1) := by decide +kernel
theorem dX6_leastAt_35 : decode cX6_leastAt 35 = .ok (.ifCond .ne 21, 3) := by decide +kernel
theorem dX6_leastAt_38 : decode cX6_leastAt 38 = .ok (.aload_n 1, 1) := by decide +kernel
theorem dX6_leastAt_39 : decode cX6_leastAt 39 = .ok (.bipush 34, 2) := by decide +kernel
theorem dX6_leastAt_41 : decode cX6_leastAt 41 = .ok (.iload 4, 2) := by decide +kernel
theorem dX6_leastAt_43 : decode cX6_leastAt 43 = .ok (.iadd, 1) := by decide +kernel
theorem dX6_leastAt_44 : decode cX6_leastAt 44 = .ok (.iaload, 1) := by decide +kernel
theorem dX6_leastAt_45 : decode cX6_leastAt 45 = .ok (.iload_n 2, 1) := by decide +kernel
theorem dX6_leastAt_46 : decode cX6_leastAt 46 = .ok (.invokestatic 139, 3) := by decide +kernel
theorem dX6_leastAt_49 : decode cX6_leastAt 49 = .ok (.ifCond .eq 7, 3) := by decide +kernel
theorem dX6_leastAt_52 : decode cX6_leastAt 52 = .ok (.iconst 1, 1) := by decide +kernel
theorem dX6_leastAt_53 : decode cX6_leastAt 53 = .ok (.goto 4, 3) := by decide +kernel
theorem dX6_leastAt_56 : decode cX6_leastAt 56 = .ok (.iconst 0, 1) := by decide +kernel
theorem dX6_leastAt_57 : decode cX6_leastAt 57 = .ok (.istore 5, 2) := by decide +kernel
theorem dX6_leastAt_59 : decode cX6_leastAt 59 = .ok (.iload 5, 2) := by decide +kernel
theorem dX6_leastAt_61 : decode cX6_leastAt 61 = .ok (.ifCond .eq 36, 3) := by decide +kernel
theorem dX6_leastAt_64 : decode cX6_leastAt 64 = .ok (.iload_n 3, 1) := by decide +kernel
theorem dX6_leastAt_65 : decode cX6_leastAt 65 = .ok (.bipush (-9), 2) := by decide +kernel
theorem dX6_leastAt_67 : decode cX6_leastAt 67 = .ok (.if_icmp .eq 25, 3) := by decide +kernel
theorem dX6_leastAt_70 : decode cX6_leastAt 70 = .ok (.aload_n 0, 1) := by decide +kernel
theorem dX6_leastAt_71 : decode cX6_leastAt 71 = .ok (.getfield 13, 3) := by decide +kernel
theorem dX6_leastAt_74 : decode cX6_leastAt 74 = .ok (.bipush 12, 2) := by decide +kernel
theorem dX6_leastAt_76 : decode cX6_leastAt 76 = .ok (.iload 4, 2) := by decide +kernel
theorem dX6_leastAt_78 : decode cX6_leastAt 78 = .ok (.iadd, 1) := by decide +kernel
theorem dX6_leastAt_79 : decode cX6_leastAt 79 = .ok (.iaload, 1) := by decide +kernel
theorem dX6_leastAt_80 : decode cX6_leastAt 80 = .ok (.aload_n 0, 1) := by decide +kernel
theorem dX6_leastAt_81 : decode cX6_leastAt 81 = .ok (.getfield 13, 3) := by decide +kernel
theorem dX6_leastAt_84 : decode cX6_leastAt 84 = .ok (.bipush 12, 2) := by decide +kernel
theorem dX6_leastAt_86 : decode cX6_leastAt 86 = .ok (.iload_n 3, 1) := by decide +kernel
theorem dX6_leastAt_87 : decode cX6_leastAt 87 = .ok (.iadd, 1) := by decide +kernel
theorem dX6_leastAt_88 : decode cX6_leastAt 88 = .ok (.iaload, 1) := by decide +kernel
theorem dX6_leastAt_89 : decode cX6_leastAt 89 = .ok (.if_icmp .gt 8, 3) := by decide +kernel
theorem dX6_leastAt_92 : decode cX6_leastAt 92 = .ok (.iload 4, 2) := by decide +kernel
theorem dX6_leastAt_94 : decode cX6_leastAt 94 = .ok (.goto 4, 3) := by decide +kernel
theorem dX6_leastAt_97 : decode cX6_leastAt 97 = .ok (.iload_n 3, 1) := by decide +kernel
theorem dX6_leastAt_98 : decode cX6_leastAt 98 = .ok (.istore_n 3, 1) := by decide +kernel
theorem dX6_leastAt_99 : decode cX6_leastAt 99 = .ok (.iinc 4 1, 3) := by decide +kernel
theorem dX6_leastAt_102 : decode cX6_leastAt 102 = .ok (.goto (-96), 3) := by decide +kernel
theorem dX6_leastAt_105 : decode cX6_leastAt 105 = .ok (.iload_n 3, 1) := by decide +kernel
theorem dX6_leastAt_106 : decode cX6_leastAt 106 = .ok (.ireturn, 1) := by decide +kernel
theorem dX6_isFree_0 : decode cX6_isFree 0 = .ok (.iload_n 2, 1) := by decide +kernel
theorem dX6_isFree_1 : decode cX6_isFree 1 = .ok (.iconst 0, 1) := by decide +kernel
theorem dX6_isFree_2 : decode cX6_isFree 2 = .ok (.invokestatic 139, 3) := by decide +kernel
theorem dX6_isFree_5 : decode cX6_isFree 5 = .ok (.ifCond .eq 12, 3) := by decide +kernel
theorem dX6_isFree_8 : decode cX6_isFree 8 = .ok (.aload_n 0, 1) := by decide +kernel
theorem dX6_isFree_9 : decode cX6_isFree 9 = .ok (.aload_n 1, 1) := by decide +kernel
theorem dX6_isFree_10 : decode cX6_isFree 10 = .ok (.iconst 0, 1) := by decide +kernel
theorem dX6_isFree_11 : decode cX6_isFree 11 = .ok (.invokevirtual 149, 3) := by decide +kernel
theorem dX6_isFree_14 : decode cX6_isFree 14 = .ok (.ifCond .le 24, 3) := by decide +kernel
theorem dX6_isFree_17 : decode cX6_isFree 17 = .ok (.iload_n 2, 1) := by decide +kernel
theorem dX6_isFree_18 : decode cX6_isFree 18 = .ok (.iconst 1, 1) := by decide +kernel
theorem dX6_isFree_19 : decode cX6_isFree 19 = .ok (.invokestatic 139, 3) := by decide +kernel
theorem dX6_isFree_22 : decode cX6_isFree 22 = .ok (.ifCond .eq 12, 3) := by decide +kernel
theorem dX6_isFree_25 : decode cX6_isFree 25 = .ok (.aload_n 0, 1) := by decide +kernel
theorem dX6_isFree_26 : decode cX6_isFree 26 = .ok (.aload_n 1, 1) := by decide +kernel
theorem dX6_isFree_27 : decode cX6_isFree 27 = .ok (.iconst 1, 1) := by decide +kernel
theorem dX6_isFree_28 : decode cX6_isFree 28 = .ok (.invokevirtual 149, 3) := by decide +kernel
theorem dX6_isFree_31 : decode cX6_isFree 31 = .ok (.ifCond .le 7, 3) := by decide +kernel
theorem dX6_isFree_34 : decode cX6_isFree 34 = .ok (.iconst 1, 1) := by decide +kernel
theorem dX6_isFree_35 : decode cX6_isFree 35 = .ok (.goto 4, 3) := by decide +kernel
theorem dX6_isFree_38 : decode cX6_isFree 38 = .ok (.iconst 0, 1) := by decide +kernel
theorem dX6_isFree_39 : decode cX6_isFree 39 = .ok (.ireturn, 1) := by decide +kernel
theorem dX6_takesOver_0 : decode cX6_takesOver 0 = .ok (.iconst 1, 1) := by decide +kernel
theorem dX6_takesOver_1 : decode cX6_takesOver 1 = .ok (.istore_n 3, 1) := by decide +kernel
theorem dX6_takesOver_2 : decode cX6_takesOver 2 = .ok (.iconst 0, 1) := by decide +kernel
theorem dX6_takesOver_3 : decode cX6_takesOver 3 = .ok (.istore 4, 2) := by decide +kernel
theorem dX6_takesOver_5 : decode cX6_takesOver 5 = .ok (.iload 4, 2) := by decide +kernel
theorem dX6_takesOver_7 : decode cX6_takesOver 7 = .ok (.iconst 2, 1) := by decide +kernel
theorem dX6_takesOver_8 : decode cX6_takesOver 8 = .ok (.if_icmp .ge 50, 3) := by decide +kernel
theorem dX6_takesOver_11 : decode cX6_takesOver 11 = .ok (.iload_n 3, 1) := by decide +kernel
theorem dX6_takesOver_12 : decode cX6_takesOver 12 = .ok (.ifCond .eq 38, 3) := by decide +kernel
theorem dX6_takesOver_15 : decode cX6_takesOver 15 = .ok (.iload_n 2, 1) := by decide +kernel
theorem dX6_takesOver_16 : decode cX6_takesOver 16 = .ok (.iload 4, 2) := by decide +kernel
theorem dX6_takesOver_18 : decode cX6_takesOver 18 = .ok (.invokestatic 139, 3) := by decide +kernel
theorem dX6_takesOver_21 : decode cX6_takesOver 21 = .ok (.ifCond .eq 25, 3) := by decide +kernel
theorem dX6_takesOver_24 : decode cX6_takesOver 24 = .ok (.aload_n 0, 1) := by decide +kernel
theorem dX6_takesOver_25 : decode cX6_takesOver 25 = .ok (.aload_n 1, 1) := by decide +kernel
theorem dX6_takesOver_26 : decode cX6_takesOver 26 = .ok (.iload 4, 2) := by decide +kernel
theorem dX6_takesOver_28 : decode cX6_takesOver 28 = .ok (.invokevirtual 149, 3) := by decide +kernel
theorem dX6_takesOver_31 : decode cX6_takesOver 31 = .ok (.ifCond .gt 15, 3) := by decide +kernel
theorem dX6_takesOver_34 : decode cX6_takesOver 34 = .ok (.aload_n 0, 1) := by decide +kernel
theorem dX6_takesOver_35 : decode cX6_takesOver 35 = .ok (.aload_n 1, 1) := by decide +kernel
theorem dX6_takesOver_36 : decode cX6_takesOver 36 = .ok (.iload 4, 2) := by decide +kernel
theorem dX6_takesOver_38 : decode cX6_takesOver 38 = .ok (.invokevirtual 152, 3) := by decide +kernel
theorem dX6_takesOver_41 : decode cX6_takesOver 41 = .ok (.bipush (-9), 2) := by decide +kernel
theorem dX6_takesOver_43 : decode cX6_takesOver 43 = .ok (.if_icmp .eq 7, 3) := by decide +kernel
theorem dX6_takesOver_46 : decode cX6_takesOver 46 = .ok (.iconst 1, 1) := by decide +kernel
theorem dX6_takesOver_47 : decode cX6_takesOver 47 = .ok (.goto 4, 3) := by decide +kernel
theorem dX6_takesOver_50 : decode cX6_takesOver 50 = .ok (.iconst 0, 1) := by decide +kernel
theorem dX6_takesOver_51 : decode cX6_takesOver 51 = .ok (.istore_n 3, 1) := by decide +kernel
theorem dX6_takesOver_52 : decode cX6_takesOver 52 = .ok (.iinc 4 1, 3) := by decide +kernel
theorem dX6_takesOver_55 : decode cX6_takesOver 55 = .ok (.goto (-50), 3) := by decide +kernel
theorem dX6_takesOver_58 : decode cX6_takesOver 58 = .ok (.iconst 0, 1) := by decide +kernel
theorem dX6_takesOver_59 : decode cX6_takesOver 59 = .ok (.istore 4, 2) := by decide +kernel
theorem dX6_takesOver_61 : decode cX6_takesOver 61 = .ok (.iload 4, 2) := by decide +kernel
theorem dX6_takesOver_63 : decode cX6_takesOver 63 = .ok (.iconst 2, 1) := by decide +kernel
theorem dX6_takesOver_64 : decode cX6_takesOver 64 = .ok (.if_icmp .ge 43, 3) := by decide +kernel
theorem dX6_takesOver_67 : decode cX6_takesOver 67 = .ok (.iload_n 3, 1) := by decide +kernel
theorem dX6_takesOver_68 : decode cX6_takesOver 68 = .ok (.ifCond .eq 39, 3) := by decide +kernel
theorem dX6_takesOver_71 : decode cX6_takesOver 71 = .ok (.iload_n 2, 1) := by decide +kernel
theorem dX6_takesOver_72 : decode cX6_takesOver 72 = .ok (.iload 4, 2) := by decide +kernel
theorem dX6_takesOver_74 : decode cX6_takesOver 74 = .ok (.invokestatic 139, 3) := by decide +kernel
theorem dX6_takesOver_77 : decode cX6_takesOver 77 = .ok (.ifCond .eq 24, 3) := by decide +kernel
theorem dX6_takesOver_80 : decode cX6_takesOver 80 = .ok (.aload_n 0, 1) := by decide +kernel
theorem dX6_takesOver_81 : decode cX6_takesOver 81 = .ok (.aload_n 1, 1) := by decide +kernel
theorem dX6_takesOver_82 : decode cX6_takesOver 82 = .ok (.iload 4, 2) := by decide +kernel
theorem dX6_takesOver_84 : decode cX6_takesOver 84 = .ok (.invokevirtual 149, 3) := by decide +kernel
theorem dX6_takesOver_87 : decode cX6_takesOver 87 = .ok (.ifCond .gt 14, 3) := by decide +kernel
theorem dX6_takesOver_90 : decode cX6_takesOver 90 = .ok (.aload_n 1, 1) := by decide +kernel
theorem dX6_takesOver_91 : decode cX6_takesOver 91 = .ok (.aload_n 0, 1) := by decide +kernel
theorem dX6_takesOver_92 : decode cX6_takesOver 92 = .ok (.aload_n 1, 1) := by decide +kernel
theorem dX6_takesOver_93 : decode cX6_takesOver 93 = .ok (.iload 4, 2) := by decide +kernel
theorem dX6_takesOver_95 : decode cX6_takesOver 95 = .ok (.invokevirtual 152, 3) := by decide +kernel
theorem dX6_takesOver_98 : decode cX6_takesOver 98 = .ok (.invokestatic 155, 3) := by decide +kernel
theorem dX6_takesOver_101 : decode cX6_takesOver 101 = .ok (.iinc 4 1, 3) := by decide +kernel
theorem dX6_takesOver_104 : decode cX6_takesOver 104 = .ok (.goto (-43), 3) := by decide +kernel
theorem dX6_takesOver_107 : decode cX6_takesOver 107 = .ok (.return_, 1) := by decide +kernel
theorem dX6_serves_0 : decode cX6_serves 0 = .ok (.aload_n 0, 1) := by decide +kernel
theorem dX6_serves_1 : decode cX6_serves 1 = .ok (.aload_n 1, 1) := by decide +kernel
theorem dX6_serves_2 : decode cX6_serves 2 = .ok (.aload_n 0, 1) := by decide +kernel
theorem dX6_serves_3 : decode cX6_serves 3 = .ok (.getfield 13, 3) := by decide +kernel
theorem dX6_serves_6 : decode cX6_serves 6 = .ok (.iconst 5, 1) := by decide +kernel
theorem dX6_serves_7 : decode cX6_serves 7 = .ok (.iload_n 2, 1) := by decide +kernel
theorem dX6_serves_8 : decode cX6_serves 8 = .ok (.iadd, 1) := by decide +kernel
theorem dX6_serves_9 : decode cX6_serves 9 = .ok (.iaload, 1) := by decide +kernel
theorem dX6_serves_10 : decode cX6_serves 10 = .ok (.invokevirtual 159, 3) := by decide +kernel
theorem dX6_serves_13 : decode cX6_serves 13 = .ok (.istore_n 3, 1) := by decide +kernel
theorem dX6_serves_14 : decode cX6_serves 14 = .ok (.iload_n 3, 1) := by decide +kernel
theorem dX6_serves_15 : decode cX6_serves 15 = .ok (.bipush (-9), 2) := by decide +kernel
theorem dX6_serves_17 : decode cX6_serves 17 = .ok (.if_icmp .eq 28, 3) := by decide +kernel
theorem dX6_serves_20 : decode cX6_serves 20 = .ok (.aload_n 1, 1) := by decide +kernel
theorem dX6_serves_21 : decode cX6_serves 21 = .ok (.bipush 27, 2) := by decide +kernel
theorem dX6_serves_23 : decode cX6_serves 23 = .ok (.iload_n 2, 1) := by decide +kernel
theorem dX6_serves_24 : decode cX6_serves 24 = .ok (.iadd, 1) := by decide +kernel
theorem dX6_serves_25 : decode cX6_serves 25 = .ok (.iaload, 1) := by decide +kernel
theorem dX6_serves_26 : decode cX6_serves 26 = .ok (.ifCond .eq 13, 3) := by decide +kernel
theorem dX6_serves_29 : decode cX6_serves 29 = .ok (.aload_n 1, 1) := by decide +kernel
theorem dX6_serves_30 : decode cX6_serves 30 = .ok (.bipush 27, 2) := by decide +kernel
theorem dX6_serves_32 : decode cX6_serves 32 = .ok (.iload_n 3, 1) := by decide +kernel
theorem dX6_serves_33 : decode cX6_serves 33 = .ok (.iadd, 1) := by decide +kernel
theorem dX6_serves_34 : decode cX6_serves 34 = .ok (.iaload, 1) := by decide +kernel
theorem dX6_serves_35 : decode cX6_serves 35 = .ok (.iconst 1, 1) := by decide +kernel
theorem dX6_serves_36 : decode cX6_serves 36 = .ok (.if_icmp .ne 4, 3) := by decide +kernel
theorem dX6_serves_39 : decode cX6_serves 39 = .ok (.return_, 1) := by decide +kernel
theorem dX6_serves_40 : decode cX6_serves 40 = .ok (.aload_n 1, 1) := by decide +kernel
theorem dX6_serves_41 : decode cX6_serves 41 = .ok (.iload_n 3, 1) := by decide +kernel
theorem dX6_serves_42 : decode cX6_serves 42 = .ok (.invokestatic 155, 3) := by decide +kernel
theorem dX6_serves_45 : decode cX6_serves 45 = .ok (.aload_n 0, 1) := by decide +kernel
theorem dX6_serves_46 : decode cX6_serves 46 = .ok (.aload_n 1, 1) := by decide +kernel
theorem dX6_serves_47 : decode cX6_serves 47 = .ok (.iload_n 2, 1) := by decide +kernel
theorem dX6_serves_48 : decode cX6_serves 48 = .ok (.invokevirtual 162, 3) := by decide +kernel
theorem dX6_serves_51 : decode cX6_serves 51 = .ok (.istore 4, 2) := by decide +kernel
theorem dX6_serves_53 : decode cX6_serves 53 = .ok (.aload_n 0, 1) := by decide +kernel
theorem dX6_serves_54 : decode cX6_serves 54 = .ok (.aload_n 1, 1) := by decide +kernel
theorem dX6_serves_55 : decode cX6_serves 55 = .ok (.iload 4, 2) := by decide +kernel
theorem dX6_serves_57 : decode cX6_serves 57 = .ok (.invokevirtual 165, 3) := by decide +kernel
theorem dX6_serves_60 : decode cX6_serves 60 = .ok (.ifCond .ne 20, 3) := by decide +kernel
theorem dX6_serves_63 : decode cX6_serves 63 = .ok (.aload_n 1, 1) := by decide +kernel
theorem dX6_serves_64 : decode cX6_serves 64 = .ok (.bipush 27, 2) := by decide +kernel
theorem dX6_serves_66 : decode cX6_serves 66 = .ok (.iload_n 2, 1) := by decide +kernel
theorem dX6_serves_67 : decode cX6_serves 67 = .ok (.iadd, 1) := by decide +kernel
theorem dX6_serves_68 : decode cX6_serves 68 = .ok (.iaload, 1) := by decide +kernel
theorem dX6_serves_69 : decode cX6_serves 69 = .ok (.iconst 1, 1) := by decide +kernel
theorem dX6_serves_70 : decode cX6_serves 70 = .ok (.if_icmp .ne 10, 3) := by decide +kernel
theorem dX6_serves_73 : decode cX6_serves 73 = .ok (.aload_n 0, 1) := by decide +kernel
theorem dX6_serves_74 : decode cX6_serves 74 = .ok (.aload_n 1, 1) := by decide +kernel
theorem dX6_serves_75 : decode cX6_serves 75 = .ok (.iload 4, 2) := by decide +kernel
theorem dX6_serves_77 : decode cX6_serves 77 = .ok (.invokevirtual 169, 3) := by decide +kernel
theorem dX6_serves_80 : decode cX6_serves 80 = .ok (.aload_n 0, 1) := by decide +kernel
theorem dX6_serves_81 : decode cX6_serves 81 = .ok (.aload_n 1, 1) := by decide +kernel
theorem dX6_serves_82 : decode cX6_serves 82 = .ok (.iload 4, 2) := by decide +kernel
theorem dX6_serves_84 : decode cX6_serves 84 = .ok (.invokevirtual 165, 3) := by decide +kernel
theorem dX6_serves_87 : decode cX6_serves 87 = .ok (.ifCond .eq 25, 3) := by decide +kernel
theorem dX6_serves_90 : decode cX6_serves 90 = .ok (.aload_n 1, 1) := by decide +kernel
theorem dX6_serves_91 : decode cX6_serves 91 = .ok (.iload_n 2, 1) := by decide +kernel
theorem dX6_serves_92 : decode cX6_serves 92 = .ok (.iconst 4, 1) := by decide +kernel
theorem dX6_serves_93 : decode cX6_serves 93 = .ok (.iconst 0, 1) := by decide +kernel
theorem dX6_serves_94 : decode cX6_serves 94 = .ok (.invokestatic 135, 3) := by decide +kernel
theorem dX6_serves_97 : decode cX6_serves 97 = .ok (.aload_n 1, 1) := by decide +kernel
theorem dX6_serves_98 : decode cX6_serves 98 = .ok (.bipush 34, 2) := by decide +kernel
theorem dX6_serves_100 : decode cX6_serves 100 = .ok (.iload_n 2, 1) := by decide +kernel
theorem dX6_serves_101 : decode cX6_serves 101 = .ok (.iadd, 1) := by decide +kernel
theorem dX6_serves_102 : decode cX6_serves 102 = .ok (.iload 4, 2) := by decide +kernel
theorem dX6_serves_104 : decode cX6_serves 104 = .ok (.iastore, 1) := by decide +kernel
theorem dX6_serves_105 : decode cX6_serves 105 = .ok (.aload_n 1, 1) := by decide +kernel
theorem dX6_serves_106 : decode cX6_serves 106 = .ok (.iconst 3, 1) := by decide +kernel
theorem dX6_serves_107 : decode cX6_serves 107 = .ok (.dup2, 1) := by decide +kernel
theorem dX6_serves_108 : decode cX6_serves 108 = .ok (.iaload, 1) := by decide +kernel
theorem dX6_serves_109 : decode cX6_serves 109 = .ok (.iconst 1, 1) := by decide +kernel
theorem dX6_serves_110 : decode cX6_serves 110 = .ok (.iadd, 1) := by decide +kernel
theorem dX6_serves_111 : decode cX6_serves 111 = .ok (.iastore, 1) := by decide +kernel
theorem dX6_serves_112 : decode cX6_serves 112 = .ok (.return_, 1) := by decide +kernel
theorem dX6_goes_0 : decode cX6_goes 0 = .ok (.iconst 0, 1) := by decide +kernel
theorem dX6_goes_1 : decode cX6_goes 1 = .ok (.istore_n 2, 1) := by decide +kernel
theorem dX6_goes_2 : decode cX6_goes 2 = .ok (.iload_n 2, 1) := by decide +kernel
theorem dX6_goes_3 : decode cX6_goes 3 = .ok (.aload_n 0, 1) := by decide +kernel
theorem dX6_goes_4 : decode cX6_goes 4 = .ok (.getfield 13, 3) := by decide +kernel
theorem dX6_goes_7 : decode cX6_goes 7 = .ok (.iconst 0, 1) := by decide +kernel
theorem dX6_goes_8 : decode cX6_goes 8 = .ok (.iaload, 1) := by decide +kernel
theorem dX6_goes_9 : decode cX6_goes 9 = .ok (.if_icmp .ge 21, 3) := by decide +kernel
theorem dX6_goes_12 : decode cX6_goes 12 = .ok (.aload_n 0, 1) := by decide +kernel
theorem dX6_goes_13 : decode cX6_goes 13 = .ok (.getfield 47, 3) := by decide +kernel
theorem dX6_goes_16 : decode cX6_goes 16 = .ok (.iload_n 2, 1) := by decide +kernel
theorem dX6_goes_17 : decode cX6_goes 17 = .ok (.aload_n 1, 1) := by decide +kernel
theorem dX6_goes_18 : decode cX6_goes 18 = .ok (.bipush 13, 2) := by decide +kernel
theorem dX6_goes_20 : decode cX6_goes 20 = .ok (.iload_n 2, 1) := by decide +kernel
theorem dX6_goes_21 : decode cX6_goes 21 = .ok (.iadd, 1) := by decide +kernel
theorem dX6_goes_22 : decode cX6_goes 22 = .ok (.iaload, 1) := by decide +kernel
theorem dX6_goes_23 : decode cX6_goes 23 = .ok (.iastore, 1) := by decide +kernel
theorem dX6_goes_24 : decode cX6_goes 24 = .ok (.iinc 2 1, 3) := by decide +kernel
theorem dX6_goes_27 : decode cX6_goes 27 = .ok (.goto (-25), 3) := by decide +kernel
theorem dX6_goes_30 : decode cX6_goes 30 = .ok (.iconst 0, 1) := by decide +kernel
theorem dX6_goes_31 : decode cX6_goes 31 = .ok (.istore_n 2, 1) := by decide +kernel
theorem dX6_goes_32 : decode cX6_goes 32 = .ok (.iload_n 2, 1) := by decide +kernel
theorem dX6_goes_33 : decode cX6_goes 33 = .ok (.iconst 2, 1) := by decide +kernel
theorem dX6_goes_34 : decode cX6_goes 34 = .ok (.if_icmp .ge 72, 3) := by decide +kernel
theorem dX6_goes_37 : decode cX6_goes 37 = .ok (.aload_n 1, 1) := by decide +kernel
theorem dX6_goes_38 : decode cX6_goes 38 = .ok (.iconst 0, 1) := by decide +kernel
theorem dX6_goes_39 : decode cX6_goes 39 = .ok (.iload_n 2, 1) := by decide +kernel
theorem dX6_goes_40 : decode cX6_goes 40 = .ok (.iadd, 1) := by decide +kernel
theorem dX6_goes_41 : decode cX6_goes 41 = .ok (.dup2, 1) := by decide +kernel
theorem dX6_goes_42 : decode cX6_goes 42 = .ok (.iaload, 1) := by decide +kernel
theorem dX6_goes_43 : decode cX6_goes 43 = .ok (.aload_n 1, 1) := by decide +kernel
theorem dX6_goes_44 : decode cX6_goes 44 = .ok (.iconst 0, 1) := by decide +kernel
theorem dX6_goes_45 : decode cX6_goes 45 = .ok (.iload_n 2, 1) := by decide +kernel
theorem dX6_goes_46 : decode cX6_goes 46 = .ok (.iadd, 1) := by decide +kernel
theorem dX6_goes_47 : decode cX6_goes 47 = .ok (.iaload, 1) := by decide +kernel
theorem dX6_goes_48 : decode cX6_goes 48 = .ok (.ifCond .lt 17, 3) := by decide +kernel
theorem dX6_goes_51 : decode cX6_goes 51 = .ok (.aload_n 1, 1) := by decide +kernel
theorem dX6_goes_52 : decode cX6_goes 52 = .ok (.iconst 0, 1) := by decide +kernel
theorem dX6_goes_53 : decode cX6_goes 53 = .ok (.iload_n 2, 1) := by decide +kernel
theorem dX6_goes_54 : decode cX6_goes 54 = .ok (.iadd, 1) := by decide +kernel
theorem dX6_goes_55 : decode cX6_goes 55 = .ok (.iaload, 1) := by decide +kernel
theorem dX6_goes_56 : decode cX6_goes 56 = .ok (.bipush 99, 2) := by decide +kernel
theorem dX6_goes_58 : decode cX6_goes 58 = .ok (.if_icmp .ge 7, 3) := by decide +kernel
theorem dX6_goes_61 : decode cX6_goes 61 = .ok (.iconst 1, 1) := by decide +kernel
theorem dX6_goes_62 : decode cX6_goes 62 = .ok (.goto 4, 3) := by decide +kernel
theorem dX6_goes_65 : decode cX6_goes 65 = .ok (.iconst 0, 1) := by decide +kernel
theorem dX6_goes_66 : decode cX6_goes 66 = .ok (.iadd, 1) := by decide +kernel
theorem dX6_goes_67 : decode cX6_goes 67 = .ok (.iastore, 1) := by decide +kernel
theorem dX6_goes_68 : decode cX6_goes 68 = .ok (.aload_n 1, 1) := by decide +kernel
theorem dX6_goes_69 : decode cX6_goes 69 = .ok (.iconst 0, 1) := by decide +kernel
theorem dX6_goes_70 : decode cX6_goes 70 = .ok (.iload_n 2, 1) := by decide +kernel
theorem dX6_goes_71 : decode cX6_goes 71 = .ok (.iadd, 1) := by decide +kernel
theorem dX6_goes_72 : decode cX6_goes 72 = .ok (.iaload, 1) := by decide +kernel
theorem dX6_goes_73 : decode cX6_goes 73 = .ok (.ifCond .ge 12, 3) := by decide +kernel
theorem dX6_goes_76 : decode cX6_goes 76 = .ok (.aload_n 0, 1) := by decide +kernel
theorem dX6_goes_77 : decode cX6_goes 77 = .ok (.aload_n 1, 1) := by decide +kernel
theorem dX6_goes_78 : decode cX6_goes 78 = .ok (.iload_n 2, 1) := by decide +kernel
theorem dX6_goes_79 : decode cX6_goes 79 = .ok (.invokevirtual 172, 3) := by decide +kernel
theorem dX6_goes_82 : decode cX6_goes 82 = .ok (.goto 18, 3) := by decide +kernel
theorem dX6_goes_85 : decode cX6_goes 85 = .ok (.aload_n 1, 1) := by decide +kernel
theorem dX6_goes_86 : decode cX6_goes 86 = .ok (.iconst 0, 1) := by decide +kernel
theorem dX6_goes_87 : decode cX6_goes 87 = .ok (.iload_n 2, 1) := by decide +kernel
theorem dX6_goes_88 : decode cX6_goes 88 = .ok (.iadd, 1) := by decide +kernel
theorem dX6_goes_89 : decode cX6_goes 89 = .ok (.iaload, 1) := by decide +kernel
theorem dX6_goes_90 : decode cX6_goes 90 = .ok (.iconst 1, 1) := by decide +kernel
theorem dX6_goes_91 : decode cX6_goes 91 = .ok (.if_icmp .le 9, 3) := by decide +kernel
theorem dX6_goes_94 : decode cX6_goes 94 = .ok (.aload_n 0, 1) := by decide +kernel
theorem dX6_goes_95 : decode cX6_goes 95 = .ok (.aload_n 1, 1) := by decide +kernel
theorem dX6_goes_96 : decode cX6_goes 96 = .ok (.iload_n 2, 1) := by decide +kernel
theorem dX6_goes_97 : decode cX6_goes 97 = .ok (.invokevirtual 175, 3) := by decide +kernel
theorem dX6_goes_100 : decode cX6_goes 100 = .ok (.iinc 2 1, 3) := by decide +kernel
theorem dX6_goes_103 : decode cX6_goes 103 = .ok (.goto (-71), 3) := by decide +kernel
theorem dX6_goes_106 : decode cX6_goes 106 = .ok (.iconst 0, 1) := by decide +kernel
theorem dX6_goes_107 : decode cX6_goes 107 = .ok (.istore_n 2, 1) := by decide +kernel
theorem dX6_goes_108 : decode cX6_goes 108 = .ok (.iload_n 2, 1) := by decide +kernel
theorem dX6_goes_109 : decode cX6_goes 109 = .ok (.aload_n 0, 1) := by decide +kernel
theorem dX6_goes_110 : decode cX6_goes 110 = .ok (.getfield 13, 3) := by decide +kernel
theorem dX6_goes_113 : decode cX6_goes 113 = .ok (.iconst 0, 1) := by decide +kernel
theorem dX6_goes_114 : decode cX6_goes 114 = .ok (.iaload, 1) := by decide +kernel
theorem dX6_goes_115 : decode cX6_goes 115 = .ok (.if_icmp .ge 106, 3) := by decide +kernel
theorem dX6_goes_118 : decode cX6_goes 118 = .ok (.aload_n 0, 1) := by decide +kernel
theorem dX6_goes_119 : decode cX6_goes 119 = .ok (.getfield 47, 3) := by decide +kernel
theorem dX6_goes_122 : decode cX6_goes 122 = .ok (.iload_n 2, 1) := by decide +kernel
theorem dX6_goes_123 : decode cX6_goes 123 = .ok (.iaload, 1) := by decide +kernel
theorem dX6_goes_124 : decode cX6_goes 124 = .ok (.iconst 2, 1) := by decide +kernel
theorem dX6_goes_125 : decode cX6_goes 125 = .ok (.if_icmp .ne 33, 3) := by decide +kernel
theorem dX6_goes_128 : decode cX6_goes 128 = .ok (.aload_n 1, 1) := by decide +kernel
theorem dX6_goes_129 : decode cX6_goes 129 = .ok (.bipush 20, 2) := by decide +kernel
theorem dX6_goes_131 : decode cX6_goes 131 = .ok (.iload_n 2, 1) := by decide +kernel
theorem dX6_goes_132 : decode cX6_goes 132 = .ok (.iadd, 1) := by decide +kernel
theorem dX6_goes_133 : decode cX6_goes 133 = .ok (.dup2, 1) := by decide +kernel
theorem dX6_goes_134 : decode cX6_goes 134 = .ok (.iaload, 1) := by decide +kernel
theorem dX6_goes_135 : decode cX6_goes 135 = .ok (.iconst 1, 1) := by decide +kernel
theorem dX6_goes_136 : decode cX6_goes 136 = .ok (.isub, 1) := by decide +kernel
theorem dX6_goes_137 : decode cX6_goes 137 = .ok (.iastore, 1) := by decide +kernel
theorem dX6_goes_138 : decode cX6_goes 138 = .ok (.aload_n 1, 1) := by decide +kernel
theorem dX6_goes_139 : decode cX6_goes 139 = .ok (.bipush 13, 2) := by decide +kernel
theorem dX6_goes_141 : decode cX6_goes 141 = .ok (.iload_n 2, 1) := by decide +kernel
theorem dX6_goes_142 : decode cX6_goes 142 = .ok (.iadd, 1) := by decide +kernel
theorem dX6_goes_143 : decode cX6_goes 143 = .ok (.aload_n 1, 1) := by decide +kernel
theorem dX6_goes_144 : decode cX6_goes 144 = .ok (.bipush 20, 2) := by decide +kernel
theorem dX6_goes_146 : decode cX6_goes 146 = .ok (.iload_n 2, 1) := by decide +kernel
theorem dX6_goes_147 : decode cX6_goes 147 = .ok (.iadd, 1) := by decide +kernel
theorem dX6_goes_148 : decode cX6_goes 148 = .ok (.iaload, 1) := by decide +kernel
theorem dX6_goes_149 : decode cX6_goes 149 = .ok (.ifCond .ne 7, 3) := by decide +kernel
theorem dX6_goes_152 : decode cX6_goes 152 = .ok (.iconst 1, 1) := by decide +kernel
theorem dX6_goes_153 : decode cX6_goes 153 = .ok (.goto 4, 3) := by decide +kernel
theorem dX6_goes_156 : decode cX6_goes 156 = .ok (.iconst 2, 1) := by decide +kernel
theorem dX6_goes_157 : decode cX6_goes 157 = .ok (.iastore, 1) := by decide +kernel
theorem dX6_goes_158 : decode cX6_goes 158 = .ok (.aload_n 0, 1) := by decide +kernel
theorem dX6_goes_159 : decode cX6_goes 159 = .ok (.getfield 47, 3) := by decide +kernel
theorem dX6_goes_162 : decode cX6_goes 162 = .ok (.iload_n 2, 1) := by decide +kernel
theorem dX6_goes_163 : decode cX6_goes 163 = .ok (.iaload, 1) := by decide +kernel
theorem dX6_goes_164 : decode cX6_goes 164 = .ok (.iconst 4, 1) := by decide +kernel
theorem dX6_goes_165 : decode cX6_goes 165 = .ok (.if_icmp .eq 13, 3) := by decide +kernel
theorem dX6_goes_168 : decode cX6_goes 168 = .ok (.aload_n 0, 1) := by decide +kernel
theorem dX6_goes_169 : decode cX6_goes 169 = .ok (.getfield 47, 3) := by decide +kernel
theorem dX6_goes_172 : decode cX6_goes 172 = .ok (.iload_n 2, 1) := by decide +kernel
theorem dX6_goes_173 : decode cX6_goes 173 = .ok (.iaload, 1) := by decide +kernel
theorem dX6_goes_174 : decode cX6_goes 174 = .ok (.iconst 5, 1) := by decide +kernel
theorem dX6_goes_175 : decode cX6_goes 175 = .ok (.if_icmp .ne 40, 3) := by decide +kernel
theorem dX6_goes_178 : decode cX6_goes 178 = .ok (.aload_n 1, 1) := by decide +kernel
theorem dX6_goes_179 : decode cX6_goes 179 = .ok (.bipush 20, 2) := by decide +kernel
theorem dX6_goes_181 : decode cX6_goes 181 = .ok (.iload_n 2, 1) := by decide +kernel
theorem dX6_goes_182 : decode cX6_goes 182 = .ok (.iadd, 1) := by decide +kernel
theorem dX6_goes_183 : decode cX6_goes 183 = .ok (.dup2, 1) := by decide +kernel
theorem dX6_goes_184 : decode cX6_goes 184 = .ok (.iaload, 1) := by decide +kernel
theorem dX6_goes_185 : decode cX6_goes 185 = .ok (.iconst 1, 1) := by decide +kernel
theorem dX6_goes_186 : decode cX6_goes 186 = .ok (.iadd, 1) := by decide +kernel
theorem dX6_goes_187 : decode cX6_goes 187 = .ok (.iastore, 1) := by decide +kernel
theorem dX6_goes_188 : decode cX6_goes 188 = .ok (.aload_n 1, 1) := by decide +kernel
theorem dX6_goes_189 : decode cX6_goes 189 = .ok (.bipush 20, 2) := by decide +kernel
theorem dX6_goes_191 : decode cX6_goes 191 = .ok (.iload_n 2, 1) := by decide +kernel
theorem dX6_goes_192 : decode cX6_goes 192 = .ok (.iadd, 1) := by decide +kernel
theorem dX6_goes_193 : decode cX6_goes 193 = .ok (.iaload, 1) := by decide +kernel
theorem dX6_goes_194 : decode cX6_goes 194 = .ok (.aload_n 0, 1) := by decide +kernel
theorem dX6_goes_195 : decode cX6_goes 195 = .ok (.getfield 13, 3) := by decide +kernel
theorem dX6_goes_198 : decode cX6_goes 198 = .ok (.iconst 1, 1) := by decide +kernel
theorem dX6_goes_199 : decode cX6_goes 199 = .ok (.iaload, 1) := by decide +kernel
theorem dX6_goes_200 : decode cX6_goes 200 = .ok (.if_icmp .ne 15, 3) := by decide +kernel
theorem dX6_goes_203 : decode cX6_goes 203 = .ok (.aload_n 1, 1) := by decide +kernel
theorem dX6_goes_204 : decode cX6_goes 204 = .ok (.iload_n 2, 1) := by decide +kernel
theorem dX6_goes_205 : decode cX6_goes 205 = .ok (.invokestatic 155, 3) := by decide +kernel
theorem dX6_goes_208 : decode cX6_goes 208 = .ok (.aload_n 1, 1) := by decide +kernel
theorem dX6_goes_209 : decode cX6_goes 209 = .ok (.iconst 4, 1) := by decide +kernel
theorem dX6_goes_210 : decode cX6_goes 210 = .ok (.dup2, 1) := by decide +kernel
theorem dX6_goes_211 : decode cX6_goes 211 = .ok (.iaload, 1) := by decide +kernel
theorem dX6_goes_212 : decode cX6_goes 212 = .ok (.iconst 1, 1) := by decide +kernel
theorem dX6_goes_213 : decode cX6_goes 213 = .ok (.iadd, 1) := by decide +kernel
theorem dX6_goes_214 : decode cX6_goes 214 = .ok (.iastore, 1) := by decide +kernel
theorem dX6_goes_215 : decode cX6_goes 215 = .ok (.iinc 2 1, 3) := by decide +kernel
theorem dX6_goes_218 : decode cX6_goes 218 = .ok (.goto (-110), 3) := by decide +kernel
theorem dX6_goes_221 : decode cX6_goes 221 = .ok (.aload_n 0, 1) := by decide +kernel
theorem dX6_goes_222 : decode cX6_goes 222 = .ok (.aload_n 1, 1) := by decide +kernel
theorem dX6_goes_223 : decode cX6_goes 223 = .ok (.invokevirtual 178, 3) := by decide +kernel
theorem dX6_goes_226 : decode cX6_goes 226 = .ok (.iconst 0, 1) := by decide +kernel
theorem dX6_goes_227 : decode cX6_goes 227 = .ok (.istore_n 2, 1) := by decide +kernel
theorem dX6_goes_228 : decode cX6_goes 228 = .ok (.iload_n 2, 1) := by decide +kernel
theorem dX6_goes_229 : decode cX6_goes 229 = .ok (.aload_n 0, 1) := by decide +kernel
theorem dX6_goes_230 : decode cX6_goes 230 = .ok (.getfield 143, 3) := by decide +kernel
theorem dX6_goes_233 : decode cX6_goes 233 = .ok (.if_icmp .ge 20, 3) := by decide +kernel
theorem dX6_goes_236 : decode cX6_goes 236 = .ok (.aload_n 0, 1) := by decide +kernel
theorem dX6_goes_237 : decode cX6_goes 237 = .ok (.aload_n 1, 1) := by decide +kernel
theorem dX6_goes_238 : decode cX6_goes 238 = .ok (.aload_n 0, 1) := by decide +kernel
theorem dX6_goes_239 : decode cX6_goes 239 = .ok (.getfield 44, 3) := by decide +kernel
theorem dX6_goes_242 : decode cX6_goes 242 = .ok (.iload_n 2, 1) := by decide +kernel
theorem dX6_goes_243 : decode cX6_goes 243 = .ok (.iaload, 1) := by decide +kernel
theorem dX6_goes_244 : decode cX6_goes 244 = .ok (.invokevirtual 182, 3) := by decide +kernel
theorem dX6_goes_247 : decode cX6_goes 247 = .ok (.iinc 2 1, 3) := by decide +kernel
theorem dX6_goes_250 : decode cX6_goes 250 = .ok (.goto (-22), 3) := by decide +kernel
theorem dX6_goes_253 : decode cX6_goes 253 = .ok (.iconst 0, 1) := by decide +kernel
theorem dX6_goes_254 : decode cX6_goes 254 = .ok (.istore_n 2, 1) := by decide +kernel
theorem dX6_goes_255 : decode cX6_goes 255 = .ok (.iload_n 2, 1) := by decide +kernel
theorem dX6_goes_256 : decode cX6_goes 256 = .ok (.aload_n 0, 1) := by decide +kernel
theorem dX6_goes_257 : decode cX6_goes 257 = .ok (.getfield 13, 3) := by decide +kernel
theorem dX6_goes_260 : decode cX6_goes 260 = .ok (.iconst 0, 1) := by decide +kernel
theorem dX6_goes_261 : decode cX6_goes 261 = .ok (.iaload, 1) := by decide +kernel
theorem dX6_goes_262 : decode cX6_goes 262 = .ok (.if_icmp .ge 56, 3) := by decide +kernel
theorem dX6_goes_265 : decode cX6_goes 265 = .ok (.aload_n 1, 1) := by decide +kernel
theorem dX6_goes_266 : decode cX6_goes 266 = .ok (.bipush 13, 2) := by decide +kernel
theorem dX6_goes_268 : decode cX6_goes 268 = .ok (.iload_n 2, 1) := by decide +kernel
theorem dX6_goes_269 : decode cX6_goes 269 = .ok (.iadd, 1) := by decide +kernel
theorem dX6_goes_270 : decode cX6_goes 270 = .ok (.iaload, 1) := by decide +kernel
theorem dX6_goes_271 : decode cX6_goes 271 = .ok (.iconst 3, 1) := by decide +kernel
theorem dX6_goes_272 : decode cX6_goes 272 = .ok (.if_icmp .ne 40, 3) := by decide +kernel
theorem dX6_goes_275 : decode cX6_goes 275 = .ok (.aload_n 1, 1) := by decide +kernel
theorem dX6_goes_276 : decode cX6_goes 276 = .ok (.bipush 20, 2) := by decide +kernel
theorem dX6_goes_278 : decode cX6_goes 278 = .ok (.iload_n 2, 1) := by decide +kernel
theorem dX6_goes_279 : decode cX6_goes 279 = .ok (.iadd, 1) := by decide +kernel
theorem dX6_goes_280 : decode cX6_goes 280 = .ok (.dup2, 1) := by decide +kernel
theorem dX6_goes_281 : decode cX6_goes 281 = .ok (.iaload, 1) := by decide +kernel
theorem dX6_goes_282 : decode cX6_goes 282 = .ok (.iconst 1, 1) := by decide +kernel
theorem dX6_goes_283 : decode cX6_goes 283 = .ok (.iadd, 1) := by decide +kernel
theorem dX6_goes_284 : decode cX6_goes 284 = .ok (.iastore, 1) := by decide +kernel
theorem dX6_goes_285 : decode cX6_goes 285 = .ok (.aload_n 1, 1) := by decide +kernel
theorem dX6_goes_286 : decode cX6_goes 286 = .ok (.bipush 20, 2) := by decide +kernel
theorem dX6_goes_288 : decode cX6_goes 288 = .ok (.iload_n 2, 1) := by decide +kernel
theorem dX6_goes_289 : decode cX6_goes 289 = .ok (.iadd, 1) := by decide +kernel
theorem dX6_goes_290 : decode cX6_goes 290 = .ok (.iaload, 1) := by decide +kernel
theorem dX6_goes_291 : decode cX6_goes 291 = .ok (.aload_n 0, 1) := by decide +kernel
theorem dX6_goes_292 : decode cX6_goes 292 = .ok (.getfield 13, 3) := by decide +kernel
theorem dX6_goes_295 : decode cX6_goes 295 = .ok (.iconst 2, 1) := by decide +kernel
theorem dX6_goes_296 : decode cX6_goes 296 = .ok (.iaload, 1) := by decide +kernel
theorem dX6_goes_297 : decode cX6_goes 297 = .ok (.if_icmp .le 15, 3) := by decide +kernel
theorem dX6_goes_300 : decode cX6_goes 300 = .ok (.aload_n 1, 1) := by decide +kernel
theorem dX6_goes_301 : decode cX6_goes 301 = .ok (.iload_n 2, 1) := by decide +kernel
theorem dX6_goes_302 : decode cX6_goes 302 = .ok (.invokestatic 155, 3) := by decide +kernel
theorem dX6_goes_305 : decode cX6_goes 305 = .ok (.aload_n 1, 1) := by decide +kernel
theorem dX6_goes_306 : decode cX6_goes 306 = .ok (.iconst 5, 1) := by decide +kernel
theorem dX6_goes_307 : decode cX6_goes 307 = .ok (.dup2, 1) := by decide +kernel
theorem dX6_goes_308 : decode cX6_goes 308 = .ok (.iaload, 1) := by decide +kernel
theorem dX6_goes_309 : decode cX6_goes 309 = .ok (.iconst 1, 1) := by decide +kernel
theorem dX6_goes_310 : decode cX6_goes 310 = .ok (.iadd, 1) := by decide +kernel
theorem dX6_goes_311 : decode cX6_goes 311 = .ok (.iastore, 1) := by decide +kernel
theorem dX6_goes_312 : decode cX6_goes 312 = .ok (.iinc 2 1, 3) := by decide +kernel
theorem dX6_goes_315 : decode cX6_goes 315 = .ok (.goto (-60), 3) := by decide +kernel
theorem dX6_goes_318 : decode cX6_goes 318 = .ok (.aload_n 1, 1) := by decide +kernel
theorem dX6_goes_319 : decode cX6_goes 319 = .ok (.iconst 2, 1) := by decide +kernel
theorem dX6_goes_320 : decode cX6_goes 320 = .ok (.dup2, 1) := by decide +kernel
theorem dX6_goes_321 : decode cX6_goes 321 = .ok (.iaload, 1) := by decide +kernel
theorem dX6_goes_322 : decode cX6_goes 322 = .ok (.iconst 1, 1) := by decide +kernel
theorem dX6_goes_323 : decode cX6_goes 323 = .ok (.iadd, 1) := by decide +kernel
theorem dX6_goes_324 : decode cX6_goes 324 = .ok (.iastore, 1) := by decide +kernel
theorem dX6_goes_325 : decode cX6_goes 325 = .ok (.return_, 1) := by decide +kernel
theorem dX6_isOn_0 : decode cX6_isOn 0 = .ok (.aload_n 1, 1) := by decide +kernel
theorem dX6_isOn_1 : decode cX6_isOn 1 = .ok (.bipush 13, 2) := by decide +kernel
theorem dX6_isOn_3 : decode cX6_isOn 3 = .ok (.iload_n 2, 1) := by decide +kernel
theorem dX6_isOn_4 : decode cX6_isOn 4 = .ok (.iadd, 1) := by decide +kernel
theorem dX6_isOn_5 : decode cX6_isOn 5 = .ok (.iaload, 1) := by decide +kernel
theorem dX6_isOn_6 : decode cX6_isOn 6 = .ok (.iconst 4, 1) := by decide +kernel
theorem dX6_isOn_7 : decode cX6_isOn 7 = .ok (.if_icmp .eq 13, 3) := by decide +kernel
theorem dX6_isOn_10 : decode cX6_isOn 10 = .ok (.aload_n 1, 1) := by decide +kernel
theorem dX6_isOn_11 : decode cX6_isOn 11 = .ok (.bipush 13, 2) := by decide +kernel
theorem dX6_isOn_13 : decode cX6_isOn 13 = .ok (.iload_n 2, 1) := by decide +kernel
theorem dX6_isOn_14 : decode cX6_isOn 14 = .ok (.iadd, 1) := by decide +kernel
theorem dX6_isOn_15 : decode cX6_isOn 15 = .ok (.iaload, 1) := by decide +kernel
theorem dX6_isOn_16 : decode cX6_isOn 16 = .ok (.iconst 5, 1) := by decide +kernel
theorem dX6_isOn_17 : decode cX6_isOn 17 = .ok (.if_icmp .ne 7, 3) := by decide +kernel
theorem dX6_isOn_20 : decode cX6_isOn 20 = .ok (.iconst 1, 1) := by decide +kernel
theorem dX6_isOn_21 : decode cX6_isOn 21 = .ok (.goto 4, 3) := by decide +kernel
theorem dX6_isOn_24 : decode cX6_isOn 24 = .ok (.iconst 0, 1) := by decide +kernel
theorem dX6_isOn_25 : decode cX6_isOn 25 = .ok (.ireturn, 1) := by decide +kernel
theorem dX6_notes_0 : decode cX6_notes 0 = .ok (.aload_n 0, 1) := by decide +kernel
theorem dX6_notes_1 : decode cX6_notes 1 = .ok (.getfield 124, 3) := by decide +kernel
theorem dX6_notes_4 : decode cX6_notes 4 = .ok (.bipush 12, 2) := by decide +kernel
theorem dX6_notes_6 : decode cX6_notes 6 = .ok (.if_icmp .ne 39, 3) := by decide +kernel
theorem dX6_notes_9 : decode cX6_notes 9 = .ok (.iconst 0, 1) := by decide +kernel
theorem dX6_notes_10 : decode cX6_notes 10 = .ok (.istore_n 1, 1) := by decide +kernel
theorem dX6_notes_11 : decode cX6_notes 11 = .ok (.iload_n 1, 1) := by decide +kernel
theorem dX6_notes_12 : decode cX6_notes 12 = .ok (.sipush 451, 3) := by decide +kernel
theorem dX6_notes_15 : decode cX6_notes 15 = .ok (.if_icmp .ge 24, 3) := by decide +kernel
theorem dX6_notes_18 : decode cX6_notes 18 = .ok (.aload_n 0, 1) := by decide +kernel
theorem dX6_notes_19 : decode cX6_notes 19 = .ok (.getfield 28, 3) := by decide +kernel
theorem dX6_notes_22 : decode cX6_notes 22 = .ok (.iload_n 1, 1) := by decide +kernel
theorem dX6_notes_23 : decode cX6_notes 23 = .ok (.aload_n 0, 1) := by decide +kernel
theorem dX6_notes_24 : decode cX6_notes 24 = .ok (.getfield 28, 3) := by decide +kernel
theorem dX6_notes_27 : decode cX6_notes 27 = .ok (.iload_n 1, 1) := by decide +kernel
theorem dX6_notes_28 : decode cX6_notes 28 = .ok (.bipush 41, 2) := by decide +kernel
theorem dX6_notes_30 : decode cX6_notes 30 = .ok (.iadd, 1) := by decide +kernel
theorem dX6_notes_31 : decode cX6_notes 31 = .ok (.iaload, 1) := by decide +kernel
theorem dX6_notes_32 : decode cX6_notes 32 = .ok (.iastore, 1) := by decide +kernel
theorem dX6_notes_33 : decode cX6_notes 33 = .ok (.iinc 1 1, 3) := by decide +kernel
theorem dX6_notes_36 : decode cX6_notes 36 = .ok (.goto (-25), 3) := by decide +kernel
theorem dX6_notes_39 : decode cX6_notes 39 = .ok (.aload_n 0, 1) := by decide +kernel
theorem dX6_notes_40 : decode cX6_notes 40 = .ok (.bipush 11, 2) := by decide +kernel
theorem dX6_notes_42 : decode cX6_notes 42 = .ok (.putfield 124, 3) := by decide +kernel
theorem dX6_notes_45 : decode cX6_notes 45 = .ok (.iconst 0, 1) := by decide +kernel
theorem dX6_notes_46 : decode cX6_notes 46 = .ok (.istore_n 1, 1) := by decide +kernel
theorem dX6_notes_47 : decode cX6_notes 47 = .ok (.iload_n 1, 1) := by decide +kernel
theorem dX6_notes_48 : decode cX6_notes 48 = .ok (.bipush 41, 2) := by decide +kernel
theorem dX6_notes_50 : decode cX6_notes 50 = .ok (.if_icmp .ge 29, 3) := by decide +kernel
theorem dX6_notes_53 : decode cX6_notes 53 = .ok (.aload_n 0, 1) := by decide +kernel
theorem dX6_notes_54 : decode cX6_notes 54 = .ok (.getfield 28, 3) := by decide +kernel
theorem dX6_notes_57 : decode cX6_notes 57 = .ok (.bipush 41, 2) := by decide +kernel
theorem dX6_notes_59 : decode cX6_notes 59 = .ok (.aload_n 0, 1) := by decide +kernel
theorem dX6_notes_60 : decode cX6_notes 60 = .ok (.getfield 124, 3) := by decide +kernel
theorem dX6_notes_63 : decode cX6_notes 63 = .ok (.imul, 1) := by decide +kernel
theorem dX6_notes_64 : decode cX6_notes 64 = .ok (.iload_n 1, 1) := by decide +kernel
theorem dX6_notes_65 : decode cX6_notes 65 = .ok (.iadd, 1) := by decide +kernel
theorem dX6_notes_66 : decode cX6_notes 66 = .ok (.aload_n 0, 1) := by decide +kernel
theorem dX6_notes_67 : decode cX6_notes 67 = .ok (.getfield 22, 3) := by decide +kernel
theorem dX6_notes_70 : decode cX6_notes 70 = .ok (.iload_n 1, 1) := by decide +kernel
theorem dX6_notes_71 : decode cX6_notes 71 = .ok (.iaload, 1) := by decide +kernel
theorem dX6_notes_72 : decode cX6_notes 72 = .ok (.iastore, 1) := by decide +kernel
theorem dX6_notes_73 : decode cX6_notes 73 = .ok (.iinc 1 1, 3) := by decide +kernel
theorem dX6_notes_76 : decode cX6_notes 76 = .ok (.goto (-29), 3) := by decide +kernel
theorem dX6_notes_79 : decode cX6_notes 79 = .ok (.aload_n 0, 1) := by decide +kernel
theorem dX6_notes_80 : decode cX6_notes 80 = .ok (.dup, 1) := by decide +kernel
theorem dX6_notes_81 : decode cX6_notes 81 = .ok (.getfield 124, 3) := by decide +kernel
theorem dX6_notes_84 : decode cX6_notes 84 = .ok (.iconst 1, 1) := by decide +kernel
theorem dX6_notes_85 : decode cX6_notes 85 = .ok (.iadd, 1) := by decide +kernel
theorem dX6_notes_86 : decode cX6_notes 86 = .ok (.putfield 124, 3) := by decide +kernel
theorem dX6_notes_89 : decode cX6_notes 89 = .ok (.return_, 1) := by decide +kernel
theorem dX6_ticks_0 : decode cX6_ticks 0 = .ok (.aload_n 0, 1) := by decide +kernel
theorem dX6_ticks_1 : decode cX6_ticks 1 = .ok (.iconst 0, 1) := by decide +kernel
theorem dX6_ticks_2 : decode cX6_ticks 2 = .ok (.putfield 59, 3) := by decide +kernel
theorem dX6_ticks_5 : decode cX6_ticks 5 = .ok (.iload_n 1, 1) := by decide +kernel
theorem dX6_ticks_6 : decode cX6_ticks 6 = .ok (.iconst 1, 1) := by decide +kernel
theorem dX6_ticks_7 : decode cX6_ticks 7 = .ok (.bipush 12, 2) := by decide +kernel
theorem dX6_ticks_9 : decode cX6_ticks 9 = .ok (.invokestatic 63, 3) := by decide +kernel
theorem dX6_ticks_12 : decode cX6_ticks 12 = .ok (.ifCond .ne 5, 3) := by decide +kernel
theorem dX6_ticks_15 : decode cX6_ticks 15 = .ok (.iconst (-1), 1) := by decide +kernel
theorem dX6_ticks_16 : decode cX6_ticks 16 = .ok (.ireturn, 1) := by decide +kernel
theorem dX6_ticks_17 : decode cX6_ticks 17 = .ok (.aload_n 0, 1) := by decide +kernel
theorem dX6_ticks_18 : decode cX6_ticks 18 = .ok (.getfield 22, 3) := by decide +kernel
theorem dX6_ticks_21 : decode cX6_ticks 21 = .ok (.iconst 2, 1) := by decide +kernel
theorem dX6_ticks_22 : decode cX6_ticks 22 = .ok (.iaload, 1) := by decide +kernel
theorem dX6_ticks_23 : decode cX6_ticks 23 = .ok (.iload_n 1, 1) := by decide +kernel
theorem dX6_ticks_24 : decode cX6_ticks 24 = .ok (.iadd, 1) := by decide +kernel
theorem dX6_ticks_25 : decode cX6_ticks 25 = .ok (.sipush 999, 3) := by decide +kernel
theorem dX6_ticks_28 : decode cX6_ticks 28 = .ok (.if_icmp .le 6, 3) := by decide +kernel
theorem dX6_ticks_31 : decode cX6_ticks 31 = .ok (.bipush (-3), 2) := by decide +kernel
theorem dX6_ticks_33 : decode cX6_ticks 33 = .ok (.ireturn, 1) := by decide +kernel
theorem dX6_ticks_34 : decode cX6_ticks 34 = .ok (.iconst 0, 1) := by decide +kernel
theorem dX6_ticks_35 : decode cX6_ticks 35 = .ok (.istore_n 2, 1) := by decide +kernel
theorem dX6_ticks_36 : decode cX6_ticks 36 = .ok (.iload_n 2, 1) := by decide +kernel
theorem dX6_ticks_37 : decode cX6_ticks 37 = .ok (.iload_n 1, 1) := by decide +kernel
theorem dX6_ticks_38 : decode cX6_ticks 38 = .ok (.if_icmp .ge 21, 3) := by decide +kernel
theorem dX6_ticks_41 : decode cX6_ticks 41 = .ok (.aload_n 0, 1) := by decide +kernel
theorem dX6_ticks_42 : decode cX6_ticks 42 = .ok (.invokevirtual 185, 3) := by decide +kernel
theorem dX6_ticks_45 : decode cX6_ticks 45 = .ok (.aload_n 0, 1) := by decide +kernel
theorem dX6_ticks_46 : decode cX6_ticks 46 = .ok (.aload_n 0, 1) := by decide +kernel
theorem dX6_ticks_47 : decode cX6_ticks 47 = .ok (.getfield 22, 3) := by decide +kernel
theorem dX6_ticks_50 : decode cX6_ticks 50 = .ok (.invokevirtual 188, 3) := by decide +kernel
theorem dX6_ticks_53 : decode cX6_ticks 53 = .ok (.iinc 2 1, 3) := by decide +kernel
theorem dX6_ticks_56 : decode cX6_ticks 56 = .ok (.goto (-20), 3) := by decide +kernel
theorem dX6_ticks_59 : decode cX6_ticks 59 = .ok (.iconst 0, 1) := by decide +kernel
theorem dX6_ticks_60 : decode cX6_ticks 60 = .ok (.istore_n 2, 1) := by decide +kernel
theorem dX6_ticks_61 : decode cX6_ticks 61 = .ok (.iconst 0, 1) := by decide +kernel
theorem dX6_ticks_62 : decode cX6_ticks 62 = .ok (.istore_n 3, 1) := by decide +kernel
theorem dX6_ticks_63 : decode cX6_ticks 63 = .ok (.iload_n 3, 1) := by decide +kernel
theorem dX6_ticks_64 : decode cX6_ticks 64 = .ok (.aload_n 0, 1) := by decide +kernel
theorem dX6_ticks_65 : decode cX6_ticks 65 = .ok (.getfield 13, 3) := by decide +kernel
theorem dX6_ticks_68 : decode cX6_ticks 68 = .ok (.iconst 0, 1) := by decide +kernel
theorem dX6_ticks_69 : decode cX6_ticks 69 = .ok (.iaload, 1) := by decide +kernel
theorem dX6_ticks_70 : decode cX6_ticks 70 = .ok (.if_icmp .ge 29, 3) := by decide +kernel
theorem dX6_ticks_73 : decode cX6_ticks 73 = .ok (.iload_n 2, 1) := by decide +kernel
theorem dX6_ticks_74 : decode cX6_ticks 74 = .ok (.aload_n 0, 1) := by decide +kernel
theorem dX6_ticks_75 : decode cX6_ticks 75 = .ok (.aload_n 0, 1) := by decide +kernel
theorem dX6_ticks_76 : decode cX6_ticks 76 = .ok (.getfield 22, 3) := by decide +kernel
theorem dX6_ticks_79 : decode cX6_ticks 79 = .ok (.iload_n 3, 1) := by decide +kernel
theorem dX6_ticks_80 : decode cX6_ticks 80 = .ok (.invokevirtual 191, 3) := by decide +kernel
theorem dX6_ticks_83 : decode cX6_ticks 83 = .ok (.ifCond .eq 7, 3) := by decide +kernel
theorem dX6_ticks_86 : decode cX6_ticks 86 = .ok (.iconst 1, 1) := by decide +kernel
theorem dX6_ticks_87 : decode cX6_ticks 87 = .ok (.goto 4, 3) := by decide +kernel
theorem dX6_ticks_90 : decode cX6_ticks 90 = .ok (.iconst 0, 1) := by decide +kernel
theorem dX6_ticks_91 : decode cX6_ticks 91 = .ok (.iadd, 1) := by decide +kernel
theorem dX6_ticks_92 : decode cX6_ticks 92 = .ok (.istore_n 2, 1) := by decide +kernel
theorem dX6_ticks_93 : decode cX6_ticks 93 = .ok (.iinc 3 1, 3) := by decide +kernel
theorem dX6_ticks_96 : decode cX6_ticks 96 = .ok (.goto (-33), 3) := by decide +kernel
theorem dX6_ticks_99 : decode cX6_ticks 99 = .ok (.iload_n 2, 1) := by decide +kernel
theorem dX6_ticks_100 : decode cX6_ticks 100 = .ok (.ireturn, 1) := by decide +kernel
theorem dX6_presses_0 : decode cX6_presses 0 = .ok (.aload_n 0, 1) := by decide +kernel
theorem dX6_presses_1 : decode cX6_presses 1 = .ok (.iconst 0, 1) := by decide +kernel
theorem dX6_presses_2 : decode cX6_presses 2 = .ok (.putfield 59, 3) := by decide +kernel
theorem dX6_presses_5 : decode cX6_presses 5 = .ok (.aload_n 0, 1) := by decide +kernel
theorem dX6_presses_6 : decode cX6_presses 6 = .ok (.iload_n 1, 1) := by decide +kernel
theorem dX6_presses_7 : decode cX6_presses 7 = .ok (.invokevirtual 194, 3) := by decide +kernel
theorem dX6_presses_10 : decode cX6_presses 10 = .ok (.ifCond .eq 12, 3) := by decide +kernel
theorem dX6_presses_13 : decode cX6_presses 13 = .ok (.iload_n 2, 1) := by decide +kernel
theorem dX6_presses_14 : decode cX6_presses 14 = .ok (.iconst 0, 1) := by decide +kernel
theorem dX6_presses_15 : decode cX6_presses 15 = .ok (.iconst 1, 1) := by decide +kernel
theorem dX6_presses_16 : decode cX6_presses 16 = .ok (.invokestatic 63, 3) := by decide +kernel
theorem dX6_presses_19 : decode cX6_presses 19 = .ok (.ifCond .ne 5, 3) := by decide +kernel
theorem dX6_presses_22 : decode cX6_presses 22 = .ok (.iconst (-1), 1) := by decide +kernel
theorem dX6_presses_23 : decode cX6_presses 23 = .ok (.ireturn, 1) := by decide +kernel
theorem dX6_presses_24 : decode cX6_presses 24 = .ok (.aload_n 0, 1) := by decide +kernel
theorem dX6_presses_25 : decode cX6_presses 25 = .ok (.getfield 22, 3) := by decide +kernel
theorem dX6_presses_28 : decode cX6_presses 28 = .ok (.bipush 13, 2) := by decide +kernel
theorem dX6_presses_30 : decode cX6_presses 30 = .ok (.iload_n 1, 1) := by decide +kernel
theorem dX6_presses_31 : decode cX6_presses 31 = .ok (.iadd, 1) := by decide +kernel
theorem dX6_presses_32 : decode cX6_presses 32 = .ok (.iaload, 1) := by decide +kernel
theorem dX6_presses_33 : decode cX6_presses 33 = .ok (.ifCond .eq 6, 3) := by decide +kernel
theorem dX6_presses_36 : decode cX6_presses 36 = .ok (.bipush (-2), 2) := by decide +kernel
theorem dX6_presses_38 : decode cX6_presses 38 = .ok (.ireturn, 1) := by decide +kernel
theorem dX6_presses_39 : decode cX6_presses 39 = .ok (.aload_n 0, 1) := by decide +kernel
theorem dX6_presses_40 : decode cX6_presses 40 = .ok (.invokevirtual 185, 3) := by decide +kernel
theorem dX6_presses_43 : decode cX6_presses 43 = .ok (.aload_n 0, 1) := by decide +kernel
theorem dX6_presses_44 : decode cX6_presses 44 = .ok (.getfield 22, 3) := by decide +kernel
theorem dX6_presses_47 : decode cX6_presses 47 = .ok (.bipush 13, 2) := by decide +kernel
theorem dX6_presses_49 : decode cX6_presses 49 = .ok (.iload_n 1, 1) := by decide +kernel
theorem dX6_presses_50 : decode cX6_presses 50 = .ok (.iadd, 1) := by decide +kernel
theorem dX6_presses_51 : decode cX6_presses 51 = .ok (.iconst 1, 1) := by decide +kernel
theorem dX6_presses_52 : decode cX6_presses 52 = .ok (.iastore, 1) := by decide +kernel
theorem dX6_presses_53 : decode cX6_presses 53 = .ok (.aload_n 0, 1) := by decide +kernel
theorem dX6_presses_54 : decode cX6_presses 54 = .ok (.getfield 22, 3) := by decide +kernel
theorem dX6_presses_57 : decode cX6_presses 57 = .ok (.bipush 27, 2) := by decide +kernel
theorem dX6_presses_59 : decode cX6_presses 59 = .ok (.iload_n 1, 1) := by decide +kernel
theorem dX6_presses_60 : decode cX6_presses 60 = .ok (.iadd, 1) := by decide +kernel
theorem dX6_presses_61 : decode cX6_presses 61 = .ok (.iload_n 2, 1) := by decide +kernel
theorem dX6_presses_62 : decode cX6_presses 62 = .ok (.iastore, 1) := by decide +kernel
theorem dX6_presses_63 : decode cX6_presses 63 = .ok (.aload_n 0, 1) := by decide +kernel
theorem dX6_presses_64 : decode cX6_presses 64 = .ok (.getfield 22, 3) := by decide +kernel
theorem dX6_presses_67 : decode cX6_presses 67 = .ok (.bipush 6, 2) := by decide +kernel
theorem dX6_presses_69 : decode cX6_presses 69 = .ok (.iload_n 1, 1) := by decide +kernel
theorem dX6_presses_70 : decode cX6_presses 70 = .ok (.iadd, 1) := by decide +kernel
theorem dX6_presses_71 : decode cX6_presses 71 = .ok (.iaload, 1) := by decide +kernel
theorem dX6_presses_72 : decode cX6_presses 72 = .ok (.ireturn, 1) := by decide +kernel
theorem dX6_releases_0 : decode cX6_releases 0 = .ok (.aload_n 0, 1) := by decide +kernel
theorem dX6_releases_1 : decode cX6_releases 1 = .ok (.iconst 0, 1) := by decide +kernel
theorem dX6_releases_2 : decode cX6_releases 2 = .ok (.putfield 59, 3) := by decide +kernel
theorem dX6_releases_5 : decode cX6_releases 5 = .ok (.aload_n 0, 1) := by decide +kernel
theorem dX6_releases_6 : decode cX6_releases 6 = .ok (.iload_n 1, 1) := by decide +kernel
theorem dX6_releases_7 : decode cX6_releases 7 = .ok (.invokevirtual 194, 3) := by decide +kernel
theorem dX6_releases_10 : decode cX6_releases 10 = .ok (.ifCond .ne 5, 3) := by decide +kernel
theorem dX6_releases_13 : decode cX6_releases 13 = .ok (.iconst (-1), 1) := by decide +kernel
theorem dX6_releases_14 : decode cX6_releases 14 = .ok (.ireturn, 1) := by decide +kernel
theorem dX6_releases_15 : decode cX6_releases 15 = .ok (.aload_n 0, 1) := by decide +kernel
theorem dX6_releases_16 : decode cX6_releases 16 = .ok (.getfield 22, 3) := by decide +kernel
theorem dX6_releases_19 : decode cX6_releases 19 = .ok (.bipush 13, 2) := by decide +kernel
theorem dX6_releases_21 : decode cX6_releases 21 = .ok (.iload_n 1, 1) := by decide +kernel
theorem dX6_releases_22 : decode cX6_releases 22 = .ok (.iadd, 1) := by decide +kernel
theorem dX6_releases_23 : decode cX6_releases 23 = .ok (.iaload, 1) := by decide +kernel
theorem dX6_releases_24 : decode cX6_releases 24 = .ok (.istore_n 2, 1) := by decide +kernel
theorem dX6_releases_25 : decode cX6_releases 25 = .ok (.iload_n 2, 1) := by decide +kernel
theorem dX6_releases_26 : decode cX6_releases 26 = .ok (.ifCond .ne 6, 3) := by decide +kernel
theorem dX6_releases_29 : decode cX6_releases 29 = .ok (.bipush (-2), 2) := by decide +kernel
theorem dX6_releases_31 : decode cX6_releases 31 = .ok (.ireturn, 1) := by decide +kernel
theorem dX6_releases_32 : decode cX6_releases 32 = .ok (.aload_n 0, 1) := by decide +kernel
theorem dX6_releases_33 : decode cX6_releases 33 = .ok (.invokevirtual 185, 3) := by decide +kernel
theorem dX6_releases_36 : decode cX6_releases 36 = .ok (.aload_n 0, 1) := by decide +kernel
theorem dX6_releases_37 : decode cX6_releases 37 = .ok (.getfield 22, 3) := by decide +kernel
theorem dX6_releases_40 : decode cX6_releases 40 = .ok (.iload_n 1, 1) := by decide +kernel
theorem dX6_releases_41 : decode cX6_releases 41 = .ok (.invokestatic 155, 3) := by decide +kernel
theorem dX6_releases_44 : decode cX6_releases 44 = .ok (.iload_n 2, 1) := by decide +kernel
theorem dX6_releases_45 : decode cX6_releases 45 = .ok (.ireturn, 1) := by decide +kernel
theorem dX6_controls_0 : decode cX6_controls 0 = .ok (.aload_n 0, 1) := by decide +kernel
theorem dX6_controls_1 : decode cX6_controls 1 = .ok (.iconst 0, 1) := by decide +kernel
theorem dX6_controls_2 : decode cX6_controls 2 = .ok (.putfield 59, 3) := by decide +kernel
theorem dX6_controls_5 : decode cX6_controls 5 = .ok (.iload_n 1, 1) := by decide +kernel
theorem dX6_controls_6 : decode cX6_controls 6 = .ok (.iconst 0, 1) := by decide +kernel
theorem dX6_controls_7 : decode cX6_controls 7 = .ok (.iconst 1, 1) := by decide +kernel
theorem dX6_controls_8 : decode cX6_controls 8 = .ok (.invokestatic 63, 3) := by decide +kernel
theorem dX6_controls_11 : decode cX6_controls 11 = .ok (.ifCond .eq 12, 3) := by decide +kernel
theorem dX6_controls_14 : decode cX6_controls 14 = .ok (.iload_n 2, 1) := by decide +kernel
theorem dX6_controls_15 : decode cX6_controls 15 = .ok (.iconst 0, 1) := by decide +kernel
theorem dX6_controls_16 : decode cX6_controls 16 = .ok (.iconst 1, 1) := by decide +kernel
theorem dX6_controls_17 : decode cX6_controls 17 = .ok (.invokestatic 63, 3) := by decide +kernel
theorem dX6_controls_20 : decode cX6_controls 20 = .ok (.ifCond .ne 5, 3) := by decide +kernel
theorem dX6_controls_23 : decode cX6_controls 23 = .ok (.iconst (-1), 1) := by decide +kernel
theorem dX6_controls_24 : decode cX6_controls 24 = .ok (.ireturn, 1) := by decide +kernel
theorem dX6_controls_25 : decode cX6_controls 25 = .ok (.aload_n 0, 1) := by decide +kernel
theorem dX6_controls_26 : decode cX6_controls 26 = .ok (.getfield 22, 3) := by decide +kernel
theorem dX6_controls_29 : decode cX6_controls 29 = .ok (.iconst 0, 1) := by decide +kernel
theorem dX6_controls_30 : decode cX6_controls 30 = .ok (.iload_n 1, 1) := by decide +kernel
theorem dX6_controls_31 : decode cX6_controls 31 = .ok (.iadd, 1) := by decide +kernel
theorem dX6_controls_32 : decode cX6_controls 32 = .ok (.iaload, 1) := by decide +kernel
theorem dX6_controls_33 : decode cX6_controls 33 = .ok (.istore_n 3, 1) := by decide +kernel
theorem dX6_controls_34 : decode cX6_controls 34 = .ok (.iload_n 3, 1) := by decide +kernel
theorem dX6_controls_35 : decode cX6_controls 35 = .ok (.ifCond .ge 7, 3) := by decide +kernel
theorem dX6_controls_38 : decode cX6_controls 38 = .ok (.iconst 1, 1) := by decide +kernel
theorem dX6_controls_39 : decode cX6_controls 39 = .ok (.goto 4, 3) := by decide +kernel
theorem dX6_controls_42 : decode cX6_controls 42 = .ok (.iconst 0, 1) := by decide +kernel
theorem dX6_controls_43 : decode cX6_controls 43 = .ok (.iload_n 2, 1) := by decide +kernel
theorem dX6_controls_44 : decode cX6_controls 44 = .ok (.iconst 1, 1) := by decide +kernel
theorem dX6_controls_45 : decode cX6_controls 45 = .ok (.if_icmp .ne 7, 3) := by decide +kernel
theorem dX6_controls_48 : decode cX6_controls 48 = .ok (.iconst 1, 1) := by decide +kernel
theorem dX6_controls_49 : decode cX6_controls 49 = .ok (.goto 4, 3) := by decide +kernel
theorem dX6_controls_52 : decode cX6_controls 52 = .ok (.iconst 0, 1) := by decide +kernel
theorem dX6_controls_53 : decode cX6_controls 53 = .ok (.if_icmp .ne 6, 3) := by decide +kernel
theorem dX6_controls_56 : decode cX6_controls 56 = .ok (.bipush (-2), 2) := by decide +kernel
theorem dX6_controls_58 : decode cX6_controls 58 = .ok (.ireturn, 1) := by decide +kernel
theorem dX6_controls_59 : decode cX6_controls 59 = .ok (.aload_n 0, 1) := by decide +kernel
theorem dX6_controls_60 : decode cX6_controls 60 = .ok (.invokevirtual 185, 3) := by decide +kernel
theorem dX6_controls_63 : decode cX6_controls 63 = .ok (.aload_n 0, 1) := by decide +kernel
theorem dX6_controls_64 : decode cX6_controls 64 = .ok (.getfield 22, 3) := by decide +kernel
theorem dX6_controls_67 : decode cX6_controls 67 = .ok (.iconst 0, 1) := by decide +kernel
theorem dX6_controls_68 : decode cX6_controls 68 = .ok (.iload_n 1, 1) := by decide +kernel
theorem dX6_controls_69 : decode cX6_controls 69 = .ok (.iadd, 1) := by decide +kernel
theorem dX6_controls_70 : decode cX6_controls 70 = .ok (.iload_n 2, 1) := by decide +kernel
theorem dX6_controls_71 : decode cX6_controls 71 = .ok (.iconst 1, 1) := by decide +kernel
theorem dX6_controls_72 : decode cX6_controls 72 = .ok (.if_icmp .ne 7, 3) := by decide +kernel
theorem dX6_controls_75 : decode cX6_controls 75 = .ok (.iconst (-1), 1) := by decide +kernel
theorem dX6_controls_76 : decode cX6_controls 76 = .ok (.goto 4, 3) := by decide +kernel
theorem dX6_controls_79 : decode cX6_controls 79 = .ok (.iconst 0, 1) := by decide +kernel
theorem dX6_controls_80 : decode cX6_controls 80 = .ok (.iastore, 1) := by decide +kernel
theorem dX6_controls_81 : decode cX6_controls 81 = .ok (.iload_n 3, 1) := by decide +kernel
theorem dX6_controls_82 : decode cX6_controls 82 = .ok (.ifCond .ge 7, 3) := by decide +kernel
theorem dX6_controls_85 : decode cX6_controls 85 = .ok (.iconst 0, 1) := by decide +kernel
theorem dX6_controls_86 : decode cX6_controls 86 = .ok (.goto 4, 3) := by decide +kernel
theorem dX6_controls_89 : decode cX6_controls 89 = .ok (.iload_n 3, 1) := by decide +kernel
theorem dX6_controls_90 : decode cX6_controls 90 = .ok (.ireturn, 1) := by decide +kernel
theorem dX6_moves_0 : decode cX6_moves 0 = .ok (.aload_n 0, 1) := by decide +kernel
theorem dX6_moves_1 : decode cX6_moves 1 = .ok (.iconst 0, 1) := by decide +kernel
theorem dX6_moves_2 : decode cX6_moves 2 = .ok (.putfield 59, 3) := by decide +kernel
theorem dX6_moves_5 : decode cX6_moves 5 = .ok (.aload_n 0, 1) := by decide +kernel
theorem dX6_moves_6 : decode cX6_moves 6 = .ok (.iload_n 1, 1) := by decide +kernel
theorem dX6_moves_7 : decode cX6_moves 7 = .ok (.invokevirtual 194, 3) := by decide +kernel
theorem dX6_moves_10 : decode cX6_moves 10 = .ok (.ifCond .ne 5, 3) := by decide +kernel
theorem dX6_moves_13 : decode cX6_moves 13 = .ok (.iconst (-1), 1) := by decide +kernel
theorem dX6_moves_14 : decode cX6_moves 14 = .ok (.ireturn, 1) := by decide +kernel
theorem dX6_moves_15 : decode cX6_moves 15 = .ok (.aload_n 0, 1) := by decide +kernel
theorem dX6_moves_16 : decode cX6_moves 16 = .ok (.getfield 22, 3) := by decide +kernel
theorem dX6_moves_19 : decode cX6_moves 19 = .ok (.bipush 13, 2) := by decide +kernel
theorem dX6_moves_21 : decode cX6_moves 21 = .ok (.iload_n 1, 1) := by decide +kernel
theorem dX6_moves_22 : decode cX6_moves 22 = .ok (.iadd, 1) := by decide +kernel
theorem dX6_moves_23 : decode cX6_moves 23 = .ok (.iaload, 1) := by decide +kernel
theorem dX6_moves_24 : decode cX6_moves 24 = .ok (.ifCond .eq 6, 3) := by decide +kernel
theorem dX6_moves_27 : decode cX6_moves 27 = .ok (.bipush (-2), 2) := by decide +kernel
theorem dX6_moves_29 : decode cX6_moves 29 = .ok (.ireturn, 1) := by decide +kernel
theorem dX6_moves_30 : decode cX6_moves 30 = .ok (.aload_n 0, 1) := by decide +kernel
theorem dX6_moves_31 : decode cX6_moves 31 = .ok (.invokevirtual 185, 3) := by decide +kernel
theorem dX6_moves_34 : decode cX6_moves 34 = .ok (.aload_n 0, 1) := by decide +kernel
theorem dX6_moves_35 : decode cX6_moves 35 = .ok (.getfield 22, 3) := by decide +kernel
theorem dX6_moves_38 : decode cX6_moves 38 = .ok (.bipush 6, 2) := by decide +kernel
theorem dX6_moves_40 : decode cX6_moves 40 = .ok (.iload_n 1, 1) := by decide +kernel
theorem dX6_moves_41 : decode cX6_moves 41 = .ok (.iadd, 1) := by decide +kernel
theorem dX6_moves_42 : decode cX6_moves 42 = .ok (.iconst 1, 1) := by decide +kernel
theorem dX6_moves_43 : decode cX6_moves 43 = .ok (.aload_n 0, 1) := by decide +kernel
theorem dX6_moves_44 : decode cX6_moves 44 = .ok (.getfield 22, 3) := by decide +kernel
theorem dX6_moves_47 : decode cX6_moves 47 = .ok (.bipush 6, 2) := by decide +kernel
theorem dX6_moves_49 : decode cX6_moves 49 = .ok (.iload_n 1, 1) := by decide +kernel
theorem dX6_moves_50 : decode cX6_moves 50 = .ok (.iadd, 1) := by decide +kernel
theorem dX6_moves_51 : decode cX6_moves 51 = .ok (.iaload, 1) := by decide +kernel
theorem dX6_moves_52 : decode cX6_moves 52 = .ok (.isub, 1) := by decide +kernel
theorem dX6_moves_53 : decode cX6_moves 53 = .ok (.iastore, 1) := by decide +kernel
theorem dX6_moves_54 : decode cX6_moves 54 = .ok (.aload_n 0, 1) := by decide +kernel
theorem dX6_moves_55 : decode cX6_moves 55 = .ok (.getfield 22, 3) := by decide +kernel
theorem dX6_moves_58 : decode cX6_moves 58 = .ok (.bipush 6, 2) := by decide +kernel
theorem dX6_moves_60 : decode cX6_moves 60 = .ok (.iload_n 1, 1) := by decide +kernel
theorem dX6_moves_61 : decode cX6_moves 61 = .ok (.iadd, 1) := by decide +kernel
theorem dX6_moves_62 : decode cX6_moves 62 = .ok (.iaload, 1) := by decide +kernel
theorem dX6_moves_63 : decode cX6_moves 63 = .ok (.ireturn, 1) := by decide +kernel
theorem dX6_undo_0 : decode cX6_undo 0 = .ok (.aload_n 0, 1) := by decide +kernel
theorem dX6_undo_1 : decode cX6_undo 1 = .ok (.iconst 0, 1) := by decide +kernel
theorem dX6_undo_2 : decode cX6_undo 2 = .ok (.putfield 59, 3) := by decide +kernel
theorem dX6_undo_5 : decode cX6_undo 5 = .ok (.aload_n 0, 1) := by decide +kernel
theorem dX6_undo_6 : decode cX6_undo 6 = .ok (.getfield 124, 3) := by decide +kernel
theorem dX6_undo_9 : decode cX6_undo 9 = .ok (.ifCond .ne 6, 3) := by decide +kernel
theorem dX6_undo_12 : decode cX6_undo 12 = .ok (.bipush (-2), 2) := by decide +kernel
theorem dX6_undo_14 : decode cX6_undo 14 = .ok (.ireturn, 1) := by decide +kernel
theorem dX6_undo_15 : decode cX6_undo 15 = .ok (.aload_n 0, 1) := by decide +kernel
theorem dX6_undo_16 : decode cX6_undo 16 = .ok (.dup, 1) := by decide +kernel
theorem dX6_undo_17 : decode cX6_undo 17 = .ok (.getfield 124, 3) := by decide +kernel
theorem dX6_undo_20 : decode cX6_undo 20 = .ok (.iconst 1, 1) := by decide +kernel
theorem dX6_undo_21 : decode cX6_undo 21 = .ok (.isub, 1) := by decide +kernel
theorem dX6_undo_22 : decode cX6_undo 22 = .ok (.putfield 124, 3) := by decide +kernel
theorem dX6_undo_25 : decode cX6_undo 25 = .ok (.iconst 0, 1) := by decide +kernel
theorem dX6_undo_26 : decode cX6_undo 26 = .ok (.istore_n 1, 1) := by decide +kernel
theorem dX6_undo_27 : decode cX6_undo 27 = .ok (.iload_n 1, 1) := by decide +kernel
theorem dX6_undo_28 : decode cX6_undo 28 = .ok (.bipush 41, 2) := by decide +kernel
theorem dX6_undo_30 : decode cX6_undo 30 = .ok (.if_icmp .ge 29, 3) := by decide +kernel
theorem dX6_undo_33 : decode cX6_undo 33 = .ok (.aload_n 0, 1) := by decide +kernel
theorem dX6_undo_34 : decode cX6_undo 34 = .ok (.getfield 22, 3) := by decide +kernel
theorem dX6_undo_37 : decode cX6_undo 37 = .ok (.iload_n 1, 1) := by decide +kernel
theorem dX6_undo_38 : decode cX6_undo 38 = .ok (.aload_n 0, 1) := by decide +kernel
theorem dX6_undo_39 : decode cX6_undo 39 = .ok (.getfield 28, 3) := by decide +kernel
theorem dX6_undo_42 : decode cX6_undo 42 = .ok (.bipush 41, 2) := by decide +kernel
theorem dX6_undo_44 : decode cX6_undo 44 = .ok (.aload_n 0, 1) := by decide +kernel
theorem dX6_undo_45 : decode cX6_undo 45 = .ok (.getfield 124, 3) := by decide +kernel
theorem dX6_undo_48 : decode cX6_undo 48 = .ok (.imul, 1) := by decide +kernel
theorem dX6_undo_49 : decode cX6_undo 49 = .ok (.iload_n 1, 1) := by decide +kernel
theorem dX6_undo_50 : decode cX6_undo 50 = .ok (.iadd, 1) := by decide +kernel
theorem dX6_undo_51 : decode cX6_undo 51 = .ok (.iaload, 1) := by decide +kernel
theorem dX6_undo_52 : decode cX6_undo 52 = .ok (.iastore, 1) := by decide +kernel
theorem dX6_undo_53 : decode cX6_undo 53 = .ok (.iinc 1 1, 3) := by decide +kernel
theorem dX6_undo_56 : decode cX6_undo 56 = .ok (.goto (-29), 3) := by decide +kernel
theorem dX6_undo_59 : decode cX6_undo 59 = .ok (.aload_n 0, 1) := by decide +kernel
theorem dX6_undo_60 : decode cX6_undo 60 = .ok (.getfield 124, 3) := by decide +kernel
theorem dX6_undo_63 : decode cX6_undo 63 = .ok (.ireturn, 1) := by decide +kernel
theorem dX6_radio_0 : decode cX6_radio 0 = .ok (.aload_n 0, 1) := by decide +kernel
theorem dX6_radio_1 : decode cX6_radio 1 = .ok (.iconst 0, 1) := by decide +kernel
theorem dX6_radio_2 : decode cX6_radio 2 = .ok (.putfield 59, 3) := by decide +kernel
theorem dX6_radio_5 : decode cX6_radio 5 = .ok (.aload_n 0, 1) := by decide +kernel
theorem dX6_radio_6 : decode cX6_radio 6 = .ok (.iload_n 1, 1) := by decide +kernel
theorem dX6_radio_7 : decode cX6_radio 7 = .ok (.invokevirtual 194, 3) := by decide +kernel
theorem dX6_radio_10 : decode cX6_radio 10 = .ok (.ifCond .eq 13, 3) := by decide +kernel
theorem dX6_radio_13 : decode cX6_radio 13 = .ok (.iload_n 2, 1) := by decide +kernel
theorem dX6_radio_14 : decode cX6_radio 14 = .ok (.iconst 0, 1) := by decide +kernel
theorem dX6_radio_15 : decode cX6_radio 15 = .ok (.bipush 6, 2) := by decide +kernel
theorem dX6_radio_17 : decode cX6_radio 17 = .ok (.invokestatic 63, 3) := by decide +kernel
theorem dX6_radio_20 : decode cX6_radio 20 = .ok (.ifCond .ne 5, 3) := by decide +kernel
theorem dX6_radio_23 : decode cX6_radio 23 = .ok (.iconst (-1), 1) := by decide +kernel
theorem dX6_radio_24 : decode cX6_radio 24 = .ok (.ireturn, 1) := by decide +kernel
theorem dX6_radio_25 : decode cX6_radio 25 = .ok (.iload_n 2, 1) := by decide +kernel
theorem dX6_radio_26 : decode cX6_radio 26 = .ok (.iconst 3, 1) := by decide +kernel
theorem dX6_radio_27 : decode cX6_radio 27 = .ok (.if_icmp .ge 45, 3) := by decide +kernel
theorem dX6_radio_30 : decode cX6_radio 30 = .ok (.iload_n 2, 1) := by decide +kernel
theorem dX6_radio_31 : decode cX6_radio 31 = .ok (.ifCond .ne 15, 3) := by decide +kernel
theorem dX6_radio_34 : decode cX6_radio 34 = .ok (.aload_n 0, 1) := by decide +kernel
theorem dX6_radio_35 : decode cX6_radio 35 = .ok (.getfield 22, 3) := by decide +kernel
theorem dX6_radio_38 : decode cX6_radio 38 = .ok (.bipush 6, 2) := by decide +kernel
theorem dX6_radio_40 : decode cX6_radio 40 = .ok (.iload_n 1, 1) := by decide +kernel
theorem dX6_radio_41 : decode cX6_radio 41 = .ok (.iadd, 1) := by decide +kernel
theorem dX6_radio_42 : decode cX6_radio 42 = .ok (.iaload, 1) := by decide +kernel
theorem dX6_radio_43 : decode cX6_radio 43 = .ok (.goto 28, 3) := by decide +kernel
theorem dX6_radio_46 : decode cX6_radio 46 = .ok (.iload_n 2, 1) := by decide +kernel
theorem dX6_radio_47 : decode cX6_radio 47 = .ok (.iconst 1, 1) := by decide +kernel
theorem dX6_radio_48 : decode cX6_radio 48 = .ok (.if_icmp .ne 14, 3) := by decide +kernel
theorem dX6_radio_51 : decode cX6_radio 51 = .ok (.aload_n 0, 1) := by decide +kernel
theorem dX6_radio_52 : decode cX6_radio 52 = .ok (.getfield 13, 3) := by decide +kernel
theorem dX6_radio_55 : decode cX6_radio 55 = .ok (.iconst 5, 1) := by decide +kernel
theorem dX6_radio_56 : decode cX6_radio 56 = .ok (.iload_n 1, 1) := by decide +kernel
theorem dX6_radio_57 : decode cX6_radio 57 = .ok (.iadd, 1) := by decide +kernel
theorem dX6_radio_58 : decode cX6_radio 58 = .ok (.iaload, 1) := by decide +kernel
theorem dX6_radio_59 : decode cX6_radio 59 = .ok (.goto 12, 3) := by decide +kernel
theorem dX6_radio_62 : decode cX6_radio 62 = .ok (.aload_n 0, 1) := by decide +kernel
theorem dX6_radio_63 : decode cX6_radio 63 = .ok (.getfield 13, 3) := by decide +kernel
theorem dX6_radio_66 : decode cX6_radio 66 = .ok (.bipush 12, 2) := by decide +kernel
theorem dX6_radio_68 : decode cX6_radio 68 = .ok (.iload_n 1, 1) := by decide +kernel
theorem dX6_radio_69 : decode cX6_radio 69 = .ok (.iadd, 1) := by decide +kernel
theorem dX6_radio_70 : decode cX6_radio 70 = .ok (.iaload, 1) := by decide +kernel
theorem dX6_radio_71 : decode cX6_radio 71 = .ok (.ireturn, 1) := by decide +kernel
theorem dX6_radio_72 : decode cX6_radio 72 = .ok (.iload_n 2, 1) := by decide +kernel
theorem dX6_radio_73 : decode cX6_radio 73 = .ok (.iconst 3, 1) := by decide +kernel
theorem dX6_radio_74 : decode cX6_radio 74 = .ok (.if_icmp .ne 15, 3) := by decide +kernel
theorem dX6_radio_77 : decode cX6_radio 77 = .ok (.aload_n 0, 1) := by decide +kernel
theorem dX6_radio_78 : decode cX6_radio 78 = .ok (.getfield 22, 3) := by decide +kernel
theorem dX6_radio_81 : decode cX6_radio 81 = .ok (.bipush 13, 2) := by decide +kernel
theorem dX6_radio_83 : decode cX6_radio 83 = .ok (.iload_n 1, 1) := by decide +kernel
theorem dX6_radio_84 : decode cX6_radio 84 = .ok (.iadd, 1) := by decide +kernel
theorem dX6_radio_85 : decode cX6_radio 85 = .ok (.iaload, 1) := by decide +kernel
theorem dX6_radio_86 : decode cX6_radio 86 = .ok (.goto 46, 3) := by decide +kernel
theorem dX6_radio_89 : decode cX6_radio 89 = .ok (.iload_n 2, 1) := by decide +kernel
theorem dX6_radio_90 : decode cX6_radio 90 = .ok (.iconst 4, 1) := by decide +kernel
theorem dX6_radio_91 : decode cX6_radio 91 = .ok (.if_icmp .ne 15, 3) := by decide +kernel
theorem dX6_radio_94 : decode cX6_radio 94 = .ok (.aload_n 0, 1) := by decide +kernel
theorem dX6_radio_95 : decode cX6_radio 95 = .ok (.getfield 22, 3) := by decide +kernel
theorem dX6_radio_98 : decode cX6_radio 98 = .ok (.bipush 20, 2) := by decide +kernel
theorem dX6_radio_100 : decode cX6_radio 100 = .ok (.iload_n 1, 1) := by decide +kernel
theorem dX6_radio_101 : decode cX6_radio 101 = .ok (.iadd, 1) := by decide +kernel
theorem dX6_radio_102 : decode cX6_radio 102 = .ok (.iaload, 1) := by decide +kernel
theorem dX6_radio_103 : decode cX6_radio 103 = .ok (.goto 29, 3) := by decide +kernel
theorem dX6_radio_106 : decode cX6_radio 106 = .ok (.iload_n 2, 1) := by decide +kernel
theorem dX6_radio_107 : decode cX6_radio 107 = .ok (.iconst 5, 1) := by decide +kernel
theorem dX6_radio_108 : decode cX6_radio 108 = .ok (.if_icmp .ne 15, 3) := by decide +kernel
theorem dX6_radio_111 : decode cX6_radio 111 = .ok (.aload_n 0, 1) := by decide +kernel
theorem dX6_radio_112 : decode cX6_radio 112 = .ok (.getfield 22, 3) := by decide +kernel
theorem dX6_radio_115 : decode cX6_radio 115 = .ok (.bipush 27, 2) := by decide +kernel
theorem dX6_radio_117 : decode cX6_radio 117 = .ok (.iload_n 1, 1) := by decide +kernel
theorem dX6_radio_118 : decode cX6_radio 118 = .ok (.iadd, 1) := by decide +kernel
theorem dX6_radio_119 : decode cX6_radio 119 = .ok (.iaload, 1) := by decide +kernel
theorem dX6_radio_120 : decode cX6_radio 120 = .ok (.goto 12, 3) := by decide +kernel
theorem dX6_radio_123 : decode cX6_radio 123 = .ok (.aload_n 0, 1) := by decide +kernel
theorem dX6_radio_124 : decode cX6_radio 124 = .ok (.getfield 22, 3) := by decide +kernel
theorem dX6_radio_127 : decode cX6_radio 127 = .ok (.bipush 34, 2) := by decide +kernel
theorem dX6_radio_129 : decode cX6_radio 129 = .ok (.iload_n 1, 1) := by decide +kernel
theorem dX6_radio_130 : decode cX6_radio 130 = .ok (.iadd, 1) := by decide +kernel
theorem dX6_radio_131 : decode cX6_radio 131 = .ok (.iaload, 1) := by decide +kernel
theorem dX6_radio_132 : decode cX6_radio 132 = .ok (.ireturn, 1) := by decide +kernel
theorem dX6_site_0 : decode cX6_site 0 = .ok (.aload_n 0, 1) := by decide +kernel
theorem dX6_site_1 : decode cX6_site 1 = .ok (.iconst 0, 1) := by decide +kernel
theorem dX6_site_2 : decode cX6_site 2 = .ok (.putfield 59, 3) := by decide +kernel
theorem dX6_site_5 : decode cX6_site 5 = .ok (.iload_n 1, 1) := by decide +kernel
theorem dX6_site_6 : decode cX6_site 6 = .ok (.iconst 0, 1) := by decide +kernel
theorem dX6_site_7 : decode cX6_site 7 = .ok (.iconst 1, 1) := by decide +kernel
theorem dX6_site_8 : decode cX6_site 8 = .ok (.invokestatic 63, 3) := by decide +kernel
theorem dX6_site_11 : decode cX6_site 11 = .ok (.ifCond .eq 12, 3) := by decide +kernel
theorem dX6_site_14 : decode cX6_site 14 = .ok (.iload_n 2, 1) := by decide +kernel
theorem dX6_site_15 : decode cX6_site 15 = .ok (.iconst 0, 1) := by decide +kernel
theorem dX6_site_16 : decode cX6_site 16 = .ok (.iconst 3, 1) := by decide +kernel
theorem dX6_site_17 : decode cX6_site 17 = .ok (.invokestatic 63, 3) := by decide +kernel
theorem dX6_site_20 : decode cX6_site 20 = .ok (.ifCond .ne 5, 3) := by decide +kernel
theorem dX6_site_23 : decode cX6_site 23 = .ok (.iconst (-1), 1) := by decide +kernel
theorem dX6_site_24 : decode cX6_site 24 = .ok (.ireturn, 1) := by decide +kernel
theorem dX6_site_25 : decode cX6_site 25 = .ok (.aload_n 0, 1) := by decide +kernel
theorem dX6_site_26 : decode cX6_site 26 = .ok (.getfield 22, 3) := by decide +kernel
theorem dX6_site_29 : decode cX6_site 29 = .ok (.iconst 0, 1) := by decide +kernel
theorem dX6_site_30 : decode cX6_site 30 = .ok (.iload_n 1, 1) := by decide +kernel
theorem dX6_site_31 : decode cX6_site 31 = .ok (.iadd, 1) := by decide +kernel
theorem dX6_site_32 : decode cX6_site 32 = .ok (.iaload, 1) := by decide +kernel
theorem dX6_site_33 : decode cX6_site 33 = .ok (.istore_n 3, 1) := by decide +kernel
theorem dX6_site_34 : decode cX6_site 34 = .ok (.iload_n 2, 1) := by decide +kernel
theorem dX6_site_35 : decode cX6_site 35 = .ok (.ifCond .ne 14, 3) := by decide +kernel
theorem dX6_site_38 : decode cX6_site 38 = .ok (.aload_n 0, 1) := by decide +kernel
theorem dX6_site_39 : decode cX6_site 39 = .ok (.getfield 13, 3) := by decide +kernel
theorem dX6_site_42 : decode cX6_site 42 = .ok (.iconst 3, 1) := by decide +kernel
theorem dX6_site_43 : decode cX6_site 43 = .ok (.iload_n 1, 1) := by decide +kernel
theorem dX6_site_44 : decode cX6_site 44 = .ok (.iadd, 1) := by decide +kernel
theorem dX6_site_45 : decode cX6_site 45 = .ok (.iaload, 1) := by decide +kernel
theorem dX6_site_46 : decode cX6_site 46 = .ok (.goto 46, 3) := by decide +kernel
theorem dX6_site_49 : decode cX6_site 49 = .ok (.iload_n 2, 1) := by decide +kernel
theorem dX6_site_50 : decode cX6_site 50 = .ok (.iconst 1, 1) := by decide +kernel
theorem dX6_site_51 : decode cX6_site 51 = .ok (.if_icmp .ne 15, 3) := by decide +kernel
theorem dX6_site_54 : decode cX6_site 54 = .ok (.aload_n 0, 1) := by decide +kernel
theorem dX6_site_55 : decode cX6_site 55 = .ok (.aload_n 0, 1) := by decide +kernel
theorem dX6_site_56 : decode cX6_site 56 = .ok (.getfield 22, 3) := by decide +kernel
theorem dX6_site_59 : decode cX6_site 59 = .ok (.iload_n 1, 1) := by decide +kernel
theorem dX6_site_60 : decode cX6_site 60 = .ok (.invokevirtual 149, 3) := by decide +kernel
theorem dX6_site_63 : decode cX6_site 63 = .ok (.goto 29, 3) := by decide +kernel
theorem dX6_site_66 : decode cX6_site 66 = .ok (.iload_n 2, 1) := by decide +kernel
theorem dX6_site_67 : decode cX6_site 67 = .ok (.iconst 2, 1) := by decide +kernel
theorem dX6_site_68 : decode cX6_site 68 = .ok (.if_icmp .ne 15, 3) := by decide +kernel
theorem dX6_site_71 : decode cX6_site 71 = .ok (.iload_n 3, 1) := by decide +kernel
theorem dX6_site_72 : decode cX6_site 72 = .ok (.ifCond .ge 7, 3) := by decide +kernel
theorem dX6_site_75 : decode cX6_site 75 = .ok (.iconst 1, 1) := by decide +kernel
theorem dX6_site_76 : decode cX6_site 76 = .ok (.goto 16, 3) := by decide +kernel
theorem dX6_site_79 : decode cX6_site 79 = .ok (.iconst 0, 1) := by decide +kernel
theorem dX6_site_80 : decode cX6_site 80 = .ok (.goto 12, 3) := by decide +kernel
theorem dX6_site_83 : decode cX6_site 83 = .ok (.iload_n 3, 1) := by decide +kernel
theorem dX6_site_84 : decode cX6_site 84 = .ok (.ifCond .ge 7, 3) := by decide +kernel
theorem dX6_site_87 : decode cX6_site 87 = .ok (.iconst 0, 1) := by decide +kernel
theorem dX6_site_88 : decode cX6_site 88 = .ok (.goto 4, 3) := by decide +kernel
theorem dX6_site_91 : decode cX6_site 91 = .ok (.iload_n 3, 1) := by decide +kernel
theorem dX6_site_92 : decode cX6_site 92 = .ok (.ireturn, 1) := by decide +kernel
theorem dX6_talker_0 : decode cX6_talker 0 = .ok (.aload_n 0, 1) := by decide +kernel
theorem dX6_talker_1 : decode cX6_talker 1 = .ok (.iconst 0, 1) := by decide +kernel
theorem dX6_talker_2 : decode cX6_talker 2 = .ok (.putfield 59, 3) := by decide +kernel
theorem dX6_talker_5 : decode cX6_talker 5 = .ok (.iload_n 1, 1) := by decide +kernel
theorem dX6_talker_6 : decode cX6_talker 6 = .ok (.iconst 0, 1) := by decide +kernel
theorem dX6_talker_7 : decode cX6_talker 7 = .ok (.iconst 5, 1) := by decide +kernel
theorem dX6_talker_8 : decode cX6_talker 8 = .ok (.invokestatic 63, 3) := by decide +kernel
theorem dX6_talker_11 : decode cX6_talker 11 = .ok (.ifCond .eq 15, 3) := by decide +kernel
theorem dX6_talker_14 : decode cX6_talker 14 = .ok (.aload_n 0, 1) := by decide +kernel
theorem dX6_talker_15 : decode cX6_talker 15 = .ok (.aload_n 0, 1) := by decide +kernel
theorem dX6_talker_16 : decode cX6_talker 16 = .ok (.getfield 22, 3) := by decide +kernel
theorem dX6_talker_19 : decode cX6_talker 19 = .ok (.iload_n 1, 1) := by decide +kernel
theorem dX6_talker_20 : decode cX6_talker 20 = .ok (.invokevirtual 159, 3) := by decide +kernel
theorem dX6_talker_23 : decode cX6_talker 23 = .ok (.goto 4, 3) := by decide +kernel
theorem dX6_talker_26 : decode cX6_talker 26 = .ok (.iconst (-1), 1) := by decide +kernel
theorem dX6_talker_27 : decode cX6_talker 27 = .ok (.ireturn, 1) := by decide +kernel
theorem dX6_queue_0 : decode cX6_queue 0 = .ok (.aload_n 0, 1) := by decide +kernel
theorem dX6_queue_1 : decode cX6_queue 1 = .ok (.iconst 0, 1) := by decide +kernel
theorem dX6_queue_2 : decode cX6_queue 2 = .ok (.putfield 59, 3) := by decide +kernel
theorem dX6_queue_5 : decode cX6_queue 5 = .ok (.iload_n 1, 1) := by decide +kernel
theorem dX6_queue_6 : decode cX6_queue 6 = .ok (.ifCond .ge 5, 3) := by decide +kernel
theorem dX6_queue_9 : decode cX6_queue 9 = .ok (.iconst (-1), 1) := by decide +kernel
theorem dX6_queue_10 : decode cX6_queue 10 = .ok (.ireturn, 1) := by decide +kernel
theorem dX6_queue_11 : decode cX6_queue 11 = .ok (.aload_n 0, 1) := by decide +kernel
theorem dX6_queue_12 : decode cX6_queue 12 = .ok (.aload_n 0, 1) := by decide +kernel
theorem dX6_queue_13 : decode cX6_queue 13 = .ok (.getfield 22, 3) := by decide +kernel
theorem dX6_queue_16 : decode cX6_queue 16 = .ok (.invokevirtual 178, 3) := by decide +kernel
theorem dX6_queue_19 : decode cX6_queue 19 = .ok (.iload_n 1, 1) := by decide +kernel
theorem dX6_queue_20 : decode cX6_queue 20 = .ok (.aload_n 0, 1) := by decide +kernel
theorem dX6_queue_21 : decode cX6_queue 21 = .ok (.getfield 143, 3) := by decide +kernel
theorem dX6_queue_24 : decode cX6_queue 24 = .ok (.if_icmp .ge 12, 3) := by decide +kernel
theorem dX6_queue_27 : decode cX6_queue 27 = .ok (.aload_n 0, 1) := by decide +kernel
theorem dX6_queue_28 : decode cX6_queue 28 = .ok (.getfield 44, 3) := by decide +kernel
theorem dX6_queue_31 : decode cX6_queue 31 = .ok (.iload_n 1, 1) := by decide +kernel
theorem dX6_queue_32 : decode cX6_queue 32 = .ok (.iaload, 1) := by decide +kernel
theorem dX6_queue_33 : decode cX6_queue 33 = .ok (.goto 5, 3) := by decide +kernel
theorem dX6_queue_36 : decode cX6_queue 36 = .ok (.bipush (-9), 2) := by decide +kernel
theorem dX6_queue_38 : decode cX6_queue 38 = .ok (.ireturn, 1) := by decide +kernel
theorem dX6_soon_0 : decode cX6_soon 0 = .ok (.aload_n 0, 1) := by decide +kernel
theorem dX6_soon_1 : decode cX6_soon 1 = .ok (.iconst 0, 1) := by decide +kernel
theorem dX6_soon_2 : decode cX6_soon 2 = .ok (.putfield 59, 3) := by decide +kernel
theorem dX6_soon_5 : decode cX6_soon 5 = .ok (.aload_n 0, 1) := by decide +kernel
theorem dX6_soon_6 : decode cX6_soon 6 = .ok (.iload_n 1, 1) := by decide +kernel
theorem dX6_soon_7 : decode cX6_soon 7 = .ok (.invokevirtual 194, 3) := by decide +kernel
theorem dX6_soon_10 : decode cX6_soon 10 = .ok (.ifCond .ne 5, 3) := by decide +kernel
theorem dX6_soon_13 : decode cX6_soon 13 = .ok (.iconst (-1), 1) := by decide +kernel
theorem dX6_soon_14 : decode cX6_soon 14 = .ok (.ireturn, 1) := by decide +kernel
theorem dX6_soon_15 : decode cX6_soon 15 = .ok (.aload_n 0, 1) := by decide +kernel
theorem dX6_soon_16 : decode cX6_soon 16 = .ok (.getfield 22, 3) := by decide +kernel
theorem dX6_soon_19 : decode cX6_soon 19 = .ok (.aload_n 0, 1) := by decide +kernel
theorem dX6_soon_20 : decode cX6_soon 20 = .ok (.getfield 25, 3) := by decide +kernel
theorem dX6_soon_23 : decode cX6_soon 23 = .ok (.invokestatic 117, 3) := by decide +kernel
theorem dX6_soon_26 : decode cX6_soon 26 = .ok (.iconst 0, 1) := by decide +kernel
theorem dX6_soon_27 : decode cX6_soon 27 = .ok (.istore_n 2, 1) := by decide +kernel
theorem dX6_soon_28 : decode cX6_soon 28 = .ok (.iload_n 2, 1) := by decide +kernel
theorem dX6_soon_29 : decode cX6_soon 29 = .ok (.bipush 60, 2) := by decide +kernel
theorem dX6_soon_31 : decode cX6_soon 31 = .ok (.if_icmp .gt 31, 3) := by decide +kernel
theorem dX6_soon_34 : decode cX6_soon 34 = .ok (.aload_n 0, 1) := by decide +kernel
theorem dX6_soon_35 : decode cX6_soon 35 = .ok (.aload_n 0, 1) := by decide +kernel
theorem dX6_soon_36 : decode cX6_soon 36 = .ok (.getfield 25, 3) := by decide +kernel
theorem dX6_soon_39 : decode cX6_soon 39 = .ok (.iload_n 1, 1) := by decide +kernel
theorem dX6_soon_40 : decode cX6_soon 40 = .ok (.invokevirtual 191, 3) := by decide +kernel
theorem dX6_soon_43 : decode cX6_soon 43 = .ok (.ifCond .eq 5, 3) := by decide +kernel
theorem dX6_soon_46 : decode cX6_soon 46 = .ok (.iload_n 2, 1) := by decide +kernel
theorem dX6_soon_47 : decode cX6_soon 47 = .ok (.ireturn, 1) := by decide +kernel
theorem dX6_soon_48 : decode cX6_soon 48 = .ok (.aload_n 0, 1) := by decide +kernel
theorem dX6_soon_49 : decode cX6_soon 49 = .ok (.aload_n 0, 1) := by decide +kernel
theorem dX6_soon_50 : decode cX6_soon 50 = .ok (.getfield 25, 3) := by decide +kernel
theorem dX6_soon_53 : decode cX6_soon 53 = .ok (.invokevirtual 188, 3) := by decide +kernel
theorem dX6_soon_56 : decode cX6_soon 56 = .ok (.iinc 2 1, 3) := by decide +kernel
