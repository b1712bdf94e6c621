theorem dX0_init_0 : decode cX0_init 0 = .ok (.aload_n 0, 1) := by decide +kernel
theorem dX0_init_1 : decode cX0_init 1 = .ok (.invokespecial 3, 3) := by decide +kernel
theorem dX0_init_4 : decode cX0_init 4 = .ok (.aload_n 0, 1) := by decide +kernel
theorem dX0_init_5 : decode cX0_init 5 = .ok (.bipush 7, 2) := by decide +kernel
theorem dX0_init_7 : decode cX0_init 7 = .ok (.newarray .int, 2) := by decide +kernel
theorem dX0_init_9 : decode cX0_init 9 = .ok (.putfield 9, 3) := by decide +kernel
theorem dX0_init_12 : decode cX0_init 12 = .ok (.aload_n 0, 1) := by decide +kernel
theorem dX0_init_13 : decode cX0_init 13 = .ok (.bipush 7, 2) := by decide +kernel
theorem dX0_init_15 : decode cX0_init 15 = .ok (.newarray .int, 2) := by decide +kernel
theorem dX0_init_17 : decode cX0_init 17 = .ok (.putfield 15, 3) := by decide +kernel
theorem dX0_init_20 : decode cX0_init 20 = .ok (.return_, 1) := by decide +kernel
theorem dX0_pass_0 : decode cX0_pass 0 = .ok (.aload_n 2, 1) := by decide +kernel
theorem dX0_pass_1 : decode cX0_pass 1 = .ok (.getfield 18, 3) := by decide +kernel
theorem dX0_pass_4 : decode cX0_pass 4 = .ok (.iconst 0, 1) := by decide +kernel
theorem dX0_pass_5 : decode cX0_pass 5 = .ok (.aload_n 0, 1) := by decide +kernel
theorem dX0_pass_6 : decode cX0_pass 6 = .ok (.getfield 15, 3) := by decide +kernel
theorem dX0_pass_9 : decode cX0_pass 9 = .ok (.iconst 0, 1) := by decide +kernel
theorem dX0_pass_10 : decode cX0_pass 10 = .ok (.bipush 7, 2) := by decide +kernel
theorem dX0_pass_12 : decode cX0_pass 12 = .ok (.invokestatic 23, 3) := by decide +kernel
theorem dX0_pass_15 : decode cX0_pass 15 = .ok (.iconst 0, 1) := by decide +kernel
theorem dX0_pass_16 : decode cX0_pass 16 = .ok (.istore_n 3, 1) := by decide +kernel
theorem dX0_pass_17 : decode cX0_pass 17 = .ok (.iload_n 3, 1) := by decide +kernel
theorem dX0_pass_18 : decode cX0_pass 18 = .ok (.iconst 2, 1) := by decide +kernel
theorem dX0_pass_19 : decode cX0_pass 19 = .ok (.if_icmp .ge 51, 3) := by decide +kernel
theorem dX0_pass_22 : decode cX0_pass 22 = .ok (.aload_n 2, 1) := by decide +kernel
theorem dX0_pass_23 : decode cX0_pass 23 = .ok (.iload_n 3, 1) := by decide +kernel
theorem dX0_pass_24 : decode cX0_pass 24 = .ok (.invokevirtual 29, 3) := by decide +kernel
theorem dX0_pass_27 : decode cX0_pass 27 = .ok (.ifCond .eq 12, 3) := by decide +kernel
theorem dX0_pass_30 : decode cX0_pass 30 = .ok (.aload_n 1, 1) := by decide +kernel
theorem dX0_pass_31 : decode cX0_pass 31 = .ok (.aload_n 2, 1) := by decide +kernel
theorem dX0_pass_32 : decode cX0_pass 32 = .ok (.iload_n 3, 1) := by decide +kernel
theorem dX0_pass_33 : decode cX0_pass 33 = .ok (.invokestatic 33, 3) := by decide +kernel
theorem dX0_pass_36 : decode cX0_pass 36 = .ok (.goto 28, 3) := by decide +kernel
theorem dX0_pass_39 : decode cX0_pass 39 = .ok (.aload_n 2, 1) := by decide +kernel
theorem dX0_pass_40 : decode cX0_pass 40 = .ok (.getfield 37, 3) := by decide +kernel
theorem dX0_pass_43 : decode cX0_pass 43 = .ok (.iload_n 3, 1) := by decide +kernel
theorem dX0_pass_44 : decode cX0_pass 44 = .ok (.bipush 99, 2) := by decide +kernel
theorem dX0_pass_46 : decode cX0_pass 46 = .ok (.aload_n 2, 1) := by decide +kernel
theorem dX0_pass_47 : decode cX0_pass 47 = .ok (.getfield 37, 3) := by decide +kernel
theorem dX0_pass_50 : decode cX0_pass 50 = .ok (.iload_n 3, 1) := by decide +kernel
theorem dX0_pass_51 : decode cX0_pass 51 = .ok (.iaload, 1) := by decide +kernel
theorem dX0_pass_52 : decode cX0_pass 52 = .ok (.iconst 1, 1) := by decide +kernel
theorem dX0_pass_53 : decode cX0_pass 53 = .ok (.iadd, 1) := by decide +kernel
theorem dX0_pass_54 : decode cX0_pass 54 = .ok (.invokestatic 40, 3) := by decide +kernel
theorem dX0_pass_57 : decode cX0_pass 57 = .ok (.iastore, 1) := by decide +kernel
theorem dX0_pass_58 : decode cX0_pass 58 = .ok (.aload_n 1, 1) := by decide +kernel
theorem dX0_pass_59 : decode cX0_pass 59 = .ok (.aload_n 2, 1) := by decide +kernel
theorem dX0_pass_60 : decode cX0_pass 60 = .ok (.iload_n 3, 1) := by decide +kernel
theorem dX0_pass_61 : decode cX0_pass 61 = .ok (.invokestatic 46, 3) := by decide +kernel
theorem dX0_pass_64 : decode cX0_pass 64 = .ok (.iinc 3 1, 3) := by decide +kernel
theorem dX0_pass_67 : decode cX0_pass 67 = .ok (.goto (-50), 3) := by decide +kernel
theorem dX0_pass_70 : decode cX0_pass 70 = .ok (.aload_n 0, 1) := by decide +kernel
theorem dX0_pass_71 : decode cX0_pass 71 = .ok (.aload_n 1, 1) := by decide +kernel
theorem dX0_pass_72 : decode cX0_pass 72 = .ok (.aload_n 2, 1) := by decide +kernel
theorem dX0_pass_73 : decode cX0_pass 73 = .ok (.invokevirtual 49, 3) := by decide +kernel
theorem dX0_pass_76 : decode cX0_pass 76 = .ok (.aload_n 0, 1) := by decide +kernel
theorem dX0_pass_77 : decode cX0_pass 77 = .ok (.aload_n 1, 1) := by decide +kernel
theorem dX0_pass_78 : decode cX0_pass 78 = .ok (.aload_n 2, 1) := by decide +kernel
theorem dX0_pass_79 : decode cX0_pass 79 = .ok (.invokevirtual 53, 3) := by decide +kernel
theorem dX0_pass_82 : decode cX0_pass 82 = .ok (.aload_n 0, 1) := by decide +kernel
theorem dX0_pass_83 : decode cX0_pass 83 = .ok (.aload_n 1, 1) := by decide +kernel
theorem dX0_pass_84 : decode cX0_pass 84 = .ok (.aload_n 2, 1) := by decide +kernel
theorem dX0_pass_85 : decode cX0_pass 85 = .ok (.invokevirtual 56, 3) := by decide +kernel
theorem dX0_pass_88 : decode cX0_pass 88 = .ok (.istore_n 3, 1) := by decide +kernel
theorem dX0_pass_89 : decode cX0_pass 89 = .ok (.iconst 0, 1) := by decide +kernel
theorem dX0_pass_90 : decode cX0_pass 90 = .ok (.istore 4, 2) := by decide +kernel
theorem dX0_pass_92 : decode cX0_pass 92 = .ok (.iload 4, 2) := by decide +kernel
theorem dX0_pass_94 : decode cX0_pass 94 = .ok (.iload_n 3, 1) := by decide +kernel
theorem dX0_pass_95 : decode cX0_pass 95 = .ok (.if_icmp .ge 28, 3) := by decide +kernel
theorem dX0_pass_98 : decode cX0_pass 98 = .ok (.iload 4, 2) := by decide +kernel
theorem dX0_pass_100 : decode cX0_pass 100 = .ok (.bipush 7, 2) := by decide +kernel
theorem dX0_pass_102 : decode cX0_pass 102 = .ok (.if_icmp .ge 21, 3) := by decide +kernel
theorem dX0_pass_105 : decode cX0_pass 105 = .ok (.aload_n 1, 1) := by decide +kernel
theorem dX0_pass_106 : decode cX0_pass 106 = .ok (.aload_n 2, 1) := by decide +kernel
theorem dX0_pass_107 : decode cX0_pass 107 = .ok (.aload_n 0, 1) := by decide +kernel
theorem dX0_pass_108 : decode cX0_pass 108 = .ok (.getfield 9, 3) := by decide +kernel
theorem dX0_pass_111 : decode cX0_pass 111 = .ok (.iload 4, 2) := by decide +kernel
theorem dX0_pass_113 : decode cX0_pass 113 = .ok (.iaload, 1) := by decide +kernel
theorem dX0_pass_114 : decode cX0_pass 114 = .ok (.invokestatic 60, 3) := by decide +kernel
theorem dX0_pass_117 : decode cX0_pass 117 = .ok (.iinc 4 1, 3) := by decide +kernel
theorem dX0_pass_120 : decode cX0_pass 120 = .ok (.goto (-28), 3) := by decide +kernel
theorem dX0_pass_123 : decode cX0_pass 123 = .ok (.aload_n 1, 1) := by decide +kernel
theorem dX0_pass_124 : decode cX0_pass 124 = .ok (.aload_n 2, 1) := by decide +kernel
theorem dX0_pass_125 : decode cX0_pass 125 = .ok (.invokestatic 63, 3) := by decide +kernel
theorem dX0_pass_128 : decode cX0_pass 128 = .ok (.aload_n 2, 1) := by decide +kernel
theorem dX0_pass_129 : decode cX0_pass 129 = .ok (.sipush 999, 3) := by decide +kernel
theorem dX0_pass_132 : decode cX0_pass 132 = .ok (.aload_n 2, 1) := by decide +kernel
theorem dX0_pass_133 : decode cX0_pass 133 = .ok (.getfield 66, 3) := by decide +kernel
theorem dX0_pass_136 : decode cX0_pass 136 = .ok (.iconst 1, 1) := by decide +kernel
theorem dX0_pass_137 : decode cX0_pass 137 = .ok (.iadd, 1) := by decide +kernel
theorem dX0_pass_138 : decode cX0_pass 138 = .ok (.invokestatic 40, 3) := by decide +kernel
theorem dX0_pass_141 : decode cX0_pass 141 = .ok (.putfield 66, 3) := by decide +kernel
theorem dX0_pass_144 : decode cX0_pass 144 = .ok (.return_, 1) := by decide +kernel
theorem dX0_isSentAt_0 : decode cX0_isSentAt 0 = .ok (.aload_n 0, 1) := by decide +kernel
theorem dX0_isSentAt_1 : decode cX0_isSentAt 1 = .ok (.getfield 18, 3) := by decide +kernel
theorem dX0_isSentAt_4 : decode cX0_isSentAt 4 = .ok (.iload_n 2, 1) := by decide +kernel
theorem dX0_isSentAt_5 : decode cX0_isSentAt 5 = .ok (.iaload, 1) := by decide +kernel
theorem dX0_isSentAt_6 : decode cX0_isSentAt 6 = .ok (.iconst 1, 1) := by decide +kernel
theorem dX0_isSentAt_7 : decode cX0_isSentAt 7 = .ok (.if_icmp .ne 17, 3) := by decide +kernel
theorem dX0_isSentAt_10 : decode cX0_isSentAt 10 = .ok (.aload_n 0, 1) := by decide +kernel
theorem dX0_isSentAt_11 : decode cX0_isSentAt 11 = .ok (.getfield 70, 3) := by decide +kernel
theorem dX0_isSentAt_14 : decode cX0_isSentAt 14 = .ok (.iload_n 2, 1) := by decide +kernel
theorem dX0_isSentAt_15 : decode cX0_isSentAt 15 = .ok (.iaload, 1) := by decide +kernel
theorem dX0_isSentAt_16 : decode cX0_isSentAt 16 = .ok (.iload_n 1, 1) := by decide +kernel
theorem dX0_isSentAt_17 : decode cX0_isSentAt 17 = .ok (.if_icmp .ne 7, 3) := by decide +kernel
theorem dX0_isSentAt_20 : decode cX0_isSentAt 20 = .ok (.iconst 1, 1) := by decide +kernel
theorem dX0_isSentAt_21 : decode cX0_isSentAt 21 = .ok (.goto 4, 3) := by decide +kernel
theorem dX0_isSentAt_24 : decode cX0_isSentAt 24 = .ok (.iconst 0, 1) := by decide +kernel
theorem dX0_isSentAt_25 : decode cX0_isSentAt 25 = .ok (.ireturn, 1) := by decide +kernel
theorem dX0_hear_0 : decode cX0_hear 0 = .ok (.aload_n 0, 1) := by decide +kernel
theorem dX0_hear_1 : decode cX0_hear 1 = .ok (.aload_n 1, 1) := by decide +kernel
theorem dX0_hear_2 : decode cX0_hear 2 = .ok (.iload_n 2, 1) := by decide +kernel
theorem dX0_hear_3 : decode cX0_hear 3 = .ok (.invokestatic 73, 3) := by decide +kernel
theorem dX0_hear_6 : decode cX0_hear 6 = .ok (.istore_n 3, 1) := by decide +kernel
theorem dX0_hear_7 : decode cX0_hear 7 = .ok (.iconst 0, 1) := by decide +kernel
theorem dX0_hear_8 : decode cX0_hear 8 = .ok (.istore 4, 2) := by decide +kernel
theorem dX0_hear_10 : decode cX0_hear 10 = .ok (.iload 4, 2) := by decide +kernel
theorem dX0_hear_12 : decode cX0_hear 12 = .ok (.aload_n 0, 1) := by decide +kernel
theorem dX0_hear_13 : decode cX0_hear 13 = .ok (.getfield 77, 3) := by decide +kernel
theorem dX0_hear_16 : decode cX0_hear 16 = .ok (.if_icmp .ge 59, 3) := by decide +kernel
theorem dX0_hear_19 : decode cX0_hear 19 = .ok (.aload_n 1, 1) := by decide +kernel
theorem dX0_hear_20 : decode cX0_hear 20 = .ok (.iload_n 2, 1) := by decide +kernel
theorem dX0_hear_21 : decode cX0_hear 21 = .ok (.iload 4, 2) := by decide +kernel
theorem dX0_hear_23 : decode cX0_hear 23 = .ok (.invokestatic 82, 3) := by decide +kernel
theorem dX0_hear_26 : decode cX0_hear 26 = .ok (.ifCond .ne 6, 3) := by decide +kernel
theorem dX0_hear_29 : decode cX0_hear 29 = .ok (.goto 40, 3) := by decide +kernel
theorem dX0_hear_32 : decode cX0_hear 32 = .ok (.iload 4, 2) := by decide +kernel
theorem dX0_hear_34 : decode cX0_hear 34 = .ok (.iload_n 3, 1) := by decide +kernel
theorem dX0_hear_35 : decode cX0_hear 35 = .ok (.if_icmp .ne 13, 3) := by decide +kernel
theorem dX0_hear_38 : decode cX0_hear 38 = .ok (.aload_n 1, 1) := by decide +kernel
theorem dX0_hear_39 : decode cX0_hear 39 = .ok (.iload 4, 2) := by decide +kernel
theorem dX0_hear_41 : decode cX0_hear 41 = .ok (.iconst 3, 1) := by decide +kernel
theorem dX0_hear_42 : decode cX0_hear 42 = .ok (.invokevirtual 86, 3) := by decide +kernel
theorem dX0_hear_45 : decode cX0_hear 45 = .ok (.goto 24, 3) := by decide +kernel
theorem dX0_hear_48 : decode cX0_hear 48 = .ok (.aload_n 1, 1) := by decide +kernel
theorem dX0_hear_49 : decode cX0_hear 49 = .ok (.getfield 18, 3) := by decide +kernel
theorem dX0_hear_52 : decode cX0_hear 52 = .ok (.iload 4, 2) := by decide +kernel
theorem dX0_hear_54 : decode cX0_hear 54 = .ok (.iconst 2, 1) := by decide +kernel
theorem dX0_hear_55 : decode cX0_hear 55 = .ok (.iastore, 1) := by decide +kernel
theorem dX0_hear_56 : decode cX0_hear 56 = .ok (.aload_n 1, 1) := by decide +kernel
theorem dX0_hear_57 : decode cX0_hear 57 = .ok (.getfield 90, 3) := by decide +kernel
theorem dX0_hear_60 : decode cX0_hear 60 = .ok (.iload 4, 2) := by decide +kernel
theorem dX0_hear_62 : decode cX0_hear 62 = .ok (.iconst 1, 1) := by decide +kernel
theorem dX0_hear_63 : decode cX0_hear 63 = .ok (.iload 4, 2) := by decide +kernel
theorem dX0_hear_65 : decode cX0_hear 65 = .ok (.iconst 3, 1) := by decide +kernel
theorem dX0_hear_66 : decode cX0_hear 66 = .ok (.irem, 1) := by decide +kernel
theorem dX0_hear_67 : decode cX0_hear 67 = .ok (.iadd, 1) := by decide +kernel
theorem dX0_hear_68 : decode cX0_hear 68 = .ok (.iastore, 1) := by decide +kernel
theorem dX0_hear_69 : decode cX0_hear 69 = .ok (.iinc 4 1, 3) := by decide +kernel
theorem dX0_hear_72 : decode cX0_hear 72 = .ok (.goto (-62), 3) := by decide +kernel
theorem dX0_hear_75 : decode cX0_hear 75 = .ok (.return_, 1) := by decide +kernel
theorem dX0_heardAt_0 : decode cX0_heardAt 0 = .ok (.iconst 0, 1) := by decide +kernel
theorem dX0_heardAt_1 : decode cX0_heardAt 1 = .ok (.istore_n 3, 1) := by decide +kernel
theorem dX0_heardAt_2 : decode cX0_heardAt 2 = .ok (.bipush (-9), 2) := by decide +kernel
theorem dX0_heardAt_4 : decode cX0_heardAt 4 = .ok (.istore 4, 2) := by decide +kernel
theorem dX0_heardAt_6 : decode cX0_heardAt 6 = .ok (.iconst 0, 1) := by decide +kernel
theorem dX0_heardAt_7 : decode cX0_heardAt 7 = .ok (.istore 5, 2) := by decide +kernel
theorem dX0_heardAt_9 : decode cX0_heardAt 9 = .ok (.iload 5, 2) := by decide +kernel
theorem dX0_heardAt_11 : decode cX0_heardAt 11 = .ok (.aload_n 0, 1) := by decide +kernel
theorem dX0_heardAt_12 : decode cX0_heardAt 12 = .ok (.getfield 77, 3) := by decide +kernel
theorem dX0_heardAt_15 : decode cX0_heardAt 15 = .ok (.if_icmp .ge 40, 3) := by decide +kernel
theorem dX0_heardAt_18 : decode cX0_heardAt 18 = .ok (.aload_n 1, 1) := by decide +kernel
theorem dX0_heardAt_19 : decode cX0_heardAt 19 = .ok (.iload_n 2, 1) := by decide +kernel
theorem dX0_heardAt_20 : decode cX0_heardAt 20 = .ok (.iload 5, 2) := by decide +kernel
theorem dX0_heardAt_22 : decode cX0_heardAt 22 = .ok (.invokestatic 82, 3) := by decide +kernel
theorem dX0_heardAt_25 : decode cX0_heardAt 25 = .ok (.ifCond .eq 24, 3) := by decide +kernel
theorem dX0_heardAt_28 : decode cX0_heardAt 28 = .ok (.aload_n 1, 1) := by decide +kernel
theorem dX0_heardAt_29 : decode cX0_heardAt 29 = .ok (.getfield 93, 3) := by decide +kernel
theorem dX0_heardAt_32 : decode cX0_heardAt 32 = .ok (.iload 5, 2) := by decide +kernel
theorem dX0_heardAt_34 : decode cX0_heardAt 34 = .ok (.iaload, 1) := by decide +kernel
theorem dX0_heardAt_35 : decode cX0_heardAt 35 = .ok (.iconst 1, 1) := by decide +kernel
theorem dX0_heardAt_36 : decode cX0_heardAt 36 = .ok (.if_icmp .ne 6, 3) := by decide +kernel
theorem dX0_heardAt_39 : decode cX0_heardAt 39 = .ok (.iload 5, 2) := by decide +kernel
theorem dX0_heardAt_41 : decode cX0_heardAt 41 = .ok (.ireturn, 1) := by decide +kernel
theorem dX0_heardAt_42 : decode cX0_heardAt 42 = .ok (.iinc 3 1, 3) := by decide +kernel
theorem dX0_heardAt_45 : decode cX0_heardAt 45 = .ok (.iload 5, 2) := by decide +kernel
theorem dX0_heardAt_47 : decode cX0_heardAt 47 = .ok (.istore 4, 2) := by decide +kernel
theorem dX0_heardAt_49 : decode cX0_heardAt 49 = .ok (.iinc 5 1, 3) := by decide +kernel
theorem dX0_heardAt_52 : decode cX0_heardAt 52 = .ok (.goto (-43), 3) := by decide +kernel
theorem dX0_heardAt_55 : decode cX0_heardAt 55 = .ok (.iload_n 3, 1) := by decide +kernel
theorem dX0_heardAt_56 : decode cX0_heardAt 56 = .ok (.iconst 1, 1) := by decide +kernel
theorem dX0_heardAt_57 : decode cX0_heardAt 57 = .ok (.if_icmp .ne 8, 3) := by decide +kernel
theorem dX0_heardAt_60 : decode cX0_heardAt 60 = .ok (.iload 4, 2) := by decide +kernel
theorem dX0_heardAt_62 : decode cX0_heardAt 62 = .ok (.goto 5, 3) := by decide +kernel
theorem dX0_heardAt_65 : decode cX0_heardAt 65 = .ok (.bipush (-9), 2) := by decide +kernel
theorem dX0_heardAt_67 : decode cX0_heardAt 67 = .ok (.ireturn, 1) := by decide +kernel
theorem dX0_helpThemselves_0 : decode cX0_helpThemselves 0 = .ok (.aload_n 1, 1) := by decide +kernel
theorem dX0_helpThemselves_1 : decode cX0_helpThemselves 1 = .ok (.getfield 37, 3) := by decide +kernel
theorem dX0_helpThemselves_4 : decode cX0_helpThemselves 4 = .ok (.iload_n 2, 1) := by decide +kernel
theorem dX0_helpThemselves_5 : decode cX0_helpThemselves 5 = .ok (.iaload, 1) := by decide +kernel
theorem dX0_helpThemselves_6 : decode cX0_helpThemselves 6 = .ok (.iconst 2, 1) := by decide +kernel
theorem dX0_helpThemselves_7 : decode cX0_helpThemselves 7 = .ok (.if_icmp .ge 4, 3) := by decide +kernel
theorem dX0_helpThemselves_10 : decode cX0_helpThemselves 10 = .ok (.return_, 1) := by decide +kernel
theorem dX0_helpThemselves_11 : decode cX0_helpThemselves 11 = .ok (.iconst 0, 1) := by decide +kernel
theorem dX0_helpThemselves_12 : decode cX0_helpThemselves 12 = .ok (.istore_n 3, 1) := by decide +kernel
theorem dX0_helpThemselves_13 : decode cX0_helpThemselves 13 = .ok (.iload_n 3, 1) := by decide +kernel
theorem dX0_helpThemselves_14 : decode cX0_helpThemselves 14 = .ok (.aload_n 0, 1) := by decide +kernel
theorem dX0_helpThemselves_15 : decode cX0_helpThemselves 15 = .ok (.getfield 77, 3) := by decide +kernel
theorem dX0_helpThemselves_18 : decode cX0_helpThemselves 18 = .ok (.if_icmp .ge 43, 3) := by decide +kernel
theorem dX0_helpThemselves_21 : decode cX0_helpThemselves 21 = .ok (.aload_n 1, 1) := by decide +kernel
theorem dX0_helpThemselves_22 : decode cX0_helpThemselves 22 = .ok (.iload_n 2, 1) := by decide +kernel
theorem dX0_helpThemselves_23 : decode cX0_helpThemselves 23 = .ok (.iload_n 3, 1) := by decide +kernel
theorem dX0_helpThemselves_24 : decode cX0_helpThemselves 24 = .ok (.invokestatic 82, 3) := by decide +kernel
theorem dX0_helpThemselves_27 : decode cX0_helpThemselves 27 = .ok (.ifCond .eq 28, 3) := by decide +kernel
theorem dX0_helpThemselves_30 : decode cX0_helpThemselves 30 = .ok (.aload_n 0, 1) := by decide +kernel
theorem dX0_helpThemselves_31 : decode cX0_helpThemselves 31 = .ok (.aload_n 1, 1) := by decide +kernel
theorem dX0_helpThemselves_32 : decode cX0_helpThemselves 32 = .ok (.iload_n 3, 1) := by decide +kernel
theorem dX0_helpThemselves_33 : decode cX0_helpThemselves 33 = .ok (.invokestatic 96, 3) := by decide +kernel
theorem dX0_helpThemselves_36 : decode cX0_helpThemselves 36 = .ok (.ifCond .ne 19, 3) := by decide +kernel
theorem dX0_helpThemselves_39 : decode cX0_helpThemselves 39 = .ok (.aload_n 1, 1) := by decide +kernel
theorem dX0_helpThemselves_40 : decode cX0_helpThemselves 40 = .ok (.iload_n 3, 1) := by decide +kernel
theorem dX0_helpThemselves_41 : decode cX0_helpThemselves 41 = .ok (.iconst 5, 1) := by decide +kernel
theorem dX0_helpThemselves_42 : decode cX0_helpThemselves 42 = .ok (.invokevirtual 86, 3) := by decide +kernel
theorem dX0_helpThemselves_45 : decode cX0_helpThemselves 45 = .ok (.aload_n 1, 1) := by decide +kernel
theorem dX0_helpThemselves_46 : decode cX0_helpThemselves 46 = .ok (.dup, 1) := by decide +kernel
theorem dX0_helpThemselves_47 : decode cX0_helpThemselves 47 = .ok (.getfield 100, 3) := by decide +kernel
theorem dX0_helpThemselves_50 : decode cX0_helpThemselves 50 = .ok (.iconst 1, 1) := by decide +kernel
theorem dX0_helpThemselves_51 : decode cX0_helpThemselves 51 = .ok (.iadd, 1) := by decide +kernel
theorem dX0_helpThemselves_52 : decode cX0_helpThemselves 52 = .ok (.putfield 100, 3) := by decide +kernel
theorem dX0_helpThemselves_55 : decode cX0_helpThemselves 55 = .ok (.iinc 3 1, 3) := by decide +kernel
theorem dX0_helpThemselves_58 : decode cX0_helpThemselves 58 = .ok (.goto (-45), 3) := by decide +kernel
theorem dX0_helpThemselves_61 : decode cX0_helpThemselves 61 = .ok (.return_, 1) := by decide +kernel
theorem dX0_isSoftTaken_0 : decode cX0_isSoftTaken 0 = .ok (.aload_n 1, 1) := by decide +kernel
theorem dX0_isSoftTaken_1 : decode cX0_isSoftTaken 1 = .ok (.getfield 70, 3) := by decide +kernel
theorem dX0_isSoftTaken_4 : decode cX0_isSoftTaken 4 = .ok (.iload_n 2, 1) := by decide +kernel
theorem dX0_isSoftTaken_5 : decode cX0_isSoftTaken 5 = .ok (.iaload, 1) := by decide +kernel
theorem dX0_isSoftTaken_6 : decode cX0_isSoftTaken 6 = .ok (.istore_n 3, 1) := by decide +kernel
theorem dX0_isSoftTaken_7 : decode cX0_isSoftTaken 7 = .ok (.iconst 1, 1) := by decide +kernel
theorem dX0_isSoftTaken_8 : decode cX0_isSoftTaken 8 = .ok (.aload_n 0, 1) := by decide +kernel
theorem dX0_isSoftTaken_9 : decode cX0_isSoftTaken 9 = .ok (.getfield 103, 3) := by decide +kernel
theorem dX0_isSoftTaken_12 : decode cX0_isSoftTaken 12 = .ok (.iload_n 3, 1) := by decide +kernel
theorem dX0_isSoftTaken_13 : decode cX0_isSoftTaken 13 = .ok (.iaload, 1) := by decide +kernel
theorem dX0_isSoftTaken_14 : decode cX0_isSoftTaken 14 = .ok (.invokestatic 106, 3) := by decide +kernel
theorem dX0_isSoftTaken_17 : decode cX0_isSoftTaken 17 = .ok (.istore 4, 2) := by decide +kernel
theorem dX0_isSoftTaken_19 : decode cX0_isSoftTaken 19 = .ok (.aload_n 0, 1) := by decide +kernel
theorem dX0_isSoftTaken_20 : decode cX0_isSoftTaken 20 = .ok (.getfield 109, 3) := by decide +kernel
theorem dX0_isSoftTaken_23 : decode cX0_isSoftTaken 23 = .ok (.iload_n 2, 1) := by decide +kernel
theorem dX0_isSoftTaken_24 : decode cX0_isSoftTaken 24 = .ok (.iaload, 1) := by decide +kernel
theorem dX0_isSoftTaken_25 : decode cX0_isSoftTaken 25 = .ok (.iload 4, 2) := by decide +kernel
theorem dX0_isSoftTaken_27 : decode cX0_isSoftTaken 27 = .ok (.irem, 1) := by decide +kernel
theorem dX0_isSoftTaken_28 : decode cX0_isSoftTaken 28 = .ok (.istore 5, 2) := by decide +kernel
theorem dX0_isSoftTaken_30 : decode cX0_isSoftTaken 30 = .ok (.iconst 0, 1) := by decide +kernel
theorem dX0_isSoftTaken_31 : decode cX0_isSoftTaken 31 = .ok (.istore 6, 2) := by decide +kernel
theorem dX0_isSoftTaken_33 : decode cX0_isSoftTaken 33 = .ok (.iload 6, 2) := by decide +kernel
theorem dX0_isSoftTaken_35 : decode cX0_isSoftTaken 35 = .ok (.aload_n 0, 1) := by decide +kernel
theorem dX0_isSoftTaken_36 : decode cX0_isSoftTaken 36 = .ok (.getfield 77, 3) := by decide +kernel
theorem dX0_isSoftTaken_39 : decode cX0_isSoftTaken 39 = .ok (.if_icmp .ge 48, 3) := by decide +kernel
theorem dX0_isSoftTaken_42 : decode cX0_isSoftTaken 42 = .ok (.aload_n 1, 1) := by decide +kernel
theorem dX0_isSoftTaken_43 : decode cX0_isSoftTaken 43 = .ok (.getfield 18, 3) := by decide +kernel
theorem dX0_isSoftTaken_46 : decode cX0_isSoftTaken 46 = .ok (.iload 6, 2) := by decide +kernel
theorem dX0_isSoftTaken_48 : decode cX0_isSoftTaken 48 = .ok (.iaload, 1) := by decide +kernel
theorem dX0_isSoftTaken_49 : decode cX0_isSoftTaken 49 = .ok (.iconst 5, 1) := by decide +kernel
theorem dX0_isSoftTaken_50 : decode cX0_isSoftTaken 50 = .ok (.if_icmp .ne 31, 3) := by decide +kernel
theorem dX0_isSoftTaken_53 : decode cX0_isSoftTaken 53 = .ok (.aload_n 1, 1) := by decide +kernel
theorem dX0_isSoftTaken_54 : decode cX0_isSoftTaken 54 = .ok (.getfield 70, 3) := by decide +kernel
theorem dX0_isSoftTaken_57 : decode cX0_isSoftTaken 57 = .ok (.iload 6, 2) := by decide +kernel
theorem dX0_isSoftTaken_59 : decode cX0_isSoftTaken 59 = .ok (.iaload, 1) := by decide +kernel
theorem dX0_isSoftTaken_60 : decode cX0_isSoftTaken 60 = .ok (.iload_n 3, 1) := by decide +kernel
theorem dX0_isSoftTaken_61 : decode cX0_isSoftTaken 61 = .ok (.if_icmp .ne 20, 3) := by decide +kernel
theorem dX0_isSoftTaken_64 : decode cX0_isSoftTaken 64 = .ok (.aload_n 0, 1) := by decide +kernel
theorem dX0_isSoftTaken_65 : decode cX0_isSoftTaken 65 = .ok (.getfield 109, 3) := by decide +kernel
theorem dX0_isSoftTaken_68 : decode cX0_isSoftTaken 68 = .ok (.iload 6, 2) := by decide +kernel
theorem dX0_isSoftTaken_70 : decode cX0_isSoftTaken 70 = .ok (.iaload, 1) := by decide +kernel
theorem dX0_isSoftTaken_71 : decode cX0_isSoftTaken 71 = .ok (.iload 4, 2) := by decide +kernel
theorem dX0_isSoftTaken_73 : decode cX0_isSoftTaken 73 = .ok (.irem, 1) := by decide +kernel
theorem dX0_isSoftTaken_74 : decode cX0_isSoftTaken 74 = .ok (.iload 5, 2) := by decide +kernel
theorem dX0_isSoftTaken_76 : decode cX0_isSoftTaken 76 = .ok (.if_icmp .ne 5, 3) := by decide +kernel
theorem dX0_isSoftTaken_79 : decode cX0_isSoftTaken 79 = .ok (.iconst 1, 1) := by decide +kernel
theorem dX0_isSoftTaken_80 : decode cX0_isSoftTaken 80 = .ok (.ireturn, 1) := by decide +kernel
theorem dX0_isSoftTaken_81 : decode cX0_isSoftTaken 81 = .ok (.iinc 6 1, 3) := by decide +kernel
theorem dX0_isSoftTaken_84 : decode cX0_isSoftTaken 84 = .ok (.goto (-51), 3) := by decide +kernel
theorem dX0_isSoftTaken_87 : decode cX0_isSoftTaken 87 = .ok (.iconst 0, 1) := by decide +kernel
theorem dX0_isSoftTaken_88 : decode cX0_isSoftTaken 88 = .ok (.ireturn, 1) := by decide +kernel
theorem dX0_tryAgain_0 : decode cX0_tryAgain 0 = .ok (.iconst 0, 1) := by decide +kernel
theorem dX0_tryAgain_1 : decode cX0_tryAgain 1 = .ok (.istore_n 3, 1) := by decide +kernel
theorem dX0_tryAgain_2 : decode cX0_tryAgain 2 = .ok (.iload_n 3, 1) := by decide +kernel
theorem dX0_tryAgain_3 : decode cX0_tryAgain 3 = .ok (.aload_n 1, 1) := by decide +kernel
theorem dX0_tryAgain_4 : decode cX0_tryAgain 4 = .ok (.getfield 77, 3) := by decide +kernel
theorem dX0_tryAgain_7 : decode cX0_tryAgain 7 = .ok (.if_icmp .ge 45, 3) := by decide +kernel
theorem dX0_tryAgain_10 : decode cX0_tryAgain 10 = .ok (.aload_n 0, 1) := by decide +kernel
theorem dX0_tryAgain_11 : decode cX0_tryAgain 11 = .ok (.getfield 15, 3) := by decide +kernel
theorem dX0_tryAgain_14 : decode cX0_tryAgain 14 = .ok (.iload_n 3, 1) := by decide +kernel
theorem dX0_tryAgain_15 : decode cX0_tryAgain 15 = .ok (.iaload, 1) := by decide +kernel
theorem dX0_tryAgain_16 : decode cX0_tryAgain 16 = .ok (.iconst 2, 1) := by decide +kernel
theorem dX0_tryAgain_17 : decode cX0_tryAgain 17 = .ok (.if_icmp .ne 29, 3) := by decide +kernel
theorem dX0_tryAgain_20 : decode cX0_tryAgain 20 = .ok (.aload_n 2, 1) := by decide +kernel
theorem dX0_tryAgain_21 : decode cX0_tryAgain 21 = .ok (.getfield 90, 3) := by decide +kernel
theorem dX0_tryAgain_24 : decode cX0_tryAgain 24 = .ok (.iload_n 3, 1) := by decide +kernel
theorem dX0_tryAgain_25 : decode cX0_tryAgain 25 = .ok (.dup2, 1) := by decide +kernel
theorem dX0_tryAgain_26 : decode cX0_tryAgain 26 = .ok (.iaload, 1) := by decide +kernel
theorem dX0_tryAgain_27 : decode cX0_tryAgain 27 = .ok (.iconst 1, 1) := by decide +kernel
theorem dX0_tryAgain_28 : decode cX0_tryAgain 28 = .ok (.isub, 1) := by decide +kernel
theorem dX0_tryAgain_29 : decode cX0_tryAgain 29 = .ok (.iastore, 1) := by decide +kernel
theorem dX0_tryAgain_30 : decode cX0_tryAgain 30 = .ok (.aload_n 2, 1) := by decide +kernel
theorem dX0_tryAgain_31 : decode cX0_tryAgain 31 = .ok (.getfield 90, 3) := by decide +kernel
theorem dX0_tryAgain_34 : decode cX0_tryAgain 34 = .ok (.iload_n 3, 1) := by decide +kernel
theorem dX0_tryAgain_35 : decode cX0_tryAgain 35 = .ok (.iaload, 1) := by decide +kernel
theorem dX0_tryAgain_36 : decode cX0_tryAgain 36 = .ok (.iconst 1, 1) := by decide +kernel
theorem dX0_tryAgain_37 : decode cX0_tryAgain 37 = .ok (.if_icmp .ge 9, 3) := by decide +kernel
theorem dX0_tryAgain_40 : decode cX0_tryAgain 40 = .ok (.aload_n 2, 1) := by decide +kernel
theorem dX0_tryAgain_41 : decode cX0_tryAgain 41 = .ok (.iload_n 3, 1) := by decide +kernel
theorem dX0_tryAgain_42 : decode cX0_tryAgain 42 = .ok (.iconst 1, 1) := by decide +kernel
theorem dX0_tryAgain_43 : decode cX0_tryAgain 43 = .ok (.invokevirtual 86, 3) := by decide +kernel
theorem dX0_tryAgain_46 : decode cX0_tryAgain 46 = .ok (.iinc 3 1, 3) := by decide +kernel
theorem dX0_tryAgain_49 : decode cX0_tryAgain 49 = .ok (.goto (-47), 3) := by decide +kernel
theorem dX0_tryAgain_52 : decode cX0_tryAgain 52 = .ok (.return_, 1) := by decide +kernel
theorem dX0_cutLongTalks_0 : decode cX0_cutLongTalks 0 = .ok (.iconst 0, 1) := by decide +kernel
theorem dX0_cutLongTalks_1 : decode cX0_cutLongTalks 1 = .ok (.istore_n 3, 1) := by decide +kernel
theorem dX0_cutLongTalks_2 : decode cX0_cutLongTalks 2 = .ok (.iload_n 3, 1) := by decide +kernel
theorem dX0_cutLongTalks_3 : decode cX0_cutLongTalks 3 = .ok (.aload_n 1, 1) := by decide +kernel
theorem dX0_cutLongTalks_4 : decode cX0_cutLongTalks 4 = .ok (.getfield 77, 3) := by decide +kernel
theorem dX0_cutLongTalks_7 : decode cX0_cutLongTalks 7 = .ok (.if_icmp .ge 67, 3) := by decide +kernel
theorem dX0_cutLongTalks_10 : decode cX0_cutLongTalks 10 = .ok (.aload_n 0, 1) := by decide +kernel
theorem dX0_cutLongTalks_11 : decode cX0_cutLongTalks 11 = .ok (.getfield 15, 3) := by decide +kernel
theorem dX0_cutLongTalks_14 : decode cX0_cutLongTalks 14 = .ok (.iload_n 3, 1) := by decide +kernel
theorem dX0_cutLongTalks_15 : decode cX0_cutLongTalks 15 = .ok (.iaload, 1) := by decide +kernel
theorem dX0_cutLongTalks_16 : decode cX0_cutLongTalks 16 = .ok (.iconst 4, 1) := by decide +kernel
theorem dX0_cutLongTalks_17 : decode cX0_cutLongTalks 17 = .ok (.if_icmp .eq 13, 3) := by decide +kernel
theorem dX0_cutLongTalks_20 : decode cX0_cutLongTalks 20 = .ok (.aload_n 0, 1) := by decide +kernel
theorem dX0_cutLongTalks_21 : decode cX0_cutLongTalks 21 = .ok (.getfield 15, 3) := by decide +kernel
theorem dX0_cutLongTalks_24 : decode cX0_cutLongTalks 24 = .ok (.iload_n 3, 1) := by decide +kernel
theorem dX0_cutLongTalks_25 : decode cX0_cutLongTalks 25 = .ok (.iaload, 1) := by decide +kernel
theorem dX0_cutLongTalks_26 : decode cX0_cutLongTalks 26 = .ok (.iconst 5, 1) := by decide +kernel
theorem dX0_cutLongTalks_27 : decode cX0_cutLongTalks 27 = .ok (.if_icmp .ne 41, 3) := by decide +kernel
theorem dX0_cutLongTalks_30 : decode cX0_cutLongTalks 30 = .ok (.aload_n 2, 1) := by decide +kernel
theorem dX0_cutLongTalks_31 : decode cX0_cutLongTalks 31 = .ok (.getfield 90, 3) := by decide +kernel
theorem dX0_cutLongTalks_34 : decode cX0_cutLongTalks 34 = .ok (.iload_n 3, 1) := by decide +kernel
theorem dX0_cutLongTalks_35 : decode cX0_cutLongTalks 35 = .ok (.dup2, 1) := by decide +kernel
theorem dX0_cutLongTalks_36 : decode cX0_cutLongTalks 36 = .ok (.iaload, 1) := by decide +kernel
theorem dX0_cutLongTalks_37 : decode cX0_cutLongTalks 37 = .ok (.iconst 1, 1) := by decide +kernel
theorem dX0_cutLongTalks_38 : decode cX0_cutLongTalks 38 = .ok (.iadd, 1) := by decide +kernel
theorem dX0_cutLongTalks_39 : decode cX0_cutLongTalks 39 = .ok (.iastore, 1) := by decide +kernel
theorem dX0_cutLongTalks_40 : decode cX0_cutLongTalks 40 = .ok (.aload_n 2, 1) := by decide +kernel
theorem dX0_cutLongTalks_41 : decode cX0_cutLongTalks 41 = .ok (.getfield 90, 3) := by decide +kernel
theorem dX0_cutLongTalks_44 : decode cX0_cutLongTalks 44 = .ok (.iload_n 3, 1) := by decide +kernel
theorem dX0_cutLongTalks_45 : decode cX0_cutLongTalks 45 = .ok (.iaload, 1) := by decide +kernel
theorem dX0_cutLongTalks_46 : decode cX0_cutLongTalks 46 = .ok (.aload_n 1, 1) := by decide +kernel
theorem dX0_cutLongTalks_47 : decode cX0_cutLongTalks 47 = .ok (.getfield 112, 3) := by decide +kernel
theorem dX0_cutLongTalks_50 : decode cX0_cutLongTalks 50 = .ok (.if_icmp .lt 18, 3) := by decide +kernel
theorem dX0_cutLongTalks_53 : decode cX0_cutLongTalks 53 = .ok (.aload_n 2, 1) := by decide +kernel
theorem dX0_cutLongTalks_54 : decode cX0_cutLongTalks 54 = .ok (.iload_n 3, 1) := by decide +kernel
theorem dX0_cutLongTalks_55 : decode cX0_cutLongTalks 55 = .ok (.invokevirtual 115, 3) := by decide +kernel
theorem dX0_cutLongTalks_58 : decode cX0_cutLongTalks 58 = .ok (.aload_n 2, 1) := by decide +kernel
theorem dX0_cutLongTalks_59 : decode cX0_cutLongTalks 59 = .ok (.dup, 1) := by decide +kernel
theorem dX0_cutLongTalks_60 : decode cX0_cutLongTalks 60 = .ok (.getfield 119, 3) := by decide +kernel
theorem dX0_cutLongTalks_63 : decode cX0_cutLongTalks 63 = .ok (.iconst 1, 1) := by decide +kernel
theorem dX0_cutLongTalks_64 : decode cX0_cutLongTalks 64 = .ok (.iadd, 1) := by decide +kernel
theorem dX0_cutLongTalks_65 : decode cX0_cutLongTalks 65 = .ok (.putfield 119, 3) := by decide +kernel
theorem dX0_cutLongTalks_68 : decode cX0_cutLongTalks 68 = .ok (.iinc 3 1, 3) := by decide +kernel
theorem dX0_cutLongTalks_71 : decode cX0_cutLongTalks 71 = .ok (.goto (-69), 3) := by decide +kernel
theorem dX0_cutLongTalks_74 : decode cX0_cutLongTalks 74 = .ok (.return_, 1) := by decide +kernel
theorem dX0_lineUp_0 : decode cX0_lineUp 0 = .ok (.iconst 0, 1) := by decide +kernel
theorem dX0_lineUp_1 : decode cX0_lineUp 1 = .ok (.istore_n 3, 1) := by decide +kernel
theorem dX0_lineUp_2 : decode cX0_lineUp 2 = .ok (.iconst 0, 1) := by decide +kernel
theorem dX0_lineUp_3 : decode cX0_lineUp 3 = .ok (.istore 4, 2) := by decide +kernel
theorem dX0_lineUp_5 : decode cX0_lineUp 5 = .ok (.iload 4, 2) := by decide +kernel
theorem dX0_lineUp_7 : decode cX0_lineUp 7 = .ok (.aload_n 1, 1) := by decide +kernel
theorem dX0_lineUp_8 : decode cX0_lineUp 8 = .ok (.getfield 77, 3) := by decide +kernel
theorem dX0_lineUp_11 : decode cX0_lineUp 11 = .ok (.if_icmp .ge 84, 3) := by decide +kernel
theorem dX0_lineUp_14 : decode cX0_lineUp 14 = .ok (.aload_n 2, 1) := by decide +kernel
theorem dX0_lineUp_15 : decode cX0_lineUp 15 = .ok (.getfield 18, 3) := by decide +kernel
theorem dX0_lineUp_18 : decode cX0_lineUp 18 = .ok (.iload 4, 2) := by decide +kernel
theorem dX0_lineUp_20 : decode cX0_lineUp 20 = .ok (.iaload, 1) := by decide +kernel
theorem dX0_lineUp_21 : decode cX0_lineUp 21 = .ok (.iconst 3, 1) := by decide +kernel
theorem dX0_lineUp_22 : decode cX0_lineUp 22 = .ok (.if_icmp .eq 6, 3) := by decide +kernel
theorem dX0_lineUp_25 : decode cX0_lineUp 25 = .ok (.goto 64, 3) := by decide +kernel
theorem dX0_lineUp_28 : decode cX0_lineUp 28 = .ok (.iload_n 3, 1) := by decide +kernel
theorem dX0_lineUp_29 : decode cX0_lineUp 29 = .ok (.istore 5, 2) := by decide +kernel
theorem dX0_lineUp_31 : decode cX0_lineUp 31 = .ok (.iload 5, 2) := by decide +kernel
theorem dX0_lineUp_33 : decode cX0_lineUp 33 = .ok (.ifCond .le 44, 3) := by decide +kernel
theorem dX0_lineUp_36 : decode cX0_lineUp 36 = .ok (.aload_n 1, 1) := by decide +kernel
theorem dX0_lineUp_37 : decode cX0_lineUp 37 = .ok (.aload_n 2, 1) := by decide +kernel
theorem dX0_lineUp_38 : decode cX0_lineUp 38 = .ok (.iload 4, 2) := by decide +kernel
theorem dX0_lineUp_40 : decode cX0_lineUp 40 = .ok (.aload_n 0, 1) := by decide +kernel
theorem dX0_lineUp_41 : decode cX0_lineUp 41 = .ok (.getfield 9, 3) := by decide +kernel
theorem dX0_lineUp_44 : decode cX0_lineUp 44 = .ok (.iload 5, 2) := by decide +kernel
theorem dX0_lineUp_46 : decode cX0_lineUp 46 = .ok (.iconst 1, 1) := by decide +kernel
theorem dX0_lineUp_47 : decode cX0_lineUp 47 = .ok (.isub, 1) := by decide +kernel
theorem dX0_lineUp_48 : decode cX0_lineUp 48 = .ok (.iaload, 1) := by decide +kernel
theorem dX0_lineUp_49 : decode cX0_lineUp 49 = .ok (.invokestatic 122, 3) := by decide +kernel
theorem dX0_lineUp_52 : decode cX0_lineUp 52 = .ok (.ifCond .eq 25, 3) := by decide +kernel
theorem dX0_lineUp_55 : decode cX0_lineUp 55 = .ok (.aload_n 0, 1) := by decide +kernel
theorem dX0_lineUp_56 : decode cX0_lineUp 56 = .ok (.getfield 9, 3) := by decide +kernel
theorem dX0_lineUp_59 : decode cX0_lineUp 59 = .ok (.iload 5, 2) := by decide +kernel
theorem dX0_lineUp_61 : decode cX0_lineUp 61 = .ok (.aload_n 0, 1) := by decide +kernel
theorem dX0_lineUp_62 : decode cX0_lineUp 62 = .ok (.getfield 9, 3) := by decide +kernel
theorem dX0_lineUp_65 : decode cX0_lineUp 65 = .ok (.iload 5, 2) := by decide +kernel
theorem dX0_lineUp_67 : decode cX0_lineUp 67 = .ok (.iconst 1, 1) := by decide +kernel
theorem dX0_lineUp_68 : decode cX0_lineUp 68 = .ok (.isub, 1) := by decide +kernel
theorem dX0_lineUp_69 : decode cX0_lineUp 69 = .ok (.iaload, 1) := by decide +kernel
theorem dX0_lineUp_70 : decode cX0_lineUp 70 = .ok (.iastore, 1) := by decide +kernel
theorem dX0_lineUp_71 : decode cX0_lineUp 71 = .ok (.iinc 5 (-1), 3) := by decide +kernel
theorem dX0_lineUp_74 : decode cX0_lineUp 74 = .ok (.goto (-43), 3) := by decide +kernel
theorem dX0_lineUp_77 : decode cX0_lineUp 77 = .ok (.aload_n 0, 1) := by decide +kernel
theorem dX0_lineUp_78 : decode cX0_lineUp 78 = .ok (.getfield 9, 3) := by decide +kernel
theorem dX0_lineUp_81 : decode cX0_lineUp 81 = .ok (.iload 5, 2) := by decide +kernel
theorem dX0_lineUp_83 : decode cX0_lineUp 83 = .ok (.iload 4, 2) := by decide +kernel
theorem dX0_lineUp_85 : decode cX0_lineUp 85 = .ok (.iastore, 1) := by decide +kernel
theorem dX0_lineUp_86 : decode cX0_lineUp 86 = .ok (.iinc 3 1, 3) := by decide +kernel
theorem dX0_lineUp_89 : decode cX0_lineUp 89 = .ok (.iinc 4 1, 3) := by decide +kernel
theorem dX0_lineUp_92 : decode cX0_lineUp 92 = .ok (.goto (-87), 3) := by decide +kernel
theorem dX0_lineUp_95 : decode cX0_lineUp 95 = .ok (.iload_n 3, 1) := by decide +kernel
theorem dX0_lineUp_96 : decode cX0_lineUp 96 = .ok (.ireturn, 1) := by decide +kernel
theorem dX0_isAhead_0 : decode cX0_isAhead 0 = .ok (.aload_n 1, 1) := by decide +kernel
theorem dX0_isAhead_1 : decode cX0_isAhead 1 = .ok (.getfield 93, 3) := by decide +kernel
theorem dX0_isAhead_4 : decode cX0_isAhead 4 = .ok (.iload_n 2, 1) := by decide +kernel
theorem dX0_isAhead_5 : decode cX0_isAhead 5 = .ok (.iaload, 1) := by decide +kernel
theorem dX0_isAhead_6 : decode cX0_isAhead 6 = .ok (.aload_n 1, 1) := by decide +kernel
theorem dX0_isAhead_7 : decode cX0_isAhead 7 = .ok (.getfield 93, 3) := by decide +kernel
theorem dX0_isAhead_10 : decode cX0_isAhead 10 = .ok (.iload_n 3, 1) := by decide +kernel
theorem dX0_isAhead_11 : decode cX0_isAhead 11 = .ok (.iaload, 1) := by decide +kernel
theorem dX0_isAhead_12 : decode cX0_isAhead 12 = .ok (.if_icmp .eq 19, 3) := by decide +kernel
theorem dX0_isAhead_15 : decode cX0_isAhead 15 = .ok (.aload_n 1, 1) := by decide +kernel
theorem dX0_isAhead_16 : decode cX0_isAhead 16 = .ok (.getfield 93, 3) := by decide +kernel
theorem dX0_isAhead_19 : decode cX0_isAhead 19 = .ok (.iload_n 2, 1) := by decide +kernel
theorem dX0_isAhead_20 : decode cX0_isAhead 20 = .ok (.iaload, 1) := by decide +kernel
theorem dX0_isAhead_21 : decode cX0_isAhead 21 = .ok (.iconst 1, 1) := by decide +kernel
theorem dX0_isAhead_22 : decode cX0_isAhead 22 = .ok (.if_icmp .ne 7, 3) := by decide +kernel
theorem dX0_isAhead_25 : decode cX0_isAhead 25 = .ok (.iconst 1, 1) := by decide +kernel
theorem dX0_isAhead_26 : decode cX0_isAhead 26 = .ok (.goto 4, 3) := by decide +kernel
theorem dX0_isAhead_29 : decode cX0_isAhead 29 = .ok (.iconst 0, 1) := by decide +kernel
theorem dX0_isAhead_30 : decode cX0_isAhead 30 = .ok (.ireturn, 1) := by decide +kernel
theorem dX0_isAhead_31 : decode cX0_isAhead 31 = .ok (.iconst 4, 1) := by decide +kernel
theorem dX0_isAhead_32 : decode cX0_isAhead 32 = .ok (.aload_n 0, 1) := by decide +kernel
theorem dX0_isAhead_33 : decode cX0_isAhead 33 = .ok (.getfield 126, 3) := by decide +kernel
theorem dX0_isAhead_36 : decode cX0_isAhead 36 = .ok (.iload_n 2, 1) := by decide +kernel
theorem dX0_isAhead_37 : decode cX0_isAhead 37 = .ok (.iaload, 1) := by decide +kernel
theorem dX0_isAhead_38 : decode cX0_isAhead 38 = .ok (.imul, 1) := by decide +kernel
theorem dX0_isAhead_39 : decode cX0_isAhead 39 = .ok (.aload_n 1, 1) := by decide +kernel
theorem dX0_isAhead_40 : decode cX0_isAhead 40 = .ok (.getfield 90, 3) := by decide +kernel
theorem dX0_isAhead_43 : decode cX0_isAhead 43 = .ok (.iload_n 2, 1) := by decide +kernel
theorem dX0_isAhead_44 : decode cX0_isAhead 44 = .ok (.iaload, 1) := by decide +kernel
theorem dX0_isAhead_45 : decode cX0_isAhead 45 = .ok (.iadd, 1) := by decide +kernel
theorem dX0_isAhead_46 : decode cX0_isAhead 46 = .ok (.iconst 4, 1) := by decide +kernel
theorem dX0_isAhead_47 : decode cX0_isAhead 47 = .ok (.aload_n 0, 1) := by decide +kernel
theorem dX0_isAhead_48 : decode cX0_isAhead 48 = .ok (.getfield 126, 3) := by decide +kernel
theorem dX0_isAhead_51 : decode cX0_isAhead 51 = .ok (.iload_n 3, 1) := by decide +kernel
theorem dX0_isAhead_52 : decode cX0_isAhead 52 = .ok (.iaload, 1) := by decide +kernel
theorem dX0_isAhead_53 : decode cX0_isAhead 53 = .ok (.imul, 1) := by decide +kernel
theorem dX0_isAhead_54 : decode cX0_isAhead 54 = .ok (.aload_n 1, 1) := by decide +kernel
theorem dX0_isAhead_55 : decode cX0_isAhead 55 = .ok (.getfield 90, 3) := by decide +kernel
theorem dX0_isAhead_58 : decode cX0_isAhead 58 = .ok (.iload_n 3, 1) := by decide +kernel
theorem dX0_isAhead_59 : decode cX0_isAhead 59 = .ok (.iaload, 1) := by decide +kernel
theorem dX0_isAhead_60 : decode cX0_isAhead 60 = .ok (.iadd, 1) := by decide +kernel
theorem dX0_isAhead_61 : decode cX0_isAhead 61 = .ok (.if_icmp .le 7, 3) := by decide +kernel
theorem dX0_isAhead_64 : decode cX0_isAhead 64 = .ok (.iconst 1, 1) := by decide +kernel
theorem dX0_isAhead_65 : decode cX0_isAhead 65 = .ok (.goto 4, 3) := by decide +kernel
theorem dX0_isAhead_68 : decode cX0_isAhead 68 = .ok (.iconst 0, 1) := by decide +kernel
theorem dX0_isAhead_69 : decode cX0_isAhead 69 = .ok (.ireturn, 1) := by decide +kernel
theorem dX0_serve_0 : decode cX0_serve 0 = .ok (.aload_n 1, 1) := by decide +kernel
theorem dX0_serve_1 : decode cX0_serve 1 = .ok (.getfield 93, 3) := by decide +kernel
theorem dX0_serve_4 : decode cX0_serve 4 = .ok (.iload_n 2, 1) := by decide +kernel
theorem dX0_serve_5 : decode cX0_serve 5 = .ok (.iaload, 1) := by decide +kernel
theorem dX0_serve_6 : decode cX0_serve 6 = .ok (.iconst 1, 1) := by decide +kernel
theorem dX0_serve_7 : decode cX0_serve 7 = .ok (.if_icmp .ne 7, 3) := by decide +kernel
theorem dX0_serve_10 : decode cX0_serve 10 = .ok (.iconst 1, 1) := by decide +kernel
theorem dX0_serve_11 : decode cX0_serve 11 = .ok (.goto 4, 3) := by decide +kernel
theorem dX0_serve_14 : decode cX0_serve 14 = .ok (.iconst 0, 1) := by decide +kernel
theorem dX0_serve_15 : decode cX0_serve 15 = .ok (.istore_n 3, 1) := by decide +kernel
theorem dX0_serve_16 : decode cX0_serve 16 = .ok (.aload_n 1, 1) := by decide +kernel
theorem dX0_serve_17 : decode cX0_serve 17 = .ok (.aload_n 0, 1) := by decide +kernel
theorem dX0_serve_18 : decode cX0_serve 18 = .ok (.aload_n 0, 1) := by decide +kernel
theorem dX0_serve_19 : decode cX0_serve 19 = .ok (.getfield 109, 3) := by decide +kernel
theorem dX0_serve_22 : decode cX0_serve 22 = .ok (.iload_n 2, 1) := by decide +kernel
theorem dX0_serve_23 : decode cX0_serve 23 = .ok (.iaload, 1) := by decide +kernel
theorem dX0_serve_24 : decode cX0_serve 24 = .ok (.invokevirtual 129, 3) := by decide +kernel
theorem dX0_serve_27 : decode cX0_serve 27 = .ok (.istore 4, 2) := by decide +kernel
theorem dX0_serve_29 : decode cX0_serve 29 = .ok (.iload 4, 2) := by decide +kernel
theorem dX0_serve_31 : decode cX0_serve 31 = .ok (.bipush (-9), 2) := by decide +kernel
theorem dX0_serve_33 : decode cX0_serve 33 = .ok (.if_icmp .eq 25, 3) := by decide +kernel
theorem dX0_serve_36 : decode cX0_serve 36 = .ok (.iload_n 3, 1) := by decide +kernel
theorem dX0_serve_37 : decode cX0_serve 37 = .ok (.ifCond .eq 14, 3) := by decide +kernel
theorem dX0_serve_40 : decode cX0_serve 40 = .ok (.aload_n 1, 1) := by decide +kernel
theorem dX0_serve_41 : decode cX0_serve 41 = .ok (.getfield 93, 3) := by decide +kernel
theorem dX0_serve_44 : decode cX0_serve 44 = .ok (.iload 4, 2) := by decide +kernel
theorem dX0_serve_46 : decode cX0_serve 46 = .ok (.iaload, 1) := by decide +kernel
theorem dX0_serve_47 : decode cX0_serve 47 = .ok (.iconst 1, 1) := by decide +kernel
theorem dX0_serve_48 : decode cX0_serve 48 = .ok (.if_icmp .ne 4, 3) := by decide +kernel
theorem dX0_serve_51 : decode cX0_serve 51 = .ok (.return_, 1) := by decide +kernel
theorem dX0_serve_52 : decode cX0_serve 52 = .ok (.aload_n 1, 1) := by decide +kernel
theorem dX0_serve_53 : decode cX0_serve 53 = .ok (.iload 4, 2) := by decide +kernel
theorem dX0_serve_55 : decode cX0_serve 55 = .ok (.invokevirtual 115, 3) := by decide +kernel
theorem dX0_serve_58 : decode cX0_serve 58 = .ok (.aload_n 0, 1) := by decide +kernel
theorem dX0_serve_59 : decode cX0_serve 59 = .ok (.aload_n 1, 1) := by decide +kernel
theorem dX0_serve_60 : decode cX0_serve 60 = .ok (.iload_n 2, 1) := by decide +kernel
theorem dX0_serve_61 : decode cX0_serve 61 = .ok (.invokestatic 133, 3) := by decide +kernel
theorem dX0_serve_64 : decode cX0_serve 64 = .ok (.istore 5, 2) := by decide +kernel
theorem dX0_serve_66 : decode cX0_serve 66 = .ok (.iload_n 3, 1) := by decide +kernel
theorem dX0_serve_67 : decode cX0_serve 67 = .ok (.ifCond .eq 10, 3) := by decide +kernel
theorem dX0_serve_70 : decode cX0_serve 70 = .ok (.aload_n 0, 1) := by decide +kernel
theorem dX0_serve_71 : decode cX0_serve 71 = .ok (.aload_n 1, 1) := by decide +kernel
theorem dX0_serve_72 : decode cX0_serve 72 = .ok (.iload 5, 2) := by decide +kernel
theorem dX0_serve_74 : decode cX0_serve 74 = .ok (.invokestatic 136, 3) := by decide +kernel
theorem dX0_serve_77 : decode cX0_serve 77 = .ok (.iload 5, 2) := by decide +kernel
theorem dX0_serve_79 : decode cX0_serve 79 = .ok (.aload_n 1, 1) := by decide +kernel
theorem dX0_serve_80 : decode cX0_serve 80 = .ok (.aload_n 0, 1) := by decide +kernel
theorem dX0_serve_81 : decode cX0_serve 81 = .ok (.invokevirtual 139, 3) := by decide +kernel
theorem dX0_serve_84 : decode cX0_serve 84 = .ok (.iand, 1) := by decide +kernel
theorem dX0_serve_85 : decode cX0_serve 85 = .ok (.ifCond .ne 27, 3) := by decide +kernel
theorem dX0_serve_88 : decode cX0_serve 88 = .ok (.aload_n 1, 1) := by decide +kernel
theorem dX0_serve_89 : decode cX0_serve 89 = .ok (.iload_n 2, 1) := by decide +kernel
theorem dX0_serve_90 : decode cX0_serve 90 = .ok (.iconst 4, 1) := by decide +kernel
theorem dX0_serve_91 : decode cX0_serve 91 = .ok (.invokevirtual 86, 3) := by decide +kernel
theorem dX0_serve_94 : decode cX0_serve 94 = .ok (.aload_n 1, 1) := by decide +kernel
theorem dX0_serve_95 : decode cX0_serve 95 = .ok (.getfield 143, 3) := by decide +kernel
theorem dX0_serve_98 : decode cX0_serve 98 = .ok (.iload_n 2, 1) := by decide +kernel
theorem dX0_serve_99 : decode cX0_serve 99 = .ok (.iload 5, 2) := by decide +kernel
theorem dX0_serve_101 : decode cX0_serve 101 = .ok (.iastore, 1) := by decide +kernel
theorem dX0_serve_102 : decode cX0_serve 102 = .ok (.aload_n 1, 1) := by decide +kernel
theorem dX0_serve_103 : decode cX0_serve 103 = .ok (.dup, 1) := by decide +kernel
theorem dX0_serve_104 : decode cX0_serve 104 = .ok (.getfield 100, 3) := by decide +kernel
theorem dX0_serve_107 : decode cX0_serve 107 = .ok (.iconst 1, 1) := by decide +kernel
theorem dX0_serve_108 : decode cX0_serve 108 = .ok (.iadd, 1) := by decide +kernel
theorem dX0_serve_109 : decode cX0_serve 109 = .ok (.putfield 100, 3) := by decide +kernel
theorem dX0_serve_112 : decode cX0_serve 112 = .ok (.return_, 1) := by decide +kernel
theorem dX0_sitesNeeded_0 : decode cX0_sitesNeeded 0 = .ok (.aload_n 1, 1) := by decide +kernel
theorem dX0_sitesNeeded_1 : decode cX0_sitesNeeded 1 = .ok (.getfield 70, 3) := by decide +kernel
theorem dX0_sitesNeeded_4 : decode cX0_sitesNeeded 4 = .ok (.iload_n 2, 1) := by decide +kernel
theorem dX0_sitesNeeded_5 : decode cX0_sitesNeeded 5 = .ok (.iaload, 1) := by decide +kernel
theorem dX0_sitesNeeded_6 : decode cX0_sitesNeeded 6 = .ok (.istore_n 3, 1) := by decide +kernel
theorem dX0_sitesNeeded_7 : decode cX0_sitesNeeded 7 = .ok (.iconst 1, 1) := by decide +kernel
theorem dX0_sitesNeeded_8 : decode cX0_sitesNeeded 8 = .ok (.iload_n 3, 1) := by decide +kernel
theorem dX0_sitesNeeded_9 : decode cX0_sitesNeeded 9 = .ok (.isub, 1) := by decide +kernel
theorem dX0_sitesNeeded_10 : decode cX0_sitesNeeded 10 = .ok (.istore 4, 2) := by decide +kernel
theorem dX0_sitesNeeded_12 : decode cX0_sitesNeeded 12 = .ok (.aload_n 1, 1) := by decide +kernel
theorem dX0_sitesNeeded_13 : decode cX0_sitesNeeded 13 = .ok (.iload 4, 2) := by decide +kernel
theorem dX0_sitesNeeded_15 : decode cX0_sitesNeeded 15 = .ok (.invokevirtual 29, 3) := by decide +kernel
theorem dX0_sitesNeeded_18 : decode cX0_sitesNeeded 18 = .ok (.ifCond .eq 51, 3) := by decide +kernel
theorem dX0_sitesNeeded_21 : decode cX0_sitesNeeded 21 = .ok (.iconst 0, 1) := by decide +kernel
theorem dX0_sitesNeeded_22 : decode cX0_sitesNeeded 22 = .ok (.istore 5, 2) := by decide +kernel
theorem dX0_sitesNeeded_24 : decode cX0_sitesNeeded 24 = .ok (.iload 5, 2) := by decide +kernel
theorem dX0_sitesNeeded_26 : decode cX0_sitesNeeded 26 = .ok (.aload_n 0, 1) := by decide +kernel
theorem dX0_sitesNeeded_27 : decode cX0_sitesNeeded 27 = .ok (.getfield 77, 3) := by decide +kernel
theorem dX0_sitesNeeded_30 : decode cX0_sitesNeeded 30 = .ok (.if_icmp .ge 39, 3) := by decide +kernel
theorem dX0_sitesNeeded_33 : decode cX0_sitesNeeded 33 = .ok (.aload_n 1, 1) := by decide +kernel
theorem dX0_sitesNeeded_34 : decode cX0_sitesNeeded 34 = .ok (.getfield 70, 3) := by decide +kernel
theorem dX0_sitesNeeded_37 : decode cX0_sitesNeeded 37 = .ok (.iload 5, 2) := by decide +kernel
theorem dX0_sitesNeeded_39 : decode cX0_sitesNeeded 39 = .ok (.iaload, 1) := by decide +kernel
theorem dX0_sitesNeeded_40 : decode cX0_sitesNeeded 40 = .ok (.iload 4, 2) := by decide +kernel
theorem dX0_sitesNeeded_42 : decode cX0_sitesNeeded 42 = .ok (.if_icmp .ne 21, 3) := by decide +kernel
theorem dX0_sitesNeeded_45 : decode cX0_sitesNeeded 45 = .ok (.aload_n 0, 1) := by decide +kernel
theorem dX0_sitesNeeded_46 : decode cX0_sitesNeeded 46 = .ok (.getfield 109, 3) := by decide +kernel
theorem dX0_sitesNeeded_49 : decode cX0_sitesNeeded 49 = .ok (.iload 5, 2) := by decide +kernel
theorem dX0_sitesNeeded_51 : decode cX0_sitesNeeded 51 = .ok (.iaload, 1) := by decide +kernel
theorem dX0_sitesNeeded_52 : decode cX0_sitesNeeded 52 = .ok (.aload_n 0, 1) := by decide +kernel
theorem dX0_sitesNeeded_53 : decode cX0_sitesNeeded 53 = .ok (.getfield 109, 3) := by decide +kernel
theorem dX0_sitesNeeded_56 : decode cX0_sitesNeeded 56 = .ok (.iload_n 2, 1) := by decide +kernel
theorem dX0_sitesNeeded_57 : decode cX0_sitesNeeded 57 = .ok (.iaload, 1) := by decide +kernel
theorem dX0_sitesNeeded_58 : decode cX0_sitesNeeded 58 = .ok (.if_icmp .ne 5, 3) := by decide +kernel
theorem dX0_sitesNeeded_61 : decode cX0_sitesNeeded 61 = .ok (.iconst 3, 1) := by decide +kernel
theorem dX0_sitesNeeded_62 : decode cX0_sitesNeeded 62 = .ok (.ireturn, 1) := by decide +kernel
theorem dX0_sitesNeeded_63 : decode cX0_sitesNeeded 63 = .ok (.iinc 5 1, 3) := by decide +kernel
theorem dX0_sitesNeeded_66 : decode cX0_sitesNeeded 66 = .ok (.goto (-42), 3) := by decide +kernel
theorem dX0_sitesNeeded_69 : decode cX0_sitesNeeded 69 = .ok (.iconst 1, 1) := by decide +kernel
theorem dX0_sitesNeeded_70 : decode cX0_sitesNeeded 70 = .ok (.iload_n 3, 1) := by decide +kernel
theorem dX0_sitesNeeded_71 : decode cX0_sitesNeeded 71 = .ok (.ishl, 1) := by decide +kernel
theorem dX0_sitesNeeded_72 : decode cX0_sitesNeeded 72 = .ok (.ireturn, 1) := by decide +kernel
theorem dX0_takeOver_0 : decode cX0_takeOver 0 = .ok (.iload_n 2, 1) := by decide +kernel
theorem dX0_takeOver_1 : decode cX0_takeOver 1 = .ok (.aload_n 1, 1) := by decide +kernel
theorem dX0_takeOver_2 : decode cX0_takeOver 2 = .ok (.aload_n 0, 1) := by decide +kernel
theorem dX0_takeOver_3 : decode cX0_takeOver 3 = .ok (.invokevirtual 139, 3) := by decide +kernel
theorem dX0_takeOver_6 : decode cX0_takeOver 6 = .ok (.iand, 1) := by decide +kernel
theorem dX0_takeOver_7 : decode cX0_takeOver 7 = .ok (.istore_n 3, 1) := by decide +kernel
theorem dX0_takeOver_8 : decode cX0_takeOver 8 = .ok (.iconst 0, 1) := by decide +kernel
theorem dX0_takeOver_9 : decode cX0_takeOver 9 = .ok (.istore 4, 2) := by decide +kernel
theorem dX0_takeOver_11 : decode cX0_takeOver 11 = .ok (.iload 4, 2) := by decide +kernel
theorem dX0_takeOver_13 : decode cX0_takeOver 13 = .ok (.iconst 2, 1) := by decide +kernel
theorem dX0_takeOver_14 : decode cX0_takeOver 14 = .ok (.if_icmp .ge 32, 3) := by decide +kernel
theorem dX0_takeOver_17 : decode cX0_takeOver 17 = .ok (.iload_n 3, 1) := by decide +kernel
theorem dX0_takeOver_18 : decode cX0_takeOver 18 = .ok (.iload 4, 2) := by decide +kernel
theorem dX0_takeOver_20 : decode cX0_takeOver 20 = .ok (.ishr, 1) := by decide +kernel
theorem dX0_takeOver_21 : decode cX0_takeOver 21 = .ok (.iconst 1, 1) := by decide +kernel
theorem dX0_takeOver_22 : decode cX0_takeOver 22 = .ok (.iand, 1) := by decide +kernel
theorem dX0_takeOver_23 : decode cX0_takeOver 23 = .ok (.iconst 1, 1) := by decide +kernel
theorem dX0_takeOver_24 : decode cX0_takeOver 24 = .ok (.if_icmp .ne 16, 3) := by decide +kernel
theorem dX0_takeOver_27 : decode cX0_takeOver 27 = .ok (.aload_n 0, 1) := by decide +kernel
theorem dX0_takeOver_28 : decode cX0_takeOver 28 = .ok (.aload_n 1, 1) := by decide +kernel
theorem dX0_takeOver_29 : decode cX0_takeOver 29 = .ok (.iload 4, 2) := by decide +kernel
theorem dX0_takeOver_31 : decode cX0_takeOver 31 = .ok (.invokestatic 146, 3) := by decide +kernel
theorem dX0_takeOver_34 : decode cX0_takeOver 34 = .ok (.bipush (-9), 2) := by decide +kernel
theorem dX0_takeOver_36 : decode cX0_takeOver 36 = .ok (.if_icmp .ne 4, 3) := by decide +kernel
theorem dX0_takeOver_39 : decode cX0_takeOver 39 = .ok (.return_, 1) := by decide +kernel
theorem dX0_takeOver_40 : decode cX0_takeOver 40 = .ok (.iinc 4 1, 3) := by decide +kernel
theorem dX0_takeOver_43 : decode cX0_takeOver 43 = .ok (.goto (-32), 3) := by decide +kernel
theorem dX0_takeOver_46 : decode cX0_takeOver 46 = .ok (.iconst 0, 1) := by decide +kernel
theorem dX0_takeOver_47 : decode cX0_takeOver 47 = .ok (.istore 4, 2) := by decide +kernel
theorem dX0_takeOver_49 : decode cX0_takeOver 49 = .ok (.iload 4, 2) := by decide +kernel
theorem dX0_takeOver_51 : decode cX0_takeOver 51 = .ok (.iconst 2, 1) := by decide +kernel
theorem dX0_takeOver_52 : decode cX0_takeOver 52 = .ok (.if_icmp .ge 49, 3) := by decide +kernel
theorem dX0_takeOver_55 : decode cX0_takeOver 55 = .ok (.iload_n 2, 1) := by decide +kernel
theorem dX0_takeOver_56 : decode cX0_takeOver 56 = .ok (.aload_n 1, 1) := by decide +kernel
theorem dX0_takeOver_57 : decode cX0_takeOver 57 = .ok (.aload_n 0, 1) := by decide +kernel
theorem dX0_takeOver_58 : decode cX0_takeOver 58 = .ok (.invokevirtual 139, 3) := by decide +kernel
theorem dX0_takeOver_61 : decode cX0_takeOver 61 = .ok (.iand, 1) := by decide +kernel
theorem dX0_takeOver_62 : decode cX0_takeOver 62 = .ok (.istore_n 3, 1) := by decide +kernel
theorem dX0_takeOver_63 : decode cX0_takeOver 63 = .ok (.aload_n 0, 1) := by decide +kernel
theorem dX0_takeOver_64 : decode cX0_takeOver 64 = .ok (.aload_n 1, 1) := by decide +kernel
theorem dX0_takeOver_65 : decode cX0_takeOver 65 = .ok (.iload 4, 2) := by decide +kernel
theorem dX0_takeOver_67 : decode cX0_takeOver 67 = .ok (.invokestatic 146, 3) := by decide +kernel
theorem dX0_takeOver_70 : decode cX0_takeOver 70 = .ok (.istore 5, 2) := by decide +kernel
theorem dX0_takeOver_72 : decode cX0_takeOver 72 = .ok (.iload_n 3, 1) := by decide +kernel
theorem dX0_takeOver_73 : decode cX0_takeOver 73 = .ok (.iload 4, 2) := by decide +kernel
theorem dX0_takeOver_75 : decode cX0_takeOver 75 = .ok (.ishr, 1) := by decide +kernel
theorem dX0_takeOver_76 : decode cX0_takeOver 76 = .ok (.iconst 1, 1) := by decide +kernel
theorem dX0_takeOver_77 : decode cX0_takeOver 77 = .ok (.iand, 1) := by decide +kernel
theorem dX0_takeOver_78 : decode cX0_takeOver 78 = .ok (.iconst 1, 1) := by decide +kernel
theorem dX0_takeOver_79 : decode cX0_takeOver 79 = .ok (.if_icmp .ne 16, 3) := by decide +kernel
theorem dX0_takeOver_82 : decode cX0_takeOver 82 = .ok (.iload 5, 2) := by decide +kernel
theorem dX0_takeOver_84 : decode cX0_takeOver 84 = .ok (.bipush (-9), 2) := by decide +kernel
theorem dX0_takeOver_86 : decode cX0_takeOver 86 = .ok (.if_icmp .eq 9, 3) := by decide +kernel
theorem dX0_takeOver_89 : decode cX0_takeOver 89 = .ok (.aload_n 1, 1) := by decide +kernel
theorem dX0_takeOver_90 : decode cX0_takeOver 90 = .ok (.iload 5, 2) := by decide +kernel
theorem dX0_takeOver_92 : decode cX0_takeOver 92 = .ok (.invokevirtual 115, 3) := by decide +kernel
theorem dX0_takeOver_95 : decode cX0_takeOver 95 = .ok (.iinc 4 1, 3) := by decide +kernel
theorem dX0_takeOver_98 : decode cX0_takeOver 98 = .ok (.goto (-49), 3) := by decide +kernel
theorem dX0_takeOver_101 : decode cX0_takeOver 101 = .ok (.return_, 1) := by decide +kernel
theorem dX0_weakestAt_0 : decode cX0_weakestAt 0 = .ok (.bipush (-9), 2) := by decide +kernel
theorem dX0_weakestAt_2 : decode cX0_weakestAt 2 = .ok (.istore_n 3, 1) := by decide +kernel
theorem dX0_weakestAt_3 : decode cX0_weakestAt 3 = .ok (.iconst 0, 1) := by decide +kernel
theorem dX0_weakestAt_4 : decode cX0_weakestAt 4 = .ok (.istore 4, 2) := by decide +kernel
theorem dX0_weakestAt_6 : decode cX0_weakestAt 6 = .ok (.iload 4, 2) := by decide +kernel
theorem dX0_weakestAt_8 : decode cX0_weakestAt 8 = .ok (.aload_n 0, 1) := by decide +kernel
theorem dX0_weakestAt_9 : decode cX0_weakestAt 9 = .ok (.getfield 77, 3) := by decide +kernel
theorem dX0_weakestAt_12 : decode cX0_weakestAt 12 = .ok (.if_icmp .ge 71, 3) := by decide +kernel
theorem dX0_weakestAt_15 : decode cX0_weakestAt 15 = .ok (.aload_n 1, 1) := by decide +kernel
theorem dX0_weakestAt_16 : decode cX0_weakestAt 16 = .ok (.getfield 143, 3) := by decide +kernel
theorem dX0_weakestAt_19 : decode cX0_weakestAt 19 = .ok (.iload 4, 2) := by decide +kernel
theorem dX0_weakestAt_21 : decode cX0_weakestAt 21 = .ok (.iaload, 1) := by decide +kernel
theorem dX0_weakestAt_22 : decode cX0_weakestAt 22 = .ok (.iload_n 2, 1) := by decide +kernel
theorem dX0_weakestAt_23 : decode cX0_weakestAt 23 = .ok (.ishr, 1) := by decide +kernel
theorem dX0_weakestAt_24 : decode cX0_weakestAt 24 = .ok (.iconst 1, 1) := by decide +kernel
theorem dX0_weakestAt_25 : decode cX0_weakestAt 25 = .ok (.iand, 1) := by decide +kernel
theorem dX0_weakestAt_26 : decode cX0_weakestAt 26 = .ok (.iconst 1, 1) := by decide +kernel
theorem dX0_weakestAt_27 : decode cX0_weakestAt 27 = .ok (.if_icmp .ne 17, 3) := by decide +kernel
theorem dX0_weakestAt_30 : decode cX0_weakestAt 30 = .ok (.aload_n 1, 1) := by decide +kernel
theorem dX0_weakestAt_31 : decode cX0_weakestAt 31 = .ok (.getfield 93, 3) := by decide +kernel
theorem dX0_weakestAt_34 : decode cX0_weakestAt 34 = .ok (.iload 4, 2) := by decide +kernel
theorem dX0_weakestAt_36 : decode cX0_weakestAt 36 = .ok (.iaload, 1) := by decide +kernel
theorem dX0_weakestAt_37 : decode cX0_weakestAt 37 = .ok (.ifCond .ne 7, 3) := by decide +kernel
theorem dX0_weakestAt_40 : decode cX0_weakestAt 40 = .ok (.iconst 1, 1) := by decide +kernel
theorem dX0_weakestAt_41 : decode cX0_weakestAt 41 = .ok (.goto 4, 3) := by decide +kernel
theorem dX0_weakestAt_44 : decode cX0_weakestAt 44 = .ok (.iconst 0, 1) := by decide +kernel
theorem dX0_weakestAt_45 : decode cX0_weakestAt 45 = .ok (.istore 5, 2) := by decide +kernel
theorem dX0_weakestAt_47 : decode cX0_weakestAt 47 = .ok (.iload 5, 2) := by decide +kernel
theorem dX0_weakestAt_49 : decode cX0_weakestAt 49 = .ok (.ifCond .eq 28, 3) := by decide +kernel
theorem dX0_weakestAt_52 : decode cX0_weakestAt 52 = .ok (.iload_n 3, 1) := by decide +kernel
theorem dX0_weakestAt_53 : decode cX0_weakestAt 53 = .ok (.bipush (-9), 2) := by decide +kernel
theorem dX0_weakestAt_55 : decode cX0_weakestAt 55 = .ok (.if_icmp .eq 19, 3) := by decide +kernel
theorem dX0_weakestAt_58 : decode cX0_weakestAt 58 = .ok (.aload_n 0, 1) := by decide +kernel
theorem dX0_weakestAt_59 : decode cX0_weakestAt 59 = .ok (.getfield 126, 3) := by decide +kernel
theorem dX0_weakestAt_62 : decode cX0_weakestAt 62 = .ok (.iload 4, 2) := by decide +kernel
theorem dX0_weakestAt_64 : decode cX0_weakestAt 64 = .ok (.iaload, 1) := by decide +kernel
theorem dX0_weakestAt_65 : decode cX0_weakestAt 65 = .ok (.aload_n 0, 1) := by decide +kernel
theorem dX0_weakestAt_66 : decode cX0_weakestAt 66 = .ok (.getfield 126, 3) := by decide +kernel
theorem dX0_weakestAt_69 : decode cX0_weakestAt 69 = .ok (.iload_n 3, 1) := by decide +kernel
theorem dX0_weakestAt_70 : decode cX0_weakestAt 70 = .ok (.iaload, 1) := by decide +kernel
theorem dX0_weakestAt_71 : decode cX0_weakestAt 71 = .ok (.if_icmp .gt 6, 3) := by decide +kernel
theorem dX0_weakestAt_74 : decode cX0_weakestAt 74 = .ok (.iload 4, 2) := by decide +kernel
theorem dX0_weakestAt_76 : decode cX0_weakestAt 76 = .ok (.istore_n 3, 1) := by decide +kernel
theorem dX0_weakestAt_77 : decode cX0_weakestAt 77 = .ok (.iinc 4 1, 3) := by decide +kernel
theorem dX0_weakestAt_80 : decode cX0_weakestAt 80 = .ok (.goto (-74), 3) := by decide +kernel
theorem dX0_weakestAt_83 : decode cX0_weakestAt 83 = .ok (.iload_n 3, 1) := by decide +kernel
theorem dX0_weakestAt_84 : decode cX0_weakestAt 84 = .ok (.ireturn, 1) := by decide +kernel
theorem dX0_giveUp_0 : decode cX0_giveUp 0 = .ok (.iconst 0, 1) := by decide +kernel
theorem dX0_giveUp_1 : decode cX0_giveUp 1 = .ok (.istore_n 2, 1) := by decide +kernel
theorem dX0_giveUp_2 : decode cX0_giveUp 2 = .ok (.iload_n 2, 1) := by decide +kernel
theorem dX0_giveUp_3 : decode cX0_giveUp 3 = .ok (.aload_n 0, 1) := by decide +kernel
theorem dX0_giveUp_4 : decode cX0_giveUp 4 = .ok (.getfield 77, 3) := by decide +kernel
theorem dX0_giveUp_7 : decode cX0_giveUp 7 = .ok (.if_icmp .ge 57, 3) := by decide +kernel
theorem dX0_giveUp_10 : decode cX0_giveUp 10 = .ok (.aload_n 1, 1) := by decide +kernel
theorem dX0_giveUp_11 : decode cX0_giveUp 11 = .ok (.getfield 18, 3) := by decide +kernel
theorem dX0_giveUp_14 : decode cX0_giveUp 14 = .ok (.iload_n 2, 1) := by decide +kernel
theorem dX0_giveUp_15 : decode cX0_giveUp 15 = .ok (.iaload, 1) := by decide +kernel
theorem dX0_giveUp_16 : decode cX0_giveUp 16 = .ok (.iconst 3, 1) := by decide +kernel
theorem dX0_giveUp_17 : decode cX0_giveUp 17 = .ok (.if_icmp .ne 41, 3) := by decide +kernel
theorem dX0_giveUp_20 : decode cX0_giveUp 20 = .ok (.aload_n 1, 1) := by decide +kernel
theorem dX0_giveUp_21 : decode cX0_giveUp 21 = .ok (.getfield 90, 3) := by decide +kernel
theorem dX0_giveUp_24 : decode cX0_giveUp 24 = .ok (.iload_n 2, 1) := by decide +kernel
theorem dX0_giveUp_25 : decode cX0_giveUp 25 = .ok (.dup2, 1) := by decide +kernel
theorem dX0_giveUp_26 : decode cX0_giveUp 26 = .ok (.iaload, 1) := by decide +kernel
theorem dX0_giveUp_27 : decode cX0_giveUp 27 = .ok (.iconst 1, 1) := by decide +kernel
theorem dX0_giveUp_28 : decode cX0_giveUp 28 = .ok (.iadd, 1) := by decide +kernel
theorem dX0_giveUp_29 : decode cX0_giveUp 29 = .ok (.iastore, 1) := by decide +kernel
theorem dX0_giveUp_30 : decode cX0_giveUp 30 = .ok (.aload_n 1, 1) := by decide +kernel
theorem dX0_giveUp_31 : decode cX0_giveUp 31 = .ok (.getfield 90, 3) := by decide +kernel
theorem dX0_giveUp_34 : decode cX0_giveUp 34 = .ok (.iload_n 2, 1) := by decide +kernel
theorem dX0_giveUp_35 : decode cX0_giveUp 35 = .ok (.iaload, 1) := by decide +kernel
theorem dX0_giveUp_36 : decode cX0_giveUp 36 = .ok (.aload_n 0, 1) := by decide +kernel
theorem dX0_giveUp_37 : decode cX0_giveUp 37 = .ok (.getfield 149, 3) := by decide +kernel
theorem dX0_giveUp_40 : decode cX0_giveUp 40 = .ok (.if_icmp .le 18, 3) := by decide +kernel
theorem dX0_giveUp_43 : decode cX0_giveUp 43 = .ok (.aload_n 1, 1) := by decide +kernel
theorem dX0_giveUp_44 : decode cX0_giveUp 44 = .ok (.iload_n 2, 1) := by decide +kernel
theorem dX0_giveUp_45 : decode cX0_giveUp 45 = .ok (.invokevirtual 115, 3) := by decide +kernel
theorem dX0_giveUp_48 : decode cX0_giveUp 48 = .ok (.aload_n 1, 1) := by decide +kernel
theorem dX0_giveUp_49 : decode cX0_giveUp 49 = .ok (.dup, 1) := by decide +kernel
theorem dX0_giveUp_50 : decode cX0_giveUp 50 = .ok (.getfield 152, 3) := by decide +kernel
theorem dX0_giveUp_53 : decode cX0_giveUp 53 = .ok (.iconst 1, 1) := by decide +kernel
theorem dX0_giveUp_54 : decode cX0_giveUp 54 = .ok (.iadd, 1) := by decide +kernel
theorem dX0_giveUp_55 : decode cX0_giveUp 55 = .ok (.putfield 152, 3) := by decide +kernel
theorem dX0_giveUp_58 : decode cX0_giveUp 58 = .ok (.iinc 2 1, 3) := by decide +kernel
theorem dX0_giveUp_61 : decode cX0_giveUp 61 = .ok (.goto (-59), 3) := by decide +kernel
theorem dX0_giveUp_64 : decode cX0_giveUp 64 = .ok (.return_, 1) := by decide +kernel
theorem dX1_init_0 : decode cX1_init 0 = .ok (.aload_n 0, 1) := by decide +kernel
theorem dX1_init_1 : decode cX1_init 1 = .ok (.invokespecial 3, 3) := by decide +kernel
theorem dX1_init_4 : decode cX1_init 4 = .ok (.aload_n 0, 1) := by decide +kernel
theorem dX1_init_5 : decode cX1_init 5 = .ok (.bipush 12, 2) := by decide +kernel
theorem dX1_init_7 : decode cX1_init 7 = .ok (.anewarray 9, 3) := by decide +kernel
theorem dX1_init_10 : decode cX1_init 10 = .ok (.putfield 11, 3) := by decide +kernel
theorem dX1_init_13 : decode cX1_init 13 = .ok (.iconst 0, 1) := by decide +kernel
theorem dX1_init_14 : decode cX1_init 14 = .ok (.istore_n 1, 1) := by decide +kernel
theorem dX1_init_15 : decode cX1_init 15 = .ok (.iload_n 1, 1) := by decide +kernel
theorem dX1_init_16 : decode cX1_init 16 = .ok (.bipush 12, 2) := by decide +kernel
theorem dX1_init_18 : decode cX1_init 18 = .ok (.if_icmp .ge 22, 3) := by decide +kernel
theorem dX1_init_21 : decode cX1_init 21 = .ok (.aload_n 0, 1) := by decide +kernel
theorem dX1_init_22 : decode cX1_init 22 = .ok (.getfield 11, 3) := by decide +kernel
theorem dX1_init_25 : decode cX1_init 25 = .ok (.iload_n 1, 1) := by decide +kernel
theorem dX1_init_26 : decode cX1_init 26 = .ok (.new 9, 3) := by decide +kernel
theorem dX1_init_29 : decode cX1_init 29 = .ok (.dup, 1) := by decide +kernel
theorem dX1_init_30 : decode cX1_init 30 = .ok (.invokespecial 17, 3) := by decide +kernel
theorem dX1_init_33 : decode cX1_init 33 = .ok (.aastore, 1) := by decide +kernel
theorem dX1_init_34 : decode cX1_init 34 = .ok (.iinc 1 1, 3) := by decide +kernel
theorem dX1_init_37 : decode cX1_init 37 = .ok (.goto (-22), 3) := by decide +kernel
theorem dX1_init_40 : decode cX1_init 40 = .ok (.return_, 1) := by decide +kernel
theorem dX1_lose_0 : decode cX1_lose 0 = .ok (.aload_n 0, 1) := by decide +kernel
theorem dX1_lose_1 : decode cX1_lose 1 = .ok (.iconst 0, 1) := by decide +kernel
theorem dX1_lose_2 : decode cX1_lose 2 = .ok (.putfield 18, 3) := by decide +kernel
theorem dX1_lose_5 : decode cX1_lose 5 = .ok (.return_, 1) := by decide +kernel
theorem dX1_record_0 : decode cX1_record 0 = .ok (.aload_n 0, 1) := by decide +kernel
theorem dX1_record_1 : decode cX1_record 1 = .ok (.getfield 11, 3) := by decide +kernel
theorem dX1_record_4 : decode cX1_record 4 = .ok (.aload_n 0, 1) := by decide +kernel
theorem dX1_record_5 : decode cX1_record 5 = .ok (.getfield 22, 3) := by decide +kernel
theorem dX1_record_8 : decode cX1_record 8 = .ok (.aaload, 1) := by decide +kernel
theorem dX1_record_9 : decode cX1_record 9 = .ok (.aload_n 1, 1) := by decide +kernel
theorem dX1_record_10 : decode cX1_record 10 = .ok (.invokevirtual 25, 3) := by decide +kernel
theorem dX1_record_13 : decode cX1_record 13 = .ok (.aload_n 0, 1) := by decide +kernel
theorem dX1_record_14 : decode cX1_record 14 = .ok (.aload_n 0, 1) := by decide +kernel
theorem dX1_record_15 : decode cX1_record 15 = .ok (.getfield 22, 3) := by decide +kernel
theorem dX1_record_18 : decode cX1_record 18 = .ok (.iconst 1, 1) := by decide +kernel
theorem dX1_record_19 : decode cX1_record 19 = .ok (.iadd, 1) := by decide +kernel
theorem dX1_record_20 : decode cX1_record 20 = .ok (.bipush 12, 2) := by decide +kernel
theorem dX1_record_22 : decode cX1_record 22 = .ok (.irem, 1) := by decide +kernel
theorem dX1_record_23 : decode cX1_record 23 = .ok (.putfield 22, 3) := by decide +kernel
theorem dX1_record_26 : decode cX1_record 26 = .ok (.aload_n 0, 1) := by decide +kernel
theorem dX1_record_27 : decode cX1_record 27 = .ok (.bipush 12, 2) := by decide +kernel
theorem dX1_record_29 : decode cX1_record 29 = .ok (.aload_n 0, 1) := by decide +kernel
theorem dX1_record_30 : decode cX1_record 30 = .ok (.getfield 18, 3) := by decide +kernel
theorem dX1_record_33 : decode cX1_record 33 = .ok (.iconst 1, 1) := by decide +kernel
theorem dX1_record_34 : decode cX1_record 34 = .ok (.iadd, 1) := by decide +kernel
theorem dX1_record_35 : decode cX1_record 35 = .ok (.invokestatic 29, 3) := by decide +kernel
theorem dX1_record_38 : decode cX1_record 38 = .ok (.putfield 18, 3) := by decide +kernel
theorem dX1_record_41 : decode cX1_record 41 = .ok (.return_, 1) := by decide +kernel
theorem dX1_bringBack_0 : decode cX1_bringBack 0 = .ok (.aload_n 0, 1) := by decide +kernel
theorem dX1_bringBack_1 : decode cX1_bringBack 1 = .ok (.getfield 18, 3) := by decide +kernel
theorem dX1_bringBack_4 : decode cX1_bringBack 4 = .ok (.iconst 1, 1) := by decide +kernel
theorem dX1_bringBack_5 : decode cX1_bringBack 5 = .ok (.if_icmp .ge 5, 3) := by decide +kernel
theorem dX1_bringBack_8 : decode cX1_bringBack 8 = .ok (.iconst 0, 1) := by decide +kernel
theorem dX1_bringBack_9 : decode cX1_bringBack 9 = .ok (.ireturn, 1) := by decide +kernel
theorem dX1_bringBack_10 : decode cX1_bringBack 10 = .ok (.aload_n 0, 1) := by decide +kernel
theorem dX1_bringBack_11 : decode cX1_bringBack 11 = .ok (.dup, 1) := by decide +kernel
theorem dX1_bringBack_12 : decode cX1_bringBack 12 = .ok (.getfield 18, 3) := by decide +kernel
theorem dX1_bringBack_15 : decode cX1_bringBack 15 = .ok (.iconst 1, 1) := by decide +kernel
theorem dX1_bringBack_16 : decode cX1_bringBack 16 = .ok (.isub, 1) := by decide +kernel
theorem dX1_bringBack_17 : decode cX1_bringBack 17 = .ok (.putfield 18, 3) := by decide +kernel
theorem dX1_bringBack_20 : decode cX1_bringBack 20 = .ok (.aload_n 0, 1) := by decide +kernel
theorem dX1_bringBack_21 : decode cX1_bringBack 21 = .ok (.aload_n 0, 1) := by decide +kernel
theorem dX1_bringBack_22 : decode cX1_bringBack 22 = .ok (.getfield 22, 3) := by decide +kernel
theorem dX1_bringBack_25 : decode cX1_bringBack 25 = .ok (.bipush 12, 2) := by decide +kernel
theorem dX1_bringBack_27 : decode cX1_bringBack 27 = .ok (.iadd, 1) := by decide +kernel
theorem dX1_bringBack_28 : decode cX1_bringBack 28 = .ok (.iconst 1, 1) := by decide +kernel
theorem dX1_bringBack_29 : decode cX1_bringBack 29 = .ok (.isub, 1) := by decide +kernel
theorem dX1_bringBack_30 : decode cX1_bringBack 30 = .ok (.bipush 12, 2) := by decide +kernel
theorem dX1_bringBack_32 : decode cX1_bringBack 32 = .ok (.irem, 1) := by decide +kernel
theorem dX1_bringBack_33 : decode cX1_bringBack 33 = .ok (.putfield 22, 3) := by decide +kernel
theorem dX1_bringBack_36 : decode cX1_bringBack 36 = .ok (.aload_n 1, 1) := by decide +kernel
theorem dX1_bringBack_37 : decode cX1_bringBack 37 = .ok (.aload_n 0, 1) := by decide +kernel
theorem dX1_bringBack_38 : decode cX1_bringBack 38 = .ok (.getfield 11, 3) := by decide +kernel
theorem dX1_bringBack_41 : decode cX1_bringBack 41 = .ok (.aload_n 0, 1) := by decide +kernel
theorem dX1_bringBack_42 : decode cX1_bringBack 42 = .ok (.getfield 22, 3) := by decide +kernel
theorem dX1_bringBack_45 : decode cX1_bringBack 45 = .ok (.aaload, 1) := by decide +kernel
theorem dX1_bringBack_46 : decode cX1_bringBack 46 = .ok (.invokevirtual 25, 3) := by decide +kernel
theorem dX1_bringBack_49 : decode cX1_bringBack 49 = .ok (.iconst 1, 1) := by decide +kernel
theorem dX1_bringBack_50 : decode cX1_bringBack 50 = .ok (.ireturn, 1) := by decide +kernel
theorem dX2_init_0 : decode cX2_init 0 = .ok (.aload_n 0, 1) := by decide +kernel
theorem dX2_init_1 : decode cX2_init 1 = .ok (.invokespecial 3, 3) := by decide +kernel
theorem dX2_init_4 : decode cX2_init 4 = .ok (.aload_n 0, 1) := by decide +kernel
theorem dX2_init_5 : decode cX2_init 5 = .ok (.iconst 2, 1) := by decide +kernel
theorem dX2_init_6 : decode cX2_init 6 = .ok (.newarray .int, 2) := by decide +kernel
theorem dX2_init_8 : decode cX2_init 8 = .ok (.putfield 9, 3) := by decide +kernel
theorem dX2_init_11 : decode cX2_init 11 = .ok (.aload_n 0, 1) := by decide +kernel
theorem dX2_init_12 : decode cX2_init 12 = .ok (.bipush 7, 2) := by decide +kernel
theorem dX2_init_14 : decode cX2_init 14 = .ok (.newarray .int, 2) := by decide +kernel
theorem dX2_init_16 : decode cX2_init 16 = .ok (.putfield 15, 3) := by decide +kernel
theorem dX2_init_19 : decode cX2_init 19 = .ok (.aload_n 0, 1) := by decide +kernel
theorem dX2_init_20 : decode cX2_init 20 = .ok (.bipush 7, 2) := by decide +kernel
theorem dX2_init_22 : decode cX2_init 22 = .ok (.newarray .int, 2) := by decide +kernel
theorem dX2_init_24 : decode cX2_init 24 = .ok (.putfield 18, 3) := by decide +kernel
theorem dX2_init_27 : decode cX2_init 27 = .ok (.aload_n 0, 1) := by decide +kernel
theorem dX2_init_28 : decode cX2_init 28 = .ok (.bipush 7, 2) := by decide +kernel
theorem dX2_init_30 : decode cX2_init 30 = .ok (.newarray .int, 2) := by decide +kernel
theorem dX2_init_32 : decode cX2_init 32 = .ok (.putfield 21, 3) := by decide +kernel
theorem dX2_init_35 : decode cX2_init 35 = .ok (.aload_n 0, 1) := by decide +kernel
theorem dX2_init_36 : decode cX2_init 36 = .ok (.invokevirtual 24, 3) := by decide +kernel
theorem dX2_init_39 : decode cX2_init 39 = .ok (.return_, 1) := by decide +kernel
theorem dX2_beginAnew_0 : decode cX2_beginAnew 0 = .ok (.aload_n 0, 1) := by decide +kernel
theorem dX2_beginAnew_1 : decode cX2_beginAnew 1 = .ok (.iconst 0, 1) := by decide +kernel
theorem dX2_beginAnew_2 : decode cX2_beginAnew 2 = .ok (.putfield 27, 3) := by decide +kernel
theorem dX2_beginAnew_5 : decode cX2_beginAnew 5 = .ok (.aload_n 0, 1) := by decide +kernel
theorem dX2_beginAnew_6 : decode cX2_beginAnew 6 = .ok (.iconst 4, 1) := by decide +kernel
theorem dX2_beginAnew_7 : decode cX2_beginAnew 7 = .ok (.putfield 31, 3) := by decide +kernel
theorem dX2_beginAnew_10 : decode cX2_beginAnew 10 = .ok (.aload_n 0, 1) := by decide +kernel
theorem dX2_beginAnew_11 : decode cX2_beginAnew 11 = .ok (.bipush 8, 2) := by decide +kernel
theorem dX2_beginAnew_13 : decode cX2_beginAnew 13 = .ok (.putfield 34, 3) := by decide +kernel
theorem dX2_beginAnew_16 : decode cX2_beginAnew 16 = .ok (.aload_n 0, 1) := by decide +kernel
theorem dX2_beginAnew_17 : decode cX2_beginAnew 17 = .ok (.getfield 9, 3) := by decide +kernel
theorem dX2_beginAnew_20 : decode cX2_beginAnew 20 = .ok (.iconst 0, 1) := by decide +kernel
theorem dX2_beginAnew_21 : decode cX2_beginAnew 21 = .ok (.iconst 2, 1) := by decide +kernel
theorem dX2_beginAnew_22 : decode cX2_beginAnew 22 = .ok (.iastore, 1) := by decide +kernel
theorem dX2_beginAnew_23 : decode cX2_beginAnew 23 = .ok (.aload_n 0, 1) := by decide +kernel
theorem dX2_beginAnew_24 : decode cX2_beginAnew 24 = .ok (.getfield 9, 3) := by decide +kernel
theorem dX2_beginAnew_27 : decode cX2_beginAnew 27 = .ok (.iconst 1, 1) := by decide +kernel
theorem dX2_beginAnew_28 : decode cX2_beginAnew 28 = .ok (.iconst 2, 1) := by decide +kernel
theorem dX2_beginAnew_29 : decode cX2_beginAnew 29 = .ok (.iastore, 1) := by decide +kernel
theorem dX2_beginAnew_30 : decode cX2_beginAnew 30 = .ok (.return_, 1) := by decide +kernel
theorem dX2_copy_0 : decode cX2_copy 0 = .ok (.aload_n 0, 1) := by decide +kernel
theorem dX2_copy_1 : decode cX2_copy 1 = .ok (.aload_n 1, 1) := by decide +kernel
theorem dX2_copy_2 : decode cX2_copy 2 = .ok (.getfield 27, 3) := by decide +kernel
theorem dX2_copy_5 : decode cX2_copy 5 = .ok (.putfield 27, 3) := by decide +kernel
theorem dX2_copy_8 : decode cX2_copy 8 = .ok (.aload_n 0, 1) := by decide +kernel
theorem dX2_copy_9 : decode cX2_copy 9 = .ok (.aload_n 1, 1) := by decide +kernel
theorem dX2_copy_10 : decode cX2_copy 10 = .ok (.getfield 31, 3) := by decide +kernel
theorem dX2_copy_13 : decode cX2_copy 13 = .ok (.putfield 31, 3) := by decide +kernel
theorem dX2_copy_16 : decode cX2_copy 16 = .ok (.aload_n 0, 1) := by decide +kernel
theorem dX2_copy_17 : decode cX2_copy 17 = .ok (.aload_n 1, 1) := by decide +kernel
theorem dX2_copy_18 : decode cX2_copy 18 = .ok (.getfield 34, 3) := by decide +kernel
theorem dX2_copy_21 : decode cX2_copy 21 = .ok (.putfield 34, 3) := by decide +kernel
theorem dX2_copy_24 : decode cX2_copy 24 = .ok (.aload_n 1, 1) := by decide +kernel
theorem dX2_copy_25 : decode cX2_copy 25 = .ok (.getfield 9, 3) := by decide +kernel
theorem dX2_copy_28 : decode cX2_copy 28 = .ok (.iconst 0, 1) := by decide +kernel
theorem dX2_copy_29 : decode cX2_copy 29 = .ok (.aload_n 0, 1) := by decide +kernel
theorem dX2_copy_30 : decode cX2_copy 30 = .ok (.getfield 9, 3) := by decide +kernel
theorem dX2_copy_33 : decode cX2_copy 33 = .ok (.iconst 0, 1) := by decide +kernel
theorem dX2_copy_34 : decode cX2_copy 34 = .ok (.iconst 2, 1) := by decide +kernel
theorem dX2_copy_35 : decode cX2_copy 35 = .ok (.invokestatic 37, 3) := by decide +kernel
theorem dX2_copy_38 : decode cX2_copy 38 = .ok (.aload_n 1, 1) := by decide +kernel
theorem dX2_copy_39 : decode cX2_copy 39 = .ok (.getfield 15, 3) := by decide +kernel
theorem dX2_copy_42 : decode cX2_copy 42 = .ok (.iconst 0, 1) := by decide +kernel
theorem dX2_copy_43 : decode cX2_copy 43 = .ok (.aload_n 0, 1) := by decide +kernel
theorem dX2_copy_44 : decode cX2_copy 44 = .ok (.getfield 15, 3) := by decide +kernel
theorem dX2_copy_47 : decode cX2_copy 47 = .ok (.iconst 0, 1) := by decide +kernel
theorem dX2_copy_48 : decode cX2_copy 48 = .ok (.bipush 7, 2) := by decide +kernel
theorem dX2_copy_50 : decode cX2_copy 50 = .ok (.invokestatic 37, 3) := by decide +kernel
theorem dX2_copy_53 : decode cX2_copy 53 = .ok (.aload_n 1, 1) := by decide +kernel
theorem dX2_copy_54 : decode cX2_copy 54 = .ok (.getfield 18, 3) := by decide +kernel
theorem dX2_copy_57 : decode cX2_copy 57 = .ok (.iconst 0, 1) := by decide +kernel
theorem dX2_copy_58 : decode cX2_copy 58 = .ok (.aload_n 0, 1) := by decide +kernel
theorem dX2_copy_59 : decode cX2_copy 59 = .ok (.getfield 18, 3) := by decide +kernel
theorem dX2_copy_62 : decode cX2_copy 62 = .ok (.iconst 0, 1) := by decide +kernel
theorem dX2_copy_63 : decode cX2_copy 63 = .ok (.bipush 7, 2) := by decide +kernel
theorem dX2_copy_65 : decode cX2_copy 65 = .ok (.invokestatic 37, 3) := by decide +kernel
theorem dX2_copy_68 : decode cX2_copy 68 = .ok (.aload_n 1, 1) := by decide +kernel
theorem dX2_copy_69 : decode cX2_copy 69 = .ok (.getfield 21, 3) := by decide +kernel
theorem dX2_copy_72 : decode cX2_copy 72 = .ok (.iconst 0, 1) := by decide +kernel
theorem dX2_copy_73 : decode cX2_copy 73 = .ok (.aload_n 0, 1) := by decide +kernel
theorem dX2_copy_74 : decode cX2_copy 74 = .ok (.getfield 21, 3) := by decide +kernel
theorem dX2_copy_77 : decode cX2_copy 77 = .ok (.iconst 0, 1) := by decide +kernel
theorem dX2_copy_78 : decode cX2_copy 78 = .ok (.bipush 7, 2) := by decide +kernel
theorem dX2_copy_80 : decode cX2_copy 80 = .ok (.invokestatic 37, 3) := by decide +kernel
theorem dX2_copy_83 : decode cX2_copy 83 = .ok (.return_, 1) := by decide +kernel
theorem dX2_has_0 : decode cX2_has 0 = .ok (.iload_n 1, 1) := by decide +kernel
theorem dX2_has_1 : decode cX2_has 1 = .ok (.ifCond .lt 21, 3) := by decide +kernel
theorem dX2_has_4 : decode cX2_has 4 = .ok (.iload_n 1, 1) := by decide +kernel
theorem dX2_has_5 : decode cX2_has 5 = .ok (.aload_n 0, 1) := by decide +kernel
theorem dX2_has_6 : decode cX2_has 6 = .ok (.getfield 27, 3) := by decide +kernel
theorem dX2_has_9 : decode cX2_has 9 = .ok (.if_icmp .ge 13, 3) := by decide +kernel
theorem dX2_has_12 : decode cX2_has 12 = .ok (.iload_n 1, 1) := by decide +kernel
theorem dX2_has_13 : decode cX2_has 13 = .ok (.bipush 7, 2) := by decide +kernel
theorem dX2_has_15 : decode cX2_has 15 = .ok (.if_icmp .ge 7, 3) := by decide +kernel
theorem dX2_has_18 : decode cX2_has 18 = .ok (.iconst 1, 1) := by decide +kernel
theorem dX2_has_19 : decode cX2_has 19 = .ok (.goto 4, 3) := by decide +kernel
theorem dX2_has_22 : decode cX2_has 22 = .ok (.iconst 0, 1) := by decide +kernel
theorem dX2_has_23 : decode cX2_has 23 = .ok (.ireturn, 1) := by decide +kernel
theorem dX3_init_0 : decode cX3_init 0 = .ok (.aload_n 0, 1) := by decide +kernel
theorem dX3_init_1 : decode cX3_init 1 = .ok (.invokespecial 3, 3) := by decide +kernel
theorem dX3_init_4 : decode cX3_init 4 = .ok (.aload_n 0, 1) := by decide +kernel
theorem dX3_init_5 : decode cX3_init 5 = .ok (.bipush 80, 2) := by decide +kernel
theorem dX3_init_7 : decode cX3_init 7 = .ok (.newarray .int, 2) := by decide +kernel
theorem dX3_init_9 : decode cX3_init 9 = .ok (.putfield 9, 3) := by decide +kernel
theorem dX3_init_12 : decode cX3_init 12 = .ok (.return_, 1) := by decide +kernel
theorem dX3_append_0 : decode cX3_append 0 = .ok (.aload_n 0, 1) := by decide +kernel
theorem dX3_append_1 : decode cX3_append 1 = .ok (.getfield 15, 3) := by decide +kernel
theorem dX3_append_4 : decode cX3_append 4 = .ok (.ifCond .lt 12, 3) := by decide +kernel
theorem dX3_append_7 : decode cX3_append 7 = .ok (.aload_n 0, 1) := by decide +kernel
theorem dX3_append_8 : decode cX3_append 8 = .ok (.getfield 15, 3) := by decide +kernel
theorem dX3_append_11 : decode cX3_append 11 = .ok (.bipush 80, 2) := by decide +kernel
theorem dX3_append_13 : decode cX3_append 13 = .ok (.if_icmp .lt 5, 3) := by decide +kernel
theorem dX3_append_16 : decode cX3_append 16 = .ok (.iconst 0, 1) := by decide +kernel
theorem dX3_append_17 : decode cX3_append 17 = .ok (.ireturn, 1) := by decide +kernel
theorem dX3_append_18 : decode cX3_append 18 = .ok (.aload_n 0, 1) := by decide +kernel
theorem dX3_append_19 : decode cX3_append 19 = .ok (.getfield 9, 3) := by decide +kernel
theorem dX3_append_22 : decode cX3_append 22 = .ok (.aload_n 0, 1) := by decide +kernel
theorem dX3_append_23 : decode cX3_append 23 = .ok (.getfield 15, 3) := by decide +kernel
theorem dX3_append_26 : decode cX3_append 26 = .ok (.iload_n 1, 1) := by decide +kernel
theorem dX3_append_27 : decode cX3_append 27 = .ok (.iastore, 1) := by decide +kernel
theorem dX3_append_28 : decode cX3_append 28 = .ok (.aload_n 0, 1) := by decide +kernel
theorem dX3_append_29 : decode cX3_append 29 = .ok (.dup, 1) := by decide +kernel
theorem dX3_append_30 : decode cX3_append 30 = .ok (.getfield 15, 3) := by decide +kernel
theorem dX3_append_33 : decode cX3_append 33 = .ok (.iconst 1, 1) := by decide +kernel
theorem dX3_append_34 : decode cX3_append 34 = .ok (.iadd, 1) := by decide +kernel
theorem dX3_append_35 : decode cX3_append 35 = .ok (.putfield 15, 3) := by decide +kernel
theorem dX3_append_38 : decode cX3_append 38 = .ok (.iconst 1, 1) := by decide +kernel
theorem dX3_append_39 : decode cX3_append 39 = .ok (.ireturn, 1) := by decide +kernel
theorem dX3_empty_0 : decode cX3_empty 0 = .ok (.aload_n 0, 1) := by decide +kernel
theorem dX3_empty_1 : decode cX3_empty 1 = .ok (.getfield 15, 3) := by decide +kernel
theorem dX3_empty_4 : decode cX3_empty 4 = .ok (.istore_n 1, 1) := by decide +kernel
theorem dX3_empty_5 : decode cX3_empty 5 = .ok (.aload_n 0, 1) := by decide +kernel
theorem dX3_empty_6 : decode cX3_empty 6 = .ok (.iconst 0, 1) := by decide +kernel
theorem dX3_empty_7 : decode cX3_empty 7 = .ok (.putfield 15, 3) := by decide +kernel
theorem dX3_empty_10 : decode cX3_empty 10 = .ok (.iload_n 1, 1) := by decide +kernel
theorem dX3_empty_11 : decode cX3_empty 11 = .ok (.ireturn, 1) := by decide +kernel
theorem dX3_readInto_0 : decode cX3_readInto 0 = .ok (.aload_n 1, 1) := by decide +kernel
theorem dX3_readInto_1 : decode cX3_readInto 1 = .ok (.invokevirtual 19, 3) := by decide +kernel
theorem dX3_readInto_4 : decode cX3_readInto 4 = .ok (.aload_n 0, 1) := by decide +kernel
theorem dX3_readInto_5 : decode cX3_readInto 5 = .ok (.iconst 0, 1) := by decide +kernel
theorem dX3_readInto_6 : decode cX3_readInto 6 = .ok (.putfield 24, 3) := by decide +kernel
theorem dX3_readInto_9 : decode cX3_readInto 9 = .ok (.aload_n 0, 1) := by decide +kernel
theorem dX3_readInto_10 : decode cX3_readInto 10 = .ok (.iconst 0, 1) := by decide +kernel
theorem dX3_readInto_11 : decode cX3_readInto 11 = .ok (.putfield 27, 3) := by decide +kernel
theorem dX3_readInto_14 : decode cX3_readInto 14 = .ok (.aload_n 0, 1) := by decide +kernel
theorem dX3_readInto_15 : decode cX3_readInto 15 = .ok (.iconst 0, 1) := by decide +kernel
theorem dX3_readInto_16 : decode cX3_readInto 16 = .ok (.putfield 31, 3) := by decide +kernel
theorem dX3_readInto_19 : decode cX3_readInto 19 = .ok (.aload_n 0, 1) := by decide +kernel
theorem dX3_readInto_20 : decode cX3_readInto 20 = .ok (.iconst 0, 1) := by decide +kernel
theorem dX3_readInto_21 : decode cX3_readInto 21 = .ok (.putfield 34, 3) := by decide +kernel
theorem dX3_readInto_24 : decode cX3_readInto 24 = .ok (.iconst 0, 1) := by decide +kernel
theorem dX3_readInto_25 : decode cX3_readInto 25 = .ok (.istore_n 2, 1) := by decide +kernel
theorem dX3_readInto_26 : decode cX3_readInto 26 = .ok (.iload_n 2, 1) := by decide +kernel
theorem dX3_readInto_27 : decode cX3_readInto 27 = .ok (.bipush 80, 2) := by decide +kernel
theorem dX3_readInto_29 : decode cX3_readInto 29 = .ok (.if_icmp .gt 33, 3) := by decide +kernel
theorem dX3_readInto_32 : decode cX3_readInto 32 = .ok (.aload_n 0, 1) := by decide +kernel
theorem dX3_readInto_33 : decode cX3_readInto 33 = .ok (.invokevirtual 37, 3) := by decide +kernel
theorem dX3_readInto_36 : decode cX3_readInto 36 = .ok (.aload_n 0, 1) := by decide +kernel
theorem dX3_readInto_37 : decode cX3_readInto 37 = .ok (.getfield 40, 3) := by decide +kernel
theorem dX3_readInto_40 : decode cX3_readInto 40 = .ok (.ifCond .ne 5, 3) := by decide +kernel
theorem dX3_readInto_43 : decode cX3_readInto 43 = .ok (.iload_n 2, 1) := by decide +kernel
theorem dX3_readInto_44 : decode cX3_readInto 44 = .ok (.ireturn, 1) := by decide +kernel
theorem dX3_readInto_45 : decode cX3_readInto 45 = .ok (.aload_n 0, 1) := by decide +kernel
theorem dX3_readInto_46 : decode cX3_readInto 46 = .ok (.aload_n 1, 1) := by decide +kernel
theorem dX3_readInto_47 : decode cX3_readInto 47 = .ok (.invokevirtual 43, 3) := by decide +kernel
theorem dX3_readInto_50 : decode cX3_readInto 50 = .ok (.ifCond .ne 6, 3) := by decide +kernel
theorem dX3_readInto_53 : decode cX3_readInto 53 = .ok (.goto 9, 3) := by decide +kernel
theorem dX3_readInto_56 : decode cX3_readInto 56 = .ok (.iinc 2 1, 3) := by decide +kernel
theorem dX3_readInto_59 : decode cX3_readInto 59 = .ok (.goto (-33), 3) := by decide +kernel
theorem dX3_readInto_62 : decode cX3_readInto 62 = .ok (.bipush (-10), 2) := by decide +kernel
theorem dX3_readInto_64 : decode cX3_readInto 64 = .ok (.aload_n 0, 1) := by decide +kernel
theorem dX3_readInto_65 : decode cX3_readInto 65 = .ok (.getfield 47, 3) := by decide +kernel
theorem dX3_readInto_68 : decode cX3_readInto 68 = .ok (.isub, 1) := by decide +kernel
theorem dX3_readInto_69 : decode cX3_readInto 69 = .ok (.ireturn, 1) := by decide +kernel
theorem dX3_letterAt_0 : decode cX3_letterAt 0 = .ok (.iload_n 1, 1) := by decide +kernel
theorem dX3_letterAt_1 : decode cX3_letterAt 1 = .ok (.ifCond .lt 26, 3) := by decide +kernel
theorem dX3_letterAt_4 : decode cX3_letterAt 4 = .ok (.iload_n 1, 1) := by decide +kernel
theorem dX3_letterAt_5 : decode cX3_letterAt 5 = .ok (.aload_n 0, 1) := by decide +kernel
theorem dX3_letterAt_6 : decode cX3_letterAt 6 = .ok (.getfield 15, 3) := by decide +kernel
theorem dX3_letterAt_9 : decode cX3_letterAt 9 = .ok (.if_icmp .ge 18, 3) := by decide +kernel
theorem dX3_letterAt_12 : decode cX3_letterAt 12 = .ok (.iload_n 1, 1) := by decide +kernel
theorem dX3_letterAt_13 : decode cX3_letterAt 13 = .ok (.bipush 80, 2) := by decide +kernel
theorem dX3_letterAt_15 : decode cX3_letterAt 15 = .ok (.if_icmp .ge 12, 3) := by decide +kernel
theorem dX3_letterAt_18 : decode cX3_letterAt 18 = .ok (.aload_n 0, 1) := by decide +kernel
theorem dX3_letterAt_19 : decode cX3_letterAt 19 = .ok (.getfield 9, 3) := by decide +kernel
theorem dX3_letterAt_22 : decode cX3_letterAt 22 = .ok (.iload_n 1, 1) := by decide +kernel
theorem dX3_letterAt_23 : decode cX3_letterAt 23 = .ok (.iaload, 1) := by decide +kernel
theorem dX3_letterAt_24 : decode cX3_letterAt 24 = .ok (.goto 4, 3) := by decide +kernel
theorem dX3_letterAt_27 : decode cX3_letterAt 27 = .ok (.iconst 0, 1) := by decide +kernel
theorem dX3_letterAt_28 : decode cX3_letterAt 28 = .ok (.ireturn, 1) := by decide +kernel
theorem dX3_isDigit_0 : decode cX3_isDigit 0 = .ok (.iload_n 0, 1) := by decide +kernel
theorem dX3_isDigit_1 : decode cX3_isDigit 1 = .ok (.bipush 48, 2) := by decide +kernel
theorem dX3_isDigit_3 : decode cX3_isDigit 3 = .ok (.if_icmp .lt 13, 3) := by decide +kernel
theorem dX3_isDigit_6 : decode cX3_isDigit 6 = .ok (.iload_n 0, 1) := by decide +kernel
theorem dX3_isDigit_7 : decode cX3_isDigit 7 = .ok (.bipush 57, 2) := by decide +kernel
theorem dX3_isDigit_9 : decode cX3_isDigit 9 = .ok (.if_icmp .gt 7, 3) := by decide +kernel
theorem dX3_isDigit_12 : decode cX3_isDigit 12 = .ok (.iconst 1, 1) := by decide +kernel
theorem dX3_isDigit_13 : decode cX3_isDigit 13 = .ok (.goto 4, 3) := by decide +kernel
theorem dX3_isDigit_16 : decode cX3_isDigit 16 = .ok (.iconst 0, 1) := by decide +kernel
theorem dX3_isDigit_17 : decode cX3_isDigit 17 = .ok (.ireturn, 1) := by decide +kernel
theorem dX3_readToken_0 : decode cX3_readToken 0 = .ok (.aload_n 0, 1) := by decide +kernel
theorem dX3_readToken_1 : decode cX3_readToken 1 = .ok (.getfield 24, 3) := by decide +kernel
theorem dX3_readToken_4 : decode cX3_readToken 4 = .ok (.aload_n 0, 1) := by decide +kernel
theorem dX3_readToken_5 : decode cX3_readToken 5 = .ok (.getfield 15, 3) := by decide +kernel
theorem dX3_readToken_8 : decode cX3_readToken 8 = .ok (.if_icmp .ge 29, 3) := by decide +kernel
theorem dX3_readToken_11 : decode cX3_readToken 11 = .ok (.aload_n 0, 1) := by decide +kernel
theorem dX3_readToken_12 : decode cX3_readToken 12 = .ok (.aload_n 0, 1) := by decide +kernel
theorem dX3_readToken_13 : decode cX3_readToken 13 = .ok (.getfield 24, 3) := by decide +kernel
theorem dX3_readToken_16 : decode cX3_readToken 16 = .ok (.invokevirtual 50, 3) := by decide +kernel
theorem dX3_readToken_19 : decode cX3_readToken 19 = .ok (.bipush 32, 2) := by decide +kernel
theorem dX3_readToken_21 : decode cX3_readToken 21 = .ok (.if_icmp .ne 16, 3) := by decide +kernel
theorem dX3_readToken_24 : decode cX3_readToken 24 = .ok (.aload_n 0, 1) := by decide +kernel
theorem dX3_readToken_25 : decode cX3_readToken 25 = .ok (.dup, 1) := by decide +kernel
theorem dX3_readToken_26 : decode cX3_readToken 26 = .ok (.getfield 24, 3) := by decide +kernel
theorem dX3_readToken_29 : decode cX3_readToken 29 = .ok (.iconst 1, 1) := by decide +kernel
theorem dX3_readToken_30 : decode cX3_readToken 30 = .ok (.iadd, 1) := by decide +kernel
theorem dX3_readToken_31 : decode cX3_readToken 31 = .ok (.putfield 24, 3) := by decide +kernel
theorem dX3_readToken_34 : decode cX3_readToken 34 = .ok (.goto (-34), 3) := by decide +kernel
theorem dX3_readToken_37 : decode cX3_readToken 37 = .ok (.aload_n 0, 1) := by decide +kernel
theorem dX3_readToken_38 : decode cX3_readToken 38 = .ok (.aload_n 0, 1) := by decide +kernel
theorem dX3_readToken_39 : decode cX3_readToken 39 = .ok (.getfield 24, 3) := by decide +kernel
theorem dX3_readToken_42 : decode cX3_readToken 42 = .ok (.putfield 47, 3) := by decide +kernel
theorem dX3_readToken_45 : decode cX3_readToken 45 = .ok (.aload_n 0, 1) := by decide +kernel
theorem dX3_readToken_46 : decode cX3_readToken 46 = .ok (.getfield 24, 3) := by decide +kernel
theorem dX3_readToken_49 : decode cX3_readToken 49 = .ok (.aload_n 0, 1) := by decide +kernel
theorem dX3_readToken_50 : decode cX3_readToken 50 = .ok (.getfield 15, 3) := by decide +kernel
theorem dX3_readToken_53 : decode cX3_readToken 53 = .ok (.if_icmp .lt 9, 3) := by decide +kernel
theorem dX3_readToken_56 : decode cX3_readToken 56 = .ok (.aload_n 0, 1) := by decide +kernel
theorem dX3_readToken_57 : decode cX3_readToken 57 = .ok (.iconst 0, 1) := by decide +kernel
theorem dX3_readToken_58 : decode cX3_readToken 58 = .ok (.putfield 40, 3) := by decide +kernel
theorem dX3_readToken_61 : decode cX3_readToken 61 = .ok (.return_, 1) := by decide +kernel
theorem dX3_readToken_62 : decode cX3_readToken 62 = .ok (.aload_n 0, 1) := by decide +kernel
theorem dX3_readToken_63 : decode cX3_readToken 63 = .ok (.aload_n 0, 1) := by decide +kernel
theorem dX3_readToken_64 : decode cX3_readToken 64 = .ok (.getfield 24, 3) := by decide +kernel
theorem dX3_readToken_67 : decode cX3_readToken 67 = .ok (.invokevirtual 50, 3) := by decide +kernel
theorem dX3_readToken_70 : decode cX3_readToken 70 = .ok (.istore_n 1, 1) := by decide +kernel
theorem dX3_readToken_71 : decode cX3_readToken 71 = .ok (.iload_n 1, 1) := by decide +kernel
theorem dX3_readToken_72 : decode cX3_readToken 72 = .ok (.invokestatic 54, 3) := by decide +kernel
theorem dX3_readToken_75 : decode cX3_readToken 75 = .ok (.ifCond .eq 8, 3) := by decide +kernel
theorem dX3_readToken_78 : decode cX3_readToken 78 = .ok (.aload_n 0, 1) := by decide +kernel
theorem dX3_readToken_79 : decode cX3_readToken 79 = .ok (.invokevirtual 58, 3) := by decide +kernel
theorem dX3_readToken_82 : decode cX3_readToken 82 = .ok (.return_, 1) := by decide +kernel
theorem dX3_readToken_83 : decode cX3_readToken 83 = .ok (.aload_n 0, 1) := by decide +kernel
theorem dX3_readToken_84 : decode cX3_readToken 84 = .ok (.dup, 1) := by decide +kernel
theorem dX3_readToken_85 : decode cX3_readToken 85 = .ok (.getfield 24, 3) := by decide +kernel
theorem dX3_readToken_88 : decode cX3_readToken 88 = .ok (.iconst 1, 1) := by decide +kernel
theorem dX3_readToken_89 : decode cX3_readToken 89 = .ok (.iadd, 1) := by decide +kernel
theorem dX3_readToken_90 : decode cX3_readToken 90 = .ok (.putfield 24, 3) := by decide +kernel
theorem dX3_readToken_93 : decode cX3_readToken 93 = .ok (.iload_n 1, 1) := by decide +kernel
theorem dX3_readToken_94 : decode cX3_readToken 94 = .ok (.bipush 99, 2) := by decide +kernel
theorem dX3_readToken_96 : decode cX3_readToken 96 = .ok (.if_icmp .eq 27, 3) := by decide +kernel
theorem dX3_readToken_99 : decode cX3_readToken 99 = .ok (.iload_n 1, 1) := by decide +kernel
theorem dX3_readToken_100 : decode cX3_readToken 100 = .ok (.bipush 97, 2) := by decide +kernel
theorem dX3_readToken_102 : decode cX3_readToken 102 = .ok (.if_icmp .eq 21, 3) := by decide +kernel
theorem dX3_readToken_105 : decode cX3_readToken 105 = .ok (.iload_n 1, 1) := by decide +kernel
theorem dX3_readToken_106 : decode cX3_readToken 106 = .ok (.bipush 119, 2) := by decide +kernel
theorem dX3_readToken_108 : decode cX3_readToken 108 = .ok (.if_icmp .eq 15, 3) := by decide +kernel
theorem dX3_readToken_111 : decode cX3_readToken 111 = .ok (.iload_n 1, 1) := by decide +kernel
theorem dX3_readToken_112 : decode cX3_readToken 112 = .ok (.bipush 114, 2) := by decide +kernel
theorem dX3_readToken_114 : decode cX3_readToken 114 = .ok (.if_icmp .eq 9, 3) := by decide +kernel
theorem dX3_readToken_117 : decode cX3_readToken 117 = .ok (.iload_n 1, 1) := by decide +kernel
theorem dX3_readToken_118 : decode cX3_readToken 118 = .ok (.bipush 59, 2) := by decide +kernel
theorem dX3_readToken_120 : decode cX3_readToken 120 = .ok (.if_icmp .ne 7, 3) := by decide +kernel
theorem dX3_readToken_123 : decode cX3_readToken 123 = .ok (.iconst 1, 1) := by decide +kernel
theorem dX3_readToken_124 : decode cX3_readToken 124 = .ok (.goto 4, 3) := by decide +kernel
theorem dX3_readToken_127 : decode cX3_readToken 127 = .ok (.iconst 0, 1) := by decide +kernel
theorem dX3_readToken_128 : decode cX3_readToken 128 = .ok (.istore_n 2, 1) := by decide +kernel
theorem dX3_readToken_129 : decode cX3_readToken 129 = .ok (.aload_n 0, 1) := by decide +kernel
theorem dX3_readToken_130 : decode cX3_readToken 130 = .ok (.iload_n 2, 1) := by decide +kernel
theorem dX3_readToken_131 : decode cX3_readToken 131 = .ok (.ifCond .eq 7, 3) := by decide +kernel
theorem dX3_readToken_134 : decode cX3_readToken 134 = .ok (.iload_n 1, 1) := by decide +kernel
theorem dX3_readToken_135 : decode cX3_readToken 135 = .ok (.goto 4, 3) := by decide +kernel
theorem dX3_readToken_138 : decode cX3_readToken 138 = .ok (.iconst 2, 1) := by decide +kernel
theorem dX3_readToken_139 : decode cX3_readToken 139 = .ok (.putfield 40, 3) := by decide +kernel
theorem dX3_readToken_142 : decode cX3_readToken 142 = .ok (.return_, 1) := by decide +kernel
theorem dX3_readNumber_0 : decode cX3_readNumber 0 = .ok (.aload_n 0, 1) := by decide +kernel
theorem dX3_readNumber_1 : decode cX3_readNumber 1 = .ok (.iconst 0, 1) := by decide +kernel
theorem dX3_readNumber_2 : decode cX3_readNumber 2 = .ok (.putfield 61, 3) := by decide +kernel
theorem dX3_readNumber_5 : decode cX3_readNumber 5 = .ok (.aload_n 0, 1) := by decide +kernel
theorem dX3_readNumber_6 : decode cX3_readNumber 6 = .ok (.getfield 24, 3) := by decide +kernel
theorem dX3_readNumber_9 : decode cX3_readNumber 9 = .ok (.aload_n 0, 1) := by decide +kernel
theorem dX3_readNumber_10 : decode cX3_readNumber 10 = .ok (.getfield 15, 3) := by decide +kernel
theorem dX3_readNumber_13 : decode cX3_readNumber 13 = .ok (.if_icmp .ge 58, 3) := by decide +kernel
theorem dX3_readNumber_16 : decode cX3_readNumber 16 = .ok (.aload_n 0, 1) := by decide +kernel
theorem dX3_readNumber_17 : decode cX3_readNumber 17 = .ok (.aload_n 0, 1) := by decide +kernel
theorem dX3_readNumber_18 : decode cX3_readNumber 18 = .ok (.getfield 24, 3) := by decide +kernel
theorem dX3_readNumber_21 : decode cX3_readNumber 21 = .ok (.invokevirtual 50, 3) := by decide +kernel
theorem dX3_readNumber_24 : decode cX3_readNumber 24 = .ok (.invokestatic 54, 3) := by decide +kernel
theorem dX3_readNumber_27 : decode cX3_readNumber 27 = .ok (.ifCond .eq 44, 3) := by decide +kernel
theorem dX3_readNumber_30 : decode cX3_readNumber 30 = .ok (.aload_n 0, 1) := by decide +kernel
theorem dX3_readNumber_31 : decode cX3_readNumber 31 = .ok (.bipush 100, 2) := by decide +kernel
theorem dX3_readNumber_33 : decode cX3_readNumber 33 = .ok (.aload_n 0, 1) := by decide +kernel
theorem dX3_readNumber_34 : decode cX3_readNumber 34 = .ok (.getfield 61, 3) := by decide +kernel
theorem dX3_readNumber_37 : decode cX3_readNumber 37 = .ok (.bipush 10, 2) := by decide +kernel
theorem dX3_readNumber_39 : decode cX3_readNumber 39 = .ok (.imul, 1) := by decide +kernel
theorem dX3_readNumber_40 : decode cX3_readNumber 40 = .ok (.aload_n 0, 1) := by decide +kernel
theorem dX3_readNumber_41 : decode cX3_readNumber 41 = .ok (.aload_n 0, 1) := by decide +kernel
theorem dX3_readNumber_42 : decode cX3_readNumber 42 = .ok (.getfield 24, 3) := by decide +kernel
theorem dX3_readNumber_45 : decode cX3_readNumber 45 = .ok (.invokevirtual 50, 3) := by decide +kernel
theorem dX3_readNumber_48 : decode cX3_readNumber 48 = .ok (.iadd, 1) := by decide +kernel
theorem dX3_readNumber_49 : decode cX3_readNumber 49 = .ok (.bipush 48, 2) := by decide +kernel
theorem dX3_readNumber_51 : decode cX3_readNumber 51 = .ok (.isub, 1) := by decide +kernel
theorem dX3_readNumber_52 : decode cX3_readNumber 52 = .ok (.invokestatic 64, 3) := by decide +kernel
theorem dX3_readNumber_55 : decode cX3_readNumber 55 = .ok (.putfield 61, 3) := by decide +kernel
theorem dX3_readNumber_58 : decode cX3_readNumber 58 = .ok (.aload_n 0, 1) := by decide +kernel
theorem dX3_readNumber_59 : decode cX3_readNumber 59 = .ok (.dup, 1) := by decide +kernel
theorem dX3_readNumber_60 : decode cX3_readNumber 60 = .ok (.getfield 24, 3) := by decide +kernel
theorem dX3_readNumber_63 : decode cX3_readNumber 63 = .ok (.iconst 1, 1) := by decide +kernel
theorem dX3_readNumber_64 : decode cX3_readNumber 64 = .ok (.iadd, 1) := by decide +kernel
theorem dX3_readNumber_65 : decode cX3_readNumber 65 = .ok (.putfield 24, 3) := by decide +kernel
theorem dX3_readNumber_68 : decode cX3_readNumber 68 = .ok (.goto (-63), 3) := by decide +kernel
theorem dX3_readNumber_71 : decode cX3_readNumber 71 = .ok (.aload_n 0, 1) := by decide +kernel
theorem dX3_readNumber_72 : decode cX3_readNumber 72 = .ok (.aload_n 0, 1) := by decide +kernel
theorem dX3_readNumber_73 : decode cX3_readNumber 73 = .ok (.getfield 47, 3) := by decide +kernel
theorem dX3_readNumber_76 : decode cX3_readNumber 76 = .ok (.invokevirtual 50, 3) := by decide +kernel
theorem dX3_readNumber_79 : decode cX3_readNumber 79 = .ok (.bipush 48, 2) := by decide +kernel
theorem dX3_readNumber_81 : decode cX3_readNumber 81 = .ok (.if_icmp .ne 20, 3) := by decide +kernel
theorem dX3_readNumber_84 : decode cX3_readNumber 84 = .ok (.aload_n 0, 1) := by decide +kernel
theorem dX3_readNumber_85 : decode cX3_readNumber 85 = .ok (.getfield 24, 3) := by decide +kernel
theorem dX3_readNumber_88 : decode cX3_readNumber 88 = .ok (.aload_n 0, 1) := by decide +kernel
theorem dX3_readNumber_89 : decode cX3_readNumber 89 = .ok (.getfield 47, 3) := by decide +kernel
theorem dX3_readNumber_92 : decode cX3_readNumber 92 = .ok (.isub, 1) := by decide +kernel
theorem dX3_readNumber_93 : decode cX3_readNumber 93 = .ok (.iconst 1, 1) := by decide +kernel
theorem dX3_readNumber_94 : decode cX3_readNumber 94 = .ok (.if_icmp .le 7, 3) := by decide +kernel
theorem dX3_readNumber_97 : decode cX3_readNumber 97 = .ok (.iconst 1, 1) := by decide +kernel
theorem dX3_readNumber_98 : decode cX3_readNumber 98 = .ok (.goto 4, 3) := by decide +kernel
theorem dX3_readNumber_101 : decode cX3_readNumber 101 = .ok (.iconst 0, 1) := by decide +kernel
theorem dX3_readNumber_102 : decode cX3_readNumber 102 = .ok (.istore_n 1, 1) := by decide +kernel
theorem dX3_readNumber_103 : decode cX3_readNumber 103 = .ok (.aload_n 0, 1) := by decide +kernel
theorem dX3_readNumber_104 : decode cX3_readNumber 104 = .ok (.iload_n 1, 1) := by decide +kernel
theorem dX3_readNumber_105 : decode cX3_readNumber 105 = .ok (.ifCond .ne 12, 3) := by decide +kernel
theorem dX3_readNumber_108 : decode cX3_readNumber 108 = .ok (.aload_n 0, 1) := by decide +kernel
theorem dX3_readNumber_109 : decode cX3_readNumber 109 = .ok (.getfield 61, 3) := by decide +kernel
theorem dX3_readNumber_112 : decode cX3_readNumber 112 = .ok (.bipush 99, 2) := by decide +kernel
theorem dX3_readNumber_114 : decode cX3_readNumber 114 = .ok (.if_icmp .le 7, 3) := by decide +kernel
theorem dX3_readNumber_117 : decode cX3_readNumber 117 = .ok (.iconst 2, 1) := by decide +kernel
theorem dX3_readNumber_118 : decode cX3_readNumber 118 = .ok (.goto 4, 3) := by decide +kernel
theorem dX3_readNumber_121 : decode cX3_readNumber 121 = .ok (.iconst 1, 1) := by decide +kernel
theorem dX3_readNumber_122 : decode cX3_readNumber 122 = .ok (.putfield 40, 3) := by decide +kernel
theorem dX3_readNumber_125 : decode cX3_readNumber 125 = .ok (.return_, 1) := by decide +kernel
theorem dX3_readItem_0 : decode cX3_readItem 0 = .ok (.aload_n 0, 1) := by decide +kernel
theorem dX3_readItem_1 : decode cX3_readItem 1 = .ok (.getfield 40, 3) := by decide +kernel
theorem dX3_readItem_4 : decode cX3_readItem 4 = .ok (.lookupswitch 158 #[(97, 72), (99, 44), (114, 128), (119, 100)], 44) := by decide +kernel
theorem dX3_readItem_48 : decode cX3_readItem 48 = .ok (.aload_n 0, 1) := by decide +kernel
theorem dX3_readItem_49 : decode cX3_readItem 49 = .ok (.getfield 27, 3) := by decide +kernel
theorem dX3_readItem_52 : decode cX3_readItem 52 = .ok (.ifCond .ne 22, 3) := by decide +kernel
theorem dX3_readItem_55 : decode cX3_readItem 55 = .ok (.aload_n 0, 1) := by decide +kernel
theorem dX3_readItem_56 : decode cX3_readItem 56 = .ok (.aload_n 1, 1) := by decide +kernel
theorem dX3_readItem_57 : decode cX3_readItem 57 = .ok (.invokevirtual 70, 3) := by decide +kernel
theorem dX3_readItem_60 : decode cX3_readItem 60 = .ok (.ifCond .eq 14, 3) := by decide +kernel
theorem dX3_readItem_63 : decode cX3_readItem 63 = .ok (.aload_n 0, 1) := by decide +kernel
theorem dX3_readItem_64 : decode cX3_readItem 64 = .ok (.invokevirtual 73, 3) := by decide +kernel
theorem dX3_readItem_67 : decode cX3_readItem 67 = .ok (.ifCond .eq 7, 3) := by decide +kernel
theorem dX3_readItem_70 : decode cX3_readItem 70 = .ok (.iconst 1, 1) := by decide +kernel
theorem dX3_readItem_71 : decode cX3_readItem 71 = .ok (.goto 4, 3) := by decide +kernel
theorem dX3_readItem_74 : decode cX3_readItem 74 = .ok (.iconst 0, 1) := by decide +kernel
theorem dX3_readItem_75 : decode cX3_readItem 75 = .ok (.ireturn, 1) := by decide +kernel
theorem dX3_readItem_76 : decode cX3_readItem 76 = .ok (.aload_n 0, 1) := by decide +kernel
theorem dX3_readItem_77 : decode cX3_readItem 77 = .ok (.getfield 31, 3) := by decide +kernel
theorem dX3_readItem_80 : decode cX3_readItem 80 = .ok (.ifCond .ne 22, 3) := by decide +kernel
theorem dX3_readItem_83 : decode cX3_readItem 83 = .ok (.aload_n 0, 1) := by decide +kernel
theorem dX3_readItem_84 : decode cX3_readItem 84 = .ok (.aload_n 1, 1) := by decide +kernel
theorem dX3_readItem_85 : decode cX3_readItem 85 = .ok (.invokevirtual 77, 3) := by decide +kernel
theorem dX3_readItem_88 : decode cX3_readItem 88 = .ok (.ifCond .eq 14, 3) := by decide +kernel
theorem dX3_readItem_91 : decode cX3_readItem 91 = .ok (.aload_n 0, 1) := by decide +kernel
theorem dX3_readItem_92 : decode cX3_readItem 92 = .ok (.invokevirtual 73, 3) := by decide +kernel
theorem dX3_readItem_95 : decode cX3_readItem 95 = .ok (.ifCond .eq 7, 3) := by decide +kernel
theorem dX3_readItem_98 : decode cX3_readItem 98 = .ok (.iconst 1, 1) := by decide +kernel
theorem dX3_readItem_99 : decode cX3_readItem 99 = .ok (.goto 4, 3) := by decide +kernel
theorem dX3_readItem_102 : decode cX3_readItem 102 = .ok (.iconst 0, 1) := by decide +kernel
theorem dX3_readItem_103 : decode cX3_readItem 103 = .ok (.ireturn, 1) := by decide +kernel
theorem dX3_readItem_104 : decode cX3_readItem 104 = .ok (.aload_n 0, 1) := by decide +kernel
theorem dX3_readItem_105 : decode cX3_readItem 105 = .ok (.getfield 34, 3) := by decide +kernel
theorem dX3_readItem_108 : decode cX3_readItem 108 = .ok (.ifCond .ne 22, 3) := by decide +kernel
theorem dX3_readItem_111 : decode cX3_readItem 111 = .ok (.aload_n 0, 1) := by decide +kernel
theorem dX3_readItem_112 : decode cX3_readItem 112 = .ok (.aload_n 1, 1) := by decide +kernel
theorem dX3_readItem_113 : decode cX3_readItem 113 = .ok (.invokevirtual 80, 3) := by decide +kernel
theorem dX3_readItem_116 : decode cX3_readItem 116 = .ok (.ifCond .eq 14, 3) := by decide +kernel
theorem dX3_readItem_119 : decode cX3_readItem 119 = .ok (.aload_n 0, 1) := by decide +kernel
theorem dX3_readItem_120 : decode cX3_readItem 120 = .ok (.invokevirtual 73, 3) := by decide +kernel
theorem dX3_readItem_123 : decode cX3_readItem 123 = .ok (.ifCond .eq 7, 3) := by decide +kernel
theorem dX3_readItem_126 : decode cX3_readItem 126 = .ok (.iconst 1, 1) := by decide +kernel
theorem dX3_readItem_127 : decode cX3_readItem 127 = .ok (.goto 4, 3) := by decide +kernel
theorem dX3_readItem_130 : decode cX3_readItem 130 = .ok (.iconst 0, 1) := by decide +kernel
theorem dX3_readItem_131 : decode cX3_readItem 131 = .ok (.ireturn, 1) := by decide +kernel
theorem dX3_readItem_132 : decode cX3_readItem 132 = .ok (.aload_n 1, 1) := by decide +kernel
theorem dX3_readItem_133 : decode cX3_readItem 133 = .ok (.getfield 83, 3) := by decide +kernel
theorem dX3_readItem_136 : decode cX3_readItem 136 = .ok (.bipush 7, 2) := by decide +kernel
theorem dX3_readItem_138 : decode cX3_readItem 138 = .ok (.if_icmp .ge 22, 3) := by decide +kernel
theorem dX3_readItem_141 : decode cX3_readItem 141 = .ok (.aload_n 0, 1) := by decide +kernel
theorem dX3_readItem_142 : decode cX3_readItem 142 = .ok (.aload_n 1, 1) := by decide +kernel
theorem dX3_readItem_143 : decode cX3_readItem 143 = .ok (.invokevirtual 86, 3) := by decide +kernel
theorem dX3_readItem_146 : decode cX3_readItem 146 = .ok (.ifCond .eq 14, 3) := by decide +kernel
theorem dX3_readItem_149 : decode cX3_readItem 149 = .ok (.aload_n 0, 1) := by decide +kernel
theorem dX3_readItem_150 : decode cX3_readItem 150 = .ok (.invokevirtual 73, 3) := by decide +kernel
theorem dX3_readItem_153 : decode cX3_readItem 153 = .ok (.ifCond .eq 7, 3) := by decide +kernel
theorem dX3_readItem_156 : decode cX3_readItem 156 = .ok (.iconst 1, 1) := by decide +kernel
theorem dX3_readItem_157 : decode cX3_readItem 157 = .ok (.goto 4, 3) := by decide +kernel
theorem dX3_readItem_160 : decode cX3_readItem 160 = .ok (.iconst 0, 1) := by decide +kernel
theorem dX3_readItem_161 : decode cX3_readItem 161 = .ok (.ireturn, 1) := by decide +kernel
theorem dX3_readItem_162 : decode cX3_readItem 162 = .ok (.iconst 0, 1) := by decide +kernel
theorem dX3_readItem_163 : decode cX3_readItem 163 = .ok (.ireturn, 1) := by decide +kernel
theorem dX3_isEnded_0 : decode cX3_isEnded 0 = .ok (.aload_n 0, 1) := by decide +kernel
theorem dX3_isEnded_1 : decode cX3_isEnded 1 = .ok (.invokevirtual 37, 3) := by decide +kernel
theorem dX3_isEnded_4 : decode cX3_isEnded 4 = .ok (.aload_n 0, 1) := by decide +kernel
theorem dX3_isEnded_5 : decode cX3_isEnded 5 = .ok (.getfield 40, 3) := by decide +kernel
theorem dX3_isEnded_8 : decode cX3_isEnded 8 = .ok (.bipush 59, 2) := by decide +kernel
theorem dX3_isEnded_10 : decode cX3_isEnded 10 = .ok (.if_icmp .ne 7, 3) := by decide +kernel
theorem dX3_isEnded_13 : decode cX3_isEnded 13 = .ok (.iconst 1, 1) := by decide +kernel
theorem dX3_isEnded_14 : decode cX3_isEnded 14 = .ok (.goto 4, 3) := by decide +kernel
theorem dX3_isEnded_17 : decode cX3_isEnded 17 = .ok (.iconst 0, 1) := by decide +kernel
theorem dX3_isEnded_18 : decode cX3_isEnded 18 = .ok (.ireturn, 1) := by decide +kernel
theorem dX3_isNumberFrom_0 : decode cX3_isNumberFrom 0 = .ok (.aload_n 0, 1) := by decide +kernel
theorem dX3_isNumberFrom_1 : decode cX3_isNumberFrom 1 = .ok (.invokevirtual 37, 3) := by decide +kernel
theorem dX3_isNumberFrom_4 : decode cX3_isNumberFrom 4 = .ok (.aload_n 0, 1) := by decide +kernel
theorem dX3_isNumberFrom_5 : decode cX3_isNumberFrom 5 = .ok (.getfield 40, 3) := by decide +kernel
theorem dX3_isNumberFrom_8 : decode cX3_isNumberFrom 8 = .ok (.iconst 1, 1) := by decide +kernel
theorem dX3_isNumberFrom_9 : decode cX3_isNumberFrom 9 = .ok (.if_icmp .ne 23, 3) := by decide +kernel
theorem dX3_isNumberFrom_12 : decode cX3_isNumberFrom 12 = .ok (.aload_n 0, 1) := by decide +kernel
theorem dX3_isNumberFrom_13 : decode cX3_isNumberFrom 13 = .ok (.getfield 61, 3) := by decide +kernel
theorem dX3_isNumberFrom_16 : decode cX3_isNumberFrom 16 = .ok (.iload_n 1, 1) := by decide +kernel
theorem dX3_isNumberFrom_17 : decode cX3_isNumberFrom 17 = .ok (.if_icmp .lt 15, 3) := by decide +kernel
theorem dX3_isNumberFrom_20 : decode cX3_isNumberFrom 20 = .ok (.aload_n 0, 1) := by decide +kernel
theorem dX3_isNumberFrom_21 : decode cX3_isNumberFrom 21 = .ok (.getfield 61, 3) := by decide +kernel
theorem dX3_isNumberFrom_24 : decode cX3_isNumberFrom 24 = .ok (.iload_n 2, 1) := by decide +kernel
theorem dX3_isNumberFrom_25 : decode cX3_isNumberFrom 25 = .ok (.if_icmp .gt 7, 3) := by decide +kernel
theorem dX3_isNumberFrom_28 : decode cX3_isNumberFrom 28 = .ok (.iconst 1, 1) := by decide +kernel
theorem dX3_isNumberFrom_29 : decode cX3_isNumberFrom 29 = .ok (.goto 4, 3) := by decide +kernel
theorem dX3_isNumberFrom_32 : decode cX3_isNumberFrom 32 = .ok (.iconst 0, 1) := by decide +kernel
theorem dX3_isNumberFrom_33 : decode cX3_isNumberFrom 33 = .ok (.ireturn, 1) := by decide +kernel
theorem dX3_readChannels_0 : decode cX3_readChannels 0 = .ok (.aload_n 0, 1) := by decide +kernel
theorem dX3_readChannels_1 : decode cX3_readChannels 1 = .ok (.iconst 1, 1) := by decide +kernel
theorem dX3_readChannels_2 : decode cX3_readChannels 2 = .ok (.putfield 27, 3) := by decide +kernel
theorem dX3_readChannels_5 : decode cX3_readChannels 5 = .ok (.iconst 0, 1) := by decide +kernel
theorem dX3_readChannels_6 : decode cX3_readChannels 6 = .ok (.istore_n 2, 1) := by decide +kernel
theorem dX3_readChannels_7 : decode cX3_readChannels 7 = .ok (.iload_n 2, 1) := by decide +kernel
theorem dX3_readChannels_8 : decode cX3_readChannels 8 = .ok (.iconst 2, 1) := by decide +kernel
theorem dX3_readChannels_9 : decode cX3_readChannels 9 = .ok (.if_icmp .ge 30, 3) := by decide +kernel
theorem dX3_readChannels_12 : decode cX3_readChannels 12 = .ok (.aload_n 0, 1) := by decide +kernel
theorem dX3_readChannels_13 : decode cX3_readChannels 13 = .ok (.iconst 1, 1) := by decide +kernel
theorem dX3_readChannels_14 : decode cX3_readChannels 14 = .ok (.iconst 3, 1) := by decide +kernel
theorem dX3_readChannels_15 : decode cX3_readChannels 15 = .ok (.invokevirtual 89, 3) := by decide +kernel
theorem dX3_readChannels_18 : decode cX3_readChannels 18 = .ok (.ifCond .ne 5, 3) := by decide +kernel
theorem dX3_readChannels_21 : decode cX3_readChannels 21 = .ok (.iconst 0, 1) := by decide +kernel
theorem dX3_readChannels_22 : decode cX3_readChannels 22 = .ok (.ireturn, 1) := by decide +kernel
theorem dX3_readChannels_23 : decode cX3_readChannels 23 = .ok (.aload_n 1, 1) := by decide +kernel
theorem dX3_readChannels_24 : decode cX3_readChannels 24 = .ok (.getfield 93, 3) := by decide +kernel
theorem dX3_readChannels_27 : decode cX3_readChannels 27 = .ok (.iload_n 2, 1) := by decide +kernel
theorem dX3_readChannels_28 : decode cX3_readChannels 28 = .ok (.aload_n 0, 1) := by decide +kernel
theorem dX3_readChannels_29 : decode cX3_readChannels 29 = .ok (.getfield 61, 3) := by decide +kernel
theorem dX3_readChannels_32 : decode cX3_readChannels 32 = .ok (.iastore, 1) := by decide +kernel
theorem dX3_readChannels_33 : decode cX3_readChannels 33 = .ok (.iinc 2 1, 3) := by decide +kernel
theorem dX3_readChannels_36 : decode cX3_readChannels 36 = .ok (.goto (-29), 3) := by decide +kernel
theorem dX3_readChannels_39 : decode cX3_readChannels 39 = .ok (.iconst 1, 1) := by decide +kernel
theorem dX3_readChannels_40 : decode cX3_readChannels 40 = .ok (.ireturn, 1) := by decide +kernel
theorem dX3_readAir_0 : decode cX3_readAir 0 = .ok (.aload_n 0, 1) := by decide +kernel
theorem dX3_readAir_1 : decode cX3_readAir 1 = .ok (.iconst 1, 1) := by decide +kernel
theorem dX3_readAir_2 : decode cX3_readAir 2 = .ok (.putfield 31, 3) := by decide +kernel
theorem dX3_readAir_5 : decode cX3_readAir 5 = .ok (.aload_n 0, 1) := by decide +kernel
theorem dX3_readAir_6 : decode cX3_readAir 6 = .ok (.iconst 1, 1) := by decide +kernel
theorem dX3_readAir_7 : decode cX3_readAir 7 = .ok (.bipush 9, 2) := by decide +kernel
theorem dX3_readAir_9 : decode cX3_readAir 9 = .ok (.invokevirtual 89, 3) := by decide +kernel
theorem dX3_readAir_12 : decode cX3_readAir 12 = .ok (.istore_n 2, 1) := by decide +kernel
theorem dX3_readAir_13 : decode cX3_readAir 13 = .ok (.aload_n 1, 1) := by decide +kernel
theorem dX3_readAir_14 : decode cX3_readAir 14 = .ok (.aload_n 0, 1) := by decide +kernel
theorem dX3_readAir_15 : decode cX3_readAir 15 = .ok (.getfield 61, 3) := by decide +kernel
theorem dX3_readAir_18 : decode cX3_readAir 18 = .ok (.putfield 96, 3) := by decide +kernel
theorem dX3_readAir_21 : decode cX3_readAir 21 = .ok (.iload_n 2, 1) := by decide +kernel
theorem dX3_readAir_22 : decode cX3_readAir 22 = .ok (.ireturn, 1) := by decide +kernel
theorem dX3_readPatience_0 : decode cX3_readPatience 0 = .ok (.aload_n 0, 1) := by decide +kernel
theorem dX3_readPatience_1 : decode cX3_readPatience 1 = .ok (.iconst 1, 1) := by decide +kernel
theorem dX3_readPatience_2 : decode cX3_readPatience 2 = .ok (.putfield 34, 3) := by decide +kernel
theorem dX3_readPatience_5 : decode cX3_readPatience 5 = .ok (.aload_n 0, 1) := by decide +kernel
theorem dX3_readPatience_6 : decode cX3_readPatience 6 = .ok (.iconst 1, 1) := by decide +kernel
theorem dX3_readPatience_7 : decode cX3_readPatience 7 = .ok (.bipush 20, 2) := by decide +kernel
theorem dX3_readPatience_9 : decode cX3_readPatience 9 = .ok (.invokevirtual 89, 3) := by decide +kernel
theorem dX3_readPatience_12 : decode cX3_readPatience 12 = .ok (.istore_n 2, 1) := by decide +kernel
theorem dX3_readPatience_13 : decode cX3_readPatience 13 = .ok (.aload_n 1, 1) := by decide +kernel
theorem dX3_readPatience_14 : decode cX3_readPatience 14 = .ok (.aload_n 0, 1) := by decide +kernel
theorem dX3_readPatience_15 : decode cX3_readPatience 15 = .ok (.getfield 61, 3) := by decide +kernel
theorem dX3_readPatience_18 : decode cX3_readPatience 18 = .ok (.putfield 99, 3) := by decide +kernel
theorem dX3_readPatience_21 : decode cX3_readPatience 21 = .ok (.iload_n 2, 1) := by decide +kernel
theorem dX3_readPatience_22 : decode cX3_readPatience 22 = .ok (.ireturn, 1) := by decide +kernel
theorem dX3_readRadio_0 : decode cX3_readRadio 0 = .ok (.aload_n 1, 1) := by decide +kernel
theorem dX3_readRadio_1 : decode cX3_readRadio 1 = .ok (.getfield 83, 3) := by decide +kernel
theorem dX3_readRadio_4 : decode cX3_readRadio 4 = .ok (.istore_n 2, 1) := by decide +kernel
theorem dX3_readRadio_5 : decode cX3_readRadio 5 = .ok (.iload_n 2, 1) := by decide +kernel
theorem dX3_readRadio_6 : decode cX3_readRadio 6 = .ok (.ifCond .lt 18, 3) := by decide +kernel
theorem dX3_readRadio_9 : decode cX3_readRadio 9 = .ok (.iload_n 2, 1) := by decide +kernel
theorem dX3_readRadio_10 : decode cX3_readRadio 10 = .ok (.bipush 7, 2) := by decide +kernel
theorem dX3_readRadio_12 : decode cX3_readRadio 12 = .ok (.if_icmp .ge 12, 3) := by decide +kernel
theorem dX3_readRadio_15 : decode cX3_readRadio 15 = .ok (.aload_n 0, 1) := by decide +kernel
theorem dX3_readRadio_16 : decode cX3_readRadio 16 = .ok (.iconst 0, 1) := by decide +kernel
theorem dX3_readRadio_17 : decode cX3_readRadio 17 = .ok (.iconst 1, 1) := by decide +kernel
theorem dX3_readRadio_18 : decode cX3_readRadio 18 = .ok (.invokevirtual 89, 3) := by decide +kernel
theorem dX3_readRadio_21 : decode cX3_readRadio 21 = .ok (.ifCond .ne 5, 3) := by decide +kernel
theorem dX3_readRadio_24 : decode cX3_readRadio 24 = .ok (.iconst 0, 1) := by decide +kernel
theorem dX3_readRadio_25 : decode cX3_readRadio 25 = .ok (.ireturn, 1) := by decide +kernel
theorem dX3_readRadio_26 : decode cX3_readRadio 26 = .ok (.aload_n 1, 1) := by decide +kernel
theorem dX3_readRadio_27 : decode cX3_readRadio 27 = .ok (.getfield 102, 3) := by decide +kernel
theorem dX3_readRadio_30 : decode cX3_readRadio 30 = .ok (.iload_n 2, 1) := by decide +kernel
theorem dX3_readRadio_31 : decode cX3_readRadio 31 = .ok (.aload_n 0, 1) := by decide +kernel
theorem dX3_readRadio_32 : decode cX3_readRadio 32 = .ok (.getfield 61, 3) := by decide +kernel
theorem dX3_readRadio_35 : decode cX3_readRadio 35 = .ok (.iastore, 1) := by decide +kernel
theorem dX3_readRadio_36 : decode cX3_readRadio 36 = .ok (.aload_n 0, 1) := by decide +kernel
theorem dX3_readRadio_37 : decode cX3_readRadio 37 = .ok (.iconst 0, 1) := by decide +kernel
theorem dX3_readRadio_38 : decode cX3_readRadio 38 = .ok (.iconst 5, 1) := by decide +kernel
theorem dX3_readRadio_39 : decode cX3_readRadio 39 = .ok (.invokevirtual 89, 3) := by decide +kernel
theorem dX3_readRadio_42 : decode cX3_readRadio 42 = .ok (.ifCond .ne 5, 3) := by decide +kernel
theorem dX3_readRadio_45 : decode cX3_readRadio 45 = .ok (.iconst 0, 1) := by decide +kernel
theorem dX3_readRadio_46 : decode cX3_readRadio 46 = .ok (.ireturn, 1) := by decide +kernel
theorem dX3_readRadio_47 : decode cX3_readRadio 47 = .ok (.aload_n 1, 1) := by decide +kernel
theorem dX3_readRadio_48 : decode cX3_readRadio 48 = .ok (.getfield 105, 3) := by decide +kernel
theorem dX3_readRadio_51 : decode cX3_readRadio 51 = .ok (.iload_n 2, 1) := by decide +kernel
theorem dX3_readRadio_52 : decode cX3_readRadio 52 = .ok (.aload_n 0, 1) := by decide +kernel
theorem dX3_readRadio_53 : decode cX3_readRadio 53 = .ok (.getfield 61, 3) := by decide +kernel
theorem dX3_readRadio_56 : decode cX3_readRadio 56 = .ok (.iastore, 1) := by decide +kernel
theorem dX3_readRadio_57 : decode cX3_readRadio 57 = .ok (.aload_n 0, 1) := by decide +kernel
theorem dX3_readRadio_58 : decode cX3_readRadio 58 = .ok (.iconst 0, 1) := by decide +kernel
theorem dX3_readRadio_59 : decode cX3_readRadio 59 = .ok (.iconst 3, 1) := by decide +kernel
theorem dX3_readRadio_60 : decode cX3_readRadio 60 = .ok (.invokevirtual 89, 3) := by decide +kernel
theorem dX3_readRadio_63 : decode cX3_readRadio 63 = .ok (.ifCond .ne 5, 3) := by decide +kernel
theorem dX3_readRadio_66 : decode cX3_readRadio 66 = .ok (.iconst 0, 1) := by decide +kernel
theorem dX3_readRadio_67 : decode cX3_readRadio 67 = .ok (.ireturn, 1) := by decide +kernel
theorem dX3_readRadio_68 : decode cX3_readRadio 68 = .ok (.aload_n 1, 1) := by decide +kernel
theorem dX3_readRadio_69 : decode cX3_readRadio 69 = .ok (.getfield 108, 3) := by decide +kernel
theorem dX3_readRadio_72 : decode cX3_readRadio 72 = .ok (.iload_n 2, 1) := by decide +kernel
theorem dX3_readRadio_73 : decode cX3_readRadio 73 = .ok (.aload_n 0, 1) := by decide +kernel
theorem dX3_readRadio_74 : decode cX3_readRadio 74 = .ok (.getfield 61, 3) := by decide +kernel
theorem dX3_readRadio_77 : decode cX3_readRadio 77 = .ok (.iastore, 1) := by decide +kernel
theorem dX3_readRadio_78 : decode cX3_readRadio 78 = .ok (.aload_n 1, 1) := by decide +kernel
theorem dX3_readRadio_79 : decode cX3_readRadio 79 = .ok (.dup, 1) := by decide +kernel
theorem dX3_readRadio_80 : decode cX3_readRadio 80 = .ok (.getfield 83, 3) := by decide +kernel
theorem dX3_readRadio_83 : decode cX3_readRadio 83 = .ok (.iconst 1, 1) := by decide +kernel
theorem dX3_readRadio_84 : decode cX3_readRadio 84 = .ok (.iadd, 1) := by decide +kernel
theorem dX3_readRadio_85 : decode cX3_readRadio 85 = .ok (.putfield 83, 3) := by decide +kernel
theorem dX3_readRadio_88 : decode cX3_readRadio 88 = .ok (.iconst 1, 1) := by decide +kernel
theorem dX3_readRadio_89 : decode cX3_readRadio 89 = .ok (.ireturn, 1) := by decide +kernel
theorem dX4_init_0 : decode cX4_init 0 = .ok (.aload_n 0, 1) := by decide +kernel
theorem dX4_init_1 : decode cX4_init 1 = .ok (.invokespecial 3, 3) := by decide +kernel
theorem dX4_init_4 : decode cX4_init 4 = .ok (.aload_n 0, 1) := by decide +kernel
theorem dX4_init_5 : decode cX4_init 5 = .ok (.bipush 7, 2) := by decide +kernel
theorem dX4_init_7 : decode cX4_init 7 = .ok (.newarray .int, 2) := by decide +kernel
theorem dX4_init_9 : decode cX4_init 9 = .ok (.putfield 9, 3) := by decide +kernel
theorem dX4_init_12 : decode cX4_init 12 = .ok (.aload_n 0, 1) := by decide +kernel
theorem dX4_init_13 : decode cX4_init 13 = .ok (.bipush 7, 2) := by decide +kernel
theorem dX4_init_15 : decode cX4_init 15 = .ok (.newarray .int, 2) := by decide +kernel
theorem dX4_init_17 : decode cX4_init 17 = .ok (.putfield 15, 3) := by decide +kernel
theorem dX4_init_20 : decode cX4_init 20 = .ok (.aload_n 0, 1) := by decide +kernel
theorem dX4_init_21 : decode cX4_init 21 = .ok (.bipush 7, 2) := by decide +kernel
theorem dX4_init_23 : decode cX4_init 23 = .ok (.newarray .int, 2) := by decide +kernel
theorem dX4_init_25 : decode cX4_init 25 = .ok (.putfield 18, 3) := by decide +kernel
theorem dX4_init_28 : decode cX4_init 28 = .ok (.aload_n 0, 1) := by decide +kernel
theorem dX4_init_29 : decode cX4_init 29 = .ok (.bipush 7, 2) := by decide +kernel
theorem dX4_init_31 : decode cX4_init 31 = .ok (.newarray .int, 2) := by decide +kernel
theorem dX4_init_33 : decode cX4_init 33 = .ok (.putfield 21, 3) := by decide +kernel
theorem dX4_init_36 : decode cX4_init 36 = .ok (.aload_n 0, 1) := by decide +kernel
theorem dX4_init_37 : decode cX4_init 37 = .ok (.bipush 7, 2) := by decide +kernel
theorem dX4_init_39 : decode cX4_init 39 = .ok (.newarray .int, 2) := by decide +kernel
theorem dX4_init_41 : decode cX4_init 41 = .ok (.putfield 24, 3) := by decide +kernel
theorem dX4_init_44 : decode cX4_init 44 = .ok (.aload_n 0, 1) := by decide +kernel
theorem dX4_init_45 : decode cX4_init 45 = .ok (.iconst 2, 1) := by decide +kernel
theorem dX4_init_46 : decode cX4_init 46 = .ok (.newarray .int, 2) := by decide +kernel
theorem dX4_init_48 : decode cX4_init 48 = .ok (.putfield 27, 3) := by decide +kernel
theorem dX4_init_51 : decode cX4_init 51 = .ok (.aload_n 0, 1) := by decide +kernel
theorem dX4_init_52 : decode cX4_init 52 = .ok (.getfield 27, 3) := by decide +kernel
theorem dX4_init_55 : decode cX4_init 55 = .ok (.iconst 0, 1) := by decide +kernel
theorem dX4_init_56 : decode cX4_init 56 = .ok (.iconst (-1), 1) := by decide +kernel
theorem dX4_init_57 : decode cX4_init 57 = .ok (.iastore, 1) := by decide +kernel
theorem dX4_init_58 : decode cX4_init 58 = .ok (.aload_n 0, 1) := by decide +kernel
theorem dX4_init_59 : decode cX4_init 59 = .ok (.getfield 27, 3) := by decide +kernel
theorem dX4_init_62 : decode cX4_init 62 = .ok (.iconst 1, 1) := by decide +kernel
theorem dX4_init_63 : decode cX4_init 63 = .ok (.iconst (-1), 1) := by decide +kernel
theorem dX4_init_64 : decode cX4_init 64 = .ok (.iastore, 1) := by decide +kernel
theorem dX4_init_65 : decode cX4_init 65 = .ok (.return_, 1) := by decide +kernel
theorem dX4_begin_0 : decode cX4_begin 0 = .ok (.iconst 0, 1) := by decide +kernel
theorem dX4_begin_1 : decode cX4_begin 1 = .ok (.istore_n 2, 1) := by decide +kernel
theorem dX4_begin_2 : decode cX4_begin 2 = .ok (.iload_n 2, 1) := by decide +kernel
theorem dX4_begin_3 : decode cX4_begin 3 = .ok (.bipush 7, 2) := by decide +kernel
theorem dX4_begin_5 : decode cX4_begin 5 = .ok (.if_icmp .ge 26, 3) := by decide +kernel
theorem dX4_begin_8 : decode cX4_begin 8 = .ok (.aload_n 0, 1) := by decide +kernel
theorem dX4_begin_9 : decode cX4_begin 9 = .ok (.getfield 9, 3) := by decide +kernel
theorem dX4_begin_12 : decode cX4_begin 12 = .ok (.iload_n 2, 1) := by decide +kernel
theorem dX4_begin_13 : decode cX4_begin 13 = .ok (.aload_n 1, 1) := by decide +kernel
theorem dX4_begin_14 : decode cX4_begin 14 = .ok (.getfield 30, 3) := by decide +kernel
theorem dX4_begin_17 : decode cX4_begin 17 = .ok (.iload_n 2, 1) := by decide +kernel
theorem dX4_begin_18 : decode cX4_begin 18 = .ok (.iaload, 1) := by decide +kernel
theorem dX4_begin_19 : decode cX4_begin 19 = .ok (.iastore, 1) := by decide +kernel
theorem dX4_begin_20 : decode cX4_begin 20 = .ok (.aload_n 0, 1) := by decide +kernel
theorem dX4_begin_21 : decode cX4_begin 21 = .ok (.iload_n 2, 1) := by decide +kernel
theorem dX4_begin_22 : decode cX4_begin 22 = .ok (.invokevirtual 35, 3) := by decide +kernel
theorem dX4_begin_25 : decode cX4_begin 25 = .ok (.iinc 2 1, 3) := by decide +kernel
theorem dX4_begin_28 : decode cX4_begin 28 = .ok (.goto (-26), 3) := by decide +kernel
theorem dX4_begin_31 : decode cX4_begin 31 = .ok (.aload_n 0, 1) := by decide +kernel
theorem dX4_begin_32 : decode cX4_begin 32 = .ok (.getfield 27, 3) := by decide +kernel
theorem dX4_begin_35 : decode cX4_begin 35 = .ok (.iconst 0, 1) := by decide +kernel
theorem dX4_begin_36 : decode cX4_begin 36 = .ok (.iconst (-1), 1) := by decide +kernel
theorem dX4_begin_37 : decode cX4_begin 37 = .ok (.iastore, 1) := by decide +kernel
theorem dX4_begin_38 : decode cX4_begin 38 = .ok (.aload_n 0, 1) := by decide +kernel
theorem dX4_begin_39 : decode cX4_begin 39 = .ok (.getfield 27, 3) := by decide +kernel
theorem dX4_begin_42 : decode cX4_begin 42 = .ok (.iconst 1, 1) := by decide +kernel
theorem dX4_begin_43 : decode cX4_begin 43 = .ok (.iconst (-1), 1) := by decide +kernel
theorem dX4_begin_44 : decode cX4_begin 44 = .ok (.iastore, 1) := by decide +kernel
theorem dX4_begin_45 : decode cX4_begin 45 = .ok (.aload_n 0, 1) := by decide +kernel
theorem dX4_begin_46 : decode cX4_begin 46 = .ok (.iconst 0, 1) := by decide +kernel
theorem dX4_begin_47 : decode cX4_begin 47 = .ok (.putfield 39, 3) := by decide +kernel
theorem dX4_begin_50 : decode cX4_begin 50 = .ok (.aload_n 0, 1) := by decide +kernel
theorem dX4_begin_51 : decode cX4_begin 51 = .ok (.iconst 0, 1) := by decide +kernel
theorem dX4_begin_52 : decode cX4_begin 52 = .ok (.putfield 43, 3) := by decide +kernel
theorem dX4_begin_55 : decode cX4_begin 55 = .ok (.aload_n 0, 1) := by decide +kernel
theorem dX4_begin_56 : decode cX4_begin 56 = .ok (.iconst 0, 1) := by decide +kernel
theorem dX4_begin_57 : decode cX4_begin 57 = .ok (.putfield 46, 3) := by decide +kernel
theorem dX4_begin_60 : decode cX4_begin 60 = .ok (.aload_n 0, 1) := by decide +kernel
theorem dX4_begin_61 : decode cX4_begin 61 = .ok (.iconst 0, 1) := by decide +kernel
theorem dX4_begin_62 : decode cX4_begin 62 = .ok (.putfield 49, 3) := by decide +kernel
theorem dX4_begin_65 : decode cX4_begin 65 = .ok (.return_, 1) := by decide +kernel
theorem dX4_copy_0 : decode cX4_copy 0 = .ok (.aload_n 1, 1) := by decide +kernel
theorem dX4_copy_1 : decode cX4_copy 1 = .ok (.getfield 9, 3) := by decide +kernel
theorem dX4_copy_4 : decode cX4_copy 4 = .ok (.iconst 0, 1) := by decide +kernel
theorem dX4_copy_5 : decode cX4_copy 5 = .ok (.aload_n 0, 1) := by decide +kernel
theorem dX4_copy_6 : decode cX4_copy 6 = .ok (.getfield 9, 3) := by decide +kernel
theorem dX4_copy_9 : decode cX4_copy 9 = .ok (.iconst 0, 1) := by decide +kernel
theorem dX4_copy_10 : decode cX4_copy 10 = .ok (.bipush 7, 2) := by decide +kernel
theorem dX4_copy_12 : decode cX4_copy 12 = .ok (.invokestatic 52, 3) := by decide +kernel
theorem dX4_copy_15 : decode cX4_copy 15 = .ok (.aload_n 1, 1) := by decide +kernel
theorem dX4_copy_16 : decode cX4_copy 16 = .ok (.getfield 15, 3) := by decide +kernel
theorem dX4_copy_19 : decode cX4_copy 19 = .ok (.iconst 0, 1) := by decide +kernel
theorem dX4_copy_20 : decode cX4_copy 20 = .ok (.aload_n 0, 1) := by decide +kernel
theorem dX4_copy_21 : decode cX4_copy 21 = .ok (.getfield 15, 3) := by decide +kernel
theorem dX4_copy_24 : decode cX4_copy 24 = .ok (.iconst 0, 1) := by decide +kernel
theorem dX4_copy_25 : decode cX4_copy 25 = .ok (.bipush 7, 2) := by decide +kernel
theorem dX4_copy_27 : decode cX4_copy 27 = .ok (.invokestatic 52, 3) := by decide +kernel
theorem dX4_copy_30 : decode cX4_copy 30 = .ok (.aload_n 1, 1) := by decide +kernel
theorem dX4_copy_31 : decode cX4_copy 31 = .ok (.getfield 18, 3) := by decide +kernel
theorem dX4_copy_34 : decode cX4_copy 34 = .ok (.iconst 0, 1) := by decide +kernel
theorem dX4_copy_35 : decode cX4_copy 35 = .ok (.aload_n 0, 1) := by decide +kernel
theorem dX4_copy_36 : decode cX4_copy 36 = .ok (.getfield 18, 3) := by decide +kernel
theorem dX4_copy_39 : decode cX4_copy 39 = .ok (.iconst 0, 1) := by decide +kernel
theorem dX4_copy_40 : decode cX4_copy 40 = .ok (.bipush 7, 2) := by decide +kernel
theorem dX4_copy_42 : decode cX4_copy 42 = .ok (.invokestatic 52, 3) := by decide +kernel
theorem dX4_copy_45 : decode cX4_copy 45 = .ok (.aload_n 1, 1) := by decide +kernel
theorem dX4_copy_46 : decode cX4_copy 46 = .ok (.getfield 21, 3) := by decide +kernel
theorem dX4_copy_49 : decode cX4_copy 49 = .ok (.iconst 0, 1) := by decide +kernel
theorem dX4_copy_50 : decode cX4_copy 50 = .ok (.aload_n 0, 1) := by decide +kernel
theorem dX4_copy_51 : decode cX4_copy 51 = .ok (.getfield 21, 3) := by decide +kernel
theorem dX4_copy_54 : decode cX4_copy 54 = .ok (.iconst 0, 1) := by decide +kernel
theorem dX4_copy_55 : decode cX4_copy 55 = .ok (.bipush 7, 2) := by decide +kernel
theorem dX4_copy_57 : decode cX4_copy 57 = .ok (.invokestatic 52, 3) := by decide +kernel
theorem dX4_copy_60 : decode cX4_copy 60 = .ok (.aload_n 1, 1) := by decide +kernel
theorem dX4_copy_61 : decode cX4_copy 61 = .ok (.getfield 24, 3) := by decide +kernel
theorem dX4_copy_64 : decode cX4_copy 64 = .ok (.iconst 0, 1) := by decide +kernel
theorem dX4_copy_65 : decode cX4_copy 65 = .ok (.aload_n 0, 1) := by decide +kernel
theorem dX4_copy_66 : decode cX4_copy 66 = .ok (.getfield 24, 3) := by decide +kernel
theorem dX4_copy_69 : decode cX4_copy 69 = .ok (.iconst 0, 1) := by decide +kernel
theorem dX4_copy_70 : decode cX4_copy 70 = .ok (.bipush 7, 2) := by decide +kernel
theorem dX4_copy_72 : decode cX4_copy 72 = .ok (.invokestatic 52, 3) := by decide +kernel
theorem dX4_copy_75 : decode cX4_copy 75 = .ok (.aload_n 1, 1) := by decide +kernel
theorem dX4_copy_76 : decode cX4_copy 76 = .ok (.getfield 27, 3) := by decide +kernel
theorem dX4_copy_79 : decode cX4_copy 79 = .ok (.iconst 0, 1) := by decide +kernel
theorem dX4_copy_80 : decode cX4_copy 80 = .ok (.aload_n 0, 1) := by decide +kernel
theorem dX4_copy_81 : decode cX4_copy 81 = .ok (.getfield 27, 3) := by decide +kernel
theorem dX4_copy_84 : decode cX4_copy 84 = .ok (.iconst 0, 1) := by decide +kernel
theorem dX4_copy_85 : decode cX4_copy 85 = .ok (.iconst 2, 1) := by decide +kernel
theorem dX4_copy_86 : decode cX4_copy 86 = .ok (.invokestatic 52, 3) := by decide +kernel
theorem dX4_copy_89 : decode cX4_copy 89 = .ok (.aload_n 0, 1) := by decide +kernel
theorem dX4_copy_90 : decode cX4_copy 90 = .ok (.aload_n 1, 1) := by decide +kernel
theorem dX4_copy_91 : decode cX4_copy 91 = .ok (.getfield 39, 3) := by decide +kernel
theorem dX4_copy_94 : decode cX4_copy 94 = .ok (.putfield 39, 3) := by decide +kernel
theorem dX4_copy_97 : decode cX4_copy 97 = .ok (.aload_n 0, 1) := by decide +kernel
theorem dX4_copy_98 : decode cX4_copy 98 = .ok (.aload_n 1, 1) := by decide +kernel
theorem dX4_copy_99 : decode cX4_copy 99 = .ok (.getfield 43, 3) := by decide +kernel
theorem dX4_copy_102 : decode cX4_copy 102 = .ok (.putfield 43, 3) := by decide +kernel
theorem dX4_copy_105 : decode cX4_copy 105 = .ok (.aload_n 0, 1) := by decide +kernel
theorem dX4_copy_106 : decode cX4_copy 106 = .ok (.aload_n 1, 1) := by decide +kernel
theorem dX4_copy_107 : decode cX4_copy 107 = .ok (.getfield 46, 3) := by decide +kernel
theorem dX4_copy_110 : decode cX4_copy 110 = .ok (.putfield 46, 3) := by decide +kernel
theorem dX4_copy_113 : decode cX4_copy 113 = .ok (.aload_n 0, 1) := by decide +kernel
theorem dX4_copy_114 : decode cX4_copy 114 = .ok (.aload_n 1, 1) := by decide +kernel
theorem dX4_copy_115 : decode cX4_copy 115 = .ok (.getfield 49, 3) := by decide +kernel
theorem dX4_copy_118 : decode cX4_copy 118 = .ok (.putfield 49, 3) := by decide +kernel
theorem dX4_copy_121 : decode cX4_copy 121 = .ok (.return_, 1) := by decide +kernel
theorem dX4_hasControl_0 : decode cX4_hasControl 0 = .ok (.aload_n 0, 1) := by decide +kernel
theorem dX4_hasControl_1 : decode cX4_hasControl 1 = .ok (.getfield 27, 3) := by decide +kernel
theorem dX4_hasControl_4 : decode cX4_hasControl 4 = .ok (.iload_n 1, 1) := by decide +kernel
theorem dX4_hasControl_5 : decode cX4_hasControl 5 = .ok (.iaload, 1) := by decide +kernel
theorem dX4_hasControl_6 : decode cX4_hasControl 6 = .ok (.iconst (-1), 1) := by decide +kernel
theorem dX4_hasControl_7 : decode cX4_hasControl 7 = .ok (.if_icmp .ne 7, 3) := by decide +kernel
theorem dX4_hasControl_10 : decode cX4_hasControl 10 = .ok (.iconst 1, 1) := by decide +kernel
theorem dX4_hasControl_11 : decode cX4_hasControl 11 = .ok (.goto 4, 3) := by decide +kernel
theorem dX4_hasControl_14 : decode cX4_hasControl 14 = .ok (.iconst 0, 1) := by decide +kernel
theorem dX4_hasControl_15 : decode cX4_hasControl 15 = .ok (.ireturn, 1) := by decide +kernel
theorem dX4_isOnAir_0 : decode cX4_isOnAir 0 = .ok (.aload_n 0, 1) := by decide +kernel
theorem dX4_isOnAir_1 : decode cX4_isOnAir 1 = .ok (.getfield 15, 3) := by decide +kernel
theorem dX4_isOnAir_4 : decode cX4_isOnAir 4 = .ok (.iload_n 1, 1) := by decide +kernel
theorem dX4_isOnAir_5 : decode cX4_isOnAir 5 = .ok (.iaload, 1) := by decide +kernel
theorem dX4_isOnAir_6 : decode cX4_isOnAir 6 = .ok (.iconst 4, 1) := by decide +kernel
theorem dX4_isOnAir_7 : decode cX4_isOnAir 7 = .ok (.if_icmp .eq 13, 3) := by decide +kernel
theorem dX4_isOnAir_10 : decode cX4_isOnAir 10 = .ok (.aload_n 0, 1) := by decide +kernel
theorem dX4_isOnAir_11 : decode cX4_isOnAir 11 = .ok (.getfield 15, 3) := by decide +kernel
theorem dX4_isOnAir_14 : decode cX4_isOnAir 14 = .ok (.iload_n 1, 1) := by decide +kernel
theorem dX4_isOnAir_15 : decode cX4_isOnAir 15 = .ok (.iaload, 1) := by decide +kernel
theorem dX4_isOnAir_16 : decode cX4_isOnAir 16 = .ok (.iconst 5, 1) := by decide +kernel
theorem dX4_isOnAir_17 : decode cX4_isOnAir 17 = .ok (.if_icmp .ne 7, 3) := by decide +kernel
theorem dX4_isOnAir_20 : decode cX4_isOnAir 20 = .ok (.iconst 1, 1) := by decide +kernel
theorem dX4_isOnAir_21 : decode cX4_isOnAir 21 = .ok (.goto 4, 3) := by decide +kernel
theorem dX4_isOnAir_24 : decode cX4_isOnAir 24 = .ok (.iconst 0, 1) := by decide +kernel
theorem dX4_isOnAir_25 : decode cX4_isOnAir 25 = .ok (.ireturn, 1) := by decide +kernel
theorem dX4_enter_0 : decode cX4_enter 0 = .ok (.aload_n 0, 1) := by decide +kernel
theorem dX4_enter_1 : decode cX4_enter 1 = .ok (.getfield 15, 3) := by decide +kernel
theorem dX4_enter_4 : decode cX4_enter 4 = .ok (.iload_n 1, 1) := by decide +kernel
theorem dX4_enter_5 : decode cX4_enter 5 = .ok (.iload_n 2, 1) := by decide +kernel
theorem dX4_enter_6 : decode cX4_enter 6 = .ok (.iastore, 1) := by decide +kernel
theorem dX4_enter_7 : decode cX4_enter 7 = .ok (.aload_n 0, 1) := by decide +kernel
theorem dX4_enter_8 : decode cX4_enter 8 = .ok (.getfield 18, 3) := by decide +kernel
theorem dX4_enter_11 : decode cX4_enter 11 = .ok (.iload_n 1, 1) := by decide +kernel
theorem dX4_enter_12 : decode cX4_enter 12 = .ok (.iconst 0, 1) := by decide +kernel
theorem dX4_enter_13 : decode cX4_enter 13 = .ok (.iastore, 1) := by decide +kernel
theorem dX4_enter_14 : decode cX4_enter 14 = .ok (.return_, 1) := by decide +kernel
theorem dX4_rest_0 : decode cX4_rest 0 = .ok (.aload_n 0, 1) := by decide +kernel
theorem dX4_rest_1 : decode cX4_rest 1 = .ok (.iload_n 1, 1) := by decide +kernel
theorem dX4_rest_2 : decode cX4_rest 2 = .ok (.iconst 0, 1) := by decide +kernel
theorem dX4_rest_3 : decode cX4_rest 3 = .ok (.invokevirtual 58, 3) := by decide +kernel
theorem dX4_rest_6 : decode cX4_rest 6 = .ok (.aload_n 0, 1) := by decide +kernel
theorem dX4_rest_7 : decode cX4_rest 7 = .ok (.getfield 21, 3) := by decide +kernel
theorem dX4_rest_10 : decode cX4_rest 10 = .ok (.iload_n 1, 1) := by decide +kernel
theorem dX4_rest_11 : decode cX4_rest 11 = .ok (.iconst 0, 1) := by decide +kernel
theorem dX4_rest_12 : decode cX4_rest 12 = .ok (.iastore, 1) := by decide +kernel
theorem dX4_rest_13 : decode cX4_rest 13 = .ok (.aload_n 0, 1) := by decide +kernel
theorem dX4_rest_14 : decode cX4_rest 14 = .ok (.getfield 24, 3) := by decide +kernel
theorem dX4_rest_17 : decode cX4_rest 17 = .ok (.iload_n 1, 1) := by decide +kernel
theorem dX4_rest_18 : decode cX4_rest 18 = .ok (.iconst 0, 1) := by decide +kernel
theorem dX4_rest_19 : decode cX4_rest 19 = .ok (.iastore, 1) := by decide +kernel
theorem dX4_rest_20 : decode cX4_rest 20 = .ok (.return_, 1) := by decide +kernel
theorem dX4_pressIdle_0 : decode cX4_pressIdle 0 = .ok (.iconst 0, 1) := by decide +kernel
theorem dX4_pressIdle_1 : decode cX4_pressIdle 1 = .ok (.istore_n 3, 1) := by decide +kernel
theorem dX4_pressIdle_2 : decode cX4_pressIdle 2 = .ok (.iload_n 3, 1) := by decide +kernel
theorem dX4_pressIdle_3 : decode cX4_pressIdle 3 = .ok (.aload_n 1, 1) := by decide +kernel
theorem dX4_pressIdle_4 : decode cX4_pressIdle 4 = .ok (.getfield 62, 3) := by decide +kernel
theorem dX4_pressIdle_7 : decode cX4_pressIdle 7 = .ok (.if_icmp .ge 33, 3) := by decide +kernel
theorem dX4_pressIdle_10 : decode cX4_pressIdle 10 = .ok (.iload_n 2, 1) := by decide +kernel
theorem dX4_pressIdle_11 : decode cX4_pressIdle 11 = .ok (.iload_n 3, 1) := by decide +kernel
theorem dX4_pressIdle_12 : decode cX4_pressIdle 12 = .ok (.ishr, 1) := by decide +kernel
theorem dX4_pressIdle_13 : decode cX4_pressIdle 13 = .ok (.iconst 1, 1) := by decide +kernel
theorem dX4_pressIdle_14 : decode cX4_pressIdle 14 = .ok (.iand, 1) := by decide +kernel
theorem dX4_pressIdle_15 : decode cX4_pressIdle 15 = .ok (.iconst 1, 1) := by decide +kernel
theorem dX4_pressIdle_16 : decode cX4_pressIdle 16 = .ok (.if_icmp .ne 18, 3) := by decide +kernel
theorem dX4_pressIdle_19 : decode cX4_pressIdle 19 = .ok (.aload_n 0, 1) := by decide +kernel
theorem dX4_pressIdle_20 : decode cX4_pressIdle 20 = .ok (.getfield 15, 3) := by decide +kernel
theorem dX4_pressIdle_23 : decode cX4_pressIdle 23 = .ok (.iload_n 3, 1) := by decide +kernel
theorem dX4_pressIdle_24 : decode cX4_pressIdle 24 = .ok (.iaload, 1) := by decide +kernel
theorem dX4_pressIdle_25 : decode cX4_pressIdle 25 = .ok (.ifCond .ne 9, 3) := by decide +kernel
theorem dX4_pressIdle_28 : decode cX4_pressIdle 28 = .ok (.aload_n 0, 1) := by decide +kernel
theorem dX4_pressIdle_29 : decode cX4_pressIdle 29 = .ok (.iload_n 3, 1) := by decide +kernel
theorem dX4_pressIdle_30 : decode cX4_pressIdle 30 = .ok (.iconst 1, 1) := by decide +kernel
theorem dX4_pressIdle_31 : decode cX4_pressIdle 31 = .ok (.invokevirtual 58, 3) := by decide +kernel
theorem dX4_pressIdle_34 : decode cX4_pressIdle 34 = .ok (.iinc 3 1, 3) := by decide +kernel
theorem dX4_pressIdle_37 : decode cX4_pressIdle 37 = .ok (.goto (-35), 3) := by decide +kernel
theorem dX4_pressIdle_40 : decode cX4_pressIdle 40 = .ok (.return_, 1) := by decide +kernel
theorem dX4_idleOnes_0 : decode cX4_idleOnes 0 = .ok (.iconst 0, 1) := by decide +kernel
theorem dX4_idleOnes_1 : decode cX4_idleOnes 1 = .ok (.istore_n 2, 1) := by decide +kernel
theorem dX4_idleOnes_2 : decode cX4_idleOnes 2 = .ok (.iconst 0, 1) := by decide +kernel
theorem dX4_idleOnes_3 : decode cX4_idleOnes 3 = .ok (.istore_n 3, 1) := by decide +kernel
theorem dX4_idleOnes_4 : decode cX4_idleOnes 4 = .ok (.iload_n 3, 1) := by decide +kernel
theorem dX4_idleOnes_5 : decode cX4_idleOnes 5 = .ok (.aload_n 1, 1) := by decide +kernel
theorem dX4_idleOnes_6 : decode cX4_idleOnes 6 = .ok (.getfield 62, 3) := by decide +kernel
theorem dX4_idleOnes_9 : decode cX4_idleOnes 9 = .ok (.if_icmp .ge 28, 3) := by decide +kernel
theorem dX4_idleOnes_12 : decode cX4_idleOnes 12 = .ok (.iload_n 2, 1) := by decide +kernel
theorem dX4_idleOnes_13 : decode cX4_idleOnes 13 = .ok (.aload_n 0, 1) := by decide +kernel
theorem dX4_idleOnes_14 : decode cX4_idleOnes 14 = .ok (.getfield 15, 3) := by decide +kernel
theorem dX4_idleOnes_17 : decode cX4_idleOnes 17 = .ok (.iload_n 3, 1) := by decide +kernel
theorem dX4_idleOnes_18 : decode cX4_idleOnes 18 = .ok (.iaload, 1) := by decide +kernel
theorem dX4_idleOnes_19 : decode cX4_idleOnes 19 = .ok (.ifCond .ne 9, 3) := by decide +kernel
theorem dX4_idleOnes_22 : decode cX4_idleOnes 22 = .ok (.iconst 1, 1) := by decide +kernel
theorem dX4_idleOnes_23 : decode cX4_idleOnes 23 = .ok (.iload_n 3, 1) := by decide +kernel
theorem dX4_idleOnes_24 : decode cX4_idleOnes 24 = .ok (.ishl, 1) := by decide +kernel
theorem dX4_idleOnes_25 : decode cX4_idleOnes 25 = .ok (.goto 4, 3) := by decide +kernel
theorem dX4_idleOnes_28 : decode cX4_idleOnes 28 = .ok (.iconst 0, 1) := by decide +kernel
theorem dX4_idleOnes_29 : decode cX4_idleOnes 29 = .ok (.ior, 1) := by decide +kernel
theorem dX4_idleOnes_30 : decode cX4_idleOnes 30 = .ok (.istore_n 2, 1) := by decide +kernel
theorem dX4_idleOnes_31 : decode cX4_idleOnes 31 = .ok (.iinc 3 1, 3) := by decide +kernel
theorem dX4_idleOnes_34 : decode cX4_idleOnes 34 = .ok (.goto (-30), 3) := by decide +kernel
theorem dX4_idleOnes_37 : decode cX4_idleOnes 37 = .ok (.iload_n 2, 1) := by decide +kernel
theorem dX4_idleOnes_38 : decode cX4_idleOnes 38 = .ok (.ireturn, 1) := by decide +kernel
theorem dX4_isAnyWaiting_0 : decode cX4_isAnyWaiting 0 = .ok (.iconst 0, 1) := by decide +kernel
theorem dX4_isAnyWaiting_1 : decode cX4_isAnyWaiting 1 = .ok (.istore_n 2, 1) := by decide +kernel
theorem dX4_isAnyWaiting_2 : decode cX4_isAnyWaiting 2 = .ok (.iload_n 2, 1) := by decide +kernel
theorem dX4_isAnyWaiting_3 : decode cX4_isAnyWaiting 3 = .ok (.aload_n 1, 1) := by decide +kernel
theorem dX4_isAnyWaiting_4 : decode cX4_isAnyWaiting 4 = .ok (.getfield 62, 3) := by decide +kernel
theorem dX4_isAnyWaiting_7 : decode cX4_isAnyWaiting 7 = .ok (.if_icmp .ge 41, 3) := by decide +kernel
theorem dX4_isAnyWaiting_10 : decode cX4_isAnyWaiting 10 = .ok (.aload_n 0, 1) := by decide +kernel
theorem dX4_isAnyWaiting_11 : decode cX4_isAnyWaiting 11 = .ok (.getfield 15, 3) := by decide +kernel
theorem dX4_isAnyWaiting_14 : decode cX4_isAnyWaiting 14 = .ok (.iload_n 2, 1) := by decide +kernel
theorem dX4_isAnyWaiting_15 : decode cX4_isAnyWaiting 15 = .ok (.iaload, 1) := by decide +kernel
theorem dX4_isAnyWaiting_16 : decode cX4_isAnyWaiting 16 = .ok (.iconst 1, 1) := by decide +kernel
theorem dX4_isAnyWaiting_17 : decode cX4_isAnyWaiting 17 = .ok (.if_icmp .eq 23, 3) := by decide +kernel
theorem dX4_isAnyWaiting_20 : decode cX4_isAnyWaiting 20 = .ok (.aload_n 0, 1) := by decide +kernel
theorem dX4_isAnyWaiting_21 : decode cX4_isAnyWaiting 21 = .ok (.getfield 15, 3) := by decide +kernel
theorem dX4_isAnyWaiting_24 : decode cX4_isAnyWaiting 24 = .ok (.iload_n 2, 1) := by decide +kernel
theorem dX4_isAnyWaiting_25 : decode cX4_isAnyWaiting 25 = .ok (.iaload, 1) := by decide +kernel
theorem dX4_isAnyWaiting_26 : decode cX4_isAnyWaiting 26 = .ok (.iconst 2, 1) := by decide +kernel
theorem dX4_isAnyWaiting_27 : decode cX4_isAnyWaiting 27 = .ok (.if_icmp .eq 13, 3) := by decide +kernel
theorem dX4_isAnyWaiting_30 : decode cX4_isAnyWaiting 30 = .ok (.aload_n 0, 1) := by decide +kernel
theorem dX4_isAnyWaiting_31 : decode cX4_isAnyWaiting 31 = .ok (.getfield 15, 3) := by decide +kernel
theorem dX4_isAnyWaiting_34 : decode cX4_isAnyWaiting 34 = .ok (.iload_n 2, 1) := by decide +kernel
theorem dX4_isAnyWaiting_35 : decode cX4_isAnyWaiting 35 = .ok (.iaload, 1) := by decide +kernel
theorem dX4_isAnyWaiting_36 : decode cX4_isAnyWaiting 36 = .ok (.iconst 3, 1) := by decide +kernel
theorem dX4_isAnyWaiting_37 : decode cX4_isAnyWaiting 37 = .ok (.if_icmp .ne 5, 3) := by decide +kernel
theorem dX4_isAnyWaiting_40 : decode cX4_isAnyWaiting 40 = .ok (.iconst 1, 1) := by decide +kernel
theorem dX4_isAnyWaiting_41 : decode cX4_isAnyWaiting 41 = .ok (.ireturn, 1) := by decide +kernel
theorem dX4_isAnyWaiting_42 : decode cX4_isAnyWaiting 42 = .ok (.iinc 2 1, 3) := by decide +kernel
theorem dX4_isAnyWaiting_45 : decode cX4_isAnyWaiting 45 = .ok (.goto (-43), 3) := by decide +kernel
theorem dX4_isAnyWaiting_48 : decode cX4_isAnyWaiting 48 = .ok (.iconst 0, 1) := by decide +kernel
theorem dX4_isAnyWaiting_49 : decode cX4_isAnyWaiting 49 = .ok (.ireturn, 1) := by decide +kernel
theorem dX4_free_0 : decode cX4_free 0 = .ok (.aload_n 1, 1) := by decide +kernel
theorem dX4_free_1 : decode cX4_free 1 = .ok (.getfield 65, 3) := by decide +kernel
theorem dX4_free_4 : decode cX4_free 4 = .ok (.iload_n 2, 1) := by decide +kernel
theorem dX4_free_5 : decode cX4_free 5 = .ok (.iaload, 1) := by decide +kernel
theorem dX4_free_6 : decode cX4_free 6 = .ok (.istore_n 3, 1) := by decide +kernel
theorem dX4_free_7 : decode cX4_free 7 = .ok (.iconst 0, 1) := by decide +kernel
theorem dX4_free_8 : decode cX4_free 8 = .ok (.istore 4, 2) := by decide +kernel
theorem dX4_free_10 : decode cX4_free 10 = .ok (.iload 4, 2) := by decide +kernel
theorem dX4_free_12 : decode cX4_free 12 = .ok (.aload_n 1, 1) := by decide +kernel
theorem dX4_free_13 : decode cX4_free 13 = .ok (.getfield 62, 3) := by decide +kernel
theorem dX4_free_16 : decode cX4_free 16 = .ok (.if_icmp .ge 23, 3) := by decide +kernel
theorem dX4_free_19 : decode cX4_free 19 = .ok (.iload_n 3, 1) := by decide +kernel
theorem dX4_free_20 : decode cX4_free 20 = .ok (.aload_n 0, 1) := by decide +kernel
theorem dX4_free_21 : decode cX4_free 21 = .ok (.getfield 24, 3) := by decide +kernel
theorem dX4_free_24 : decode cX4_free 24 = .ok (.iload 4, 2) := by decide +kernel
theorem dX4_free_26 : decode cX4_free 26 = .ok (.iaload, 1) := by decide +kernel
theorem dX4_free_27 : decode cX4_free 27 = .ok (.iload_n 2, 1) := by decide +kernel
theorem dX4_free_28 : decode cX4_free 28 = .ok (.ishr, 1) := by decide +kernel
theorem dX4_free_29 : decode cX4_free 29 = .ok (.iconst 1, 1) := by decide +kernel
theorem dX4_free_30 : decode cX4_free 30 = .ok (.iand, 1) := by decide +kernel
theorem dX4_free_31 : decode cX4_free 31 = .ok (.isub, 1) := by decide +kernel
theorem dX4_free_32 : decode cX4_free 32 = .ok (.istore_n 3, 1) := by decide +kernel
theorem dX4_free_33 : decode cX4_free 33 = .ok (.iinc 4 1, 3) := by decide +kernel
theorem dX4_free_36 : decode cX4_free 36 = .ok (.goto (-26), 3) := by decide +kernel
theorem dX4_free_39 : decode cX4_free 39 = .ok (.iload_n 3, 1) := by decide +kernel
theorem dX4_free_40 : decode cX4_free 40 = .ok (.ireturn, 1) := by decide +kernel
theorem dX4_fullSites_0 : decode cX4_fullSites 0 = .ok (.aload_n 1, 1) := by decide +kernel
theorem dX4_fullSites_1 : decode cX4_fullSites 1 = .ok (.getfield 65, 3) := by decide +kernel
theorem dX4_fullSites_4 : decode cX4_fullSites 4 = .ok (.iconst 0, 1) := by decide +kernel
theorem dX4_fullSites_5 : decode cX4_fullSites 5 = .ok (.iaload, 1) := by decide +kernel
theorem dX4_fullSites_6 : decode cX4_fullSites 6 = .ok (.istore_n 2, 1) := by decide +kernel
theorem dX4_fullSites_7 : decode cX4_fullSites 7 = .ok (.aload_n 1, 1) := by decide +kernel
theorem dX4_fullSites_8 : decode cX4_fullSites 8 = .ok (.getfield 65, 3) := by decide +kernel
theorem dX4_fullSites_11 : decode cX4_fullSites 11 = .ok (.iconst 1, 1) := by decide +kernel
theorem dX4_fullSites_12 : decode cX4_fullSites 12 = .ok (.iaload, 1) := by decide +kernel
theorem dX4_fullSites_13 : decode cX4_fullSites 13 = .ok (.istore_n 3, 1) := by decide +kernel
theorem dX4_fullSites_14 : decode cX4_fullSites 14 = .ok (.iconst 0, 1) := by decide +kernel
theorem dX4_fullSites_15 : decode cX4_fullSites 15 = .ok (.istore 4, 2) := by decide +kernel
theorem dX4_fullSites_17 : decode cX4_fullSites 17 = .ok (.iload 4, 2) := by decide +kernel
theorem dX4_fullSites_19 : decode cX4_fullSites 19 = .ok (.aload_n 1, 1) := by decide +kernel
theorem dX4_fullSites_20 : decode cX4_fullSites 20 = .ok (.getfield 62, 3) := by decide +kernel
theorem dX4_fullSites_23 : decode cX4_fullSites 23 = .ok (.if_icmp .ge 35, 3) := by decide +kernel
theorem dX4_fullSites_26 : decode cX4_fullSites 26 = .ok (.iload_n 2, 1) := by decide +kernel
theorem dX4_fullSites_27 : decode cX4_fullSites 27 = .ok (.aload_n 0, 1) := by decide +kernel
theorem dX4_fullSites_28 : decode cX4_fullSites 28 = .ok (.getfield 24, 3) := by decide +kernel
theorem dX4_fullSites_31 : decode cX4_fullSites 31 = .ok (.iload 4, 2) := by decide +kernel
theorem dX4_fullSites_33 : decode cX4_fullSites 33 = .ok (.iaload, 1) := by decide +kernel
theorem dX4_fullSites_34 : decode cX4_fullSites 34 = .ok (.iconst 1, 1) := by decide +kernel
theorem dX4_fullSites_35 : decode cX4_fullSites 35 = .ok (.iand, 1) := by decide +kernel
theorem dX4_fullSites_36 : decode cX4_fullSites 36 = .ok (.isub, 1) := by decide +kernel
theorem dX4_fullSites_37 : decode cX4_fullSites 37 = .ok (.istore_n 2, 1) := by decide +kernel
theorem dX4_fullSites_38 : decode cX4_fullSites 38 = .ok (.iload_n 3, 1) := by decide +kernel
theorem dX4_fullSites_39 : decode cX4_fullSites 39 = .ok (.aload_n 0, 1) := by decide +kernel
theorem dX4_fullSites_40 : decode cX4_fullSites 40 = .ok (.getfield 24, 3) := by decide +kernel
theorem dX4_fullSites_43 : decode cX4_fullSites 43 = .ok (.iload 4, 2) := by decide +kernel
theorem dX4_fullSites_45 : decode cX4_fullSites 45 = .ok (.iaload, 1) := by decide +kernel
theorem dX4_fullSites_46 : decode cX4_fullSites 46 = .ok (.iconst 1, 1) := by decide +kernel
theorem dX4_fullSites_47 : decode cX4_fullSites 47 = .ok (.ishr, 1) := by decide +kernel
theorem dX4_fullSites_48 : decode cX4_fullSites 48 = .ok (.iconst 1, 1) := by decide +kernel
theorem dX4_fullSites_49 : decode cX4_fullSites 49 = .ok (.iand, 1) := by decide +kernel
theorem dX4_fullSites_50 : decode cX4_fullSites 50 = .ok (.isub, 1) := by decide +kernel
theorem dX4_fullSites_51 : decode cX4_fullSites 51 = .ok (.istore_n 3, 1) := by decide +kernel
theorem dX4_fullSites_52 : decode cX4_fullSites 52 = .ok (.iinc 4 1, 3) := by decide +kernel
theorem dX4_fullSites_55 : decode cX4_fullSites 55 = .ok (.goto (-38), 3) := by decide +kernel
theorem dX4_fullSites_58 : decode cX4_fullSites 58 = .ok (.iload_n 2, 1) := by decide +kernel
theorem dX4_fullSites_59 : decode cX4_fullSites 59 = .ok (.iconst 1, 1) := by decide +kernel
theorem dX4_fullSites_60 : decode cX4_fullSites 60 = .ok (.if_icmp .ge 7, 3) := by decide +kernel
theorem dX4_fullSites_63 : decode cX4_fullSites 63 = .ok (.iconst 1, 1) := by decide +kernel
theorem dX4_fullSites_64 : decode cX4_fullSites 64 = .ok (.goto 4, 3) := by decide +kernel
theorem dX4_fullSites_67 : decode cX4_fullSites 67 = .ok (.iconst 0, 1) := by decide +kernel
theorem dX4_fullSites_68 : decode cX4_fullSites 68 = .ok (.iload_n 3, 1) := by decide +kernel
theorem dX4_fullSites_69 : decode cX4_fullSites 69 = .ok (.iconst 1, 1) := by decide +kernel
theorem dX4_fullSites_70 : decode cX4_fullSites 70 = .ok (.if_icmp .ge 7, 3) := by decide +kernel
theorem dX4_fullSites_73 : decode cX4_fullSites 73 = .ok (.iconst 2, 1) := by decide +kernel
theorem dX4_fullSites_74 : decode cX4_fullSites 74 = .ok (.goto 4, 3) := by decide +kernel
theorem dX4_fullSites_77 : decode cX4_fullSites 77 = .ok (.iconst 0, 1) := by decide +kernel
theorem dX4_fullSites_78 : decode cX4_fullSites 78 = .ok (.ior, 1) := by decide +kernel
theorem dX4_fullSites_79 : decode cX4_fullSites 79 = .ok (.ireturn, 1) := by decide +kernel
theorem dX4_talkerOf_0 : decode cX4_talkerOf 0 = .ok (.iconst 0, 1) := by decide +kernel
theorem dX4_talkerOf_1 : decode cX4_talkerOf 1 = .ok (.istore_n 3, 1) := by decide +kernel
theorem dX4_talkerOf_2 : decode cX4_talkerOf 2 = .ok (.iload_n 3, 1) := by decide +kernel
theorem dX4_talkerOf_3 : decode cX4_talkerOf 3 = .ok (.aload_n 1, 1) := by decide +kernel
theorem dX4_talkerOf_4 : decode cX4_talkerOf 4 = .ok (.getfield 62, 3) := by decide +kernel
theorem dX4_talkerOf_7 : decode cX4_talkerOf 7 = .ok (.if_icmp .ge 31, 3) := by decide +kernel
theorem dX4_talkerOf_10 : decode cX4_talkerOf 10 = .ok (.aload_n 0, 1) := by decide +kernel
theorem dX4_talkerOf_11 : decode cX4_talkerOf 11 = .ok (.getfield 15, 3) := by decide +kernel
theorem dX4_talkerOf_14 : decode cX4_talkerOf 14 = .ok (.iload_n 3, 1) := by decide +kernel
theorem dX4_talkerOf_15 : decode cX4_talkerOf 15 = .ok (.iaload, 1) := by decide +kernel
theorem dX4_talkerOf_16 : decode cX4_talkerOf 16 = .ok (.iconst 4, 1) := by decide +kernel
theorem dX4_talkerOf_17 : decode cX4_talkerOf 17 = .ok (.if_icmp .ne 15, 3) := by decide +kernel
theorem dX4_talkerOf_20 : decode cX4_talkerOf 20 = .ok (.aload_n 1, 1) := by decide +kernel
theorem dX4_talkerOf_21 : decode cX4_talkerOf 21 = .ok (.getfield 68, 3) := by decide +kernel
theorem dX4_talkerOf_24 : decode cX4_talkerOf 24 = .ok (.iload_n 3, 1) := by decide +kernel
theorem dX4_talkerOf_25 : decode cX4_talkerOf 25 = .ok (.iaload, 1) := by decide +kernel
theorem dX4_talkerOf_26 : decode cX4_talkerOf 26 = .ok (.iload_n 2, 1) := by decide +kernel
theorem dX4_talkerOf_27 : decode cX4_talkerOf 27 = .ok (.if_icmp .ne 5, 3) := by decide +kernel
theorem dX4_talkerOf_30 : decode cX4_talkerOf 30 = .ok (.iload_n 3, 1) := by decide +kernel
theorem dX4_talkerOf_31 : decode cX4_talkerOf 31 = .ok (.ireturn, 1) := by decide +kernel
theorem dX4_talkerOf_32 : decode cX4_talkerOf 32 = .ok (.iinc 3 1, 3) := by decide +kernel
theorem dX4_talkerOf_35 : decode cX4_talkerOf 35 = .ok (.goto (-33), 3) := by decide +kernel
theorem dX4_talkerOf_38 : decode cX4_talkerOf 38 = .ok (.bipush (-9), 2) := by decide +kernel
theorem dX4_talkerOf_40 : decode cX4_talkerOf 40 = .ok (.ireturn, 1) := by decide +kernel
theorem dX5_init_0 : decode cX5_init 0 = .ok (.aload_n 0, 1) := by decide +kernel
theorem dX5_init_1 : decode cX5_init 1 = .ok (.invokespecial 1, 3) := by decide +kernel
