theorem dX6_soon_59 : decode cX6_soon 59 = .ok (.goto (-31), 3) := by decide +kernel
theorem dX6_soon_62 : decode cX6_soon 62 = .ok (.bipush (-9), 2) := by decide +kernel
theorem dX6_soon_64 : decode cX6_soon 64 = .ok (.ireturn, 1) := by decide +kernel
theorem dX6_within_0 : decode cX6_within 0 = .ok (.aload_n 0, 1) := by decide +kernel
theorem dX6_within_1 : decode cX6_within 1 = .ok (.iconst 0, 1) := by decide +kernel
theorem dX6_within_2 : decode cX6_within 2 = .ok (.putfield 59, 3) := by decide +kernel
theorem dX6_within_5 : decode cX6_within 5 = .ok (.iload_n 1, 1) := by decide +kernel
theorem dX6_within_6 : decode cX6_within 6 = .ok (.iconst 1, 1) := by decide +kernel
theorem dX6_within_7 : decode cX6_within 7 = .ok (.bipush 60, 2) := by decide +kernel
theorem dX6_within_9 : decode cX6_within 9 = .ok (.invokestatic 63, 3) := by decide +kernel
theorem dX6_within_12 : decode cX6_within 12 = .ok (.ifCond .eq 12, 3) := by decide +kernel
theorem dX6_within_15 : decode cX6_within 15 = .ok (.iload_n 2, 1) := by decide +kernel
theorem dX6_within_16 : decode cX6_within 16 = .ok (.iconst 0, 1) := by decide +kernel
theorem dX6_within_17 : decode cX6_within 17 = .ok (.iconst 3, 1) := by decide +kernel
theorem dX6_within_18 : decode cX6_within 18 = .ok (.invokestatic 63, 3) := by decide +kernel
theorem dX6_within_21 : decode cX6_within 21 = .ok (.ifCond .ne 5, 3) := by decide +kernel
theorem dX6_within_24 : decode cX6_within 24 = .ok (.iconst (-1), 1) := by decide +kernel
theorem dX6_within_25 : decode cX6_within 25 = .ok (.ireturn, 1) := by decide +kernel
theorem dX6_within_26 : decode cX6_within 26 = .ok (.aload_n 0, 1) := by decide +kernel
theorem dX6_within_27 : decode cX6_within 27 = .ok (.getfield 22, 3) := by decide +kernel
theorem dX6_within_30 : decode cX6_within 30 = .ok (.aload_n 0, 1) := by decide +kernel
theorem dX6_within_31 : decode cX6_within 31 = .ok (.getfield 25, 3) := by decide +kernel
theorem dX6_within_34 : decode cX6_within 34 = .ok (.invokestatic 117, 3) := by decide +kernel
theorem dX6_within_37 : decode cX6_within 37 = .ok (.iconst 0, 1) := by decide +kernel
theorem dX6_within_38 : decode cX6_within 38 = .ok (.istore_n 3, 1) := by decide +kernel
theorem dX6_within_39 : decode cX6_within 39 = .ok (.iconst 0, 1) := by decide +kernel
theorem dX6_within_40 : decode cX6_within 40 = .ok (.istore 4, 2) := by decide +kernel
theorem dX6_within_42 : decode cX6_within 42 = .ok (.iload 4, 2) := by decide +kernel
theorem dX6_within_44 : decode cX6_within 44 = .ok (.iload_n 1, 1) := by decide +kernel
theorem dX6_within_45 : decode cX6_within 45 = .ok (.if_icmp .ge 42, 3) := by decide +kernel
theorem dX6_within_48 : decode cX6_within 48 = .ok (.aload_n 0, 1) := by decide +kernel
theorem dX6_within_49 : decode cX6_within 49 = .ok (.aload_n 0, 1) := by decide +kernel
theorem dX6_within_50 : decode cX6_within 50 = .ok (.getfield 25, 3) := by decide +kernel
theorem dX6_within_53 : decode cX6_within 53 = .ok (.invokevirtual 188, 3) := by decide +kernel
theorem dX6_within_56 : decode cX6_within 56 = .ok (.iload_n 3, 1) := by decide +kernel
theorem dX6_within_57 : decode cX6_within 57 = .ok (.iload_n 2, 1) := by decide +kernel
theorem dX6_within_58 : decode cX6_within 58 = .ok (.iconst 2, 1) := by decide +kernel
theorem dX6_within_59 : decode cX6_within 59 = .ok (.if_icmp .ge 19, 3) := by decide +kernel
theorem dX6_within_62 : decode cX6_within 62 = .ok (.aload_n 0, 1) := by decide +kernel
theorem dX6_within_63 : decode cX6_within 63 = .ok (.aload_n 0, 1) := by decide +kernel
theorem dX6_within_64 : decode cX6_within 64 = .ok (.getfield 25, 3) := by decide +kernel
theorem dX6_within_67 : decode cX6_within 67 = .ok (.iload_n 2, 1) := by decide +kernel
theorem dX6_within_68 : decode cX6_within 68 = .ok (.invokevirtual 149, 3) := by decide +kernel
theorem dX6_within_71 : decode cX6_within 71 = .ok (.ifCond .gt 7, 3) := by decide +kernel
theorem dX6_within_74 : decode cX6_within 74 = .ok (.iconst 1, 1) := by decide +kernel
theorem dX6_within_75 : decode cX6_within 75 = .ok (.goto 4, 3) := by decide +kernel
theorem dX6_within_78 : decode cX6_within 78 = .ok (.iconst 0, 1) := by decide +kernel
theorem dX6_within_79 : decode cX6_within 79 = .ok (.iadd, 1) := by decide +kernel
theorem dX6_within_80 : decode cX6_within 80 = .ok (.istore_n 3, 1) := by decide +kernel
theorem dX6_within_81 : decode cX6_within 81 = .ok (.iinc 4 1, 3) := by decide +kernel
theorem dX6_within_84 : decode cX6_within 84 = .ok (.goto (-42), 3) := by decide +kernel
theorem dX6_within_87 : decode cX6_within 87 = .ok (.iload_n 2, 1) := by decide +kernel
theorem dX6_within_88 : decode cX6_within 88 = .ok (.iconst 2, 1) := by decide +kernel
theorem dX6_within_89 : decode cX6_within 89 = .ok (.if_icmp .ge 7, 3) := by decide +kernel
theorem dX6_within_92 : decode cX6_within 92 = .ok (.iload_n 3, 1) := by decide +kernel
theorem dX6_within_93 : decode cX6_within 93 = .ok (.goto 37, 3) := by decide +kernel
theorem dX6_within_96 : decode cX6_within 96 = .ok (.iload_n 2, 1) := by decide +kernel
theorem dX6_within_97 : decode cX6_within 97 = .ok (.iconst 2, 1) := by decide +kernel
theorem dX6_within_98 : decode cX6_within 98 = .ok (.if_icmp .ne 19, 3) := by decide +kernel
theorem dX6_within_101 : decode cX6_within 101 = .ok (.aload_n 0, 1) := by decide +kernel
theorem dX6_within_102 : decode cX6_within 102 = .ok (.getfield 25, 3) := by decide +kernel
theorem dX6_within_105 : decode cX6_within 105 = .ok (.iconst 3, 1) := by decide +kernel
theorem dX6_within_106 : decode cX6_within 106 = .ok (.iaload, 1) := by decide +kernel
theorem dX6_within_107 : decode cX6_within 107 = .ok (.aload_n 0, 1) := by decide +kernel
theorem dX6_within_108 : decode cX6_within 108 = .ok (.getfield 22, 3) := by decide +kernel
theorem dX6_within_111 : decode cX6_within 111 = .ok (.iconst 3, 1) := by decide +kernel
theorem dX6_within_112 : decode cX6_within 112 = .ok (.iaload, 1) := by decide +kernel
theorem dX6_within_113 : decode cX6_within 113 = .ok (.isub, 1) := by decide +kernel
theorem dX6_within_114 : decode cX6_within 114 = .ok (.goto 16, 3) := by decide +kernel
theorem dX6_within_117 : decode cX6_within 117 = .ok (.aload_n 0, 1) := by decide +kernel
theorem dX6_within_118 : decode cX6_within 118 = .ok (.getfield 25, 3) := by decide +kernel
theorem dX6_within_121 : decode cX6_within 121 = .ok (.iconst 5, 1) := by decide +kernel
theorem dX6_within_122 : decode cX6_within 122 = .ok (.iaload, 1) := by decide +kernel
theorem dX6_within_123 : decode cX6_within 123 = .ok (.aload_n 0, 1) := by decide +kernel
theorem dX6_within_124 : decode cX6_within 124 = .ok (.getfield 22, 3) := by decide +kernel
theorem dX6_within_127 : decode cX6_within 127 = .ok (.iconst 5, 1) := by decide +kernel
theorem dX6_within_128 : decode cX6_within 128 = .ok (.iaload, 1) := by decide +kernel
theorem dX6_within_129 : decode cX6_within 129 = .ok (.isub, 1) := by decide +kernel
theorem dX6_within_130 : decode cX6_within 130 = .ok (.ireturn, 1) := by decide +kernel
theorem dX6_presses2_0 : decode cX6_presses2 0 = .ok (.aload_n 0, 1) := by decide +kernel
theorem dX6_presses2_1 : decode cX6_presses2 1 = .ok (.getfield 22, 3) := by decide +kernel
theorem dX6_presses2_4 : decode cX6_presses2 4 = .ok (.aload_n 0, 1) := by decide +kernel
theorem dX6_presses2_5 : decode cX6_presses2 5 = .ok (.getfield 25, 3) := by decide +kernel
theorem dX6_presses2_8 : decode cX6_presses2 8 = .ok (.invokestatic 117, 3) := by decide +kernel
theorem dX6_presses2_11 : decode cX6_presses2 11 = .ok (.iconst 0, 1) := by decide +kernel
theorem dX6_presses2_12 : decode cX6_presses2 12 = .ok (.istore_n 2, 1) := by decide +kernel
theorem dX6_presses2_13 : decode cX6_presses2 13 = .ok (.iload_n 2, 1) := by decide +kernel
theorem dX6_presses2_14 : decode cX6_presses2 14 = .ok (.aload_n 0, 1) := by decide +kernel
theorem dX6_presses2_15 : decode cX6_presses2 15 = .ok (.getfield 13, 3) := by decide +kernel
theorem dX6_presses2_18 : decode cX6_presses2 18 = .ok (.iconst 0, 1) := by decide +kernel
theorem dX6_presses2_19 : decode cX6_presses2 19 = .ok (.iaload, 1) := by decide +kernel
theorem dX6_presses2_20 : decode cX6_presses2 20 = .ok (.if_icmp .ge 39, 3) := by decide +kernel
theorem dX6_presses2_23 : decode cX6_presses2 23 = .ok (.iload_n 1, 1) := by decide +kernel
theorem dX6_presses2_24 : decode cX6_presses2 24 = .ok (.iload_n 2, 1) := by decide +kernel
theorem dX6_presses2_25 : decode cX6_presses2 25 = .ok (.invokestatic 139, 3) := by decide +kernel
theorem dX6_presses2_28 : decode cX6_presses2 28 = .ok (.ifCond .eq 25, 3) := by decide +kernel
theorem dX6_presses2_31 : decode cX6_presses2 31 = .ok (.aload_n 0, 1) := by decide +kernel
theorem dX6_presses2_32 : decode cX6_presses2 32 = .ok (.getfield 25, 3) := by decide +kernel
theorem dX6_presses2_35 : decode cX6_presses2 35 = .ok (.bipush 13, 2) := by decide +kernel
theorem dX6_presses2_37 : decode cX6_presses2 37 = .ok (.iload_n 2, 1) := by decide +kernel
theorem dX6_presses2_38 : decode cX6_presses2 38 = .ok (.iadd, 1) := by decide +kernel
theorem dX6_presses2_39 : decode cX6_presses2 39 = .ok (.iaload, 1) := by decide +kernel
theorem dX6_presses2_40 : decode cX6_presses2 40 = .ok (.ifCond .ne 13, 3) := by decide +kernel
theorem dX6_presses2_43 : decode cX6_presses2 43 = .ok (.aload_n 0, 1) := by decide +kernel
theorem dX6_presses2_44 : decode cX6_presses2 44 = .ok (.getfield 25, 3) := by decide +kernel
theorem dX6_presses2_47 : decode cX6_presses2 47 = .ok (.bipush 13, 2) := by decide +kernel
theorem dX6_presses2_49 : decode cX6_presses2 49 = .ok (.iload_n 2, 1) := by decide +kernel
theorem dX6_presses2_50 : decode cX6_presses2 50 = .ok (.iadd, 1) := by decide +kernel
theorem dX6_presses2_51 : decode cX6_presses2 51 = .ok (.iconst 1, 1) := by decide +kernel
theorem dX6_presses2_52 : decode cX6_presses2 52 = .ok (.iastore, 1) := by decide +kernel
theorem dX6_presses2_53 : decode cX6_presses2 53 = .ok (.iinc 2 1, 3) := by decide +kernel
theorem dX6_presses2_56 : decode cX6_presses2 56 = .ok (.goto (-43), 3) := by decide +kernel
theorem dX6_presses2_59 : decode cX6_presses2 59 = .ok (.return_, 1) := by decide +kernel
theorem dX6_lasts_0 : decode cX6_lasts 0 = .ok (.iconst 0, 1) := by decide +kernel
theorem dX6_lasts_1 : decode cX6_lasts 1 = .ok (.istore_n 1, 1) := by decide +kernel
theorem dX6_lasts_2 : decode cX6_lasts 2 = .ok (.iload_n 1, 1) := by decide +kernel
theorem dX6_lasts_3 : decode cX6_lasts 3 = .ok (.bipush 60, 2) := by decide +kernel
theorem dX6_lasts_5 : decode cX6_lasts 5 = .ok (.if_icmp .gt 70, 3) := by decide +kernel
theorem dX6_lasts_8 : decode cX6_lasts 8 = .ok (.iconst 0, 1) := by decide +kernel
theorem dX6_lasts_9 : decode cX6_lasts 9 = .ok (.istore_n 2, 1) := by decide +kernel
theorem dX6_lasts_10 : decode cX6_lasts 10 = .ok (.iconst 0, 1) := by decide +kernel
theorem dX6_lasts_11 : decode cX6_lasts 11 = .ok (.istore_n 3, 1) := by decide +kernel
theorem dX6_lasts_12 : decode cX6_lasts 12 = .ok (.iload_n 3, 1) := by decide +kernel
theorem dX6_lasts_13 : decode cX6_lasts 13 = .ok (.aload_n 0, 1) := by decide +kernel
theorem dX6_lasts_14 : decode cX6_lasts 14 = .ok (.getfield 13, 3) := by decide +kernel
theorem dX6_lasts_17 : decode cX6_lasts 17 = .ok (.iconst 0, 1) := by decide +kernel
theorem dX6_lasts_18 : decode cX6_lasts 18 = .ok (.iaload, 1) := by decide +kernel
theorem dX6_lasts_19 : decode cX6_lasts 19 = .ok (.if_icmp .ge 36, 3) := by decide +kernel
theorem dX6_lasts_22 : decode cX6_lasts 22 = .ok (.iload_n 2, 1) := by decide +kernel
theorem dX6_lasts_23 : decode cX6_lasts 23 = .ok (.ifCond .ne 20, 3) := by decide +kernel
theorem dX6_lasts_26 : decode cX6_lasts 26 = .ok (.aload_n 0, 1) := by decide +kernel
theorem dX6_lasts_27 : decode cX6_lasts 27 = .ok (.getfield 25, 3) := by decide +kernel
theorem dX6_lasts_30 : decode cX6_lasts 30 = .ok (.bipush 13, 2) := by decide +kernel
theorem dX6_lasts_32 : decode cX6_lasts 32 = .ok (.iload_n 3, 1) := by decide +kernel
theorem dX6_lasts_33 : decode cX6_lasts 33 = .ok (.iadd, 1) := by decide +kernel
theorem dX6_lasts_34 : decode cX6_lasts 34 = .ok (.iaload, 1) := by decide +kernel
theorem dX6_lasts_35 : decode cX6_lasts 35 = .ok (.iconst 1, 1) := by decide +kernel
theorem dX6_lasts_36 : decode cX6_lasts 36 = .ok (.iconst 3, 1) := by decide +kernel
theorem dX6_lasts_37 : decode cX6_lasts 37 = .ok (.invokestatic 63, 3) := by decide +kernel
theorem dX6_lasts_40 : decode cX6_lasts 40 = .ok (.ifCond .eq 7, 3) := by decide +kernel
theorem dX6_lasts_43 : decode cX6_lasts 43 = .ok (.iconst 1, 1) := by decide +kernel
theorem dX6_lasts_44 : decode cX6_lasts 44 = .ok (.goto 4, 3) := by decide +kernel
theorem dX6_lasts_47 : decode cX6_lasts 47 = .ok (.iconst 0, 1) := by decide +kernel
theorem dX6_lasts_48 : decode cX6_lasts 48 = .ok (.istore_n 2, 1) := by decide +kernel
theorem dX6_lasts_49 : decode cX6_lasts 49 = .ok (.iinc 3 1, 3) := by decide +kernel
theorem dX6_lasts_52 : decode cX6_lasts 52 = .ok (.goto (-40), 3) := by decide +kernel
theorem dX6_lasts_55 : decode cX6_lasts 55 = .ok (.iload_n 2, 1) := by decide +kernel
theorem dX6_lasts_56 : decode cX6_lasts 56 = .ok (.ifCond .ne 5, 3) := by decide +kernel
theorem dX6_lasts_59 : decode cX6_lasts 59 = .ok (.iload_n 1, 1) := by decide +kernel
theorem dX6_lasts_60 : decode cX6_lasts 60 = .ok (.ireturn, 1) := by decide +kernel
theorem dX6_lasts_61 : decode cX6_lasts 61 = .ok (.aload_n 0, 1) := by decide +kernel
theorem dX6_lasts_62 : decode cX6_lasts 62 = .ok (.aload_n 0, 1) := by decide +kernel
theorem dX6_lasts_63 : decode cX6_lasts 63 = .ok (.getfield 25, 3) := by decide +kernel
theorem dX6_lasts_66 : decode cX6_lasts 66 = .ok (.invokevirtual 188, 3) := by decide +kernel
theorem dX6_lasts_69 : decode cX6_lasts 69 = .ok (.iinc 1 1, 3) := by decide +kernel
theorem dX6_lasts_72 : decode cX6_lasts 72 = .ok (.goto (-70), 3) := by decide +kernel
theorem dX6_lasts_75 : decode cX6_lasts 75 = .ok (.bipush (-9), 2) := by decide +kernel
theorem dX6_lasts_77 : decode cX6_lasts 77 = .ok (.ireturn, 1) := by decide +kernel
theorem dX6_enough_0 : decode cX6_enough 0 = .ok (.aload_n 0, 1) := by decide +kernel
theorem dX6_enough_1 : decode cX6_enough 1 = .ok (.getfield 13, 3) := by decide +kernel
theorem dX6_enough_4 : decode cX6_enough 4 = .ok (.iconst 3, 1) := by decide +kernel
theorem dX6_enough_5 : decode cX6_enough 5 = .ok (.iaload, 1) := by decide +kernel
theorem dX6_enough_6 : decode cX6_enough 6 = .ok (.istore_n 2, 1) := by decide +kernel
theorem dX6_enough_7 : decode cX6_enough 7 = .ok (.aload_n 0, 1) := by decide +kernel
theorem dX6_enough_8 : decode cX6_enough 8 = .ok (.getfield 13, 3) := by decide +kernel
theorem dX6_enough_11 : decode cX6_enough 11 = .ok (.iconst 4, 1) := by decide +kernel
theorem dX6_enough_12 : decode cX6_enough 12 = .ok (.iaload, 1) := by decide +kernel
theorem dX6_enough_13 : decode cX6_enough 13 = .ok (.istore_n 3, 1) := by decide +kernel
theorem dX6_enough_14 : decode cX6_enough 14 = .ok (.bipush (-9), 2) := by decide +kernel
theorem dX6_enough_16 : decode cX6_enough 16 = .ok (.istore 4, 2) := by decide +kernel
theorem dX6_enough_18 : decode cX6_enough 18 = .ok (.iload_n 2, 1) := by decide +kernel
theorem dX6_enough_19 : decode cX6_enough 19 = .ok (.aload_n 0, 1) := by decide +kernel
theorem dX6_enough_20 : decode cX6_enough 20 = .ok (.aload_n 0, 1) := by decide +kernel
theorem dX6_enough_21 : decode cX6_enough 21 = .ok (.getfield 22, 3) := by decide +kernel
theorem dX6_enough_24 : decode cX6_enough 24 = .ok (.iconst 0, 1) := by decide +kernel
theorem dX6_enough_25 : decode cX6_enough 25 = .ok (.invokevirtual 149, 3) := by decide +kernel
theorem dX6_enough_28 : decode cX6_enough 28 = .ok (.isub, 1) := by decide +kernel
theorem dX6_enough_29 : decode cX6_enough 29 = .ok (.istore 5, 2) := by decide +kernel
theorem dX6_enough_31 : decode cX6_enough 31 = .ok (.iload_n 3, 1) := by decide +kernel
theorem dX6_enough_32 : decode cX6_enough 32 = .ok (.aload_n 0, 1) := by decide +kernel
theorem dX6_enough_33 : decode cX6_enough 33 = .ok (.aload_n 0, 1) := by decide +kernel
theorem dX6_enough_34 : decode cX6_enough 34 = .ok (.getfield 22, 3) := by decide +kernel
theorem dX6_enough_37 : decode cX6_enough 37 = .ok (.iconst 1, 1) := by decide +kernel
theorem dX6_enough_38 : decode cX6_enough 38 = .ok (.invokevirtual 149, 3) := by decide +kernel
theorem dX6_enough_41 : decode cX6_enough 41 = .ok (.isub, 1) := by decide +kernel
theorem dX6_enough_42 : decode cX6_enough 42 = .ok (.istore 6, 2) := by decide +kernel
theorem dX6_enough_44 : decode cX6_enough 44 = .ok (.iconst 3, 1) := by decide +kernel
theorem dX6_enough_45 : decode cX6_enough 45 = .ok (.istore 7, 2) := by decide +kernel
theorem dX6_enough_47 : decode cX6_enough 47 = .ok (.iload 7, 2) := by decide +kernel
theorem dX6_enough_49 : decode cX6_enough 49 = .ok (.ifCond .le 102, 3) := by decide +kernel
theorem dX6_enough_52 : decode cX6_enough 52 = .ok (.aload_n 0, 1) := by decide +kernel
theorem dX6_enough_53 : decode cX6_enough 53 = .ok (.getfield 13, 3) := by decide +kernel
theorem dX6_enough_56 : decode cX6_enough 56 = .ok (.iconst 3, 1) := by decide +kernel
theorem dX6_enough_57 : decode cX6_enough 57 = .ok (.iload 5, 2) := by decide +kernel
theorem dX6_enough_59 : decode cX6_enough 59 = .ok (.iload 7, 2) := by decide +kernel
theorem dX6_enough_61 : decode cX6_enough 61 = .ok (.if_icmp .le 8, 3) := by decide +kernel
theorem dX6_enough_64 : decode cX6_enough 64 = .ok (.iload 5, 2) := by decide +kernel
theorem dX6_enough_66 : decode cX6_enough 66 = .ok (.goto 5, 3) := by decide +kernel
theorem dX6_enough_69 : decode cX6_enough 69 = .ok (.iload 7, 2) := by decide +kernel
theorem dX6_enough_71 : decode cX6_enough 71 = .ok (.iastore, 1) := by decide +kernel
theorem dX6_enough_72 : decode cX6_enough 72 = .ok (.aload_n 0, 1) := by decide +kernel
theorem dX6_enough_73 : decode cX6_enough 73 = .ok (.getfield 13, 3) := by decide +kernel
theorem dX6_enough_76 : decode cX6_enough 76 = .ok (.iconst 4, 1) := by decide +kernel
theorem dX6_enough_77 : decode cX6_enough 77 = .ok (.iload 6, 2) := by decide +kernel
theorem dX6_enough_79 : decode cX6_enough 79 = .ok (.iload 7, 2) := by decide +kernel
theorem dX6_enough_81 : decode cX6_enough 81 = .ok (.if_icmp .le 8, 3) := by decide +kernel
theorem dX6_enough_84 : decode cX6_enough 84 = .ok (.iload 6, 2) := by decide +kernel
theorem dX6_enough_86 : decode cX6_enough 86 = .ok (.goto 5, 3) := by decide +kernel
theorem dX6_enough_89 : decode cX6_enough 89 = .ok (.iload 7, 2) := by decide +kernel
theorem dX6_enough_91 : decode cX6_enough 91 = .ok (.iastore, 1) := by decide +kernel
theorem dX6_enough_92 : decode cX6_enough 92 = .ok (.aload_n 0, 1) := by decide +kernel
theorem dX6_enough_93 : decode cX6_enough 93 = .ok (.iload_n 1, 1) := by decide +kernel
theorem dX6_enough_94 : decode cX6_enough 94 = .ok (.invokevirtual 198, 3) := by decide +kernel
theorem dX6_enough_97 : decode cX6_enough 97 = .ok (.iconst 0, 1) := by decide +kernel
theorem dX6_enough_98 : decode cX6_enough 98 = .ok (.istore 8, 2) := by decide +kernel
theorem dX6_enough_100 : decode cX6_enough 100 = .ok (.iload 8, 2) := by decide +kernel
theorem dX6_enough_102 : decode cX6_enough 102 = .ok (.bipush 60, 2) := by decide +kernel
theorem dX6_enough_104 : decode cX6_enough 104 = .ok (.if_icmp .ge 17, 3) := by decide +kernel
theorem dX6_enough_107 : decode cX6_enough 107 = .ok (.aload_n 0, 1) := by decide +kernel
theorem dX6_enough_108 : decode cX6_enough 108 = .ok (.aload_n 0, 1) := by decide +kernel
theorem dX6_enough_109 : decode cX6_enough 109 = .ok (.getfield 25, 3) := by decide +kernel
theorem dX6_enough_112 : decode cX6_enough 112 = .ok (.invokevirtual 188, 3) := by decide +kernel
theorem dX6_enough_115 : decode cX6_enough 115 = .ok (.iinc 8 1, 3) := by decide +kernel
theorem dX6_enough_118 : decode cX6_enough 118 = .ok (.goto (-18), 3) := by decide +kernel
theorem dX6_enough_121 : decode cX6_enough 121 = .ok (.aload_n 0, 1) := by decide +kernel
theorem dX6_enough_122 : decode cX6_enough 122 = .ok (.getfield 25, 3) := by decide +kernel
theorem dX6_enough_125 : decode cX6_enough 125 = .ok (.iconst 5, 1) := by decide +kernel
theorem dX6_enough_126 : decode cX6_enough 126 = .ok (.iaload, 1) := by decide +kernel
theorem dX6_enough_127 : decode cX6_enough 127 = .ok (.aload_n 0, 1) := by decide +kernel
theorem dX6_enough_128 : decode cX6_enough 128 = .ok (.getfield 22, 3) := by decide +kernel
theorem dX6_enough_131 : decode cX6_enough 131 = .ok (.iconst 5, 1) := by decide +kernel
theorem dX6_enough_132 : decode cX6_enough 132 = .ok (.iaload, 1) := by decide +kernel
theorem dX6_enough_133 : decode cX6_enough 133 = .ok (.if_icmp .ne 8, 3) := by decide +kernel
theorem dX6_enough_136 : decode cX6_enough 136 = .ok (.iload 7, 2) := by decide +kernel
theorem dX6_enough_138 : decode cX6_enough 138 = .ok (.goto 5, 3) := by decide +kernel
theorem dX6_enough_141 : decode cX6_enough 141 = .ok (.iload 4, 2) := by decide +kernel
theorem dX6_enough_143 : decode cX6_enough 143 = .ok (.istore 4, 2) := by decide +kernel
theorem dX6_enough_145 : decode cX6_enough 145 = .ok (.iinc 7 (-1), 3) := by decide +kernel
theorem dX6_enough_148 : decode cX6_enough 148 = .ok (.goto (-101), 3) := by decide +kernel
theorem dX6_enough_151 : decode cX6_enough 151 = .ok (.aload_n 0, 1) := by decide +kernel
theorem dX6_enough_152 : decode cX6_enough 152 = .ok (.getfield 13, 3) := by decide +kernel
theorem dX6_enough_155 : decode cX6_enough 155 = .ok (.iconst 3, 1) := by decide +kernel
theorem dX6_enough_156 : decode cX6_enough 156 = .ok (.iload_n 2, 1) := by decide +kernel
theorem dX6_enough_157 : decode cX6_enough 157 = .ok (.iastore, 1) := by decide +kernel
theorem dX6_enough_158 : decode cX6_enough 158 = .ok (.aload_n 0, 1) := by decide +kernel
theorem dX6_enough_159 : decode cX6_enough 159 = .ok (.getfield 13, 3) := by decide +kernel
theorem dX6_enough_162 : decode cX6_enough 162 = .ok (.iconst 4, 1) := by decide +kernel
theorem dX6_enough_163 : decode cX6_enough 163 = .ok (.iload_n 3, 1) := by decide +kernel
theorem dX6_enough_164 : decode cX6_enough 164 = .ok (.iastore, 1) := by decide +kernel
theorem dX6_enough_165 : decode cX6_enough 165 = .ok (.iload 4, 2) := by decide +kernel
theorem dX6_enough_167 : decode cX6_enough 167 = .ok (.ireturn, 1) := by decide +kernel
theorem dX6_wave_0 : decode cX6_wave 0 = .ok (.aload_n 0, 1) := by decide +kernel
theorem dX6_wave_1 : decode cX6_wave 1 = .ok (.iconst 0, 1) := by decide +kernel
theorem dX6_wave_2 : decode cX6_wave 2 = .ok (.putfield 59, 3) := by decide +kernel
theorem dX6_wave_5 : decode cX6_wave 5 = .ok (.iload_n 1, 1) := by decide +kernel
theorem dX6_wave_6 : decode cX6_wave 6 = .ok (.ifCond .lt 24, 3) := by decide +kernel
theorem dX6_wave_9 : decode cX6_wave 9 = .ok (.iload_n 1, 1) := by decide +kernel
theorem dX6_wave_10 : decode cX6_wave 10 = .ok (.iconst 1, 1) := by decide +kernel
theorem dX6_wave_11 : decode cX6_wave 11 = .ok (.aload_n 0, 1) := by decide +kernel
theorem dX6_wave_12 : decode cX6_wave 12 = .ok (.getfield 13, 3) := by decide +kernel
theorem dX6_wave_15 : decode cX6_wave 15 = .ok (.iconst 0, 1) := by decide +kernel
theorem dX6_wave_16 : decode cX6_wave 16 = .ok (.iaload, 1) := by decide +kernel
theorem dX6_wave_17 : decode cX6_wave 17 = .ok (.ishl, 1) := by decide +kernel
theorem dX6_wave_18 : decode cX6_wave 18 = .ok (.if_icmp .ge 12, 3) := by decide +kernel
theorem dX6_wave_21 : decode cX6_wave 21 = .ok (.iload_n 2, 1) := by decide +kernel
theorem dX6_wave_22 : decode cX6_wave 22 = .ok (.iconst 0, 1) := by decide +kernel
theorem dX6_wave_23 : decode cX6_wave 23 = .ok (.iconst 1, 1) := by decide +kernel
theorem dX6_wave_24 : decode cX6_wave 24 = .ok (.invokestatic 63, 3) := by decide +kernel
theorem dX6_wave_27 : decode cX6_wave 27 = .ok (.ifCond .ne 5, 3) := by decide +kernel
theorem dX6_wave_30 : decode cX6_wave 30 = .ok (.iconst (-1), 1) := by decide +kernel
theorem dX6_wave_31 : decode cX6_wave 31 = .ok (.ireturn, 1) := by decide +kernel
theorem dX6_wave_32 : decode cX6_wave 32 = .ok (.iload_n 2, 1) := by decide +kernel
theorem dX6_wave_33 : decode cX6_wave 33 = .ok (.iconst 1, 1) := by decide +kernel
theorem dX6_wave_34 : decode cX6_wave 34 = .ok (.if_icmp .ne 9, 3) := by decide +kernel
theorem dX6_wave_37 : decode cX6_wave 37 = .ok (.aload_n 0, 1) := by decide +kernel
theorem dX6_wave_38 : decode cX6_wave 38 = .ok (.iload_n 1, 1) := by decide +kernel
theorem dX6_wave_39 : decode cX6_wave 39 = .ok (.invokevirtual 201, 3) := by decide +kernel
theorem dX6_wave_42 : decode cX6_wave 42 = .ok (.ireturn, 1) := by decide +kernel
theorem dX6_wave_43 : decode cX6_wave 43 = .ok (.aload_n 0, 1) := by decide +kernel
theorem dX6_wave_44 : decode cX6_wave 44 = .ok (.iload_n 1, 1) := by decide +kernel
theorem dX6_wave_45 : decode cX6_wave 45 = .ok (.invokevirtual 198, 3) := by decide +kernel
theorem dX6_wave_48 : decode cX6_wave 48 = .ok (.aload_n 0, 1) := by decide +kernel
theorem dX6_wave_49 : decode cX6_wave 49 = .ok (.invokevirtual 204, 3) := by decide +kernel
theorem dX6_wave_52 : decode cX6_wave 52 = .ok (.ireturn, 1) := by decide +kernel
theorem dX6_gcd_0 : decode cX6_gcd 0 = .ok (.iload_n 0, 1) := by decide +kernel
theorem dX6_gcd_1 : decode cX6_gcd 1 = .ok (.istore_n 2, 1) := by decide +kernel
theorem dX6_gcd_2 : decode cX6_gcd 2 = .ok (.iload_n 1, 1) := by decide +kernel
theorem dX6_gcd_3 : decode cX6_gcd 3 = .ok (.istore_n 3, 1) := by decide +kernel
theorem dX6_gcd_4 : decode cX6_gcd 4 = .ok (.iload_n 3, 1) := by decide +kernel
theorem dX6_gcd_5 : decode cX6_gcd 5 = .ok (.ifCond .eq 16, 3) := by decide +kernel
theorem dX6_gcd_8 : decode cX6_gcd 8 = .ok (.iload_n 2, 1) := by decide +kernel
theorem dX6_gcd_9 : decode cX6_gcd 9 = .ok (.iload_n 3, 1) := by decide +kernel
theorem dX6_gcd_10 : decode cX6_gcd 10 = .ok (.irem, 1) := by decide +kernel
theorem dX6_gcd_11 : decode cX6_gcd 11 = .ok (.istore 4, 2) := by decide +kernel
theorem dX6_gcd_13 : decode cX6_gcd 13 = .ok (.iload_n 3, 1) := by decide +kernel
theorem dX6_gcd_14 : decode cX6_gcd 14 = .ok (.istore_n 2, 1) := by decide +kernel
theorem dX6_gcd_15 : decode cX6_gcd 15 = .ok (.iload 4, 2) := by decide +kernel
theorem dX6_gcd_17 : decode cX6_gcd 17 = .ok (.istore_n 3, 1) := by decide +kernel
theorem dX6_gcd_18 : decode cX6_gcd 18 = .ok (.goto (-14), 3) := by decide +kernel
theorem dX6_gcd_21 : decode cX6_gcd 21 = .ok (.iload_n 2, 1) := by decide +kernel
theorem dX6_gcd_22 : decode cX6_gcd 22 = .ok (.ireturn, 1) := by decide +kernel
theorem dX6_odds_0 : decode cX6_odds 0 = .ok (.aload_n 0, 1) := by decide +kernel
theorem dX6_odds_1 : decode cX6_odds 1 = .ok (.iconst 0, 1) := by decide +kernel
theorem dX6_odds_2 : decode cX6_odds 2 = .ok (.putfield 59, 3) := by decide +kernel
theorem dX6_odds_5 : decode cX6_odds 5 = .ok (.iload_n 1, 1) := by decide +kernel
theorem dX6_odds_6 : decode cX6_odds 6 = .ok (.iconst 0, 1) := by decide +kernel
theorem dX6_odds_7 : decode cX6_odds 7 = .ok (.bipush 10, 2) := by decide +kernel
theorem dX6_odds_9 : decode cX6_odds 9 = .ok (.invokestatic 63, 3) := by decide +kernel
theorem dX6_odds_12 : decode cX6_odds 12 = .ok (.ifCond .eq 31, 3) := by decide +kernel
theorem dX6_odds_15 : decode cX6_odds 15 = .ok (.aload_n 0, 1) := by decide +kernel
theorem dX6_odds_16 : decode cX6_odds 16 = .ok (.iload_n 2, 1) := by decide +kernel
theorem dX6_odds_17 : decode cX6_odds 17 = .ok (.invokevirtual 194, 3) := by decide +kernel
theorem dX6_odds_20 : decode cX6_odds 20 = .ok (.ifCond .eq 23, 3) := by decide +kernel
theorem dX6_odds_23 : decode cX6_odds 23 = .ok (.iload_n 3, 1) := by decide +kernel
theorem dX6_odds_24 : decode cX6_odds 24 = .ok (.iconst 1, 1) := by decide +kernel
theorem dX6_odds_25 : decode cX6_odds 25 = .ok (.bipush 20, 2) := by decide +kernel
theorem dX6_odds_27 : decode cX6_odds 27 = .ok (.invokestatic 63, 3) := by decide +kernel
theorem dX6_odds_30 : decode cX6_odds 30 = .ok (.ifCond .eq 13, 3) := by decide +kernel
theorem dX6_odds_33 : decode cX6_odds 33 = .ok (.iload 4, 2) := by decide +kernel
theorem dX6_odds_35 : decode cX6_odds 35 = .ok (.iconst 0, 1) := by decide +kernel
theorem dX6_odds_36 : decode cX6_odds 36 = .ok (.iconst 1, 1) := by decide +kernel
theorem dX6_odds_37 : decode cX6_odds 37 = .ok (.invokestatic 63, 3) := by decide +kernel
theorem dX6_odds_40 : decode cX6_odds 40 = .ok (.ifCond .ne 5, 3) := by decide +kernel
theorem dX6_odds_43 : decode cX6_odds 43 = .ok (.iconst (-1), 1) := by decide +kernel
theorem dX6_odds_44 : decode cX6_odds 44 = .ok (.ireturn, 1) := by decide +kernel
theorem dX6_odds_45 : decode cX6_odds 45 = .ok (.iconst 0, 1) := by decide +kernel
theorem dX6_odds_46 : decode cX6_odds 46 = .ok (.istore 5, 2) := by decide +kernel
theorem dX6_odds_48 : decode cX6_odds 48 = .ok (.iconst 1, 1) := by decide +kernel
theorem dX6_odds_49 : decode cX6_odds 49 = .ok (.istore 6, 2) := by decide +kernel
theorem dX6_odds_51 : decode cX6_odds 51 = .ok (.iconst 0, 1) := by decide +kernel
theorem dX6_odds_52 : decode cX6_odds 52 = .ok (.istore 7, 2) := by decide +kernel
theorem dX6_odds_54 : decode cX6_odds 54 = .ok (.iload 7, 2) := by decide +kernel
theorem dX6_odds_56 : decode cX6_odds 56 = .ok (.aload_n 0, 1) := by decide +kernel
theorem dX6_odds_57 : decode cX6_odds 57 = .ok (.getfield 13, 3) := by decide +kernel
theorem dX6_odds_60 : decode cX6_odds 60 = .ok (.iconst 0, 1) := by decide +kernel
theorem dX6_odds_61 : decode cX6_odds 61 = .ok (.iaload, 1) := by decide +kernel
theorem dX6_odds_62 : decode cX6_odds 62 = .ok (.if_icmp .ge 44, 3) := by decide +kernel
theorem dX6_odds_65 : decode cX6_odds 65 = .ok (.iload 7, 2) := by decide +kernel
theorem dX6_odds_67 : decode cX6_odds 67 = .ok (.iload_n 2, 1) := by decide +kernel
theorem dX6_odds_68 : decode cX6_odds 68 = .ok (.if_icmp .eq 32, 3) := by decide +kernel
theorem dX6_odds_71 : decode cX6_odds 71 = .ok (.aload_n 0, 1) := by decide +kernel
theorem dX6_odds_72 : decode cX6_odds 72 = .ok (.getfield 22, 3) := by decide +kernel
theorem dX6_odds_75 : decode cX6_odds 75 = .ok (.bipush 13, 2) := by decide +kernel
theorem dX6_odds_77 : decode cX6_odds 77 = .ok (.iload 7, 2) := by decide +kernel
theorem dX6_odds_79 : decode cX6_odds 79 = .ok (.iadd, 1) := by decide +kernel
theorem dX6_odds_80 : decode cX6_odds 80 = .ok (.iaload, 1) := by decide +kernel
theorem dX6_odds_81 : decode cX6_odds 81 = .ok (.ifCond .ne 19, 3) := by decide +kernel
theorem dX6_odds_84 : decode cX6_odds 84 = .ok (.iload 5, 2) := by decide +kernel
theorem dX6_odds_86 : decode cX6_odds 86 = .ok (.iconst 1, 1) := by decide +kernel
theorem dX6_odds_87 : decode cX6_odds 87 = .ok (.iload 7, 2) := by decide +kernel
theorem dX6_odds_89 : decode cX6_odds 89 = .ok (.ishl, 1) := by decide +kernel
theorem dX6_odds_90 : decode cX6_odds 90 = .ok (.ior, 1) := by decide +kernel
theorem dX6_odds_91 : decode cX6_odds 91 = .ok (.istore 5, 2) := by decide +kernel
theorem dX6_odds_93 : decode cX6_odds 93 = .ok (.iload 6, 2) := by decide +kernel
theorem dX6_odds_95 : decode cX6_odds 95 = .ok (.bipush 10, 2) := by decide +kernel
theorem dX6_odds_97 : decode cX6_odds 97 = .ok (.imul, 1) := by decide +kernel
theorem dX6_odds_98 : decode cX6_odds 98 = .ok (.istore 6, 2) := by decide +kernel
theorem dX6_odds_100 : decode cX6_odds 100 = .ok (.iinc 7 1, 3) := by decide +kernel
theorem dX6_odds_103 : decode cX6_odds 103 = .ok (.goto (-49), 3) := by decide +kernel
theorem dX6_odds_106 : decode cX6_odds 106 = .ok (.iconst 0, 1) := by decide +kernel
theorem dX6_odds_107 : decode cX6_odds 107 = .ok (.istore 7, 2) := by decide +kernel
theorem dX6_odds_109 : decode cX6_odds 109 = .ok (.iconst 0, 1) := by decide +kernel
theorem dX6_odds_110 : decode cX6_odds 110 = .ok (.istore 8, 2) := by decide +kernel
theorem dX6_odds_112 : decode cX6_odds 112 = .ok (.iload 8, 2) := by decide +kernel
theorem dX6_odds_114 : decode cX6_odds 114 = .ok (.iconst 1, 1) := by decide +kernel
theorem dX6_odds_115 : decode cX6_odds 115 = .ok (.aload_n 0, 1) := by decide +kernel
theorem dX6_odds_116 : decode cX6_odds 116 = .ok (.getfield 13, 3) := by decide +kernel
theorem dX6_odds_119 : decode cX6_odds 119 = .ok (.iconst 0, 1) := by decide +kernel
theorem dX6_odds_120 : decode cX6_odds 120 = .ok (.iaload, 1) := by decide +kernel
theorem dX6_odds_121 : decode cX6_odds 121 = .ok (.ishl, 1) := by decide +kernel
theorem dX6_odds_122 : decode cX6_odds 122 = .ok (.if_icmp .ge 155, 3) := by decide +kernel
theorem dX6_odds_125 : decode cX6_odds 125 = .ok (.iload 8, 2) := by decide +kernel
theorem dX6_odds_127 : decode cX6_odds 127 = .ok (.iload 5, 2) := by decide +kernel
theorem dX6_odds_129 : decode cX6_odds 129 = .ok (.iconst (-1), 1) := by decide +kernel
theorem dX6_odds_130 : decode cX6_odds 130 = .ok (.ixor, 1) := by decide +kernel
theorem dX6_odds_131 : decode cX6_odds 131 = .ok (.iand, 1) := by decide +kernel
theorem dX6_odds_132 : decode cX6_odds 132 = .ok (.ifCond .ne 139, 3) := by decide +kernel
theorem dX6_odds_135 : decode cX6_odds 135 = .ok (.iconst 1, 1) := by decide +kernel
theorem dX6_odds_136 : decode cX6_odds 136 = .ok (.istore 9, 2) := by decide +kernel
theorem dX6_odds_138 : decode cX6_odds 138 = .ok (.iconst 0, 1) := by decide +kernel
theorem dX6_odds_139 : decode cX6_odds 139 = .ok (.istore 10, 2) := by decide +kernel
theorem dX6_odds_141 : decode cX6_odds 141 = .ok (.iload 10, 2) := by decide +kernel
theorem dX6_odds_143 : decode cX6_odds 143 = .ok (.aload_n 0, 1) := by decide +kernel
theorem dX6_odds_144 : decode cX6_odds 144 = .ok (.getfield 13, 3) := by decide +kernel
theorem dX6_odds_147 : decode cX6_odds 147 = .ok (.iconst 0, 1) := by decide +kernel
theorem dX6_odds_148 : decode cX6_odds 148 = .ok (.iaload, 1) := by decide +kernel
theorem dX6_odds_149 : decode cX6_odds 149 = .ok (.if_icmp .ge 46, 3) := by decide +kernel
theorem dX6_odds_152 : decode cX6_odds 152 = .ok (.iload 9, 2) := by decide +kernel
theorem dX6_odds_154 : decode cX6_odds 154 = .ok (.iload 5, 2) := by decide +kernel
theorem dX6_odds_156 : decode cX6_odds 156 = .ok (.iload 10, 2) := by decide +kernel
theorem dX6_odds_158 : decode cX6_odds 158 = .ok (.invokestatic 139, 3) := by decide +kernel
theorem dX6_odds_161 : decode cX6_odds 161 = .ok (.ifCond .ne 7, 3) := by decide +kernel
theorem dX6_odds_164 : decode cX6_odds 164 = .ok (.iconst 1, 1) := by decide +kernel
theorem dX6_odds_165 : decode cX6_odds 165 = .ok (.goto 21, 3) := by decide +kernel
theorem dX6_odds_168 : decode cX6_odds 168 = .ok (.iload 8, 2) := by decide +kernel
theorem dX6_odds_170 : decode cX6_odds 170 = .ok (.iload 10, 2) := by decide +kernel
theorem dX6_odds_172 : decode cX6_odds 172 = .ok (.invokestatic 139, 3) := by decide +kernel
theorem dX6_odds_175 : decode cX6_odds 175 = .ok (.ifCond .eq 7, 3) := by decide +kernel
theorem dX6_odds_178 : decode cX6_odds 178 = .ok (.iload_n 1, 1) := by decide +kernel
theorem dX6_odds_179 : decode cX6_odds 179 = .ok (.goto 7, 3) := by decide +kernel
theorem dX6_odds_182 : decode cX6_odds 182 = .ok (.bipush 10, 2) := by decide +kernel
theorem dX6_odds_184 : decode cX6_odds 184 = .ok (.iload_n 1, 1) := by decide +kernel
theorem dX6_odds_185 : decode cX6_odds 185 = .ok (.isub, 1) := by decide +kernel
theorem dX6_odds_186 : decode cX6_odds 186 = .ok (.imul, 1) := by decide +kernel
theorem dX6_odds_187 : decode cX6_odds 187 = .ok (.istore 9, 2) := by decide +kernel
theorem dX6_odds_189 : decode cX6_odds 189 = .ok (.iinc 10 1, 3) := by decide +kernel
theorem dX6_odds_192 : decode cX6_odds 192 = .ok (.goto (-51), 3) := by decide +kernel
theorem dX6_odds_195 : decode cX6_odds 195 = .ok (.aload_n 0, 1) := by decide +kernel
theorem dX6_odds_196 : decode cX6_odds 196 = .ok (.iload 8, 2) := by decide +kernel
theorem dX6_odds_198 : decode cX6_odds 198 = .ok (.iconst 1, 1) := by decide +kernel
theorem dX6_odds_199 : decode cX6_odds 199 = .ok (.iload_n 2, 1) := by decide +kernel
theorem dX6_odds_200 : decode cX6_odds 200 = .ok (.ishl, 1) := by decide +kernel
theorem dX6_odds_201 : decode cX6_odds 201 = .ok (.ior, 1) := by decide +kernel
theorem dX6_odds_202 : decode cX6_odds 202 = .ok (.invokevirtual 198, 3) := by decide +kernel
theorem dX6_odds_205 : decode cX6_odds 205 = .ok (.iconst 0, 1) := by decide +kernel
theorem dX6_odds_206 : decode cX6_odds 206 = .ok (.istore 10, 2) := by decide +kernel
theorem dX6_odds_208 : decode cX6_odds 208 = .ok (.iconst 0, 1) := by decide +kernel
theorem dX6_odds_209 : decode cX6_odds 209 = .ok (.istore 11, 2) := by decide +kernel
theorem dX6_odds_211 : decode cX6_odds 211 = .ok (.iload 11, 2) := by decide +kernel
theorem dX6_odds_213 : decode cX6_odds 213 = .ok (.iload_n 3, 1) := by decide +kernel
theorem dX6_odds_214 : decode cX6_odds 214 = .ok (.if_icmp .ge 41, 3) := by decide +kernel
theorem dX6_odds_217 : decode cX6_odds 217 = .ok (.aload_n 0, 1) := by decide +kernel
theorem dX6_odds_218 : decode cX6_odds 218 = .ok (.aload_n 0, 1) := by decide +kernel
theorem dX6_odds_219 : decode cX6_odds 219 = .ok (.getfield 25, 3) := by decide +kernel
theorem dX6_odds_222 : decode cX6_odds 222 = .ok (.invokevirtual 188, 3) := by decide +kernel
theorem dX6_odds_225 : decode cX6_odds 225 = .ok (.iload 10, 2) := by decide +kernel
theorem dX6_odds_227 : decode cX6_odds 227 = .ok (.ifCond .ne 15, 3) := by decide +kernel
theorem dX6_odds_230 : decode cX6_odds 230 = .ok (.aload_n 0, 1) := by decide +kernel
theorem dX6_odds_231 : decode cX6_odds 231 = .ok (.aload_n 0, 1) := by decide +kernel
theorem dX6_odds_232 : decode cX6_odds 232 = .ok (.getfield 25, 3) := by decide +kernel
theorem dX6_odds_235 : decode cX6_odds 235 = .ok (.iload_n 2, 1) := by decide +kernel
theorem dX6_odds_236 : decode cX6_odds 236 = .ok (.invokevirtual 191, 3) := by decide +kernel
theorem dX6_odds_239 : decode cX6_odds 239 = .ok (.ifCond .eq 7, 3) := by decide +kernel
theorem dX6_odds_242 : decode cX6_odds 242 = .ok (.iconst 1, 1) := by decide +kernel
theorem dX6_odds_243 : decode cX6_odds 243 = .ok (.goto 4, 3) := by decide +kernel
theorem dX6_odds_246 : decode cX6_odds 246 = .ok (.iconst 0, 1) := by decide +kernel
theorem dX6_odds_247 : decode cX6_odds 247 = .ok (.istore 10, 2) := by decide +kernel
theorem dX6_odds_249 : decode cX6_odds 249 = .ok (.iinc 11 1, 3) := by decide +kernel
theorem dX6_odds_252 : decode cX6_odds 252 = .ok (.goto (-41), 3) := by decide +kernel
theorem dX6_odds_255 : decode cX6_odds 255 = .ok (.iload 7, 2) := by decide +kernel
theorem dX6_odds_257 : decode cX6_odds 257 = .ok (.iload 10, 2) := by decide +kernel
theorem dX6_odds_259 : decode cX6_odds 259 = .ok (.ifCond .eq 8, 3) := by decide +kernel
theorem dX6_odds_262 : decode cX6_odds 262 = .ok (.iload 9, 2) := by decide +kernel
theorem dX6_odds_264 : decode cX6_odds 264 = .ok (.goto 4, 3) := by decide +kernel
theorem dX6_odds_267 : decode cX6_odds 267 = .ok (.iconst 0, 1) := by decide +kernel
theorem dX6_odds_268 : decode cX6_odds 268 = .ok (.iadd, 1) := by decide +kernel
theorem dX6_odds_269 : decode cX6_odds 269 = .ok (.istore 7, 2) := by decide +kernel
theorem dX6_odds_271 : decode cX6_odds 271 = .ok (.iinc 8 1, 3) := by decide +kernel
theorem dX6_odds_274 : decode cX6_odds 274 = .ok (.goto (-162), 3) := by decide +kernel
theorem dX6_odds_277 : decode cX6_odds 277 = .ok (.iload 7, 2) := by decide +kernel
theorem dX6_odds_279 : decode cX6_odds 279 = .ok (.iload 6, 2) := by decide +kernel
theorem dX6_odds_281 : decode cX6_odds 281 = .ok (.invokestatic 208, 3) := by decide +kernel
theorem dX6_odds_284 : decode cX6_odds 284 = .ok (.istore 8, 2) := by decide +kernel
theorem dX6_odds_286 : decode cX6_odds 286 = .ok (.iload 4, 2) := by decide +kernel
theorem dX6_odds_288 : decode cX6_odds 288 = .ok (.ifCond .ne 11, 3) := by decide +kernel
theorem dX6_odds_291 : decode cX6_odds 291 = .ok (.iload 7, 2) := by decide +kernel
theorem dX6_odds_293 : decode cX6_odds 293 = .ok (.iload 8, 2) := by decide +kernel
theorem dX6_odds_295 : decode cX6_odds 295 = .ok (.idiv, 1) := by decide +kernel
theorem dX6_odds_296 : decode cX6_odds 296 = .ok (.goto 8, 3) := by decide +kernel
theorem dX6_odds_299 : decode cX6_odds 299 = .ok (.iload 6, 2) := by decide +kernel
theorem dX6_odds_301 : decode cX6_odds 301 = .ok (.iload 8, 2) := by decide +kernel
theorem dX6_odds_303 : decode cX6_odds 303 = .ok (.idiv, 1) := by decide +kernel
theorem dX6_odds_304 : decode cX6_odds 304 = .ok (.ireturn, 1) := by decide +kernel
theorem dX6_sees_0 : decode cX6_sees 0 = .ok (.aload_n 0, 1) := by decide +kernel
theorem dX6_sees_1 : decode cX6_sees 1 = .ok (.iconst 0, 1) := by decide +kernel
theorem dX6_sees_2 : decode cX6_sees 2 = .ok (.putfield 59, 3) := by decide +kernel
theorem dX6_sees_5 : decode cX6_sees 5 = .ok (.iload_n 1, 1) := by decide +kernel
theorem dX6_sees_6 : decode cX6_sees 6 = .ok (.iconst 1, 1) := by decide +kernel
theorem dX6_sees_7 : decode cX6_sees 7 = .ok (.bipush 20, 2) := by decide +kernel
theorem dX6_sees_9 : decode cX6_sees 9 = .ok (.invokestatic 63, 3) := by decide +kernel
theorem dX6_sees_12 : decode cX6_sees 12 = .ok (.ifCond .eq 12, 3) := by decide +kernel
theorem dX6_sees_15 : decode cX6_sees 15 = .ok (.iload_n 2, 1) := by decide +kernel
theorem dX6_sees_16 : decode cX6_sees 16 = .ok (.iconst 0, 1) := by decide +kernel
theorem dX6_sees_17 : decode cX6_sees 17 = .ok (.iconst 1, 1) := by decide +kernel
theorem dX6_sees_18 : decode cX6_sees 18 = .ok (.invokestatic 63, 3) := by decide +kernel
theorem dX6_sees_21 : decode cX6_sees 21 = .ok (.ifCond .ne 5, 3) := by decide +kernel
theorem dX6_sees_24 : decode cX6_sees 24 = .ok (.iconst (-1), 1) := by decide +kernel
theorem dX6_sees_25 : decode cX6_sees 25 = .ok (.ireturn, 1) := by decide +kernel
theorem dX6_sees_26 : decode cX6_sees 26 = .ok (.aload_n 0, 1) := by decide +kernel
theorem dX6_sees_27 : decode cX6_sees 27 = .ok (.getfield 121, 3) := by decide +kernel
theorem dX6_sees_30 : decode cX6_sees 30 = .ok (.bipush 6, 2) := by decide +kernel
theorem dX6_sees_32 : decode cX6_sees 32 = .ok (.if_icmp .ne 6, 3) := by decide +kernel
theorem dX6_sees_35 : decode cX6_sees 35 = .ok (.bipush (-3), 2) := by decide +kernel
theorem dX6_sees_37 : decode cX6_sees 37 = .ok (.ireturn, 1) := by decide +kernel
theorem dX6_sees_38 : decode cX6_sees 38 = .ok (.aload_n 0, 1) := by decide +kernel
theorem dX6_sees_39 : decode cX6_sees 39 = .ok (.getfield 38, 3) := by decide +kernel
theorem dX6_sees_42 : decode cX6_sees 42 = .ok (.aload_n 0, 1) := by decide +kernel
theorem dX6_sees_43 : decode cX6_sees 43 = .ok (.getfield 121, 3) := by decide +kernel
theorem dX6_sees_46 : decode cX6_sees 46 = .ok (.iload_n 1, 1) := by decide +kernel
theorem dX6_sees_47 : decode cX6_sees 47 = .ok (.iastore, 1) := by decide +kernel
theorem dX6_sees_48 : decode cX6_sees 48 = .ok (.aload_n 0, 1) := by decide +kernel
theorem dX6_sees_49 : decode cX6_sees 49 = .ok (.getfield 41, 3) := by decide +kernel
theorem dX6_sees_52 : decode cX6_sees 52 = .ok (.aload_n 0, 1) := by decide +kernel
theorem dX6_sees_53 : decode cX6_sees 53 = .ok (.getfield 121, 3) := by decide +kernel
theorem dX6_sees_56 : decode cX6_sees 56 = .ok (.iload_n 2, 1) := by decide +kernel
theorem dX6_sees_57 : decode cX6_sees 57 = .ok (.iastore, 1) := by decide +kernel
theorem dX6_sees_58 : decode cX6_sees 58 = .ok (.aload_n 0, 1) := by decide +kernel
theorem dX6_sees_59 : decode cX6_sees 59 = .ok (.dup, 1) := by decide +kernel
theorem dX6_sees_60 : decode cX6_sees 60 = .ok (.getfield 121, 3) := by decide +kernel
theorem dX6_sees_63 : decode cX6_sees 63 = .ok (.iconst 1, 1) := by decide +kernel
theorem dX6_sees_64 : decode cX6_sees 64 = .ok (.iadd, 1) := by decide +kernel
theorem dX6_sees_65 : decode cX6_sees 65 = .ok (.putfield 121, 3) := by decide +kernel
theorem dX6_sees_68 : decode cX6_sees 68 = .ok (.aload_n 0, 1) := by decide +kernel
theorem dX6_sees_69 : decode cX6_sees 69 = .ok (.getfield 121, 3) := by decide +kernel
theorem dX6_sees_72 : decode cX6_sees 72 = .ok (.ireturn, 1) := by decide +kernel
theorem dX6_forget_0 : decode cX6_forget 0 = .ok (.aload_n 0, 1) := by decide +kernel
theorem dX6_forget_1 : decode cX6_forget 1 = .ok (.iconst 0, 1) := by decide +kernel
theorem dX6_forget_2 : decode cX6_forget 2 = .ok (.putfield 59, 3) := by decide +kernel
theorem dX6_forget_5 : decode cX6_forget 5 = .ok (.aload_n 0, 1) := by decide +kernel
theorem dX6_forget_6 : decode cX6_forget 6 = .ok (.getfield 121, 3) := by decide +kernel
theorem dX6_forget_9 : decode cX6_forget 9 = .ok (.istore_n 1, 1) := by decide +kernel
theorem dX6_forget_10 : decode cX6_forget 10 = .ok (.aload_n 0, 1) := by decide +kernel
theorem dX6_forget_11 : decode cX6_forget 11 = .ok (.iconst 0, 1) := by decide +kernel
theorem dX6_forget_12 : decode cX6_forget 12 = .ok (.putfield 121, 3) := by decide +kernel
theorem dX6_forget_15 : decode cX6_forget 15 = .ok (.iload_n 1, 1) := by decide +kernel
theorem dX6_forget_16 : decode cX6_forget 16 = .ok (.ireturn, 1) := by decide +kernel
theorem dX6_onBy_0 : decode cX6_onBy 0 = .ok (.aload_n 0, 1) := by decide +kernel
theorem dX6_onBy_1 : decode cX6_onBy 1 = .ok (.getfield 13, 3) := by decide +kernel
theorem dX6_onBy_4 : decode cX6_onBy 4 = .ok (.bipush 12, 2) := by decide +kernel
theorem dX6_onBy_6 : decode cX6_onBy 6 = .ok (.iload_n 1, 1) := by decide +kernel
theorem dX6_onBy_7 : decode cX6_onBy 7 = .ok (.iadd, 1) := by decide +kernel
theorem dX6_onBy_8 : decode cX6_onBy 8 = .ok (.iaload, 1) := by decide +kernel
theorem dX6_onBy_9 : decode cX6_onBy 9 = .ok (.istore_n 3, 1) := by decide +kernel
theorem dX6_onBy_10 : decode cX6_onBy 10 = .ok (.aload_n 0, 1) := by decide +kernel
theorem dX6_onBy_11 : decode cX6_onBy 11 = .ok (.getfield 13, 3) := by decide +kernel
theorem dX6_onBy_14 : decode cX6_onBy 14 = .ok (.bipush 12, 2) := by decide +kernel
theorem dX6_onBy_16 : decode cX6_onBy 16 = .ok (.iload_n 1, 1) := by decide +kernel
theorem dX6_onBy_17 : decode cX6_onBy 17 = .ok (.iadd, 1) := by decide +kernel
theorem dX6_onBy_18 : decode cX6_onBy 18 = .ok (.iload_n 2, 1) := by decide +kernel
theorem dX6_onBy_19 : decode cX6_onBy 19 = .ok (.iastore, 1) := by decide +kernel
theorem dX6_onBy_20 : decode cX6_onBy 20 = .ok (.aload_n 0, 1) := by decide +kernel
theorem dX6_onBy_21 : decode cX6_onBy 21 = .ok (.getfield 22, 3) := by decide +kernel
theorem dX6_onBy_24 : decode cX6_onBy 24 = .ok (.aload_n 0, 1) := by decide +kernel
theorem dX6_onBy_25 : decode cX6_onBy 25 = .ok (.getfield 25, 3) := by decide +kernel
theorem dX6_onBy_28 : decode cX6_onBy 28 = .ok (.invokestatic 117, 3) := by decide +kernel
theorem dX6_onBy_31 : decode cX6_onBy 31 = .ok (.iconst 0, 1) := by decide +kernel
theorem dX6_onBy_32 : decode cX6_onBy 32 = .ok (.istore 4, 2) := by decide +kernel
theorem dX6_onBy_34 : decode cX6_onBy 34 = .ok (.iconst 1, 1) := by decide +kernel
theorem dX6_onBy_35 : decode cX6_onBy 35 = .ok (.istore 5, 2) := by decide +kernel
theorem dX6_onBy_37 : decode cX6_onBy 37 = .ok (.iload 5, 2) := by decide +kernel
theorem dX6_onBy_39 : decode cX6_onBy 39 = .ok (.bipush 20, 2) := by decide +kernel
theorem dX6_onBy_41 : decode cX6_onBy 41 = .ok (.if_icmp .gt 42, 3) := by decide +kernel
theorem dX6_onBy_44 : decode cX6_onBy 44 = .ok (.aload_n 0, 1) := by decide +kernel
theorem dX6_onBy_45 : decode cX6_onBy 45 = .ok (.aload_n 0, 1) := by decide +kernel
theorem dX6_onBy_46 : decode cX6_onBy 46 = .ok (.getfield 25, 3) := by decide +kernel
theorem dX6_onBy_49 : decode cX6_onBy 49 = .ok (.invokevirtual 188, 3) := by decide +kernel
theorem dX6_onBy_52 : decode cX6_onBy 52 = .ok (.iload 4, 2) := by decide +kernel
theorem dX6_onBy_54 : decode cX6_onBy 54 = .ok (.aload_n 0, 1) := by decide +kernel
theorem dX6_onBy_55 : decode cX6_onBy 55 = .ok (.aload_n 0, 1) := by decide +kernel
theorem dX6_onBy_56 : decode cX6_onBy 56 = .ok (.getfield 25, 3) := by decide +kernel
theorem dX6_onBy_59 : decode cX6_onBy 59 = .ok (.iload_n 1, 1) := by decide +kernel
theorem dX6_onBy_60 : decode cX6_onBy 60 = .ok (.invokevirtual 191, 3) := by decide +kernel
theorem dX6_onBy_63 : decode cX6_onBy 63 = .ok (.ifCond .eq 10, 3) := by decide +kernel
theorem dX6_onBy_66 : decode cX6_onBy 66 = .ok (.iconst 1, 1) := by decide +kernel
theorem dX6_onBy_67 : decode cX6_onBy 67 = .ok (.iload 5, 2) := by decide +kernel
theorem dX6_onBy_69 : decode cX6_onBy 69 = .ok (.ishl, 1) := by decide +kernel
theorem dX6_onBy_70 : decode cX6_onBy 70 = .ok (.goto 4, 3) := by decide +kernel
theorem dX6_onBy_73 : decode cX6_onBy 73 = .ok (.iconst 0, 1) := by decide +kernel
theorem dX6_onBy_74 : decode cX6_onBy 74 = .ok (.ior, 1) := by decide +kernel
theorem dX6_onBy_75 : decode cX6_onBy 75 = .ok (.istore 4, 2) := by decide +kernel
theorem dX6_onBy_77 : decode cX6_onBy 77 = .ok (.iinc 5 1, 3) := by decide +kernel
theorem dX6_onBy_80 : decode cX6_onBy 80 = .ok (.goto (-43), 3) := by decide +kernel
theorem dX6_onBy_83 : decode cX6_onBy 83 = .ok (.aload_n 0, 1) := by decide +kernel
theorem dX6_onBy_84 : decode cX6_onBy 84 = .ok (.getfield 13, 3) := by decide +kernel
theorem dX6_onBy_87 : decode cX6_onBy 87 = .ok (.bipush 12, 2) := by decide +kernel
theorem dX6_onBy_89 : decode cX6_onBy 89 = .ok (.iload_n 1, 1) := by decide +kernel
theorem dX6_onBy_90 : decode cX6_onBy 90 = .ok (.iadd, 1) := by decide +kernel
theorem dX6_onBy_91 : decode cX6_onBy 91 = .ok (.iload_n 3, 1) := by decide +kernel
theorem dX6_onBy_92 : decode cX6_onBy 92 = .ok (.iastore, 1) := by decide +kernel
theorem dX6_onBy_93 : decode cX6_onBy 93 = .ok (.iload 4, 2) := by decide +kernel
theorem dX6_onBy_95 : decode cX6_onBy 95 = .ok (.ireturn, 1) := by decide +kernel
theorem dX6_isAsSeen_0 : decode cX6_isAsSeen 0 = .ok (.iconst 1, 1) := by decide +kernel
theorem dX6_isAsSeen_1 : decode cX6_isAsSeen 1 = .ok (.istore_n 2, 1) := by decide +kernel
theorem dX6_isAsSeen_2 : decode cX6_isAsSeen 2 = .ok (.iconst 0, 1) := by decide +kernel
theorem dX6_isAsSeen_3 : decode cX6_isAsSeen 3 = .ok (.istore_n 3, 1) := by decide +kernel
theorem dX6_isAsSeen_4 : decode cX6_isAsSeen 4 = .ok (.iload_n 3, 1) := by decide +kernel
theorem dX6_isAsSeen_5 : decode cX6_isAsSeen 5 = .ok (.aload_n 0, 1) := by decide +kernel
theorem dX6_isAsSeen_6 : decode cX6_isAsSeen 6 = .ok (.getfield 121, 3) := by decide +kernel
theorem dX6_isAsSeen_9 : decode cX6_isAsSeen 9 = .ok (.if_icmp .ge 38, 3) := by decide +kernel
theorem dX6_isAsSeen_12 : decode cX6_isAsSeen 12 = .ok (.iload_n 2, 1) := by decide +kernel
theorem dX6_isAsSeen_13 : decode cX6_isAsSeen 13 = .ok (.ifCond .eq 26, 3) := by decide +kernel
theorem dX6_isAsSeen_16 : decode cX6_isAsSeen 16 = .ok (.iload_n 1, 1) := by decide +kernel
theorem dX6_isAsSeen_17 : decode cX6_isAsSeen 17 = .ok (.aload_n 0, 1) := by decide +kernel
theorem dX6_isAsSeen_18 : decode cX6_isAsSeen 18 = .ok (.getfield 38, 3) := by decide +kernel
theorem dX6_isAsSeen_21 : decode cX6_isAsSeen 21 = .ok (.iload_n 3, 1) := by decide +kernel
theorem dX6_isAsSeen_22 : decode cX6_isAsSeen 22 = .ok (.iaload, 1) := by decide +kernel
theorem dX6_isAsSeen_23 : decode cX6_isAsSeen 23 = .ok (.ishr, 1) := by decide +kernel
theorem dX6_isAsSeen_24 : decode cX6_isAsSeen 24 = .ok (.iconst 1, 1) := by decide +kernel
theorem dX6_isAsSeen_25 : decode cX6_isAsSeen 25 = .ok (.iand, 1) := by decide +kernel
theorem dX6_isAsSeen_26 : decode cX6_isAsSeen 26 = .ok (.aload_n 0, 1) := by decide +kernel
theorem dX6_isAsSeen_27 : decode cX6_isAsSeen 27 = .ok (.getfield 41, 3) := by decide +kernel
theorem dX6_isAsSeen_30 : decode cX6_isAsSeen 30 = .ok (.iload_n 3, 1) := by decide +kernel
theorem dX6_isAsSeen_31 : decode cX6_isAsSeen 31 = .ok (.iaload, 1) := by decide +kernel
theorem dX6_isAsSeen_32 : decode cX6_isAsSeen 32 = .ok (.if_icmp .ne 7, 3) := by decide +kernel
theorem dX6_isAsSeen_35 : decode cX6_isAsSeen 35 = .ok (.iconst 1, 1) := by decide +kernel
theorem dX6_isAsSeen_36 : decode cX6_isAsSeen 36 = .ok (.goto 4, 3) := by decide +kernel
theorem dX6_isAsSeen_39 : decode cX6_isAsSeen 39 = .ok (.iconst 0, 1) := by decide +kernel
theorem dX6_isAsSeen_40 : decode cX6_isAsSeen 40 = .ok (.istore_n 2, 1) := by decide +kernel
theorem dX6_isAsSeen_41 : decode cX6_isAsSeen 41 = .ok (.iinc 3 1, 3) := by decide +kernel
theorem dX6_isAsSeen_44 : decode cX6_isAsSeen 44 = .ok (.goto (-40), 3) := by decide +kernel
theorem dX6_isAsSeen_47 : decode cX6_isAsSeen 47 = .ok (.iload_n 2, 1) := by decide +kernel
theorem dX6_isAsSeen_48 : decode cX6_isAsSeen 48 = .ok (.ireturn, 1) := by decide +kernel
theorem dX6_ranks_0 : decode cX6_ranks 0 = .ok (.aload_n 0, 1) := by decide +kernel
theorem dX6_ranks_1 : decode cX6_ranks 1 = .ok (.iconst 0, 1) := by decide +kernel
theorem dX6_ranks_2 : decode cX6_ranks 2 = .ok (.putfield 59, 3) := by decide +kernel
theorem dX6_ranks_5 : decode cX6_ranks 5 = .ok (.aload_n 0, 1) := by decide +kernel
theorem dX6_ranks_6 : decode cX6_ranks 6 = .ok (.iload_n 1, 1) := by decide +kernel
theorem dX6_ranks_7 : decode cX6_ranks 7 = .ok (.invokevirtual 194, 3) := by decide +kernel
theorem dX6_ranks_10 : decode cX6_ranks 10 = .ok (.ifCond .ne 5, 3) := by decide +kernel
theorem dX6_ranks_13 : decode cX6_ranks 13 = .ok (.iconst (-1), 1) := by decide +kernel
theorem dX6_ranks_14 : decode cX6_ranks 14 = .ok (.ireturn, 1) := by decide +kernel
theorem dX6_ranks_15 : decode cX6_ranks 15 = .ok (.iconst 0, 1) := by decide +kernel
theorem dX6_ranks_16 : decode cX6_ranks 16 = .ok (.istore_n 2, 1) := by decide +kernel
theorem dX6_ranks_17 : decode cX6_ranks 17 = .ok (.iconst 0, 1) := by decide +kernel
theorem dX6_ranks_18 : decode cX6_ranks 18 = .ok (.istore_n 3, 1) := by decide +kernel
theorem dX6_ranks_19 : decode cX6_ranks 19 = .ok (.iload_n 3, 1) := by decide +kernel
theorem dX6_ranks_20 : decode cX6_ranks 20 = .ok (.iconst 4, 1) := by decide +kernel
theorem dX6_ranks_21 : decode cX6_ranks 21 = .ok (.if_icmp .ge 32, 3) := by decide +kernel
theorem dX6_ranks_24 : decode cX6_ranks 24 = .ok (.iload_n 2, 1) := by decide +kernel
theorem dX6_ranks_25 : decode cX6_ranks 25 = .ok (.aload_n 0, 1) := by decide +kernel
theorem dX6_ranks_26 : decode cX6_ranks 26 = .ok (.aload_n 0, 1) := by decide +kernel
theorem dX6_ranks_27 : decode cX6_ranks 27 = .ok (.iload_n 1, 1) := by decide +kernel
theorem dX6_ranks_28 : decode cX6_ranks 28 = .ok (.iload_n 3, 1) := by decide +kernel
theorem dX6_ranks_29 : decode cX6_ranks 29 = .ok (.invokevirtual 211, 3) := by decide +kernel
theorem dX6_ranks_32 : decode cX6_ranks 32 = .ok (.invokevirtual 214, 3) := by decide +kernel
theorem dX6_ranks_35 : decode cX6_ranks 35 = .ok (.ifCond .eq 9, 3) := by decide +kernel
theorem dX6_ranks_38 : decode cX6_ranks 38 = .ok (.iconst 1, 1) := by decide +kernel
theorem dX6_ranks_39 : decode cX6_ranks 39 = .ok (.iload_n 3, 1) := by decide +kernel
theorem dX6_ranks_40 : decode cX6_ranks 40 = .ok (.ishl, 1) := by decide +kernel
theorem dX6_ranks_41 : decode cX6_ranks 41 = .ok (.goto 4, 3) := by decide +kernel
theorem dX6_ranks_44 : decode cX6_ranks 44 = .ok (.iconst 0, 1) := by decide +kernel
theorem dX6_ranks_45 : decode cX6_ranks 45 = .ok (.ior, 1) := by decide +kernel
theorem dX6_ranks_46 : decode cX6_ranks 46 = .ok (.istore_n 2, 1) := by decide +kernel
theorem dX6_ranks_47 : decode cX6_ranks 47 = .ok (.iinc 3 1, 3) := by decide +kernel
theorem dX6_ranks_50 : decode cX6_ranks 50 = .ok (.goto (-31), 3) := by decide +kernel
theorem dX6_ranks_53 : decode cX6_ranks 53 = .ok (.iload_n 2, 1) := by decide +kernel
theorem dX6_ranks_54 : decode cX6_ranks 54 = .ok (.ireturn, 1) := by decide +kernel
theorem dX6_look_0 : decode cX6_look 0 = .ok (.aload_n 0, 1) := by decide +kernel
theorem dX6_look_1 : decode cX6_look 1 = .ok (.iconst 0, 1) := by decide +kernel
theorem dX6_look_2 : decode cX6_look 2 = .ok (.putfield 59, 3) := by decide +kernel
theorem dX6_look_5 : decode cX6_look 5 = .ok (.aload_n 0, 1) := by decide +kernel
theorem dX6_look_6 : decode cX6_look 6 = .ok (.iload_n 1, 1) := by decide +kernel
theorem dX6_look_7 : decode cX6_look 7 = .ok (.invokevirtual 194, 3) := by decide +kernel
theorem dX6_look_10 : decode cX6_look 10 = .ok (.ifCond .ne 5, 3) := by decide +kernel
theorem dX6_look_13 : decode cX6_look 13 = .ok (.iconst (-1), 1) := by decide +kernel
theorem dX6_look_14 : decode cX6_look 14 = .ok (.ireturn, 1) := by decide +kernel
theorem dX6_look_15 : decode cX6_look 15 = .ok (.iconst 0, 1) := by decide +kernel
theorem dX6_look_16 : decode cX6_look 16 = .ok (.istore_n 2, 1) := by decide +kernel
theorem dX6_look_17 : decode cX6_look 17 = .ok (.iload_n 2, 1) := by decide +kernel
theorem dX6_look_18 : decode cX6_look 18 = .ok (.bipush 21, 2) := by decide +kernel
theorem dX6_look_20 : decode cX6_look 20 = .ok (.if_icmp .ge 16, 3) := by decide +kernel
theorem dX6_look_23 : decode cX6_look 23 = .ok (.aload_n 0, 1) := by decide +kernel
theorem dX6_look_24 : decode cX6_look 24 = .ok (.getfield 50, 3) := by decide +kernel
theorem dX6_look_27 : decode cX6_look 27 = .ok (.iload_n 2, 1) := by decide +kernel
theorem dX6_look_28 : decode cX6_look 28 = .ok (.iconst 0, 1) := by decide +kernel
theorem dX6_look_29 : decode cX6_look 29 = .ok (.iastore, 1) := by decide +kernel
theorem dX6_look_30 : decode cX6_look 30 = .ok (.iinc 2 1, 3) := by decide +kernel
theorem dX6_look_33 : decode cX6_look 33 = .ok (.goto (-16), 3) := by decide +kernel
theorem dX6_look_36 : decode cX6_look 36 = .ok (.iconst 0, 1) := by decide +kernel
theorem dX6_look_37 : decode cX6_look 37 = .ok (.istore_n 2, 1) := by decide +kernel
theorem dX6_look_38 : decode cX6_look 38 = .ok (.iconst 0, 1) := by decide +kernel
theorem dX6_look_39 : decode cX6_look 39 = .ok (.istore_n 3, 1) := by decide +kernel
theorem dX6_look_40 : decode cX6_look 40 = .ok (.iload_n 3, 1) := by decide +kernel
theorem dX6_look_41 : decode cX6_look 41 = .ok (.iconst 4, 1) := by decide +kernel
theorem dX6_look_42 : decode cX6_look 42 = .ok (.if_icmp .ge 62, 3) := by decide +kernel
theorem dX6_look_45 : decode cX6_look 45 = .ok (.aload_n 0, 1) := by decide +kernel
theorem dX6_look_46 : decode cX6_look 46 = .ok (.iload_n 1, 1) := by decide +kernel
theorem dX6_look_47 : decode cX6_look 47 = .ok (.iload_n 3, 1) := by decide +kernel
theorem dX6_look_48 : decode cX6_look 48 = .ok (.invokevirtual 211, 3) := by decide +kernel
theorem dX6_look_51 : decode cX6_look 51 = .ok (.istore 4, 2) := by decide +kernel
theorem dX6_look_53 : decode cX6_look 53 = .ok (.aload_n 0, 1) := by decide +kernel
theorem dX6_look_54 : decode cX6_look 54 = .ok (.iload 4, 2) := by decide +kernel
theorem dX6_look_56 : decode cX6_look 56 = .ok (.invokevirtual 214, 3) := by decide +kernel
theorem dX6_look_59 : decode cX6_look 59 = .ok (.ifCond .eq 39, 3) := by decide +kernel
theorem dX6_look_62 : decode cX6_look 62 = .ok (.iinc 2 1, 3) := by decide +kernel
theorem dX6_look_65 : decode cX6_look 65 = .ok (.iconst 1, 1) := by decide +kernel
theorem dX6_look_66 : decode cX6_look 66 = .ok (.istore 5, 2) := by decide +kernel
theorem dX6_look_68 : decode cX6_look 68 = .ok (.iload 5, 2) := by decide +kernel
theorem dX6_look_70 : decode cX6_look 70 = .ok (.bipush 21, 2) := by decide +kernel
theorem dX6_look_72 : decode cX6_look 72 = .ok (.if_icmp .ge 26, 3) := by decide +kernel
theorem dX6_look_75 : decode cX6_look 75 = .ok (.aload_n 0, 1) := by decide +kernel
theorem dX6_look_76 : decode cX6_look 76 = .ok (.getfield 50, 3) := by decide +kernel
theorem dX6_look_79 : decode cX6_look 79 = .ok (.iload 5, 2) := by decide +kernel
theorem dX6_look_81 : decode cX6_look 81 = .ok (.dup2, 1) := by decide +kernel
theorem dX6_look_82 : decode cX6_look 82 = .ok (.iaload, 1) := by decide +kernel
theorem dX6_look_83 : decode cX6_look 83 = .ok (.iload 4, 2) := by decide +kernel
theorem dX6_look_85 : decode cX6_look 85 = .ok (.iload 5, 2) := by decide +kernel
theorem dX6_look_87 : decode cX6_look 87 = .ok (.ishr, 1) := by decide +kernel
theorem dX6_look_88 : decode cX6_look 88 = .ok (.iconst 1, 1) := by decide +kernel
theorem dX6_look_89 : decode cX6_look 89 = .ok (.iand, 1) := by decide +kernel
theorem dX6_look_90 : decode cX6_look 90 = .ok (.iadd, 1) := by decide +kernel
theorem dX6_look_91 : decode cX6_look 91 = .ok (.iastore, 1) := by decide +kernel
theorem dX6_look_92 : decode cX6_look 92 = .ok (.iinc 5 1, 3) := by decide +kernel
theorem dX6_look_95 : decode cX6_look 95 = .ok (.goto (-27), 3) := by decide +kernel
theorem dX6_look_98 : decode cX6_look 98 = .ok (.iinc 3 1, 3) := by decide +kernel
theorem dX6_look_101 : decode cX6_look 101 = .ok (.goto (-61), 3) := by decide +kernel
theorem dX6_look_104 : decode cX6_look 104 = .ok (.bipush (-9), 2) := by decide +kernel
theorem dX6_look_106 : decode cX6_look 106 = .ok (.istore_n 3, 1) := by decide +kernel
theorem dX6_look_107 : decode cX6_look 107 = .ok (.bipush 99, 2) := by decide +kernel
theorem dX6_look_109 : decode cX6_look 109 = .ok (.istore 4, 2) := by decide +kernel
theorem dX6_look_111 : decode cX6_look 111 = .ok (.iconst 1, 1) := by decide +kernel
theorem dX6_look_112 : decode cX6_look 112 = .ok (.istore 5, 2) := by decide +kernel
theorem dX6_look_114 : decode cX6_look 114 = .ok (.iload 5, 2) := by decide +kernel
theorem dX6_look_116 : decode cX6_look 116 = .ok (.bipush 21, 2) := by decide +kernel
theorem dX6_look_118 : decode cX6_look 118 = .ok (.if_icmp .ge 84, 3) := by decide +kernel
theorem dX6_look_121 : decode cX6_look 121 = .ok (.iload_n 2, 1) := by decide +kernel
theorem dX6_look_122 : decode cX6_look 122 = .ok (.iconst 1, 1) := by decide +kernel
theorem dX6_look_123 : decode cX6_look 123 = .ok (.if_icmp .le 79, 3) := by decide +kernel
theorem dX6_look_126 : decode cX6_look 126 = .ok (.aload_n 0, 1) := by decide +kernel
theorem dX6_look_127 : decode cX6_look 127 = .ok (.getfield 50, 3) := by decide +kernel
theorem dX6_look_130 : decode cX6_look 130 = .ok (.iload 5, 2) := by decide +kernel
theorem dX6_look_132 : decode cX6_look 132 = .ok (.iaload, 1) := by decide +kernel
theorem dX6_look_133 : decode cX6_look 133 = .ok (.iload_n 2, 1) := by decide +kernel
theorem dX6_look_134 : decode cX6_look 134 = .ok (.aload_n 0, 1) := by decide +kernel
theorem dX6_look_135 : decode cX6_look 135 = .ok (.getfield 50, 3) := by decide +kernel
theorem dX6_look_138 : decode cX6_look 138 = .ok (.iload 5, 2) := by decide +kernel
theorem dX6_look_140 : decode cX6_look 140 = .ok (.iaload, 1) := by decide +kernel
theorem dX6_look_141 : decode cX6_look 141 = .ok (.isub, 1) := by decide +kernel
theorem dX6_look_142 : decode cX6_look 142 = .ok (.if_icmp .le 13, 3) := by decide +kernel
theorem dX6_look_145 : decode cX6_look 145 = .ok (.aload_n 0, 1) := by decide +kernel
theorem dX6_look_146 : decode cX6_look 146 = .ok (.getfield 50, 3) := by decide +kernel
theorem dX6_look_149 : decode cX6_look 149 = .ok (.iload 5, 2) := by decide +kernel
theorem dX6_look_151 : decode cX6_look 151 = .ok (.iaload, 1) := by decide +kernel
theorem dX6_look_152 : decode cX6_look 152 = .ok (.goto 12, 3) := by decide +kernel
theorem dX6_look_155 : decode cX6_look 155 = .ok (.iload_n 2, 1) := by decide +kernel
theorem dX6_look_156 : decode cX6_look 156 = .ok (.aload_n 0, 1) := by decide +kernel
theorem dX6_look_157 : decode cX6_look 157 = .ok (.getfield 50, 3) := by decide +kernel
theorem dX6_look_160 : decode cX6_look 160 = .ok (.iload 5, 2) := by decide +kernel
theorem dX6_look_162 : decode cX6_look 162 = .ok (.iaload, 1) := by decide +kernel
theorem dX6_look_163 : decode cX6_look 163 = .ok (.isub, 1) := by decide +kernel
theorem dX6_look_164 : decode cX6_look 164 = .ok (.istore 6, 2) := by decide +kernel
theorem dX6_look_166 : decode cX6_look 166 = .ok (.iload 6, 2) := by decide +kernel
theorem dX6_look_168 : decode cX6_look 168 = .ok (.iload 4, 2) := by decide +kernel
theorem dX6_look_170 : decode cX6_look 170 = .ok (.if_icmp .ge 8, 3) := by decide +kernel
theorem dX6_look_173 : decode cX6_look 173 = .ok (.iload 5, 2) := by decide +kernel
theorem dX6_look_175 : decode cX6_look 175 = .ok (.goto 4, 3) := by decide +kernel
theorem dX6_look_178 : decode cX6_look 178 = .ok (.iload_n 3, 1) := by decide +kernel
theorem dX6_look_179 : decode cX6_look 179 = .ok (.istore_n 3, 1) := by decide +kernel
theorem dX6_look_180 : decode cX6_look 180 = .ok (.iload 6, 2) := by decide +kernel
theorem dX6_look_182 : decode cX6_look 182 = .ok (.iload 4, 2) := by decide +kernel
theorem dX6_look_184 : decode cX6_look 184 = .ok (.if_icmp .ge 8, 3) := by decide +kernel
theorem dX6_look_187 : decode cX6_look 187 = .ok (.iload 6, 2) := by decide +kernel
theorem dX6_look_189 : decode cX6_look 189 = .ok (.goto 5, 3) := by decide +kernel
theorem dX6_look_192 : decode cX6_look 192 = .ok (.iload 4, 2) := by decide +kernel
theorem dX6_look_194 : decode cX6_look 194 = .ok (.istore 4, 2) := by decide +kernel
theorem dX6_look_196 : decode cX6_look 196 = .ok (.iinc 5 1, 3) := by decide +kernel
theorem dX6_look_199 : decode cX6_look 199 = .ok (.goto (-85), 3) := by decide +kernel
theorem dX6_look_202 : decode cX6_look 202 = .ok (.iload_n 3, 1) := by decide +kernel
theorem dX6_look_203 : decode cX6_look 203 = .ok (.ireturn, 1) := by decide +kernel
theorem dX6_keep_0 : decode cX6_keep 0 = .ok (.aload_n 0, 1) := by decide +kernel
theorem dX6_keep_1 : decode cX6_keep 1 = .ok (.iconst 0, 1) := by decide +kernel
theorem dX6_keep_2 : decode cX6_keep 2 = .ok (.putfield 59, 3) := by decide +kernel
theorem dX6_keep_5 : decode cX6_keep 5 = .ok (.iload_n 1, 1) := by decide +kernel
theorem dX6_keep_6 : decode cX6_keep 6 = .ok (.iconst 0, 1) := by decide +kernel
theorem dX6_keep_7 : decode cX6_keep 7 = .ok (.iconst 1, 1) := by decide +kernel
theorem dX6_keep_8 : decode cX6_keep 8 = .ok (.invokestatic 63, 3) := by decide +kernel
theorem dX6_keep_11 : decode cX6_keep 11 = .ok (.ifCond .ne 5, 3) := by decide +kernel
theorem dX6_keep_14 : decode cX6_keep 14 = .ok (.iconst (-1), 1) := by decide +kernel
theorem dX6_keep_15 : decode cX6_keep 15 = .ok (.ireturn, 1) := by decide +kernel
theorem dX6_keep_16 : decode cX6_keep 16 = .ok (.iconst 0, 1) := by decide +kernel
theorem dX6_keep_17 : decode cX6_keep 17 = .ok (.istore_n 2, 1) := by decide +kernel
theorem dX6_keep_18 : decode cX6_keep 18 = .ok (.iload_n 2, 1) := by decide +kernel
theorem dX6_keep_19 : decode cX6_keep 19 = .ok (.bipush 41, 2) := by decide +kernel
theorem dX6_keep_21 : decode cX6_keep 21 = .ok (.if_icmp .ge 26, 3) := by decide +kernel
theorem dX6_keep_24 : decode cX6_keep 24 = .ok (.aload_n 0, 1) := by decide +kernel
theorem dX6_keep_25 : decode cX6_keep 25 = .ok (.getfield 31, 3) := by decide +kernel
theorem dX6_keep_28 : decode cX6_keep 28 = .ok (.bipush 41, 2) := by decide +kernel
theorem dX6_keep_30 : decode cX6_keep 30 = .ok (.iload_n 1, 1) := by decide +kernel
theorem dX6_keep_31 : decode cX6_keep 31 = .ok (.imul, 1) := by decide +kernel
theorem dX6_keep_32 : decode cX6_keep 32 = .ok (.iload_n 2, 1) := by decide +kernel
theorem dX6_keep_33 : decode cX6_keep 33 = .ok (.iadd, 1) := by decide +kernel
theorem dX6_keep_34 : decode cX6_keep 34 = .ok (.aload_n 0, 1) := by decide +kernel
theorem dX6_keep_35 : decode cX6_keep 35 = .ok (.getfield 22, 3) := by decide +kernel
theorem dX6_keep_38 : decode cX6_keep 38 = .ok (.iload_n 2, 1) := by decide +kernel
theorem dX6_keep_39 : decode cX6_keep 39 = .ok (.iaload, 1) := by decide +kernel
theorem dX6_keep_40 : decode cX6_keep 40 = .ok (.iastore, 1) := by decide +kernel
theorem dX6_keep_41 : decode cX6_keep 41 = .ok (.iinc 2 1, 3) := by decide +kernel
theorem dX6_keep_44 : decode cX6_keep 44 = .ok (.goto (-26), 3) := by decide +kernel
theorem dX6_keep_47 : decode cX6_keep 47 = .ok (.aload_n 0, 1) := by decide +kernel
theorem dX6_keep_48 : decode cX6_keep 48 = .ok (.getfield 34, 3) := by decide +kernel
theorem dX6_keep_51 : decode cX6_keep 51 = .ok (.iload_n 1, 1) := by decide +kernel
theorem dX6_keep_52 : decode cX6_keep 52 = .ok (.iconst 1, 1) := by decide +kernel
theorem dX6_keep_53 : decode cX6_keep 53 = .ok (.bastore, 1) := by decide +kernel
theorem dX6_keep_54 : decode cX6_keep 54 = .ok (.aload_n 0, 1) := by decide +kernel
theorem dX6_keep_55 : decode cX6_keep 55 = .ok (.getfield 22, 3) := by decide +kernel
theorem dX6_keep_58 : decode cX6_keep 58 = .ok (.iconst 2, 1) := by decide +kernel
theorem dX6_keep_59 : decode cX6_keep 59 = .ok (.iaload, 1) := by decide +kernel
theorem dX6_keep_60 : decode cX6_keep 60 = .ok (.ireturn, 1) := by decide +kernel
theorem dX6_back_0 : decode cX6_back 0 = .ok (.aload_n 0, 1) := by decide +kernel
theorem dX6_back_1 : decode cX6_back 1 = .ok (.iconst 0, 1) := by decide +kernel
theorem dX6_back_2 : decode cX6_back 2 = .ok (.putfield 59, 3) := by decide +kernel
theorem dX6_back_5 : decode cX6_back 5 = .ok (.iload_n 1, 1) := by decide +kernel
theorem dX6_back_6 : decode cX6_back 6 = .ok (.iconst 0, 1) := by decide +kernel
theorem dX6_back_7 : decode cX6_back 7 = .ok (.iconst 1, 1) := by decide +kernel
theorem dX6_back_8 : decode cX6_back 8 = .ok (.invokestatic 63, 3) := by decide +kernel
theorem dX6_back_11 : decode cX6_back 11 = .ok (.ifCond .ne 5, 3) := by decide +kernel
theorem dX6_back_14 : decode cX6_back 14 = .ok (.iconst (-1), 1) := by decide +kernel
theorem dX6_back_15 : decode cX6_back 15 = .ok (.ireturn, 1) := by decide +kernel
theorem dX6_back_16 : decode cX6_back 16 = .ok (.aload_n 0, 1) := by decide +kernel
theorem dX6_back_17 : decode cX6_back 17 = .ok (.getfield 34, 3) := by decide +kernel
theorem dX6_back_20 : decode cX6_back 20 = .ok (.iload_n 1, 1) := by decide +kernel
theorem dX6_back_21 : decode cX6_back 21 = .ok (.baload, 1) := by decide +kernel
theorem dX6_back_22 : decode cX6_back 22 = .ok (.ifCond .ne 6, 3) := by decide +kernel
theorem dX6_back_25 : decode cX6_back 25 = .ok (.bipush (-2), 2) := by decide +kernel
theorem dX6_back_27 : decode cX6_back 27 = .ok (.ireturn, 1) := by decide +kernel
theorem dX6_back_28 : decode cX6_back 28 = .ok (.iconst 0, 1) := by decide +kernel
theorem dX6_back_29 : decode cX6_back 29 = .ok (.istore_n 2, 1) := by decide +kernel
theorem dX6_back_30 : decode cX6_back 30 = .ok (.iload_n 2, 1) := by decide +kernel
theorem dX6_back_31 : decode cX6_back 31 = .ok (.bipush 41, 2) := by decide +kernel
theorem dX6_back_33 : decode cX6_back 33 = .ok (.if_icmp .ge 26, 3) := by decide +kernel
theorem dX6_back_36 : decode cX6_back 36 = .ok (.aload_n 0, 1) := by decide +kernel
theorem dX6_back_37 : decode cX6_back 37 = .ok (.getfield 22, 3) := by decide +kernel
theorem dX6_back_40 : decode cX6_back 40 = .ok (.iload_n 2, 1) := by decide +kernel
theorem dX6_back_41 : decode cX6_back 41 = .ok (.aload_n 0, 1) := by decide +kernel
theorem dX6_back_42 : decode cX6_back 42 = .ok (.getfield 31, 3) := by decide +kernel
theorem dX6_back_45 : decode cX6_back 45 = .ok (.bipush 41, 2) := by decide +kernel
theorem dX6_back_47 : decode cX6_back 47 = .ok (.iload_n 1, 1) := by decide +kernel
theorem dX6_back_48 : decode cX6_back 48 = .ok (.imul, 1) := by decide +kernel
theorem dX6_back_49 : decode cX6_back 49 = .ok (.iload_n 2, 1) := by decide +kernel
theorem dX6_back_50 : decode cX6_back 50 = .ok (.iadd, 1) := by decide +kernel
theorem dX6_back_51 : decode cX6_back 51 = .ok (.iaload, 1) := by decide +kernel
theorem dX6_back_52 : decode cX6_back 52 = .ok (.iastore, 1) := by decide +kernel
theorem dX6_back_53 : decode cX6_back 53 = .ok (.iinc 2 1, 3) := by decide +kernel
theorem dX6_back_56 : decode cX6_back 56 = .ok (.goto (-26), 3) := by decide +kernel
theorem dX6_back_59 : decode cX6_back 59 = .ok (.aload_n 0, 1) := by decide +kernel
theorem dX6_back_60 : decode cX6_back 60 = .ok (.iconst 0, 1) := by decide +kernel
theorem dX6_back_61 : decode cX6_back 61 = .ok (.putfield 124, 3) := by decide +kernel
theorem dX6_back_64 : decode cX6_back 64 = .ok (.aload_n 0, 1) := by decide +kernel
theorem dX6_back_65 : decode cX6_back 65 = .ok (.getfield 22, 3) := by decide +kernel
theorem dX6_back_68 : decode cX6_back 68 = .ok (.iconst 2, 1) := by decide +kernel
theorem dX6_back_69 : decode cX6_back 69 = .ok (.iaload, 1) := by decide +kernel
theorem dX6_back_70 : decode cX6_back 70 = .ok (.ireturn, 1) := by decide +kernel
theorem dX6_count_0 : decode cX6_count 0 = .ok (.aload_n 0, 1) := by decide +kernel
theorem dX6_count_1 : decode cX6_count 1 = .ok (.iconst 0, 1) := by decide +kernel
theorem dX6_count_2 : decode cX6_count 2 = .ok (.putfield 59, 3) := by decide +kernel
theorem dX6_count_5 : decode cX6_count 5 = .ok (.iload_n 1, 1) := by decide +kernel
theorem dX6_count_6 : decode cX6_count 6 = .ok (.iconst 0, 1) := by decide +kernel
theorem dX6_count_7 : decode cX6_count 7 = .ok (.bipush 10, 2) := by decide +kernel
theorem dX6_count_9 : decode cX6_count 9 = .ok (.invokestatic 63, 3) := by decide +kernel
theorem dX6_count_12 : decode cX6_count 12 = .ok (.ifCond .ne 5, 3) := by decide +kernel
theorem dX6_count_15 : decode cX6_count 15 = .ok (.iconst (-1), 1) := by decide +kernel
theorem dX6_count_16 : decode cX6_count 16 = .ok (.ireturn, 1) := by decide +kernel
theorem dX6_count_17 : decode cX6_count 17 = .ok (.iload_n 1, 1) := by decide +kernel
theorem dX6_count_18 : decode cX6_count 18 = .ok (.iconst 3, 1) := by decide +kernel
theorem dX6_count_19 : decode cX6_count 19 = .ok (.if_icmp .ge 10, 3) := by decide +kernel
theorem dX6_count_22 : decode cX6_count 22 = .ok (.aload_n 0, 1) := by decide +kernel
theorem dX6_count_23 : decode cX6_count 23 = .ok (.getfield 13, 3) := by decide +kernel
theorem dX6_count_26 : decode cX6_count 26 = .ok (.iload_n 1, 1) := by decide +kernel
theorem dX6_count_27 : decode cX6_count 27 = .ok (.iaload, 1) := by decide +kernel
theorem dX6_count_28 : decode cX6_count 28 = .ok (.ireturn, 1) := by decide +kernel
theorem dX6_count_29 : decode cX6_count 29 = .ok (.iload_n 1, 1) := by decide +kernel
theorem dX6_count_30 : decode cX6_count 30 = .ok (.bipush 7, 2) := by decide +kernel
theorem dX6_count_32 : decode cX6_count 32 = .ok (.if_icmp .ge 14, 3) := by decide +kernel
theorem dX6_count_35 : decode cX6_count 35 = .ok (.aload_n 0, 1) := by decide +kernel
theorem dX6_count_36 : decode cX6_count 36 = .ok (.getfield 22, 3) := by decide +kernel
theorem dX6_count_39 : decode cX6_count 39 = .ok (.iconst 2, 1) := by decide +kernel
theorem dX6_count_40 : decode cX6_count 40 = .ok (.iload_n 1, 1) := by decide +kernel
theorem dX6_count_41 : decode cX6_count 41 = .ok (.iadd, 1) := by decide +kernel
theorem dX6_count_42 : decode cX6_count 42 = .ok (.iconst 3, 1) := by decide +kernel
theorem dX6_count_43 : decode cX6_count 43 = .ok (.isub, 1) := by decide +kernel
theorem dX6_count_44 : decode cX6_count 44 = .ok (.iaload, 1) := by decide +kernel
theorem dX6_count_45 : decode cX6_count 45 = .ok (.ireturn, 1) := by decide +kernel
theorem dX6_count_46 : decode cX6_count 46 = .ok (.aload_n 0, 1) := by decide +kernel
theorem dX6_count_47 : decode cX6_count 47 = .ok (.aload_n 0, 1) := by decide +kernel
theorem dX6_count_48 : decode cX6_count 48 = .ok (.getfield 22, 3) := by decide +kernel
theorem dX6_count_51 : decode cX6_count 51 = .ok (.invokevirtual 178, 3) := by decide +kernel
theorem dX6_count_54 : decode cX6_count 54 = .ok (.iload_n 1, 1) := by decide +kernel
theorem dX6_count_55 : decode cX6_count 55 = .ok (.bipush 7, 2) := by decide +kernel
theorem dX6_count_57 : decode cX6_count 57 = .ok (.if_icmp .ne 10, 3) := by decide +kernel
theorem dX6_count_60 : decode cX6_count 60 = .ok (.aload_n 0, 1) := by decide +kernel
theorem dX6_count_61 : decode cX6_count 61 = .ok (.getfield 143, 3) := by decide +kernel
theorem dX6_count_64 : decode cX6_count 64 = .ok (.goto 33, 3) := by decide +kernel
theorem dX6_count_67 : decode cX6_count 67 = .ok (.iload_n 1, 1) := by decide +kernel
theorem dX6_count_68 : decode cX6_count 68 = .ok (.bipush 8, 2) := by decide +kernel
theorem dX6_count_70 : decode cX6_count 70 = .ok (.if_icmp .ne 10, 3) := by decide +kernel
theorem dX6_count_73 : decode cX6_count 73 = .ok (.aload_n 0, 1) := by decide +kernel
theorem dX6_count_74 : decode cX6_count 74 = .ok (.getfield 121, 3) := by decide +kernel
theorem dX6_count_77 : decode cX6_count 77 = .ok (.goto 20, 3) := by decide +kernel
theorem dX6_count_80 : decode cX6_count 80 = .ok (.iload_n 1, 1) := by decide +kernel
theorem dX6_count_81 : decode cX6_count 81 = .ok (.bipush 9, 2) := by decide +kernel
theorem dX6_count_83 : decode cX6_count 83 = .ok (.if_icmp .ne 10, 3) := by decide +kernel
theorem dX6_count_86 : decode cX6_count 86 = .ok (.aload_n 0, 1) := by decide +kernel
theorem dX6_count_87 : decode cX6_count 87 = .ok (.getfield 67, 3) := by decide +kernel
theorem dX6_count_90 : decode cX6_count 90 = .ok (.goto 7, 3) := by decide +kernel
theorem dX6_count_93 : decode cX6_count 93 = .ok (.aload_n 0, 1) := by decide +kernel
theorem dX6_count_94 : decode cX6_count 94 = .ok (.getfield 124, 3) := by decide +kernel
theorem dX6_count_97 : decode cX6_count 97 = .ok (.ireturn, 1) := by decide +kernel
theorem dJ6_bitCount_0f7a4_0 : decode cJ6_bitCount_0f7a4 0 = .ok (.iload_n 0, 1) := by decide +kernel
theorem dJ6_bitCount_0f7a4_1 : decode cJ6_bitCount_0f7a4 1 = .ok (.iload_n 0, 1) := by decide +kernel
theorem dJ6_bitCount_0f7a4_2 : decode cJ6_bitCount_0f7a4 2 = .ok (.iconst 1, 1) := by decide +kernel
theorem dJ6_bitCount_0f7a4_3 : decode cJ6_bitCount_0f7a4 3 = .ok (.iushr, 1) := by decide +kernel
theorem dJ6_bitCount_0f7a4_4 : decode cJ6_bitCount_0f7a4 4 = .ok (.ldc_w 265, 3) := by decide +kernel
theorem dJ6_bitCount_0f7a4_7 : decode cJ6_bitCount_0f7a4 7 = .ok (.iand, 1) := by decide +kernel
theorem dJ6_bitCount_0f7a4_8 : decode cJ6_bitCount_0f7a4 8 = .ok (.isub, 1) := by decide +kernel
theorem dJ6_bitCount_0f7a4_9 : decode cJ6_bitCount_0f7a4 9 = .ok (.istore_n 0, 1) := by decide +kernel
theorem dJ6_bitCount_0f7a4_10 : decode cJ6_bitCount_0f7a4 10 = .ok (.iload_n 0, 1) := by decide +kernel
theorem dJ6_bitCount_0f7a4_11 : decode cJ6_bitCount_0f7a4 11 = .ok (.ldc_w 266, 3) := by decide +kernel
theorem dJ6_bitCount_0f7a4_14 : decode cJ6_bitCount_0f7a4 14 = .ok (.iand, 1) := by decide +kernel
theorem dJ6_bitCount_0f7a4_15 : decode cJ6_bitCount_0f7a4 15 = .ok (.iload_n 0, 1) := by decide +kernel
theorem dJ6_bitCount_0f7a4_16 : decode cJ6_bitCount_0f7a4 16 = .ok (.iconst 2, 1) := by decide +kernel
theorem dJ6_bitCount_0f7a4_17 : decode cJ6_bitCount_0f7a4 17 = .ok (.iushr, 1) := by decide +kernel
theorem dJ6_bitCount_0f7a4_18 : decode cJ6_bitCount_0f7a4 18 = .ok (.ldc_w 266, 3) := by decide +kernel
theorem dJ6_bitCount_0f7a4_21 : decode cJ6_bitCount_0f7a4 21 = .ok (.iand, 1) := by decide +kernel
theorem dJ6_bitCount_0f7a4_22 : decode cJ6_bitCount_0f7a4 22 = .ok (.iadd, 1) := by decide +kernel
theorem dJ6_bitCount_0f7a4_23 : decode cJ6_bitCount_0f7a4 23 = .ok (.istore_n 0, 1) := by decide +kernel
theorem dJ6_bitCount_0f7a4_24 : decode cJ6_bitCount_0f7a4 24 = .ok (.iload_n 0, 1) := by decide +kernel
theorem dJ6_bitCount_0f7a4_25 : decode cJ6_bitCount_0f7a4 25 = .ok (.iload_n 0, 1) := by decide +kernel
theorem dJ6_bitCount_0f7a4_26 : decode cJ6_bitCount_0f7a4 26 = .ok (.iconst 4, 1) := by decide +kernel
theorem dJ6_bitCount_0f7a4_27 : decode cJ6_bitCount_0f7a4 27 = .ok (.iushr, 1) := by decide +kernel
theorem dJ6_bitCount_0f7a4_28 : decode cJ6_bitCount_0f7a4 28 = .ok (.iadd, 1) := by decide +kernel
theorem dJ6_bitCount_0f7a4_29 : decode cJ6_bitCount_0f7a4 29 = .ok (.ldc_w 267, 3) := by decide +kernel
theorem dJ6_bitCount_0f7a4_32 : decode cJ6_bitCount_0f7a4 32 = .ok (.iand, 1) := by decide +kernel
theorem dJ6_bitCount_0f7a4_33 : decode cJ6_bitCount_0f7a4 33 = .ok (.istore_n 0, 1) := by decide +kernel
theorem dJ6_bitCount_0f7a4_34 : decode cJ6_bitCount_0f7a4 34 = .ok (.iload_n 0, 1) := by decide +kernel
theorem dJ6_bitCount_0f7a4_35 : decode cJ6_bitCount_0f7a4 35 = .ok (.iload_n 0, 1) := by decide +kernel
theorem dJ6_bitCount_0f7a4_36 : decode cJ6_bitCount_0f7a4 36 = .ok (.bipush 8, 2) := by decide +kernel
theorem dJ6_bitCount_0f7a4_38 : decode cJ6_bitCount_0f7a4 38 = .ok (.iushr, 1) := by decide +kernel
theorem dJ6_bitCount_0f7a4_39 : decode cJ6_bitCount_0f7a4 39 = .ok (.iadd, 1) := by decide +kernel
theorem dJ6_bitCount_0f7a4_40 : decode cJ6_bitCount_0f7a4 40 = .ok (.istore_n 0, 1) := by decide +kernel
theorem dJ6_bitCount_0f7a4_41 : decode cJ6_bitCount_0f7a4 41 = .ok (.iload_n 0, 1) := by decide +kernel
theorem dJ6_bitCount_0f7a4_42 : decode cJ6_bitCount_0f7a4 42 = .ok (.iload_n 0, 1) := by decide +kernel
theorem dJ6_bitCount_0f7a4_43 : decode cJ6_bitCount_0f7a4 43 = .ok (.bipush 16, 2) := by decide +kernel
theorem dJ6_bitCount_0f7a4_45 : decode cJ6_bitCount_0f7a4 45 = .ok (.iushr, 1) := by decide +kernel
theorem dJ6_bitCount_0f7a4_46 : decode cJ6_bitCount_0f7a4 46 = .ok (.iadd, 1) := by decide +kernel
theorem dJ6_bitCount_0f7a4_47 : decode cJ6_bitCount_0f7a4 47 = .ok (.istore_n 0, 1) := by decide +kernel
theorem dJ6_bitCount_0f7a4_48 : decode cJ6_bitCount_0f7a4 48 = .ok (.iload_n 0, 1) := by decide +kernel
theorem dJ6_bitCount_0f7a4_49 : decode cJ6_bitCount_0f7a4 49 = .ok (.bipush 63, 2) := by decide +kernel
theorem dJ6_bitCount_0f7a4_51 : decode cJ6_bitCount_0f7a4 51 = .ok (.iand, 1) := by decide +kernel
theorem dJ6_bitCount_0f7a4_52 : decode cJ6_bitCount_0f7a4 52 = .ok (.ireturn, 1) := by decide +kernel
theorem dJ9_max_7cf53_0 : decode cJ9_max_7cf53 0 = .ok (.iload_n 0, 1) := by decide +kernel
theorem dJ9_max_7cf53_1 : decode cJ9_max_7cf53 1 = .ok (.iload_n 1, 1) := by decide +kernel
theorem dJ9_max_7cf53_2 : decode cJ9_max_7cf53 2 = .ok (.if_icmp .lt 7, 3) := by decide +kernel
theorem dJ9_max_7cf53_5 : decode cJ9_max_7cf53 5 = .ok (.iload_n 0, 1) := by decide +kernel
theorem dJ9_max_7cf53_6 : decode cJ9_max_7cf53 6 = .ok (.goto 4, 3) := by decide +kernel
theorem dJ9_max_7cf53_9 : decode cJ9_max_7cf53 9 = .ok (.iload_n 1, 1) := by decide +kernel
theorem dJ9_max_7cf53_10 : decode cJ9_max_7cf53 10 = .ok (.ireturn, 1) := by decide +kernel
theorem dJ9_min_7cf53_0 : decode cJ9_min_7cf53 0 = .ok (.iload_n 0, 1) := by decide +kernel
theorem dJ9_min_7cf53_1 : decode cJ9_min_7cf53 1 = .ok (.iload_n 1, 1) := by decide +kernel
theorem dJ9_min_7cf53_2 : decode cJ9_min_7cf53 2 = .ok (.if_icmp .gt 7, 3) := by decide +kernel
theorem dJ9_min_7cf53_5 : decode cJ9_min_7cf53 5 = .ok (.iload_n 0, 1) := by decide +kernel
theorem dJ9_min_7cf53_6 : decode cJ9_min_7cf53 6 = .ok (.goto 4, 3) := by decide +kernel
theorem dJ9_min_7cf53_9 : decode cJ9_min_7cf53 9 = .ok (.iload_n 1, 1) := by decide +kernel
theorem dJ9_min_7cf53_10 : decode cJ9_min_7cf53 10 = .ok (.ireturn, 1) := by decide +kernel
theorem dL_law_0 : decode cL_law 0 = .ok (.new 7, 3) := by decide +kernel
theorem dL_law_3 : decode cL_law 3 = .ok (.dup, 1) := by decide +kernel
theorem dL_law_4 : decode cL_law 4 = .ok (.invokespecial 9, 3) := by decide +kernel
theorem dL_law_7 : decode cL_law 7 = .ok (.astore_n 1, 1) := by decide +kernel
theorem dL_law_8 : decode cL_law 8 = .ok (.new 10, 3) := by decide +kernel
theorem dL_law_11 : decode cL_law 11 = .ok (.dup, 1) := by decide +kernel
theorem dL_law_12 : decode cL_law 12 = .ok (.invokespecial 12, 3) := by decide +kernel
theorem dL_law_15 : decode cL_law 15 = .ok (.astore_n 2, 1) := by decide +kernel
theorem dL_law_16 : decode cL_law 16 = .ok (.iconst 0, 1) := by decide +kernel
theorem dL_law_17 : decode cL_law 17 = .ok (.istore_n 3, 1) := by decide +kernel
theorem dL_law_18 : decode cL_law 18 = .ok (.iload_n 3, 1) := by decide +kernel
theorem dL_law_19 : decode cL_law 19 = .ok (.aload_n 0, 1) := by decide +kernel
theorem dL_law_20 : decode cL_law 20 = .ok (.arraylength, 1) := by decide +kernel
theorem dL_law_21 : decode cL_law 21 = .ok (.iconst 5, 1) := by decide +kernel
theorem dL_law_22 : decode cL_law 22 = .ok (.isub, 1) := by decide +kernel
theorem dL_law_23 : decode cL_law 23 = .ok (.if_icmp .gt 739, 3) := by decide +kernel
theorem dL_law_26 : decode cL_law 26 = .ok (.aload_n 0, 1) := by decide +kernel
theorem dL_law_27 : decode cL_law 27 = .ok (.iload_n 3, 1) := by decide +kernel
theorem dL_law_28 : decode cL_law 28 = .ok (.iaload, 1) := by decide +kernel
theorem dL_law_29 : decode cL_law 29 = .ok (.bipush 31, 2) := by decide +kernel
theorem dL_law_31 : decode cL_law 31 = .ok (.iand, 1) := by decide +kernel
theorem dL_law_32 : decode cL_law 32 = .ok (.tableswitch 724 0 23 #[112, 135, 148, 161, 184, 217, 240, 273, 296, 309, 342, 375, 398, 421, 444, 477, 510, 563, 596, 609, 632, 655, 678, 701], 112) := by decide +kernel
theorem dL_law_144 : decode cL_law 144 = .ok (.aload_n 1, 1) := by decide +kernel
theorem dL_law_145 : decode cL_law 145 = .ok (.aload_n 0, 1) := by decide +kernel
theorem dL_law_146 : decode cL_law 146 = .ok (.iload_n 3, 1) := by decide +kernel
theorem dL_law_147 : decode cL_law 147 = .ok (.iconst 1, 1) := by decide +kernel
theorem dL_law_148 : decode cL_law 148 = .ok (.iadd, 1) := by decide +kernel
theorem dL_law_149 : decode cL_law 149 = .ok (.iaload, 1) := by decide +kernel
theorem dL_law_150 : decode cL_law 150 = .ok (.invokevirtual 13, 3) := by decide +kernel
theorem dL_law_153 : decode cL_law 153 = .ok (.aload_n 2, 1) := by decide +kernel
theorem dL_law_154 : decode cL_law 154 = .ok (.aload_n 0, 1) := by decide +kernel
theorem dL_law_155 : decode cL_law 155 = .ok (.iload_n 3, 1) := by decide +kernel
theorem dL_law_156 : decode cL_law 156 = .ok (.iconst 1, 1) := by decide +kernel
theorem dL_law_157 : decode cL_law 157 = .ok (.iadd, 1) := by decide +kernel
theorem dL_law_158 : decode cL_law 158 = .ok (.iaload, 1) := by decide +kernel
theorem dL_law_159 : decode cL_law 159 = .ok (.invokevirtual 17, 3) := by decide +kernel
theorem dL_law_162 : decode cL_law 162 = .ok (.if_icmp .eq 594, 3) := by decide +kernel
theorem dL_law_165 : decode cL_law 165 = .ok (.iconst 0, 1) := by decide +kernel
theorem dL_law_166 : decode cL_law 166 = .ok (.ireturn, 1) := by decide +kernel
theorem dL_law_167 : decode cL_law 167 = .ok (.aload_n 1, 1) := by decide +kernel
theorem dL_law_168 : decode cL_law 168 = .ok (.invokevirtual 18, 3) := by decide +kernel
theorem dL_law_171 : decode cL_law 171 = .ok (.aload_n 2, 1) := by decide +kernel
theorem dL_law_172 : decode cL_law 172 = .ok (.invokevirtual 22, 3) := by decide +kernel
theorem dL_law_175 : decode cL_law 175 = .ok (.if_icmp .eq 581, 3) := by decide +kernel
theorem dL_law_178 : decode cL_law 178 = .ok (.iconst 0, 1) := by decide +kernel
theorem dL_law_179 : decode cL_law 179 = .ok (.ireturn, 1) := by decide +kernel
theorem dL_law_180 : decode cL_law 180 = .ok (.aload_n 1, 1) := by decide +kernel
theorem dL_law_181 : decode cL_law 181 = .ok (.invokevirtual 23, 3) := by decide +kernel
theorem dL_law_184 : decode cL_law 184 = .ok (.aload_n 2, 1) := by decide +kernel
theorem dL_law_185 : decode cL_law 185 = .ok (.invokevirtual 26, 3) := by decide +kernel
theorem dL_law_188 : decode cL_law 188 = .ok (.if_icmp .eq 568, 3) := by decide +kernel
theorem dL_law_191 : decode cL_law 191 = .ok (.iconst 0, 1) := by decide +kernel
theorem dL_law_192 : decode cL_law 192 = .ok (.ireturn, 1) := by decide +kernel
theorem dL_law_193 : decode cL_law 193 = .ok (.aload_n 1, 1) := by decide +kernel
theorem dL_law_194 : decode cL_law 194 = .ok (.aload_n 0, 1) := by decide +kernel
theorem dL_law_195 : decode cL_law 195 = .ok (.iload_n 3, 1) := by decide +kernel
theorem dL_law_196 : decode cL_law 196 = .ok (.iconst 1, 1) := by decide +kernel
theorem dL_law_197 : decode cL_law 197 = .ok (.iadd, 1) := by decide +kernel
theorem dL_law_198 : decode cL_law 198 = .ok (.iaload, 1) := by decide +kernel
theorem dL_law_199 : decode cL_law 199 = .ok (.invokevirtual 27, 3) := by decide +kernel
theorem dL_law_202 : decode cL_law 202 = .ok (.aload_n 2, 1) := by decide +kernel
theorem dL_law_203 : decode cL_law 203 = .ok (.aload_n 0, 1) := by decide +kernel
theorem dL_law_204 : decode cL_law 204 = .ok (.iload_n 3, 1) := by decide +kernel
theorem dL_law_205 : decode cL_law 205 = .ok (.iconst 1, 1) := by decide +kernel
theorem dL_law_206 : decode cL_law 206 = .ok (.iadd, 1) := by decide +kernel
theorem dL_law_207 : decode cL_law 207 = .ok (.iaload, 1) := by decide +kernel
theorem dL_law_208 : decode cL_law 208 = .ok (.invokevirtual 30, 3) := by decide +kernel
theorem dL_law_211 : decode cL_law 211 = .ok (.if_icmp .eq 545, 3) := by decide +kernel
theorem dL_law_214 : decode cL_law 214 = .ok (.iconst 0, 1) := by decide +kernel
theorem dL_law_215 : decode cL_law 215 = .ok (.ireturn, 1) := by decide +kernel
theorem dL_law_216 : decode cL_law 216 = .ok (.aload_n 1, 1) := by decide +kernel
theorem dL_law_217 : decode cL_law 217 = .ok (.aload_n 0, 1) := by decide +kernel
theorem dL_law_218 : decode cL_law 218 = .ok (.iload_n 3, 1) := by decide +kernel
theorem dL_law_219 : decode cL_law 219 = .ok (.iconst 1, 1) := by decide +kernel
theorem dL_law_220 : decode cL_law 220 = .ok (.iadd, 1) := by decide +kernel
theorem dL_law_221 : decode cL_law 221 = .ok (.iaload, 1) := by decide +kernel
theorem dL_law_222 : decode cL_law 222 = .ok (.aload_n 0, 1) := by decide +kernel
theorem dL_law_223 : decode cL_law 223 = .ok (.iload_n 3, 1) := by decide +kernel
theorem dL_law_224 : decode cL_law 224 = .ok (.iconst 2, 1) := by decide +kernel
theorem dL_law_225 : decode cL_law 225 = .ok (.iadd, 1) := by decide +kernel
theorem dL_law_226 : decode cL_law 226 = .ok (.iaload, 1) := by decide +kernel
theorem dL_law_227 : decode cL_law 227 = .ok (.invokevirtual 31, 3) := by decide +kernel
theorem dL_law_230 : decode cL_law 230 = .ok (.aload_n 2, 1) := by decide +kernel
theorem dL_law_231 : decode cL_law 231 = .ok (.aload_n 0, 1) := by decide +kernel
theorem dL_law_232 : decode cL_law 232 = .ok (.iload_n 3, 1) := by decide +kernel
theorem dL_law_233 : decode cL_law 233 = .ok (.iconst 1, 1) := by decide +kernel
theorem dL_law_234 : decode cL_law 234 = .ok (.iadd, 1) := by decide +kernel
theorem dL_law_235 : decode cL_law 235 = .ok (.iaload, 1) := by decide +kernel
theorem dL_law_236 : decode cL_law 236 = .ok (.aload_n 0, 1) := by decide +kernel
theorem dL_law_237 : decode cL_law 237 = .ok (.iload_n 3, 1) := by decide +kernel
theorem dL_law_238 : decode cL_law 238 = .ok (.iconst 2, 1) := by decide +kernel
theorem dL_law_239 : decode cL_law 239 = .ok (.iadd, 1) := by decide +kernel
theorem dL_law_240 : decode cL_law 240 = .ok (.iaload, 1) := by decide +kernel
theorem dL_law_241 : decode cL_law 241 = .ok (.invokevirtual 35, 3) := by decide +kernel
theorem dL_law_244 : decode cL_law 244 = .ok (.if_icmp .eq 512, 3) := by decide +kernel
theorem dL_law_247 : decode cL_law 247 = .ok (.iconst 0, 1) := by decide +kernel
theorem dL_law_248 : decode cL_law 248 = .ok (.ireturn, 1) := by decide +kernel
theorem dL_law_249 : decode cL_law 249 = .ok (.aload_n 1, 1) := by decide +kernel
theorem dL_law_250 : decode cL_law 250 = .ok (.aload_n 0, 1) := by decide +kernel
theorem dL_law_251 : decode cL_law 251 = .ok (.iload_n 3, 1) := by decide +kernel
theorem dL_law_252 : decode cL_law 252 = .ok (.iconst 1, 1) := by decide +kernel
theorem dL_law_253 : decode cL_law 253 = .ok (.iadd, 1) := by decide +kernel
theorem dL_law_254 : decode cL_law 254 = .ok (.iaload, 1) := by decide +kernel
theorem dL_law_255 : decode cL_law 255 = .ok (.invokevirtual 36, 3) := by decide +kernel
theorem dL_law_258 : decode cL_law 258 = .ok (.aload_n 2, 1) := by decide +kernel
theorem dL_law_259 : decode cL_law 259 = .ok (.aload_n 0, 1) := by decide +kernel
theorem dL_law_260 : decode cL_law 260 = .ok (.iload_n 3, 1) := by decide +kernel
theorem dL_law_261 : decode cL_law 261 = .ok (.iconst 1, 1) := by decide +kernel
theorem dL_law_262 : decode cL_law 262 = .ok (.iadd, 1) := by decide +kernel
theorem dL_law_263 : decode cL_law 263 = .ok (.iaload, 1) := by decide +kernel
theorem dL_law_264 : decode cL_law 264 = .ok (.invokevirtual 39, 3) := by decide +kernel
theorem dL_law_267 : decode cL_law 267 = .ok (.if_icmp .eq 489, 3) := by decide +kernel
theorem dL_law_270 : decode cL_law 270 = .ok (.iconst 0, 1) := by decide +kernel
theorem dL_law_271 : decode cL_law 271 = .ok (.ireturn, 1) := by decide +kernel
theorem dL_law_272 : decode cL_law 272 = .ok (.aload_n 1, 1) := by decide +kernel
theorem dL_law_273 : decode cL_law 273 = .ok (.aload_n 0, 1) := by decide +kernel
theorem dL_law_274 : decode cL_law 274 = .ok (.iload_n 3, 1) := by decide +kernel
theorem dL_law_275 : decode cL_law 275 = .ok (.iconst 1, 1) := by decide +kernel
theorem dL_law_276 : decode cL_law 276 = .ok (.iadd, 1) := by decide +kernel
theorem dL_law_277 : decode cL_law 277 = .ok (.iaload, 1) := by decide +kernel
theorem dL_law_278 : decode cL_law 278 = .ok (.aload_n 0, 1) := by decide +kernel
theorem dL_law_279 : decode cL_law 279 = .ok (.iload_n 3, 1) := by decide +kernel
theorem dL_law_280 : decode cL_law 280 = .ok (.iconst 2, 1) := by decide +kernel
theorem dL_law_281 : decode cL_law 281 = .ok (.iadd, 1) := by decide +kernel
theorem dL_law_282 : decode cL_law 282 = .ok (.iaload, 1) := by decide +kernel
theorem dL_law_283 : decode cL_law 283 = .ok (.invokevirtual 40, 3) := by decide +kernel
theorem dL_law_286 : decode cL_law 286 = .ok (.aload_n 2, 1) := by decide +kernel
theorem dL_law_287 : decode cL_law 287 = .ok (.aload_n 0, 1) := by decide +kernel
theorem dL_law_288 : decode cL_law 288 = .ok (.iload_n 3, 1) := by decide +kernel
theorem dL_law_289 : decode cL_law 289 = .ok (.iconst 1, 1) := by decide +kernel
theorem dL_law_290 : decode cL_law 290 = .ok (.iadd, 1) := by decide +kernel
theorem dL_law_291 : decode cL_law 291 = .ok (.iaload, 1) := by decide +kernel
theorem dL_law_292 : decode cL_law 292 = .ok (.aload_n 0, 1) := by decide +kernel
theorem dL_law_293 : decode cL_law 293 = .ok (.iload_n 3, 1) := by decide +kernel
theorem dL_law_294 : decode cL_law 294 = .ok (.iconst 2, 1) := by decide +kernel
theorem dL_law_295 : decode cL_law 295 = .ok (.iadd, 1) := by decide +kernel
theorem dL_law_296 : decode cL_law 296 = .ok (.iaload, 1) := by decide +kernel
theorem dL_law_297 : decode cL_law 297 = .ok (.invokevirtual 43, 3) := by decide +kernel
theorem dL_law_300 : decode cL_law 300 = .ok (.if_icmp .eq 456, 3) := by decide +kernel
theorem dL_law_303 : decode cL_law 303 = .ok (.iconst 0, 1) := by decide +kernel
theorem dL_law_304 : decode cL_law 304 = .ok (.ireturn, 1) := by decide +kernel
theorem dL_law_305 : decode cL_law 305 = .ok (.aload_n 1, 1) := by decide +kernel
theorem dL_law_306 : decode cL_law 306 = .ok (.aload_n 0, 1) := by decide +kernel
theorem dL_law_307 : decode cL_law 307 = .ok (.iload_n 3, 1) := by decide +kernel
theorem dL_law_308 : decode cL_law 308 = .ok (.iconst 1, 1) := by decide +kernel
theorem dL_law_309 : decode cL_law 309 = .ok (.iadd, 1) := by decide +kernel
theorem dL_law_310 : decode cL_law 310 = .ok (.iaload, 1) := by decide +kernel
theorem dL_law_311 : decode cL_law 311 = .ok (.invokevirtual 44, 3) := by decide +kernel
theorem dL_law_314 : decode cL_law 314 = .ok (.aload_n 2, 1) := by decide +kernel
theorem dL_law_315 : decode cL_law 315 = .ok (.aload_n 0, 1) := by decide +kernel
theorem dL_law_316 : decode cL_law 316 = .ok (.iload_n 3, 1) := by decide +kernel
theorem dL_law_317 : decode cL_law 317 = .ok (.iconst 1, 1) := by decide +kernel
theorem dL_law_318 : decode cL_law 318 = .ok (.iadd, 1) := by decide +kernel
theorem dL_law_319 : decode cL_law 319 = .ok (.iaload, 1) := by decide +kernel
theorem dL_law_320 : decode cL_law 320 = .ok (.invokevirtual 47, 3) := by decide +kernel
theorem dL_law_323 : decode cL_law 323 = .ok (.if_icmp .eq 433, 3) := by decide +kernel
theorem dL_law_326 : decode cL_law 326 = .ok (.iconst 0, 1) := by decide +kernel
theorem dL_law_327 : decode cL_law 327 = .ok (.ireturn, 1) := by decide +kernel
theorem dL_law_328 : decode cL_law 328 = .ok (.aload_n 1, 1) := by decide +kernel
theorem dL_law_329 : decode cL_law 329 = .ok (.invokevirtual 48, 3) := by decide +kernel
theorem dL_law_332 : decode cL_law 332 = .ok (.aload_n 2, 1) := by decide +kernel
theorem dL_law_333 : decode cL_law 333 = .ok (.invokevirtual 51, 3) := by decide +kernel
theorem dL_law_336 : decode cL_law 336 = .ok (.if_icmp .eq 420, 3) := by decide +kernel
theorem dL_law_339 : decode cL_law 339 = .ok (.iconst 0, 1) := by decide +kernel
theorem dL_law_340 : decode cL_law 340 = .ok (.ireturn, 1) := by decide +kernel
theorem dL_law_341 : decode cL_law 341 = .ok (.aload_n 1, 1) := by decide +kernel
theorem dL_law_342 : decode cL_law 342 = .ok (.aload_n 0, 1) := by decide +kernel
theorem dL_law_343 : decode cL_law 343 = .ok (.iload_n 3, 1) := by decide +kernel
theorem dL_law_344 : decode cL_law 344 = .ok (.iconst 1, 1) := by decide +kernel
theorem dL_law_345 : decode cL_law 345 = .ok (.iadd, 1) := by decide +kernel
theorem dL_law_346 : decode cL_law 346 = .ok (.iaload, 1) := by decide +kernel
theorem dL_law_347 : decode cL_law 347 = .ok (.aload_n 0, 1) := by decide +kernel
theorem dL_law_348 : decode cL_law 348 = .ok (.iload_n 3, 1) := by decide +kernel
theorem dL_law_349 : decode cL_law 349 = .ok (.iconst 2, 1) := by decide +kernel
theorem dL_law_350 : decode cL_law 350 = .ok (.iadd, 1) := by decide +kernel
theorem dL_law_351 : decode cL_law 351 = .ok (.iaload, 1) := by decide +kernel
theorem dL_law_352 : decode cL_law 352 = .ok (.invokevirtual 52, 3) := by decide +kernel
theorem dL_law_355 : decode cL_law 355 = .ok (.aload_n 2, 1) := by decide +kernel
theorem dL_law_356 : decode cL_law 356 = .ok (.aload_n 0, 1) := by decide +kernel
theorem dL_law_357 : decode cL_law 357 = .ok (.iload_n 3, 1) := by decide +kernel
theorem dL_law_358 : decode cL_law 358 = .ok (.iconst 1, 1) := by decide +kernel
theorem dL_law_359 : decode cL_law 359 = .ok (.iadd, 1) := by decide +kernel
theorem dL_law_360 : decode cL_law 360 = .ok (.iaload, 1) := by decide +kernel
theorem dL_law_361 : decode cL_law 361 = .ok (.aload_n 0, 1) := by decide +kernel
theorem dL_law_362 : decode cL_law 362 = .ok (.iload_n 3, 1) := by decide +kernel
theorem dL_law_363 : decode cL_law 363 = .ok (.iconst 2, 1) := by decide +kernel
theorem dL_law_364 : decode cL_law 364 = .ok (.iadd, 1) := by decide +kernel
theorem dL_law_365 : decode cL_law 365 = .ok (.iaload, 1) := by decide +kernel
theorem dL_law_366 : decode cL_law 366 = .ok (.invokevirtual 55, 3) := by decide +kernel
theorem dL_law_369 : decode cL_law 369 = .ok (.if_icmp .eq 387, 3) := by decide +kernel
theorem dL_law_372 : decode cL_law 372 = .ok (.iconst 0, 1) := by decide +kernel
theorem dL_law_373 : decode cL_law 373 = .ok (.ireturn, 1) := by decide +kernel
theorem dL_law_374 : decode cL_law 374 = .ok (.aload_n 1, 1) := by decide +kernel
theorem dL_law_375 : decode cL_law 375 = .ok (.aload_n 0, 1) := by decide +kernel
theorem dL_law_376 : decode cL_law 376 = .ok (.iload_n 3, 1) := by decide +kernel
theorem dL_law_377 : decode cL_law 377 = .ok (.iconst 1, 1) := by decide +kernel
theorem dL_law_378 : decode cL_law 378 = .ok (.iadd, 1) := by decide +kernel
theorem dL_law_379 : decode cL_law 379 = .ok (.iaload, 1) := by decide +kernel
theorem dL_law_380 : decode cL_law 380 = .ok (.aload_n 0, 1) := by decide +kernel
theorem dL_law_381 : decode cL_law 381 = .ok (.iload_n 3, 1) := by decide +kernel
theorem dL_law_382 : decode cL_law 382 = .ok (.iconst 2, 1) := by decide +kernel
theorem dL_law_383 : decode cL_law 383 = .ok (.iadd, 1) := by decide +kernel
theorem dL_law_384 : decode cL_law 384 = .ok (.iaload, 1) := by decide +kernel
theorem dL_law_385 : decode cL_law 385 = .ok (.invokevirtual 56, 3) := by decide +kernel
theorem dL_law_388 : decode cL_law 388 = .ok (.aload_n 2, 1) := by decide +kernel
theorem dL_law_389 : decode cL_law 389 = .ok (.aload_n 0, 1) := by decide +kernel
theorem dL_law_390 : decode cL_law 390 = .ok (.iload_n 3, 1) := by decide +kernel
theorem dL_law_391 : decode cL_law 391 = .ok (.iconst 1, 1) := by decide +kernel
theorem dL_law_392 : decode cL_law 392 = .ok (.iadd, 1) := by decide +kernel
theorem dL_law_393 : decode cL_law 393 = .ok (.iaload, 1) := by decide +kernel
theorem dL_law_394 : decode cL_law 394 = .ok (.aload_n 0, 1) := by decide +kernel
theorem dL_law_395 : decode cL_law 395 = .ok (.iload_n 3, 1) := by decide +kernel
theorem dL_law_396 : decode cL_law 396 = .ok (.iconst 2, 1) := by decide +kernel
theorem dL_law_397 : decode cL_law 397 = .ok (.iadd, 1) := by decide +kernel
theorem dL_law_398 : decode cL_law 398 = .ok (.iaload, 1) := by decide +kernel
theorem dL_law_399 : decode cL_law 399 = .ok (.invokevirtual 59, 3) := by decide +kernel
theorem dL_law_402 : decode cL_law 402 = .ok (.if_icmp .eq 354, 3) := by decide +kernel
theorem dL_law_405 : decode cL_law 405 = .ok (.iconst 0, 1) := by decide +kernel
theorem dL_law_406 : decode cL_law 406 = .ok (.ireturn, 1) := by decide +kernel
theorem dL_law_407 : decode cL_law 407 = .ok (.aload_n 1, 1) := by decide +kernel
theorem dL_law_408 : decode cL_law 408 = .ok (.aload_n 0, 1) := by decide +kernel
theorem dL_law_409 : decode cL_law 409 = .ok (.iload_n 3, 1) := by decide +kernel
theorem dL_law_410 : decode cL_law 410 = .ok (.iconst 1, 1) := by decide +kernel
theorem dL_law_411 : decode cL_law 411 = .ok (.iadd, 1) := by decide +kernel
theorem dL_law_412 : decode cL_law 412 = .ok (.iaload, 1) := by decide +kernel
theorem dL_law_413 : decode cL_law 413 = .ok (.invokevirtual 60, 3) := by decide +kernel
theorem dL_law_416 : decode cL_law 416 = .ok (.aload_n 2, 1) := by decide +kernel
theorem dL_law_417 : decode cL_law 417 = .ok (.aload_n 0, 1) := by decide +kernel
theorem dL_law_418 : decode cL_law 418 = .ok (.iload_n 3, 1) := by decide +kernel
theorem dL_law_419 : decode cL_law 419 = .ok (.iconst 1, 1) := by decide +kernel
theorem dL_law_420 : decode cL_law 420 = .ok (.iadd, 1) := by decide +kernel
theorem dL_law_421 : decode cL_law 421 = .ok (.iaload, 1) := by decide +kernel
theorem dL_law_422 : decode cL_law 422 = .ok (.invokevirtual 63, 3) := by decide +kernel
theorem dL_law_425 : decode cL_law 425 = .ok (.if_icmp .eq 331, 3) := by decide +kernel
theorem dL_law_428 : decode cL_law 428 = .ok (.iconst 0, 1) := by decide +kernel
theorem dL_law_429 : decode cL_law 429 = .ok (.ireturn, 1) := by decide +kernel
theorem dL_law_430 : decode cL_law 430 = .ok (.aload_n 1, 1) := by decide +kernel
theorem dL_law_431 : decode cL_law 431 = .ok (.aload_n 0, 1) := by decide +kernel
theorem dL_law_432 : decode cL_law 432 = .ok (.iload_n 3, 1) := by decide +kernel
theorem dL_law_433 : decode cL_law 433 = .ok (.iconst 1, 1) := by decide +kernel
theorem dL_law_434 : decode cL_law 434 = .ok (.iadd, 1) := by decide +kernel
theorem dL_law_435 : decode cL_law 435 = .ok (.iaload, 1) := by decide +kernel
theorem dL_law_436 : decode cL_law 436 = .ok (.invokevirtual 64, 3) := by decide +kernel
theorem dL_law_439 : decode cL_law 439 = .ok (.aload_n 2, 1) := by decide +kernel
theorem dL_law_440 : decode cL_law 440 = .ok (.aload_n 0, 1) := by decide +kernel
theorem dL_law_441 : decode cL_law 441 = .ok (.iload_n 3, 1) := by decide +kernel
theorem dL_law_442 : decode cL_law 442 = .ok (.iconst 1, 1) := by decide +kernel
theorem dL_law_443 : decode cL_law 443 = .ok (.iadd, 1) := by decide +kernel
theorem dL_law_444 : decode cL_law 444 = .ok (.iaload, 1) := by decide +kernel
theorem dL_law_445 : decode cL_law 445 = .ok (.invokevirtual 67, 3) := by decide +kernel
theorem dL_law_448 : decode cL_law 448 = .ok (.if_icmp .eq 308, 3) := by decide +kernel
theorem dL_law_451 : decode cL_law 451 = .ok (.iconst 0, 1) := by decide +kernel
theorem dL_law_452 : decode cL_law 452 = .ok (.ireturn, 1) := by decide +kernel
theorem dL_law_453 : decode cL_law 453 = .ok (.aload_n 1, 1) := by decide +kernel
theorem dL_law_454 : decode cL_law 454 = .ok (.aload_n 0, 1) := by decide +kernel
theorem dL_law_455 : decode cL_law 455 = .ok (.iload_n 3, 1) := by decide +kernel
theorem dL_law_456 : decode cL_law 456 = .ok (.iconst 1, 1) := by decide +kernel
theorem dL_law_457 : decode cL_law 457 = .ok (.iadd, 1) := by decide +kernel
theorem dL_law_458 : decode cL_law 458 = .ok (.iaload, 1) := by decide +kernel
theorem dL_law_459 : decode cL_law 459 = .ok (.invokevirtual 68, 3) := by decide +kernel
theorem dL_law_462 : decode cL_law 462 = .ok (.aload_n 2, 1) := by decide +kernel
theorem dL_law_463 : decode cL_law 463 = .ok (.aload_n 0, 1) := by decide +kernel
theorem dL_law_464 : decode cL_law 464 = .ok (.iload_n 3, 1) := by decide +kernel
theorem dL_law_465 : decode cL_law 465 = .ok (.iconst 1, 1) := by decide +kernel
theorem dL_law_466 : decode cL_law 466 = .ok (.iadd, 1) := by decide +kernel
theorem dL_law_467 : decode cL_law 467 = .ok (.iaload, 1) := by decide +kernel
theorem dL_law_468 : decode cL_law 468 = .ok (.invokevirtual 71, 3) := by decide +kernel
theorem dL_law_471 : decode cL_law 471 = .ok (.if_icmp .eq 285, 3) := by decide +kernel
theorem dL_law_474 : decode cL_law 474 = .ok (.iconst 0, 1) := by decide +kernel
theorem dL_law_475 : decode cL_law 475 = .ok (.ireturn, 1) := by decide +kernel
theorem dL_law_476 : decode cL_law 476 = .ok (.aload_n 1, 1) := by decide +kernel
theorem dL_law_477 : decode cL_law 477 = .ok (.aload_n 0, 1) := by decide +kernel
theorem dL_law_478 : decode cL_law 478 = .ok (.iload_n 3, 1) := by decide +kernel
theorem dL_law_479 : decode cL_law 479 = .ok (.iconst 1, 1) := by decide +kernel
theorem dL_law_480 : decode cL_law 480 = .ok (.iadd, 1) := by decide +kernel
theorem dL_law_481 : decode cL_law 481 = .ok (.iaload, 1) := by decide +kernel
theorem dL_law_482 : decode cL_law 482 = .ok (.aload_n 0, 1) := by decide +kernel
theorem dL_law_483 : decode cL_law 483 = .ok (.iload_n 3, 1) := by decide +kernel
theorem dL_law_484 : decode cL_law 484 = .ok (.iconst 2, 1) := by decide +kernel
theorem dL_law_485 : decode cL_law 485 = .ok (.iadd, 1) := by decide +kernel
theorem dL_law_486 : decode cL_law 486 = .ok (.iaload, 1) := by decide +kernel
theorem dL_law_487 : decode cL_law 487 = .ok (.invokevirtual 72, 3) := by decide +kernel
theorem dL_law_490 : decode cL_law 490 = .ok (.aload_n 2, 1) := by decide +kernel
theorem dL_law_491 : decode cL_law 491 = .ok (.aload_n 0, 1) := by decide +kernel
theorem dL_law_492 : decode cL_law 492 = .ok (.iload_n 3, 1) := by decide +kernel
theorem dL_law_493 : decode cL_law 493 = .ok (.iconst 1, 1) := by decide +kernel
theorem dL_law_494 : decode cL_law 494 = .ok (.iadd, 1) := by decide +kernel
theorem dL_law_495 : decode cL_law 495 = .ok (.iaload, 1) := by decide +kernel
theorem dL_law_496 : decode cL_law 496 = .ok (.aload_n 0, 1) := by decide +kernel
theorem dL_law_497 : decode cL_law 497 = .ok (.iload_n 3, 1) := by decide +kernel
theorem dL_law_498 : decode cL_law 498 = .ok (.iconst 2, 1) := by decide +kernel
theorem dL_law_499 : decode cL_law 499 = .ok (.iadd, 1) := by decide +kernel
theorem dL_law_500 : decode cL_law 500 = .ok (.iaload, 1) := by decide +kernel
theorem dL_law_501 : decode cL_law 501 = .ok (.invokevirtual 75, 3) := by decide +kernel
theorem dL_law_504 : decode cL_law 504 = .ok (.if_icmp .eq 252, 3) := by decide +kernel
theorem dL_law_507 : decode cL_law 507 = .ok (.iconst 0, 1) := by decide +kernel
theorem dL_law_508 : decode cL_law 508 = .ok (.ireturn, 1) := by decide +kernel
theorem dL_law_509 : decode cL_law 509 = .ok (.aload_n 1, 1) := by decide +kernel
theorem dL_law_510 : decode cL_law 510 = .ok (.aload_n 0, 1) := by decide +kernel
theorem dL_law_511 : decode cL_law 511 = .ok (.iload_n 3, 1) := by decide +kernel
theorem dL_law_512 : decode cL_law 512 = .ok (.iconst 1, 1) := by decide +kernel
theorem dL_law_513 : decode cL_law 513 = .ok (.iadd, 1) := by decide +kernel
theorem dL_law_514 : decode cL_law 514 = .ok (.iaload, 1) := by decide +kernel
theorem dL_law_515 : decode cL_law 515 = .ok (.aload_n 0, 1) := by decide +kernel
theorem dL_law_516 : decode cL_law 516 = .ok (.iload_n 3, 1) := by decide +kernel
theorem dL_law_517 : decode cL_law 517 = .ok (.iconst 2, 1) := by decide +kernel
theorem dL_law_518 : decode cL_law 518 = .ok (.iadd, 1) := by decide +kernel
theorem dL_law_519 : decode cL_law 519 = .ok (.iaload, 1) := by decide +kernel
theorem dL_law_520 : decode cL_law 520 = .ok (.invokevirtual 76, 3) := by decide +kernel
theorem dL_law_523 : decode cL_law 523 = .ok (.aload_n 2, 1) := by decide +kernel
theorem dL_law_524 : decode cL_law 524 = .ok (.aload_n 0, 1) := by decide +kernel
theorem dL_law_525 : decode cL_law 525 = .ok (.iload_n 3, 1) := by decide +kernel
theorem dL_law_526 : decode cL_law 526 = .ok (.iconst 1, 1) := by decide +kernel
theorem dL_law_527 : decode cL_law 527 = .ok (.iadd, 1) := by decide +kernel
theorem dL_law_528 : decode cL_law 528 = .ok (.iaload, 1) := by decide +kernel
theorem dL_law_529 : decode cL_law 529 = .ok (.aload_n 0, 1) := by decide +kernel
theorem dL_law_530 : decode cL_law 530 = .ok (.iload_n 3, 1) := by decide +kernel
theorem dL_law_531 : decode cL_law 531 = .ok (.iconst 2, 1) := by decide +kernel
theorem dL_law_532 : decode cL_law 532 = .ok (.iadd, 1) := by decide +kernel
theorem dL_law_533 : decode cL_law 533 = .ok (.iaload, 1) := by decide +kernel
theorem dL_law_534 : decode cL_law 534 = .ok (.invokevirtual 79, 3) := by decide +kernel
theorem dL_law_537 : decode cL_law 537 = .ok (.if_icmp .eq 219, 3) := by decide +kernel
theorem dL_law_540 : decode cL_law 540 = .ok (.iconst 0, 1) := by decide +kernel
theorem dL_law_541 : decode cL_law 541 = .ok (.ireturn, 1) := by decide +kernel
theorem dL_law_542 : decode cL_law 542 = .ok (.aload_n 1, 1) := by decide +kernel
theorem dL_law_543 : decode cL_law 543 = .ok (.aload_n 0, 1) := by decide +kernel
theorem dL_law_544 : decode cL_law 544 = .ok (.iload_n 3, 1) := by decide +kernel
theorem dL_law_545 : decode cL_law 545 = .ok (.iconst 1, 1) := by decide +kernel
theorem dL_law_546 : decode cL_law 546 = .ok (.iadd, 1) := by decide +kernel
theorem dL_law_547 : decode cL_law 547 = .ok (.iaload, 1) := by decide +kernel
theorem dL_law_548 : decode cL_law 548 = .ok (.aload_n 0, 1) := by decide +kernel
theorem dL_law_549 : decode cL_law 549 = .ok (.iload_n 3, 1) := by decide +kernel
theorem dL_law_550 : decode cL_law 550 = .ok (.iconst 2, 1) := by decide +kernel
theorem dL_law_551 : decode cL_law 551 = .ok (.iadd, 1) := by decide +kernel
theorem dL_law_552 : decode cL_law 552 = .ok (.iaload, 1) := by decide +kernel
theorem dL_law_553 : decode cL_law 553 = .ok (.aload_n 0, 1) := by decide +kernel
theorem dL_law_554 : decode cL_law 554 = .ok (.iload_n 3, 1) := by decide +kernel
theorem dL_law_555 : decode cL_law 555 = .ok (.iconst 3, 1) := by decide +kernel
theorem dL_law_556 : decode cL_law 556 = .ok (.iadd, 1) := by decide +kernel
theorem dL_law_557 : decode cL_law 557 = .ok (.iaload, 1) := by decide +kernel
theorem dL_law_558 : decode cL_law 558 = .ok (.aload_n 0, 1) := by decide +kernel
theorem dL_law_559 : decode cL_law 559 = .ok (.iload_n 3, 1) := by decide +kernel
theorem dL_law_560 : decode cL_law 560 = .ok (.iconst 4, 1) := by decide +kernel
theorem dL_law_561 : decode cL_law 561 = .ok (.iadd, 1) := by decide +kernel
theorem dL_law_562 : decode cL_law 562 = .ok (.iaload, 1) := by decide +kernel
theorem dL_law_563 : decode cL_law 563 = .ok (.invokevirtual 80, 3) := by decide +kernel
theorem dL_law_566 : decode cL_law 566 = .ok (.aload_n 2, 1) := by decide +kernel
theorem dL_law_567 : decode cL_law 567 = .ok (.aload_n 0, 1) := by decide +kernel
theorem dL_law_568 : decode cL_law 568 = .ok (.iload_n 3, 1) := by decide +kernel
theorem dL_law_569 : decode cL_law 569 = .ok (.iconst 1, 1) := by decide +kernel
theorem dL_law_570 : decode cL_law 570 = .ok (.iadd, 1) := by decide +kernel
theorem dL_law_571 : decode cL_law 571 = .ok (.iaload, 1) := by decide +kernel
theorem dL_law_572 : decode cL_law 572 = .ok (.aload_n 0, 1) := by decide +kernel
theorem dL_law_573 : decode cL_law 573 = .ok (.iload_n 3, 1) := by decide +kernel
theorem dL_law_574 : decode cL_law 574 = .ok (.iconst 2, 1) := by decide +kernel
theorem dL_law_575 : decode cL_law 575 = .ok (.iadd, 1) := by decide +kernel
theorem dL_law_576 : decode cL_law 576 = .ok (.iaload, 1) := by decide +kernel
theorem dL_law_577 : decode cL_law 577 = .ok (.aload_n 0, 1) := by decide +kernel
theorem dL_law_578 : decode cL_law 578 = .ok (.iload_n 3, 1) := by decide +kernel
theorem dL_law_579 : decode cL_law 579 = .ok (.iconst 3, 1) := by decide +kernel
theorem dL_law_580 : decode cL_law 580 = .ok (.iadd, 1) := by decide +kernel
theorem dL_law_581 : decode cL_law 581 = .ok (.iaload, 1) := by decide +kernel
theorem dL_law_582 : decode cL_law 582 = .ok (.aload_n 0, 1) := by decide +kernel
theorem dL_law_583 : decode cL_law 583 = .ok (.iload_n 3, 1) := by decide +kernel
theorem dL_law_584 : decode cL_law 584 = .ok (.iconst 4, 1) := by decide +kernel
theorem dL_law_585 : decode cL_law 585 = .ok (.iadd, 1) := by decide +kernel
theorem dL_law_586 : decode cL_law 586 = .ok (.iaload, 1) := by decide +kernel
theorem dL_law_587 : decode cL_law 587 = .ok (.invokevirtual 84, 3) := by decide +kernel
theorem dL_law_590 : decode cL_law 590 = .ok (.if_icmp .eq 166, 3) := by decide +kernel
theorem dL_law_593 : decode cL_law 593 = .ok (.iconst 0, 1) := by decide +kernel
theorem dL_law_594 : decode cL_law 594 = .ok (.ireturn, 1) := by decide +kernel
theorem dL_law_595 : decode cL_law 595 = .ok (.aload_n 1, 1) := by decide +kernel
theorem dL_law_596 : decode cL_law 596 = .ok (.aload_n 0, 1) := by decide +kernel
theorem dL_law_597 : decode cL_law 597 = .ok (.iload_n 3, 1) := by decide +kernel
theorem dL_law_598 : decode cL_law 598 = .ok (.iconst 1, 1) := by decide +kernel
theorem dL_law_599 : decode cL_law 599 = .ok (.iadd, 1) := by decide +kernel
theorem dL_law_600 : decode cL_law 600 = .ok (.iaload, 1) := by decide +kernel
theorem dL_law_601 : decode cL_law 601 = .ok (.aload_n 0, 1) := by decide +kernel
theorem dL_law_602 : decode cL_law 602 = .ok (.iload_n 3, 1) := by decide +kernel
theorem dL_law_603 : decode cL_law 603 = .ok (.iconst 2, 1) := by decide +kernel
theorem dL_law_604 : decode cL_law 604 = .ok (.iadd, 1) := by decide +kernel
theorem dL_law_605 : decode cL_law 605 = .ok (.iaload, 1) := by decide +kernel
theorem dL_law_606 : decode cL_law 606 = .ok (.invokevirtual 85, 3) := by decide +kernel
theorem dL_law_609 : decode cL_law 609 = .ok (.aload_n 2, 1) := by decide +kernel
theorem dL_law_610 : decode cL_law 610 = .ok (.aload_n 0, 1) := by decide +kernel
theorem dL_law_611 : decode cL_law 611 = .ok (.iload_n 3, 1) := by decide +kernel
theorem dL_law_612 : decode cL_law 612 = .ok (.iconst 1, 1) := by decide +kernel
theorem dL_law_613 : decode cL_law 613 = .ok (.iadd, 1) := by decide +kernel
theorem dL_law_614 : decode cL_law 614 = .ok (.iaload, 1) := by decide +kernel
theorem dL_law_615 : decode cL_law 615 = .ok (.aload_n 0, 1) := by decide +kernel
theorem dL_law_616 : decode cL_law 616 = .ok (.iload_n 3, 1) := by decide +kernel
theorem dL_law_617 : decode cL_law 617 = .ok (.iconst 2, 1) := by decide +kernel
theorem dL_law_618 : decode cL_law 618 = .ok (.iadd, 1) := by decide +kernel
theorem dL_law_619 : decode cL_law 619 = .ok (.iaload, 1) := by decide +kernel
theorem dL_law_620 : decode cL_law 620 = .ok (.invokevirtual 88, 3) := by decide +kernel
theorem dL_law_623 : decode cL_law 623 = .ok (.if_icmp .eq 133, 3) := by decide +kernel
theorem dL_law_626 : decode cL_law 626 = .ok (.iconst 0, 1) := by decide +kernel
theorem dL_law_627 : decode cL_law 627 = .ok (.ireturn, 1) := by decide +kernel
theorem dL_law_628 : decode cL_law 628 = .ok (.aload_n 1, 1) := by decide +kernel
theorem dL_law_629 : decode cL_law 629 = .ok (.invokevirtual 89, 3) := by decide +kernel
theorem dL_law_632 : decode cL_law 632 = .ok (.aload_n 2, 1) := by decide +kernel
theorem dL_law_633 : decode cL_law 633 = .ok (.invokevirtual 92, 3) := by decide +kernel
theorem dL_law_636 : decode cL_law 636 = .ok (.if_icmp .eq 120, 3) := by decide +kernel
theorem dL_law_639 : decode cL_law 639 = .ok (.iconst 0, 1) := by decide +kernel
theorem dL_law_640 : decode cL_law 640 = .ok (.ireturn, 1) := by decide +kernel
theorem dL_law_641 : decode cL_law 641 = .ok (.aload_n 1, 1) := by decide +kernel
theorem dL_law_642 : decode cL_law 642 = .ok (.aload_n 0, 1) := by decide +kernel
theorem dL_law_643 : decode cL_law 643 = .ok (.iload_n 3, 1) := by decide +kernel
theorem dL_law_644 : decode cL_law 644 = .ok (.iconst 1, 1) := by decide +kernel
theorem dL_law_645 : decode cL_law 645 = .ok (.iadd, 1) := by decide +kernel
theorem dL_law_646 : decode cL_law 646 = .ok (.iaload, 1) := by decide +kernel
theorem dL_law_647 : decode cL_law 647 = .ok (.invokevirtual 93, 3) := by decide +kernel
theorem dL_law_650 : decode cL_law 650 = .ok (.aload_n 2, 1) := by decide +kernel
theorem dL_law_651 : decode cL_law 651 = .ok (.aload_n 0, 1) := by decide +kernel
theorem dL_law_652 : decode cL_law 652 = .ok (.iload_n 3, 1) := by decide +kernel
theorem dL_law_653 : decode cL_law 653 = .ok (.iconst 1, 1) := by decide +kernel
theorem dL_law_654 : decode cL_law 654 = .ok (.iadd, 1) := by decide +kernel
theorem dL_law_655 : decode cL_law 655 = .ok (.iaload, 1) := by decide +kernel
theorem dL_law_656 : decode cL_law 656 = .ok (.invokevirtual 96, 3) := by decide +kernel
theorem dL_law_659 : decode cL_law 659 = .ok (.if_icmp .eq 97, 3) := by decide +kernel
theorem dL_law_662 : decode cL_law 662 = .ok (.iconst 0, 1) := by decide +kernel
theorem dL_law_663 : decode cL_law 663 = .ok (.ireturn, 1) := by decide +kernel
theorem dL_law_664 : decode cL_law 664 = .ok (.aload_n 1, 1) := by decide +kernel
theorem dL_law_665 : decode cL_law 665 = .ok (.aload_n 0, 1) := by decide +kernel
theorem dL_law_666 : decode cL_law 666 = .ok (.iload_n 3, 1) := by decide +kernel
theorem dL_law_667 : decode cL_law 667 = .ok (.iconst 1, 1) := by decide +kernel
theorem dL_law_668 : decode cL_law 668 = .ok (.iadd, 1) := by decide +kernel
theorem dL_law_669 : decode cL_law 669 = .ok (.iaload, 1) := by decide +kernel
theorem dL_law_670 : decode cL_law 670 = .ok (.invokevirtual 97, 3) := by decide +kernel
theorem dL_law_673 : decode cL_law 673 = .ok (.aload_n 2, 1) := by decide +kernel
theorem dL_law_674 : decode cL_law 674 = .ok (.aload_n 0, 1) := by decide +kernel
theorem dL_law_675 : decode cL_law 675 = .ok (.iload_n 3, 1) := by decide +kernel
theorem dL_law_676 : decode cL_law 676 = .ok (.iconst 1, 1) := by decide +kernel
theorem dL_law_677 : decode cL_law 677 = .ok (.iadd, 1) := by decide +kernel
theorem dL_law_678 : decode cL_law 678 = .ok (.iaload, 1) := by decide +kernel
theorem dL_law_679 : decode cL_law 679 = .ok (.invokevirtual 100, 3) := by decide +kernel
theorem dL_law_682 : decode cL_law 682 = .ok (.if_icmp .eq 74, 3) := by decide +kernel
theorem dL_law_685 : decode cL_law 685 = .ok (.iconst 0, 1) := by decide +kernel
theorem dL_law_686 : decode cL_law 686 = .ok (.ireturn, 1) := by decide +kernel
theorem dL_law_687 : decode cL_law 687 = .ok (.aload_n 1, 1) := by decide +kernel
theorem dL_law_688 : decode cL_law 688 = .ok (.aload_n 0, 1) := by decide +kernel
theorem dL_law_689 : decode cL_law 689 = .ok (.iload_n 3, 1) := by decide +kernel
theorem dL_law_690 : decode cL_law 690 = .ok (.iconst 1, 1) := by decide +kernel
theorem dL_law_691 : decode cL_law 691 = .ok (.iadd, 1) := by decide +kernel
theorem dL_law_692 : decode cL_law 692 = .ok (.iaload, 1) := by decide +kernel
theorem dL_law_693 : decode cL_law 693 = .ok (.invokevirtual 101, 3) := by decide +kernel
theorem dL_law_696 : decode cL_law 696 = .ok (.aload_n 2, 1) := by decide +kernel
theorem dL_law_697 : decode cL_law 697 = .ok (.aload_n 0, 1) := by decide +kernel
theorem dL_law_698 : decode cL_law 698 = .ok (.iload_n 3, 1) := by decide +kernel
theorem dL_law_699 : decode cL_law 699 = .ok (.iconst 1, 1) := by decide +kernel
theorem dL_law_700 : decode cL_law 700 = .ok (.iadd, 1) := by decide +kernel
theorem dL_law_701 : decode cL_law 701 = .ok (.iaload, 1) := by decide +kernel
theorem dL_law_702 : decode cL_law 702 = .ok (.invokevirtual 104, 3) := by decide +kernel
theorem dL_law_705 : decode cL_law 705 = .ok (.if_icmp .eq 51, 3) := by decide +kernel
theorem dL_law_708 : decode cL_law 708 = .ok (.iconst 0, 1) := by decide +kernel
theorem dL_law_709 : decode cL_law 709 = .ok (.ireturn, 1) := by decide +kernel
theorem dL_law_710 : decode cL_law 710 = .ok (.aload_n 1, 1) := by decide +kernel
theorem dL_law_711 : decode cL_law 711 = .ok (.aload_n 0, 1) := by decide +kernel
theorem dL_law_712 : decode cL_law 712 = .ok (.iload_n 3, 1) := by decide +kernel
theorem dL_law_713 : decode cL_law 713 = .ok (.iconst 1, 1) := by decide +kernel
theorem dL_law_714 : decode cL_law 714 = .ok (.iadd, 1) := by decide +kernel
theorem dL_law_715 : decode cL_law 715 = .ok (.iaload, 1) := by decide +kernel
theorem dL_law_716 : decode cL_law 716 = .ok (.invokevirtual 105, 3) := by decide +kernel
theorem dL_law_719 : decode cL_law 719 = .ok (.aload_n 2, 1) := by decide +kernel
theorem dL_law_720 : decode cL_law 720 = .ok (.aload_n 0, 1) := by decide +kernel
theorem dL_law_721 : decode cL_law 721 = .ok (.iload_n 3, 1) := by decide +kernel
theorem dL_law_722 : decode cL_law 722 = .ok (.iconst 1, 1) := by decide +kernel
theorem dL_law_723 : decode cL_law 723 = .ok (.iadd, 1) := by decide +kernel
theorem dL_law_724 : decode cL_law 724 = .ok (.iaload, 1) := by decide +kernel
theorem dL_law_725 : decode cL_law 725 = .ok (.invokevirtual 108, 3) := by decide +kernel
theorem dL_law_728 : decode cL_law 728 = .ok (.if_icmp .eq 28, 3) := by decide +kernel
theorem dL_law_731 : decode cL_law 731 = .ok (.iconst 0, 1) := by decide +kernel
theorem dL_law_732 : decode cL_law 732 = .ok (.ireturn, 1) := by decide +kernel
theorem dL_law_733 : decode cL_law 733 = .ok (.aload_n 1, 1) := by decide +kernel
theorem dL_law_734 : decode cL_law 734 = .ok (.aload_n 0, 1) := by decide +kernel
theorem dL_law_735 : decode cL_law 735 = .ok (.iload_n 3, 1) := by decide +kernel
theorem dL_law_736 : decode cL_law 736 = .ok (.iconst 1, 1) := by decide +kernel
theorem dL_law_737 : decode cL_law 737 = .ok (.iadd, 1) := by decide +kernel
theorem dL_law_738 : decode cL_law 738 = .ok (.iaload, 1) := by decide +kernel
theorem dL_law_739 : decode cL_law 739 = .ok (.invokevirtual 109, 3) := by decide +kernel
theorem dL_law_742 : decode cL_law 742 = .ok (.aload_n 2, 1) := by decide +kernel
theorem dL_law_743 : decode cL_law 743 = .ok (.aload_n 0, 1) := by decide +kernel
theorem dL_law_744 : decode cL_law 744 = .ok (.iload_n 3, 1) := by decide +kernel
theorem dL_law_745 : decode cL_law 745 = .ok (.iconst 1, 1) := by decide +kernel
theorem dL_law_746 : decode cL_law 746 = .ok (.iadd, 1) := by decide +kernel
theorem dL_law_747 : decode cL_law 747 = .ok (.iaload, 1) := by decide +kernel
theorem dL_law_748 : decode cL_law 748 = .ok (.invokevirtual 112, 3) := by decide +kernel
theorem dL_law_751 : decode cL_law 751 = .ok (.if_icmp .eq 5, 3) := by decide +kernel
theorem dL_law_754 : decode cL_law 754 = .ok (.iconst 0, 1) := by decide +kernel
theorem dL_law_755 : decode cL_law 755 = .ok (.ireturn, 1) := by decide +kernel
theorem dL_law_756 : decode cL_law 756 = .ok (.iinc 3 5, 3) := by decide +kernel
theorem dL_law_759 : decode cL_law 759 = .ok (.goto (-741), 3) := by decide +kernel
theorem dL_law_762 : decode cL_law 762 = .ok (.iconst 1, 1) := by decide +kernel
theorem dL_law_763 : decode cL_law 763 = .ok (.ireturn, 1) := by decide +kernel
