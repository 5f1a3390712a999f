theorem dX6_studyName_52 : decode cX6_studyName 52 = .ok (.getfield 15, 3) := by decide +kernel
theorem dX6_studyName_55 : decode cX6_studyName 55 = .ok (.iload_n 2, 1) := by decide +kernel
theorem dX6_studyName_56 : decode cX6_studyName 56 = .ok (.iaload, 1) := by decide +kernel
theorem dX6_studyName_57 : decode cX6_studyName 57 = .ok (.iastore, 1) := by decide +kernel
theorem dX6_studyName_58 : decode cX6_studyName 58 = .ok (.aload_n 0, 1) := by decide +kernel
theorem dX6_studyName_59 : decode cX6_studyName 59 = .ok (.getfield 18, 3) := by decide +kernel
theorem dX6_studyName_62 : decode cX6_studyName 62 = .ok (.iload_n 1, 1) := by decide +kernel
theorem dX6_studyName_63 : decode cX6_studyName 63 = .ok (.aload_n 0, 1) := by decide +kernel
theorem dX6_studyName_64 : decode cX6_studyName 64 = .ok (.getfield 18, 3) := by decide +kernel
theorem dX6_studyName_67 : decode cX6_studyName 67 = .ok (.iload_n 2, 1) := by decide +kernel
theorem dX6_studyName_68 : decode cX6_studyName 68 = .ok (.iaload, 1) := by decide +kernel
theorem dX6_studyName_69 : decode cX6_studyName 69 = .ok (.iastore, 1) := by decide +kernel
theorem dX6_studyName_70 : decode cX6_studyName 70 = .ok (.aload_n 0, 1) := by decide +kernel
theorem dX6_studyName_71 : decode cX6_studyName 71 = .ok (.getfield 21, 3) := by decide +kernel
theorem dX6_studyName_74 : decode cX6_studyName 74 = .ok (.iload_n 1, 1) := by decide +kernel
theorem dX6_studyName_75 : decode cX6_studyName 75 = .ok (.aload_n 0, 1) := by decide +kernel
theorem dX6_studyName_76 : decode cX6_studyName 76 = .ok (.getfield 21, 3) := by decide +kernel
theorem dX6_studyName_79 : decode cX6_studyName 79 = .ok (.iload_n 2, 1) := by decide +kernel
theorem dX6_studyName_80 : decode cX6_studyName 80 = .ok (.iaload, 1) := by decide +kernel
theorem dX6_studyName_81 : decode cX6_studyName 81 = .ok (.iconst 1, 1) := by decide +kernel
theorem dX6_studyName_82 : decode cX6_studyName 82 = .ok (.iadd, 1) := by decide +kernel
theorem dX6_studyName_83 : decode cX6_studyName 83 = .ok (.iastore, 1) := by decide +kernel
theorem dX6_studyName_84 : decode cX6_studyName 84 = .ok (.goto 63, 3) := by decide +kernel
theorem dX6_studyName_87 : decode cX6_studyName 87 = .ok (.aload_n 0, 1) := by decide +kernel
theorem dX6_studyName_88 : decode cX6_studyName 88 = .ok (.getfield 15, 3) := by decide +kernel
theorem dX6_studyName_91 : decode cX6_studyName 91 = .ok (.iload_n 2, 1) := by decide +kernel
theorem dX6_studyName_92 : decode cX6_studyName 92 = .ok (.iaload, 1) := by decide +kernel
theorem dX6_studyName_93 : decode cX6_studyName 93 = .ok (.aload_n 0, 1) := by decide +kernel
theorem dX6_studyName_94 : decode cX6_studyName 94 = .ok (.getfield 15, 3) := by decide +kernel
theorem dX6_studyName_97 : decode cX6_studyName 97 = .ok (.iload_n 1, 1) := by decide +kernel
theorem dX6_studyName_98 : decode cX6_studyName 98 = .ok (.iaload, 1) := by decide +kernel
theorem dX6_studyName_99 : decode cX6_studyName 99 = .ok (.if_icmp .ne 48, 3) := by decide +kernel
theorem dX6_studyName_102 : decode cX6_studyName 102 = .ok (.aload_n 0, 1) := by decide +kernel
theorem dX6_studyName_103 : decode cX6_studyName 103 = .ok (.getfield 18, 3) := by decide +kernel
theorem dX6_studyName_106 : decode cX6_studyName 106 = .ok (.iload_n 1, 1) := by decide +kernel
theorem dX6_studyName_107 : decode cX6_studyName 107 = .ok (.aload_n 0, 1) := by decide +kernel
theorem dX6_studyName_108 : decode cX6_studyName 108 = .ok (.getfield 18, 3) := by decide +kernel
theorem dX6_studyName_111 : decode cX6_studyName 111 = .ok (.iload_n 1, 1) := by decide +kernel
theorem dX6_studyName_112 : decode cX6_studyName 112 = .ok (.iaload, 1) := by decide +kernel
theorem dX6_studyName_113 : decode cX6_studyName 113 = .ok (.aload_n 0, 1) := by decide +kernel
theorem dX6_studyName_114 : decode cX6_studyName 114 = .ok (.getfield 18, 3) := by decide +kernel
theorem dX6_studyName_117 : decode cX6_studyName 117 = .ok (.iload_n 2, 1) := by decide +kernel
theorem dX6_studyName_118 : decode cX6_studyName 118 = .ok (.iaload, 1) := by decide +kernel
theorem dX6_studyName_119 : decode cX6_studyName 119 = .ok (.iadd, 1) := by decide +kernel
theorem dX6_studyName_120 : decode cX6_studyName 120 = .ok (.ldc 69, 2) := by decide +kernel
theorem dX6_studyName_122 : decode cX6_studyName 122 = .ok (.irem, 1) := by decide +kernel
theorem dX6_studyName_123 : decode cX6_studyName 123 = .ok (.iastore, 1) := by decide +kernel
theorem dX6_studyName_124 : decode cX6_studyName 124 = .ok (.aload_n 0, 1) := by decide +kernel
theorem dX6_studyName_125 : decode cX6_studyName 125 = .ok (.getfield 21, 3) := by decide +kernel
theorem dX6_studyName_128 : decode cX6_studyName 128 = .ok (.iload_n 1, 1) := by decide +kernel
theorem dX6_studyName_129 : decode cX6_studyName 129 = .ok (.aload_n 0, 1) := by decide +kernel
theorem dX6_studyName_130 : decode cX6_studyName 130 = .ok (.getfield 21, 3) := by decide +kernel
theorem dX6_studyName_133 : decode cX6_studyName 133 = .ok (.iload_n 1, 1) := by decide +kernel
theorem dX6_studyName_134 : decode cX6_studyName 134 = .ok (.iaload, 1) := by decide +kernel
theorem dX6_studyName_135 : decode cX6_studyName 135 = .ok (.aload_n 0, 1) := by decide +kernel
theorem dX6_studyName_136 : decode cX6_studyName 136 = .ok (.getfield 21, 3) := by decide +kernel
theorem dX6_studyName_139 : decode cX6_studyName 139 = .ok (.iload_n 2, 1) := by decide +kernel
theorem dX6_studyName_140 : decode cX6_studyName 140 = .ok (.iaload, 1) := by decide +kernel
theorem dX6_studyName_141 : decode cX6_studyName 141 = .ok (.iconst 1, 1) := by decide +kernel
theorem dX6_studyName_142 : decode cX6_studyName 142 = .ok (.iadd, 1) := by decide +kernel
theorem dX6_studyName_143 : decode cX6_studyName 143 = .ok (.invokestatic 37, 3) := by decide +kernel
theorem dX6_studyName_146 : decode cX6_studyName 146 = .ok (.iastore, 1) := by decide +kernel
theorem dX6_studyName_147 : decode cX6_studyName 147 = .ok (.return_, 1) := by decide +kernel
theorem dX6_layBest_0 : decode cX6_layBest 0 = .ok (.aload_n 0, 1) := by decide +kernel
theorem dX6_layBest_1 : decode cX6_layBest 1 = .ok (.getfield 29, 3) := by decide +kernel
theorem dX6_layBest_4 : decode cX6_layBest 4 = .ok (.invokevirtual 70, 3) := by decide +kernel
theorem dX6_layBest_7 : decode cX6_layBest 7 = .ok (.pop, 1) := by decide +kernel
theorem dX6_layBest_8 : decode cX6_layBest 8 = .ok (.iconst 0, 1) := by decide +kernel
theorem dX6_layBest_9 : decode cX6_layBest 9 = .ok (.istore_n 3, 1) := by decide +kernel
theorem dX6_layBest_10 : decode cX6_layBest 10 = .ok (.iconst 0, 1) := by decide +kernel
theorem dX6_layBest_11 : decode cX6_layBest 11 = .ok (.istore 4, 2) := by decide +kernel
theorem dX6_layBest_13 : decode cX6_layBest 13 = .ok (.iload 4, 2) := by decide +kernel
theorem dX6_layBest_15 : decode cX6_layBest 15 = .ok (.bipush 10, 2) := by decide +kernel
theorem dX6_layBest_17 : decode cX6_layBest 17 = .ok (.if_icmp .ge 71, 3) := by decide +kernel
theorem dX6_layBest_20 : decode cX6_layBest 20 = .ok (.iload_n 3, 1) := by decide +kernel
theorem dX6_layBest_21 : decode cX6_layBest 21 = .ok (.aload_n 2, 1) := by decide +kernel
theorem dX6_layBest_22 : decode cX6_layBest 22 = .ok (.invokevirtual 33, 3) := by decide +kernel
theorem dX6_layBest_25 : decode cX6_layBest 25 = .ok (.if_icmp .ge 63, 3) := by decide +kernel
theorem dX6_layBest_28 : decode cX6_layBest 28 = .ok (.aload_n 0, 1) := by decide +kernel
theorem dX6_layBest_29 : decode cX6_layBest 29 = .ok (.aload_n 1, 1) := by decide +kernel
theorem dX6_layBest_30 : decode cX6_layBest 30 = .ok (.aload_n 2, 1) := by decide +kernel
theorem dX6_layBest_31 : decode cX6_layBest 31 = .ok (.iload_n 3, 1) := by decide +kernel
theorem dX6_layBest_32 : decode cX6_layBest 32 = .ok (.invokevirtual 73, 3) := by decide +kernel
theorem dX6_layBest_35 : decode cX6_layBest 35 = .ok (.istore 5, 2) := by decide +kernel
theorem dX6_layBest_37 : decode cX6_layBest 37 = .ok (.iload 5, 2) := by decide +kernel
theorem dX6_layBest_39 : decode cX6_layBest 39 = .ok (.iconst (-1), 1) := by decide +kernel
theorem dX6_layBest_40 : decode cX6_layBest 40 = .ok (.if_icmp .ne 24, 3) := by decide +kernel
theorem dX6_layBest_43 : decode cX6_layBest 43 = .ok (.aload_n 0, 1) := by decide +kernel
theorem dX6_layBest_44 : decode cX6_layBest 44 = .ok (.getfield 29, 3) := by decide +kernel
theorem dX6_layBest_47 : decode cX6_layBest 47 = .ok (.bipush (-2), 2) := by decide +kernel
theorem dX6_layBest_49 : decode cX6_layBest 49 = .ok (.aload_n 2, 1) := by decide +kernel
theorem dX6_layBest_50 : decode cX6_layBest 50 = .ok (.iload_n 3, 1) := by decide +kernel
theorem dX6_layBest_51 : decode cX6_layBest 51 = .ok (.invokevirtual 77, 3) := by decide +kernel
theorem dX6_layBest_54 : decode cX6_layBest 54 = .ok (.isub, 1) := by decide +kernel
theorem dX6_layBest_55 : decode cX6_layBest 55 = .ok (.invokevirtual 80, 3) := by decide +kernel
theorem dX6_layBest_58 : decode cX6_layBest 58 = .ok (.iinc 3 1, 3) := by decide +kernel
theorem dX6_layBest_61 : decode cX6_layBest 61 = .ok (.goto 21, 3) := by decide +kernel
theorem dX6_layBest_64 : decode cX6_layBest 64 = .ok (.aload_n 0, 1) := by decide +kernel
theorem dX6_layBest_65 : decode cX6_layBest 65 = .ok (.getfield 29, 3) := by decide +kernel
theorem dX6_layBest_68 : decode cX6_layBest 68 = .ok (.iload 5, 2) := by decide +kernel
theorem dX6_layBest_70 : decode cX6_layBest 70 = .ok (.invokevirtual 80, 3) := by decide +kernel
theorem dX6_layBest_73 : decode cX6_layBest 73 = .ok (.iload_n 3, 1) := by decide +kernel
theorem dX6_layBest_74 : decode cX6_layBest 74 = .ok (.aload_n 1, 1) := by decide +kernel
theorem dX6_layBest_75 : decode cX6_layBest 75 = .ok (.iload 5, 2) := by decide +kernel
theorem dX6_layBest_77 : decode cX6_layBest 77 = .ok (.invokevirtual 53, 3) := by decide +kernel
theorem dX6_layBest_80 : decode cX6_layBest 80 = .ok (.iadd, 1) := by decide +kernel
theorem dX6_layBest_81 : decode cX6_layBest 81 = .ok (.istore_n 3, 1) := by decide +kernel
theorem dX6_layBest_82 : decode cX6_layBest 82 = .ok (.iinc 4 1, 3) := by decide +kernel
theorem dX6_layBest_85 : decode cX6_layBest 85 = .ok (.goto (-72), 3) := by decide +kernel
theorem dX6_layBest_88 : decode cX6_layBest 88 = .ok (.return_, 1) := by decide +kernel
theorem dX6_bestNameAt_0 : decode cX6_bestNameAt 0 = .ok (.iconst 0, 1) := by decide +kernel
theorem dX6_bestNameAt_1 : decode cX6_bestNameAt 1 = .ok (.istore 4, 2) := by decide +kernel
theorem dX6_bestNameAt_3 : decode cX6_bestNameAt 3 = .ok (.iload 4, 2) := by decide +kernel
theorem dX6_bestNameAt_5 : decode cX6_bestNameAt 5 = .ok (.aload_n 1, 1) := by decide +kernel
theorem dX6_bestNameAt_6 : decode cX6_bestNameAt 6 = .ok (.invokevirtual 46, 3) := by decide +kernel
theorem dX6_bestNameAt_9 : decode cX6_bestNameAt 9 = .ok (.if_icmp .ge 39, 3) := by decide +kernel
theorem dX6_bestNameAt_12 : decode cX6_bestNameAt 12 = .ok (.aload_n 1, 1) := by decide +kernel
theorem dX6_bestNameAt_13 : decode cX6_bestNameAt 13 = .ok (.iload 4, 2) := by decide +kernel
theorem dX6_bestNameAt_15 : decode cX6_bestNameAt 15 = .ok (.aload_n 2, 1) := by decide +kernel
theorem dX6_bestNameAt_16 : decode cX6_bestNameAt 16 = .ok (.iload_n 3, 1) := by decide +kernel
theorem dX6_bestNameAt_17 : decode cX6_bestNameAt 17 = .ok (.invokevirtual 49, 3) := by decide +kernel
theorem dX6_bestNameAt_20 : decode cX6_bestNameAt 20 = .ok (.ifCond .eq 22, 3) := by decide +kernel
theorem dX6_bestNameAt_23 : decode cX6_bestNameAt 23 = .ok (.aload_n 0, 1) := by decide +kernel
theorem dX6_bestNameAt_24 : decode cX6_bestNameAt 24 = .ok (.iload_n 3, 1) := by decide +kernel
theorem dX6_bestNameAt_25 : decode cX6_bestNameAt 25 = .ok (.iload_n 3, 1) := by decide +kernel
theorem dX6_bestNameAt_26 : decode cX6_bestNameAt 26 = .ok (.aload_n 1, 1) := by decide +kernel
theorem dX6_bestNameAt_27 : decode cX6_bestNameAt 27 = .ok (.iload 4, 2) := by decide +kernel
theorem dX6_bestNameAt_29 : decode cX6_bestNameAt 29 = .ok (.invokevirtual 53, 3) := by decide +kernel
theorem dX6_bestNameAt_32 : decode cX6_bestNameAt 32 = .ok (.iadd, 1) := by decide +kernel
theorem dX6_bestNameAt_33 : decode cX6_bestNameAt 33 = .ok (.invokevirtual 83, 3) := by decide +kernel
theorem dX6_bestNameAt_36 : decode cX6_bestNameAt 36 = .ok (.ifCond .eq 6, 3) := by decide +kernel
theorem dX6_bestNameAt_39 : decode cX6_bestNameAt 39 = .ok (.iload 4, 2) := by decide +kernel
theorem dX6_bestNameAt_41 : decode cX6_bestNameAt 41 = .ok (.ireturn, 1) := by decide +kernel
theorem dX6_bestNameAt_42 : decode cX6_bestNameAt 42 = .ok (.iinc 4 1, 3) := by decide +kernel
theorem dX6_bestNameAt_45 : decode cX6_bestNameAt 45 = .ok (.goto (-42), 3) := by decide +kernel
theorem dX6_bestNameAt_48 : decode cX6_bestNameAt 48 = .ok (.iconst (-1), 1) := by decide +kernel
theorem dX6_bestNameAt_49 : decode cX6_bestNameAt 49 = .ok (.ireturn, 1) := by decide +kernel
theorem dX6_keepsBest_0 : decode cX6_keepsBest 0 = .ok (.iload_n 1, 1) := by decide +kernel
theorem dX6_keepsBest_1 : decode cX6_keepsBest 1 = .ok (.iload_n 2, 1) := by decide +kernel
theorem dX6_keepsBest_2 : decode cX6_keepsBest 2 = .ok (.invokestatic 65, 3) := by decide +kernel
theorem dX6_keepsBest_5 : decode cX6_keepsBest 5 = .ok (.ifCond .eq 39, 3) := by decide +kernel
theorem dX6_keepsBest_8 : decode cX6_keepsBest 8 = .ok (.aload_n 0, 1) := by decide +kernel
theorem dX6_keepsBest_9 : decode cX6_keepsBest 9 = .ok (.getfield 15, 3) := by decide +kernel
theorem dX6_keepsBest_12 : decode cX6_keepsBest 12 = .ok (.iload_n 2, 1) := by decide +kernel
theorem dX6_keepsBest_13 : decode cX6_keepsBest 13 = .ok (.iaload, 1) := by decide +kernel
theorem dX6_keepsBest_14 : decode cX6_keepsBest 14 = .ok (.aload_n 0, 1) := by decide +kernel
theorem dX6_keepsBest_15 : decode cX6_keepsBest 15 = .ok (.getfield 15, 3) := by decide +kernel
theorem dX6_keepsBest_18 : decode cX6_keepsBest 18 = .ok (.iload_n 1, 1) := by decide +kernel
theorem dX6_keepsBest_19 : decode cX6_keepsBest 19 = .ok (.iaload, 1) := by decide +kernel
theorem dX6_keepsBest_20 : decode cX6_keepsBest 20 = .ok (.if_icmp .ne 24, 3) := by decide +kernel
theorem dX6_keepsBest_23 : decode cX6_keepsBest 23 = .ok (.aload_n 0, 1) := by decide +kernel
theorem dX6_keepsBest_24 : decode cX6_keepsBest 24 = .ok (.getfield 21, 3) := by decide +kernel
theorem dX6_keepsBest_27 : decode cX6_keepsBest 27 = .ok (.iload_n 2, 1) := by decide +kernel
theorem dX6_keepsBest_28 : decode cX6_keepsBest 28 = .ok (.iaload, 1) := by decide +kernel
theorem dX6_keepsBest_29 : decode cX6_keepsBest 29 = .ok (.iconst 1, 1) := by decide +kernel
theorem dX6_keepsBest_30 : decode cX6_keepsBest 30 = .ok (.iadd, 1) := by decide +kernel
theorem dX6_keepsBest_31 : decode cX6_keepsBest 31 = .ok (.aload_n 0, 1) := by decide +kernel
theorem dX6_keepsBest_32 : decode cX6_keepsBest 32 = .ok (.getfield 21, 3) := by decide +kernel
theorem dX6_keepsBest_35 : decode cX6_keepsBest 35 = .ok (.iload_n 1, 1) := by decide +kernel
theorem dX6_keepsBest_36 : decode cX6_keepsBest 36 = .ok (.iaload, 1) := by decide +kernel
theorem dX6_keepsBest_37 : decode cX6_keepsBest 37 = .ok (.if_icmp .ne 7, 3) := by decide +kernel
theorem dX6_keepsBest_40 : decode cX6_keepsBest 40 = .ok (.iconst 1, 1) := by decide +kernel
theorem dX6_keepsBest_41 : decode cX6_keepsBest 41 = .ok (.goto 4, 3) := by decide +kernel
theorem dX6_keepsBest_44 : decode cX6_keepsBest 44 = .ok (.iconst 0, 1) := by decide +kernel
theorem dX6_keepsBest_45 : decode cX6_keepsBest 45 = .ok (.ireturn, 1) := by decide +kernel
theorem dX6_isWithin_0 : decode cX6_isWithin 0 = .ok (.iload_n 0, 1) := by decide +kernel
theorem dX6_isWithin_1 : decode cX6_isWithin 1 = .ok (.ifCond .lt 18, 3) := by decide +kernel
theorem dX6_isWithin_4 : decode cX6_isWithin 4 = .ok (.iload_n 0, 1) := by decide +kernel
theorem dX6_isWithin_5 : decode cX6_isWithin 5 = .ok (.iload_n 1, 1) := by decide +kernel
theorem dX6_isWithin_6 : decode cX6_isWithin 6 = .ok (.if_icmp .ge 13, 3) := by decide +kernel
theorem dX6_isWithin_9 : decode cX6_isWithin 9 = .ok (.iload_n 1, 1) := by decide +kernel
theorem dX6_isWithin_10 : decode cX6_isWithin 10 = .ok (.bipush 10, 2) := by decide +kernel
theorem dX6_isWithin_12 : decode cX6_isWithin 12 = .ok (.if_icmp .gt 7, 3) := by decide +kernel
theorem dX6_isWithin_15 : decode cX6_isWithin 15 = .ok (.iconst 1, 1) := by decide +kernel
theorem dX6_isWithin_16 : decode cX6_isWithin 16 = .ok (.goto 4, 3) := by decide +kernel
theorem dX6_isWithin_19 : decode cX6_isWithin 19 = .ok (.iconst 0, 1) := by decide +kernel
theorem dX6_isWithin_20 : decode cX6_isWithin 20 = .ok (.ireturn, 1) := by decide +kernel
theorem dX6_best_0 : decode cX6_best 0 = .ok (.aload_n 0, 1) := by decide +kernel
theorem dX6_best_1 : decode cX6_best 1 = .ok (.getfield 29, 3) := by decide +kernel
theorem dX6_best_4 : decode cX6_best 4 = .ok (.areturn, 1) := by decide +kernel
theorem dX6_number_0 : decode cX6_number 0 = .ok (.iload_n 1, 1) := by decide +kernel
theorem dX6_number_1 : decode cX6_number 1 = .ok (.tableswitch 59 0 3 #[31, 38, 45, 52], 31) := by decide +kernel
theorem dX6_number_32 : decode cX6_number 32 = .ok (.aload_n 0, 1) := by decide +kernel
theorem dX6_number_33 : decode cX6_number 33 = .ok (.getfield 9, 3) := by decide +kernel
theorem dX6_number_36 : decode cX6_number 36 = .ok (.iconst 0, 1) := by decide +kernel
theorem dX6_number_37 : decode cX6_number 37 = .ok (.iaload, 1) := by decide +kernel
theorem dX6_number_38 : decode cX6_number 38 = .ok (.ireturn, 1) := by decide +kernel
theorem dX6_number_39 : decode cX6_number 39 = .ok (.aload_n 0, 1) := by decide +kernel
theorem dX6_number_40 : decode cX6_number 40 = .ok (.getfield 15, 3) := by decide +kernel
theorem dX6_number_43 : decode cX6_number 43 = .ok (.iconst 0, 1) := by decide +kernel
theorem dX6_number_44 : decode cX6_number 44 = .ok (.iaload, 1) := by decide +kernel
theorem dX6_number_45 : decode cX6_number 45 = .ok (.ireturn, 1) := by decide +kernel
theorem dX6_number_46 : decode cX6_number 46 = .ok (.aload_n 0, 1) := by decide +kernel
theorem dX6_number_47 : decode cX6_number 47 = .ok (.getfield 21, 3) := by decide +kernel
theorem dX6_number_50 : decode cX6_number 50 = .ok (.iconst 0, 1) := by decide +kernel
theorem dX6_number_51 : decode cX6_number 51 = .ok (.iaload, 1) := by decide +kernel
theorem dX6_number_52 : decode cX6_number 52 = .ok (.ireturn, 1) := by decide +kernel
theorem dX6_number_53 : decode cX6_number 53 = .ok (.aload_n 0, 1) := by decide +kernel
theorem dX6_number_54 : decode cX6_number 54 = .ok (.getfield 18, 3) := by decide +kernel
theorem dX6_number_57 : decode cX6_number 57 = .ok (.iconst 0, 1) := by decide +kernel
theorem dX6_number_58 : decode cX6_number 58 = .ok (.iaload, 1) := by decide +kernel
theorem dX6_number_59 : decode cX6_number 59 = .ok (.ireturn, 1) := by decide +kernel
theorem dX6_number_60 : decode cX6_number 60 = .ok (.bipush (-102), 2) := by decide +kernel
theorem dX6_number_62 : decode cX6_number 62 = .ok (.ireturn, 1) := by decide +kernel
theorem dX7_init_0 : decode cX7_init 0 = .ok (.aload_n 0, 1) := by decide +kernel
theorem dX7_init_1 : decode cX7_init 1 = .ok (.invokespecial 3, 3) := by decide +kernel
theorem dX7_init_4 : decode cX7_init 4 = .ok (.aload_n 0, 1) := by decide +kernel
theorem dX7_init_5 : decode cX7_init 5 = .ok (.bipush 14, 2) := by decide +kernel
theorem dX7_init_7 : decode cX7_init 7 = .ok (.anewarray 9, 3) := by decide +kernel
theorem dX7_init_10 : decode cX7_init 10 = .ok (.putfield 11, 3) := by decide +kernel
theorem dX7_init_13 : decode cX7_init 13 = .ok (.return_, 1) := by decide +kernel
theorem dX7_size_0 : decode cX7_size 0 = .ok (.aload_n 0, 1) := by decide +kernel
theorem dX7_size_1 : decode cX7_size 1 = .ok (.getfield 17, 3) := by decide +kernel
theorem dX7_size_4 : decode cX7_size 4 = .ok (.ireturn, 1) := by decide +kernel
theorem dX7_has_0 : decode cX7_has 0 = .ok (.aload_n 0, 1) := by decide +kernel
theorem dX7_has_1 : decode cX7_has 1 = .ok (.iload_n 1, 1) := by decide +kernel
theorem dX7_has_2 : decode cX7_has 2 = .ok (.invokevirtual 21, 3) := by decide +kernel
theorem dX7_has_5 : decode cX7_has 5 = .ok (.ifnull 7, 3) := by decide +kernel
theorem dX7_has_8 : decode cX7_has 8 = .ok (.iconst 1, 1) := by decide +kernel
theorem dX7_has_9 : decode cX7_has 9 = .ok (.goto 4, 3) := by decide +kernel
theorem dX7_has_12 : decode cX7_has 12 = .ok (.iconst 0, 1) := by decide +kernel
theorem dX7_has_13 : decode cX7_has 13 = .ok (.ireturn, 1) := by decide +kernel
theorem dX7_get_0 : decode cX7_get 0 = .ok (.iload_n 1, 1) := by decide +kernel
theorem dX7_get_1 : decode cX7_get 1 = .ok (.ifCond .lt 20, 3) := by decide +kernel
theorem dX7_get_4 : decode cX7_get 4 = .ok (.iload_n 1, 1) := by decide +kernel
theorem dX7_get_5 : decode cX7_get 5 = .ok (.aload_n 0, 1) := by decide +kernel
theorem dX7_get_6 : decode cX7_get 6 = .ok (.getfield 17, 3) := by decide +kernel
theorem dX7_get_9 : decode cX7_get 9 = .ok (.if_icmp .ge 12, 3) := by decide +kernel
theorem dX7_get_12 : decode cX7_get 12 = .ok (.aload_n 0, 1) := by decide +kernel
theorem dX7_get_13 : decode cX7_get 13 = .ok (.getfield 11, 3) := by decide +kernel
theorem dX7_get_16 : decode cX7_get 16 = .ok (.iload_n 1, 1) := by decide +kernel
theorem dX7_get_17 : decode cX7_get 17 = .ok (.aaload, 1) := by decide +kernel
theorem dX7_get_18 : decode cX7_get 18 = .ok (.goto 4, 3) := by decide +kernel
theorem dX7_get_21 : decode cX7_get 21 = .ok (.aconst_null, 1) := by decide +kernel
theorem dX7_get_22 : decode cX7_get 22 = .ok (.areturn, 1) := by decide +kernel
theorem dX7_insert_0 : decode cX7_insert 0 = .ok (.aload_n 1, 1) := by decide +kernel
theorem dX7_insert_1 : decode cX7_insert 1 = .ok (.ifnull 12, 3) := by decide +kernel
theorem dX7_insert_4 : decode cX7_insert 4 = .ok (.aload_n 0, 1) := by decide +kernel
theorem dX7_insert_5 : decode cX7_insert 5 = .ok (.getfield 17, 3) := by decide +kernel
theorem dX7_insert_8 : decode cX7_insert 8 = .ok (.bipush 14, 2) := by decide +kernel
theorem dX7_insert_10 : decode cX7_insert 10 = .ok (.if_icmp .lt 4, 3) := by decide +kernel
theorem dX7_insert_13 : decode cX7_insert 13 = .ok (.return_, 1) := by decide +kernel
theorem dX7_insert_14 : decode cX7_insert 14 = .ok (.aload_n 0, 1) := by decide +kernel
theorem dX7_insert_15 : decode cX7_insert 15 = .ok (.aload_n 1, 1) := by decide +kernel
theorem dX7_insert_16 : decode cX7_insert 16 = .ok (.invokevirtual 25, 3) := by decide +kernel
theorem dX7_insert_19 : decode cX7_insert 19 = .ok (.istore_n 2, 1) := by decide +kernel
theorem dX7_insert_20 : decode cX7_insert 20 = .ok (.aload_n 0, 1) := by decide +kernel
theorem dX7_insert_21 : decode cX7_insert 21 = .ok (.getfield 17, 3) := by decide +kernel
theorem dX7_insert_24 : decode cX7_insert 24 = .ok (.istore_n 3, 1) := by decide +kernel
theorem dX7_insert_25 : decode cX7_insert 25 = .ok (.iload_n 3, 1) := by decide +kernel
theorem dX7_insert_26 : decode cX7_insert 26 = .ok (.iload_n 2, 1) := by decide +kernel
theorem dX7_insert_27 : decode cX7_insert 27 = .ok (.if_icmp .le 23, 3) := by decide +kernel
theorem dX7_insert_30 : decode cX7_insert 30 = .ok (.aload_n 0, 1) := by decide +kernel
theorem dX7_insert_31 : decode cX7_insert 31 = .ok (.getfield 11, 3) := by decide +kernel
theorem dX7_insert_34 : decode cX7_insert 34 = .ok (.iload_n 3, 1) := by decide +kernel
theorem dX7_insert_35 : decode cX7_insert 35 = .ok (.aload_n 0, 1) := by decide +kernel
theorem dX7_insert_36 : decode cX7_insert 36 = .ok (.getfield 11, 3) := by decide +kernel
theorem dX7_insert_39 : decode cX7_insert 39 = .ok (.iload_n 3, 1) := by decide +kernel
theorem dX7_insert_40 : decode cX7_insert 40 = .ok (.iconst 1, 1) := by decide +kernel
theorem dX7_insert_41 : decode cX7_insert 41 = .ok (.isub, 1) := by decide +kernel
theorem dX7_insert_42 : decode cX7_insert 42 = .ok (.aaload, 1) := by decide +kernel
theorem dX7_insert_43 : decode cX7_insert 43 = .ok (.aastore, 1) := by decide +kernel
theorem dX7_insert_44 : decode cX7_insert 44 = .ok (.iinc 3 (-1), 3) := by decide +kernel
theorem dX7_insert_47 : decode cX7_insert 47 = .ok (.goto (-22), 3) := by decide +kernel
theorem dX7_insert_50 : decode cX7_insert 50 = .ok (.aload_n 0, 1) := by decide +kernel
theorem dX7_insert_51 : decode cX7_insert 51 = .ok (.getfield 11, 3) := by decide +kernel
theorem dX7_insert_54 : decode cX7_insert 54 = .ok (.iload_n 2, 1) := by decide +kernel
theorem dX7_insert_55 : decode cX7_insert 55 = .ok (.aload_n 1, 1) := by decide +kernel
theorem dX7_insert_56 : decode cX7_insert 56 = .ok (.aastore, 1) := by decide +kernel
theorem dX7_insert_57 : decode cX7_insert 57 = .ok (.aload_n 0, 1) := by decide +kernel
theorem dX7_insert_58 : decode cX7_insert 58 = .ok (.dup, 1) := by decide +kernel
theorem dX7_insert_59 : decode cX7_insert 59 = .ok (.getfield 17, 3) := by decide +kernel
theorem dX7_insert_62 : decode cX7_insert 62 = .ok (.iconst 1, 1) := by decide +kernel
theorem dX7_insert_63 : decode cX7_insert 63 = .ok (.iadd, 1) := by decide +kernel
theorem dX7_insert_64 : decode cX7_insert 64 = .ok (.putfield 17, 3) := by decide +kernel
theorem dX7_insert_67 : decode cX7_insert 67 = .ok (.return_, 1) := by decide +kernel
theorem dX7_placeOf_0 : decode cX7_placeOf 0 = .ok (.iconst 0, 1) := by decide +kernel
theorem dX7_placeOf_1 : decode cX7_placeOf 1 = .ok (.istore_n 2, 1) := by decide +kernel
theorem dX7_placeOf_2 : decode cX7_placeOf 2 = .ok (.aload_n 0, 1) := by decide +kernel
theorem dX7_placeOf_3 : decode cX7_placeOf 3 = .ok (.getfield 11, 3) := by decide +kernel
theorem dX7_placeOf_6 : decode cX7_placeOf 6 = .ok (.astore_n 3, 1) := by decide +kernel
theorem dX7_placeOf_7 : decode cX7_placeOf 7 = .ok (.aload_n 3, 1) := by decide +kernel
theorem dX7_placeOf_8 : decode cX7_placeOf 8 = .ok (.arraylength, 1) := by decide +kernel
theorem dX7_placeOf_9 : decode cX7_placeOf 9 = .ok (.istore 4, 2) := by decide +kernel
theorem dX7_placeOf_11 : decode cX7_placeOf 11 = .ok (.iconst 0, 1) := by decide +kernel
theorem dX7_placeOf_12 : decode cX7_placeOf 12 = .ok (.istore 5, 2) := by decide +kernel
theorem dX7_placeOf_14 : decode cX7_placeOf 14 = .ok (.iload 5, 2) := by decide +kernel
theorem dX7_placeOf_16 : decode cX7_placeOf 16 = .ok (.iload 4, 2) := by decide +kernel
theorem dX7_placeOf_18 : decode cX7_placeOf 18 = .ok (.if_icmp .ge 32, 3) := by decide +kernel
theorem dX7_placeOf_21 : decode cX7_placeOf 21 = .ok (.aload_n 3, 1) := by decide +kernel
theorem dX7_placeOf_22 : decode cX7_placeOf 22 = .ok (.iload 5, 2) := by decide +kernel
theorem dX7_placeOf_24 : decode cX7_placeOf 24 = .ok (.aaload, 1) := by decide +kernel
theorem dX7_placeOf_25 : decode cX7_placeOf 25 = .ok (.astore 6, 2) := by decide +kernel
theorem dX7_placeOf_27 : decode cX7_placeOf 27 = .ok (.aload 6, 2) := by decide +kernel
theorem dX7_placeOf_29 : decode cX7_placeOf 29 = .ok (.ifnull 15, 3) := by decide +kernel
theorem dX7_placeOf_32 : decode cX7_placeOf 32 = .ok (.aload 6, 2) := by decide +kernel
theorem dX7_placeOf_34 : decode cX7_placeOf 34 = .ok (.aload_n 1, 1) := by decide +kernel
theorem dX7_placeOf_35 : decode cX7_placeOf 35 = .ok (.invokevirtual 29, 3) := by decide +kernel
theorem dX7_placeOf_38 : decode cX7_placeOf 38 = .ok (.ifCond .eq 6, 3) := by decide +kernel
theorem dX7_placeOf_41 : decode cX7_placeOf 41 = .ok (.iinc 2 1, 3) := by decide +kernel
theorem dX7_placeOf_44 : decode cX7_placeOf 44 = .ok (.iinc 5 1, 3) := by decide +kernel
theorem dX7_placeOf_47 : decode cX7_placeOf 47 = .ok (.goto (-33), 3) := by decide +kernel
theorem dX7_placeOf_50 : decode cX7_placeOf 50 = .ok (.iload_n 2, 1) := by decide +kernel
theorem dX7_placeOf_51 : decode cX7_placeOf 51 = .ok (.ireturn, 1) := by decide +kernel
theorem dX7_remove_0 : decode cX7_remove 0 = .ok (.aload_n 0, 1) := by decide +kernel
theorem dX7_remove_1 : decode cX7_remove 1 = .ok (.iload_n 1, 1) := by decide +kernel
theorem dX7_remove_2 : decode cX7_remove 2 = .ok (.invokevirtual 33, 3) := by decide +kernel
theorem dX7_remove_5 : decode cX7_remove 5 = .ok (.ifCond .ne 4, 3) := by decide +kernel
theorem dX7_remove_8 : decode cX7_remove 8 = .ok (.return_, 1) := by decide +kernel
theorem dX7_remove_9 : decode cX7_remove 9 = .ok (.iload_n 1, 1) := by decide +kernel
theorem dX7_remove_10 : decode cX7_remove 10 = .ok (.istore_n 2, 1) := by decide +kernel
theorem dX7_remove_11 : decode cX7_remove 11 = .ok (.iload_n 2, 1) := by decide +kernel
theorem dX7_remove_12 : decode cX7_remove 12 = .ok (.iconst 1, 1) := by decide +kernel
theorem dX7_remove_13 : decode cX7_remove 13 = .ok (.iadd, 1) := by decide +kernel
theorem dX7_remove_14 : decode cX7_remove 14 = .ok (.aload_n 0, 1) := by decide +kernel
theorem dX7_remove_15 : decode cX7_remove 15 = .ok (.getfield 17, 3) := by decide +kernel
theorem dX7_remove_18 : decode cX7_remove 18 = .ok (.if_icmp .ge 23, 3) := by decide +kernel
theorem dX7_remove_21 : decode cX7_remove 21 = .ok (.aload_n 0, 1) := by decide +kernel
theorem dX7_remove_22 : decode cX7_remove 22 = .ok (.getfield 11, 3) := by decide +kernel
theorem dX7_remove_25 : decode cX7_remove 25 = .ok (.iload_n 2, 1) := by decide +kernel
theorem dX7_remove_26 : decode cX7_remove 26 = .ok (.aload_n 0, 1) := by decide +kernel
theorem dX7_remove_27 : decode cX7_remove 27 = .ok (.getfield 11, 3) := by decide +kernel
theorem dX7_remove_30 : decode cX7_remove 30 = .ok (.iload_n 2, 1) := by decide +kernel
theorem dX7_remove_31 : decode cX7_remove 31 = .ok (.iconst 1, 1) := by decide +kernel
theorem dX7_remove_32 : decode cX7_remove 32 = .ok (.iadd, 1) := by decide +kernel
theorem dX7_remove_33 : decode cX7_remove 33 = .ok (.aaload, 1) := by decide +kernel
theorem dX7_remove_34 : decode cX7_remove 34 = .ok (.aastore, 1) := by decide +kernel
theorem dX7_remove_35 : decode cX7_remove 35 = .ok (.iinc 2 1, 3) := by decide +kernel
theorem dX7_remove_38 : decode cX7_remove 38 = .ok (.goto (-27), 3) := by decide +kernel
theorem dX7_remove_41 : decode cX7_remove 41 = .ok (.aload_n 0, 1) := by decide +kernel
theorem dX7_remove_42 : decode cX7_remove 42 = .ok (.dup, 1) := by decide +kernel
theorem dX7_remove_43 : decode cX7_remove 43 = .ok (.getfield 17, 3) := by decide +kernel
theorem dX7_remove_46 : decode cX7_remove 46 = .ok (.iconst 1, 1) := by decide +kernel
theorem dX7_remove_47 : decode cX7_remove 47 = .ok (.isub, 1) := by decide +kernel
theorem dX7_remove_48 : decode cX7_remove 48 = .ok (.putfield 17, 3) := by decide +kernel
theorem dX7_remove_51 : decode cX7_remove 51 = .ok (.aload_n 0, 1) := by decide +kernel
theorem dX7_remove_52 : decode cX7_remove 52 = .ok (.getfield 11, 3) := by decide +kernel
theorem dX7_remove_55 : decode cX7_remove 55 = .ok (.aload_n 0, 1) := by decide +kernel
theorem dX7_remove_56 : decode cX7_remove 56 = .ok (.getfield 17, 3) := by decide +kernel
theorem dX7_remove_59 : decode cX7_remove 59 = .ok (.aconst_null, 1) := by decide +kernel
theorem dX7_remove_60 : decode cX7_remove 60 = .ok (.aastore, 1) := by decide +kernel
theorem dX7_remove_61 : decode cX7_remove 61 = .ok (.return_, 1) := by decide +kernel
theorem dX7_contains_0 : decode cX7_contains 0 = .ok (.aload_n 0, 1) := by decide +kernel
theorem dX7_contains_1 : decode cX7_contains 1 = .ok (.getfield 11, 3) := by decide +kernel
theorem dX7_contains_4 : decode cX7_contains 4 = .ok (.astore 4, 2) := by decide +kernel
theorem dX7_contains_6 : decode cX7_contains 6 = .ok (.aload 4, 2) := by decide +kernel
theorem dX7_contains_8 : decode cX7_contains 8 = .ok (.arraylength, 1) := by decide +kernel
theorem dX7_contains_9 : decode cX7_contains 9 = .ok (.istore 5, 2) := by decide +kernel
theorem dX7_contains_11 : decode cX7_contains 11 = .ok (.iconst 0, 1) := by decide +kernel
theorem dX7_contains_12 : decode cX7_contains 12 = .ok (.istore 6, 2) := by decide +kernel
theorem dX7_contains_14 : decode cX7_contains 14 = .ok (.iload 6, 2) := by decide +kernel
theorem dX7_contains_16 : decode cX7_contains 16 = .ok (.iload 5, 2) := by decide +kernel
theorem dX7_contains_18 : decode cX7_contains 18 = .ok (.if_icmp .ge 34, 3) := by decide +kernel
theorem dX7_contains_21 : decode cX7_contains 21 = .ok (.aload 4, 2) := by decide +kernel
theorem dX7_contains_23 : decode cX7_contains 23 = .ok (.iload 6, 2) := by decide +kernel
theorem dX7_contains_25 : decode cX7_contains 25 = .ok (.aaload, 1) := by decide +kernel
theorem dX7_contains_26 : decode cX7_contains 26 = .ok (.astore 7, 2) := by decide +kernel
theorem dX7_contains_28 : decode cX7_contains 28 = .ok (.aload 7, 2) := by decide +kernel
theorem dX7_contains_30 : decode cX7_contains 30 = .ok (.ifnull 16, 3) := by decide +kernel
theorem dX7_contains_33 : decode cX7_contains 33 = .ok (.aload 7, 2) := by decide +kernel
theorem dX7_contains_35 : decode cX7_contains 35 = .ok (.aload_n 1, 1) := by decide +kernel
theorem dX7_contains_36 : decode cX7_contains 36 = .ok (.iload_n 2, 1) := by decide +kernel
theorem dX7_contains_37 : decode cX7_contains 37 = .ok (.iload_n 3, 1) := by decide +kernel
theorem dX7_contains_38 : decode cX7_contains 38 = .ok (.invokevirtual 37, 3) := by decide +kernel
theorem dX7_contains_41 : decode cX7_contains 41 = .ok (.ifCond .eq 5, 3) := by decide +kernel
theorem dX7_contains_44 : decode cX7_contains 44 = .ok (.iconst 1, 1) := by decide +kernel
theorem dX7_contains_45 : decode cX7_contains 45 = .ok (.ireturn, 1) := by decide +kernel
theorem dX7_contains_46 : decode cX7_contains 46 = .ok (.iinc 6 1, 3) := by decide +kernel
theorem dX7_contains_49 : decode cX7_contains 49 = .ok (.goto (-35), 3) := by decide +kernel
theorem dX7_contains_52 : decode cX7_contains 52 = .ok (.iconst 0, 1) := by decide +kernel
theorem dX7_contains_53 : decode cX7_contains 53 = .ok (.ireturn, 1) := by decide +kernel
theorem dX7_encode_0 : decode cX7_encode 0 = .ok (.aload_n 0, 1) := by decide +kernel
theorem dX7_encode_1 : decode cX7_encode 1 = .ok (.getfield 11, 3) := by decide +kernel
theorem dX7_encode_4 : decode cX7_encode 4 = .ok (.astore_n 2, 1) := by decide +kernel
theorem dX7_encode_5 : decode cX7_encode 5 = .ok (.aload_n 2, 1) := by decide +kernel
theorem dX7_encode_6 : decode cX7_encode 6 = .ok (.arraylength, 1) := by decide +kernel
theorem dX7_encode_7 : decode cX7_encode 7 = .ok (.istore_n 3, 1) := by decide +kernel
theorem dX7_encode_8 : decode cX7_encode 8 = .ok (.iconst 0, 1) := by decide +kernel
theorem dX7_encode_9 : decode cX7_encode 9 = .ok (.istore 4, 2) := by decide +kernel
theorem dX7_encode_11 : decode cX7_encode 11 = .ok (.iload 4, 2) := by decide +kernel
theorem dX7_encode_13 : decode cX7_encode 13 = .ok (.iload_n 3, 1) := by decide +kernel
theorem dX7_encode_14 : decode cX7_encode 14 = .ok (.if_icmp .ge 26, 3) := by decide +kernel
theorem dX7_encode_17 : decode cX7_encode 17 = .ok (.aload_n 2, 1) := by decide +kernel
theorem dX7_encode_18 : decode cX7_encode 18 = .ok (.iload 4, 2) := by decide +kernel
theorem dX7_encode_20 : decode cX7_encode 20 = .ok (.aaload, 1) := by decide +kernel
theorem dX7_encode_21 : decode cX7_encode 21 = .ok (.astore 5, 2) := by decide +kernel
theorem dX7_encode_23 : decode cX7_encode 23 = .ok (.aload 5, 2) := by decide +kernel
theorem dX7_encode_25 : decode cX7_encode 25 = .ok (.ifnull 9, 3) := by decide +kernel
theorem dX7_encode_28 : decode cX7_encode 28 = .ok (.aload 5, 2) := by decide +kernel
theorem dX7_encode_30 : decode cX7_encode 30 = .ok (.aload_n 1, 1) := by decide +kernel
theorem dX7_encode_31 : decode cX7_encode 31 = .ok (.invokevirtual 41, 3) := by decide +kernel
theorem dX7_encode_34 : decode cX7_encode 34 = .ok (.iinc 4 1, 3) := by decide +kernel
theorem dX7_encode_37 : decode cX7_encode 37 = .ok (.goto (-26), 3) := by decide +kernel
theorem dX7_encode_40 : decode cX7_encode 40 = .ok (.return_, 1) := by decide +kernel
theorem dX7_setFrequency_0 : decode cX7_setFrequency 0 = .ok (.aload_n 0, 1) := by decide +kernel
theorem dX7_setFrequency_1 : decode cX7_setFrequency 1 = .ok (.iload_n 1, 1) := by decide +kernel
theorem dX7_setFrequency_2 : decode cX7_setFrequency 2 = .ok (.invokevirtual 21, 3) := by decide +kernel
theorem dX7_setFrequency_5 : decode cX7_setFrequency 5 = .ok (.astore_n 3, 1) := by decide +kernel
theorem dX7_setFrequency_6 : decode cX7_setFrequency 6 = .ok (.aload_n 3, 1) := by decide +kernel
theorem dX7_setFrequency_7 : decode cX7_setFrequency 7 = .ok (.ifnonnull 6, 3) := by decide +kernel
theorem dX7_setFrequency_10 : decode cX7_setFrequency 10 = .ok (.bipush (-101), 2) := by decide +kernel
theorem dX7_setFrequency_12 : decode cX7_setFrequency 12 = .ok (.ireturn, 1) := by decide +kernel
theorem dX7_setFrequency_13 : decode cX7_setFrequency 13 = .ok (.aload_n 3, 1) := by decide +kernel
theorem dX7_setFrequency_14 : decode cX7_setFrequency 14 = .ok (.getfield 45, 3) := by decide +kernel
theorem dX7_setFrequency_17 : decode cX7_setFrequency 17 = .ok (.istore 4, 2) := by decide +kernel
theorem dX7_setFrequency_19 : decode cX7_setFrequency 19 = .ok (.aload_n 3, 1) := by decide +kernel
theorem dX7_setFrequency_20 : decode cX7_setFrequency 20 = .ok (.iload_n 2, 1) := by decide +kernel
theorem dX7_setFrequency_21 : decode cX7_setFrequency 21 = .ok (.putfield 45, 3) := by decide +kernel
theorem dX7_setFrequency_24 : decode cX7_setFrequency 24 = .ok (.iload 4, 2) := by decide +kernel
theorem dX7_setFrequency_26 : decode cX7_setFrequency 26 = .ok (.ireturn, 1) := by decide +kernel
theorem dX7_frequencyOf_0 : decode cX7_frequencyOf 0 = .ok (.aload_n 0, 1) := by decide +kernel
theorem dX7_frequencyOf_1 : decode cX7_frequencyOf 1 = .ok (.iload_n 1, 1) := by decide +kernel
theorem dX7_frequencyOf_2 : decode cX7_frequencyOf 2 = .ok (.invokevirtual 21, 3) := by decide +kernel
theorem dX7_frequencyOf_5 : decode cX7_frequencyOf 5 = .ok (.astore_n 2, 1) := by decide +kernel
theorem dX7_frequencyOf_6 : decode cX7_frequencyOf 6 = .ok (.aload_n 2, 1) := by decide +kernel
theorem dX7_frequencyOf_7 : decode cX7_frequencyOf 7 = .ok (.ifnonnull 8, 3) := by decide +kernel
theorem dX7_frequencyOf_10 : decode cX7_frequencyOf 10 = .ok (.bipush (-101), 2) := by decide +kernel
theorem dX7_frequencyOf_12 : decode cX7_frequencyOf 12 = .ok (.goto 7, 3) := by decide +kernel
theorem dX7_frequencyOf_15 : decode cX7_frequencyOf 15 = .ok (.aload_n 2, 1) := by decide +kernel
theorem dX7_frequencyOf_16 : decode cX7_frequencyOf 16 = .ok (.getfield 45, 3) := by decide +kernel
theorem dX7_frequencyOf_19 : decode cX7_frequencyOf 19 = .ok (.ireturn, 1) := by decide +kernel
theorem dX7_lengthOf_0 : decode cX7_lengthOf 0 = .ok (.aload_n 0, 1) := by decide +kernel
theorem dX7_lengthOf_1 : decode cX7_lengthOf 1 = .ok (.iload_n 1, 1) := by decide +kernel
theorem dX7_lengthOf_2 : decode cX7_lengthOf 2 = .ok (.invokevirtual 21, 3) := by decide +kernel
theorem dX7_lengthOf_5 : decode cX7_lengthOf 5 = .ok (.astore_n 2, 1) := by decide +kernel
theorem dX7_lengthOf_6 : decode cX7_lengthOf 6 = .ok (.aload_n 2, 1) := by decide +kernel
theorem dX7_lengthOf_7 : decode cX7_lengthOf 7 = .ok (.ifnonnull 8, 3) := by decide +kernel
theorem dX7_lengthOf_10 : decode cX7_lengthOf 10 = .ok (.bipush (-101), 2) := by decide +kernel
theorem dX7_lengthOf_12 : decode cX7_lengthOf 12 = .ok (.goto 8, 3) := by decide +kernel
theorem dX7_lengthOf_15 : decode cX7_lengthOf 15 = .ok (.aload_n 2, 1) := by decide +kernel
theorem dX7_lengthOf_16 : decode cX7_lengthOf 16 = .ok (.getfield 48, 3) := by decide +kernel
theorem dX7_lengthOf_19 : decode cX7_lengthOf 19 = .ok (.arraylength, 1) := by decide +kernel
theorem dX7_lengthOf_20 : decode cX7_lengthOf 20 = .ok (.ireturn, 1) := by decide +kernel
theorem dX7_letterAt_0 : decode cX7_letterAt 0 = .ok (.aload_n 0, 1) := by decide +kernel
theorem dX7_letterAt_1 : decode cX7_letterAt 1 = .ok (.iload_n 1, 1) := by decide +kernel
theorem dX7_letterAt_2 : decode cX7_letterAt 2 = .ok (.invokevirtual 21, 3) := by decide +kernel
theorem dX7_letterAt_5 : decode cX7_letterAt 5 = .ok (.astore_n 3, 1) := by decide +kernel
theorem dX7_letterAt_6 : decode cX7_letterAt 6 = .ok (.aload_n 3, 1) := by decide +kernel
theorem dX7_letterAt_7 : decode cX7_letterAt 7 = .ok (.ifnonnull 8, 3) := by decide +kernel
theorem dX7_letterAt_10 : decode cX7_letterAt 10 = .ok (.bipush (-101), 2) := by decide +kernel
theorem dX7_letterAt_12 : decode cX7_letterAt 12 = .ok (.goto 8, 3) := by decide +kernel
theorem dX7_letterAt_15 : decode cX7_letterAt 15 = .ok (.aload_n 3, 1) := by decide +kernel
theorem dX7_letterAt_16 : decode cX7_letterAt 16 = .ok (.iload_n 2, 1) := by decide +kernel
theorem dX7_letterAt_17 : decode cX7_letterAt 17 = .ok (.invokevirtual 52, 3) := by decide +kernel
theorem dX7_letterAt_20 : decode cX7_letterAt 20 = .ok (.ireturn, 1) := by decide +kernel
theorem dX7_digitAt_0 : decode cX7_digitAt 0 = .ok (.aload_n 0, 1) := by decide +kernel
theorem dX7_digitAt_1 : decode cX7_digitAt 1 = .ok (.iload_n 1, 1) := by decide +kernel
theorem dX7_digitAt_2 : decode cX7_digitAt 2 = .ok (.invokevirtual 21, 3) := by decide +kernel
theorem dX7_digitAt_5 : decode cX7_digitAt 5 = .ok (.astore_n 3, 1) := by decide +kernel
theorem dX7_digitAt_6 : decode cX7_digitAt 6 = .ok (.aload_n 3, 1) := by decide +kernel
theorem dX7_digitAt_7 : decode cX7_digitAt 7 = .ok (.ifnonnull 8, 3) := by decide +kernel
theorem dX7_digitAt_10 : decode cX7_digitAt 10 = .ok (.bipush (-101), 2) := by decide +kernel
theorem dX7_digitAt_12 : decode cX7_digitAt 12 = .ok (.goto 8, 3) := by decide +kernel
theorem dX7_digitAt_15 : decode cX7_digitAt 15 = .ok (.aload_n 3, 1) := by decide +kernel
theorem dX7_digitAt_16 : decode cX7_digitAt 16 = .ok (.iload_n 2, 1) := by decide +kernel
theorem dX7_digitAt_17 : decode cX7_digitAt 17 = .ok (.invokevirtual 56, 3) := by decide +kernel
theorem dX7_digitAt_20 : decode cX7_digitAt 20 = .ok (.ireturn, 1) := by decide +kernel
theorem dX7_sharedDigits_0 : decode cX7_sharedDigits 0 = .ok (.aload_n 0, 1) := by decide +kernel
theorem dX7_sharedDigits_1 : decode cX7_sharedDigits 1 = .ok (.iload_n 1, 1) := by decide +kernel
theorem dX7_sharedDigits_2 : decode cX7_sharedDigits 2 = .ok (.invokevirtual 21, 3) := by decide +kernel
theorem dX7_sharedDigits_5 : decode cX7_sharedDigits 5 = .ok (.astore_n 3, 1) := by decide +kernel
theorem dX7_sharedDigits_6 : decode cX7_sharedDigits 6 = .ok (.aload_n 0, 1) := by decide +kernel
theorem dX7_sharedDigits_7 : decode cX7_sharedDigits 7 = .ok (.iload_n 2, 1) := by decide +kernel
theorem dX7_sharedDigits_8 : decode cX7_sharedDigits 8 = .ok (.invokevirtual 21, 3) := by decide +kernel
theorem dX7_sharedDigits_11 : decode cX7_sharedDigits 11 = .ok (.astore 4, 2) := by decide +kernel
theorem dX7_sharedDigits_13 : decode cX7_sharedDigits 13 = .ok (.aload_n 3, 1) := by decide +kernel
theorem dX7_sharedDigits_14 : decode cX7_sharedDigits 14 = .ok (.ifnull 8, 3) := by decide +kernel
theorem dX7_sharedDigits_17 : decode cX7_sharedDigits 17 = .ok (.aload 4, 2) := by decide +kernel
theorem dX7_sharedDigits_19 : decode cX7_sharedDigits 19 = .ok (.ifnonnull 8, 3) := by decide +kernel
theorem dX7_sharedDigits_22 : decode cX7_sharedDigits 22 = .ok (.bipush (-101), 2) := by decide +kernel
theorem dX7_sharedDigits_24 : decode cX7_sharedDigits 24 = .ok (.goto 9, 3) := by decide +kernel
theorem dX7_sharedDigits_27 : decode cX7_sharedDigits 27 = .ok (.aload_n 3, 1) := by decide +kernel
theorem dX7_sharedDigits_28 : decode cX7_sharedDigits 28 = .ok (.aload 4, 2) := by decide +kernel
theorem dX7_sharedDigits_30 : decode cX7_sharedDigits 30 = .ok (.invokevirtual 59, 3) := by decide +kernel
theorem dX7_sharedDigits_33 : decode cX7_sharedDigits 33 = .ok (.ireturn, 1) := by decide +kernel
theorem dX7_areTwins_0 : decode cX7_areTwins 0 = .ok (.aload_n 0, 1) := by decide +kernel
theorem dX7_areTwins_1 : decode cX7_areTwins 1 = .ok (.iload_n 1, 1) := by decide +kernel
theorem dX7_areTwins_2 : decode cX7_areTwins 2 = .ok (.invokevirtual 21, 3) := by decide +kernel
theorem dX7_areTwins_5 : decode cX7_areTwins 5 = .ok (.astore_n 3, 1) := by decide +kernel
theorem dX7_areTwins_6 : decode cX7_areTwins 6 = .ok (.aload_n 0, 1) := by decide +kernel
theorem dX7_areTwins_7 : decode cX7_areTwins 7 = .ok (.iload_n 2, 1) := by decide +kernel
theorem dX7_areTwins_8 : decode cX7_areTwins 8 = .ok (.invokevirtual 21, 3) := by decide +kernel
theorem dX7_areTwins_11 : decode cX7_areTwins 11 = .ok (.astore 4, 2) := by decide +kernel
theorem dX7_areTwins_13 : decode cX7_areTwins 13 = .ok (.aload_n 3, 1) := by decide +kernel
theorem dX7_areTwins_14 : decode cX7_areTwins 14 = .ok (.ifnull 13, 3) := by decide +kernel
theorem dX7_areTwins_17 : decode cX7_areTwins 17 = .ok (.aload 4, 2) := by decide +kernel
theorem dX7_areTwins_19 : decode cX7_areTwins 19 = .ok (.ifnull 8, 3) := by decide +kernel
theorem dX7_areTwins_22 : decode cX7_areTwins 22 = .ok (.iload_n 1, 1) := by decide +kernel
theorem dX7_areTwins_23 : decode cX7_areTwins 23 = .ok (.iload_n 2, 1) := by decide +kernel
theorem dX7_areTwins_24 : decode cX7_areTwins 24 = .ok (.if_icmp .ne 5, 3) := by decide +kernel
theorem dX7_areTwins_27 : decode cX7_areTwins 27 = .ok (.iconst 0, 1) := by decide +kernel
theorem dX7_areTwins_28 : decode cX7_areTwins 28 = .ok (.ireturn, 1) := by decide +kernel
theorem dX7_areTwins_29 : decode cX7_areTwins 29 = .ok (.aload_n 3, 1) := by decide +kernel
theorem dX7_areTwins_30 : decode cX7_areTwins 30 = .ok (.getfield 62, 3) := by decide +kernel
theorem dX7_areTwins_33 : decode cX7_areTwins 33 = .ok (.arraylength, 1) := by decide +kernel
theorem dX7_areTwins_34 : decode cX7_areTwins 34 = .ok (.istore 5, 2) := by decide +kernel
theorem dX7_areTwins_36 : decode cX7_areTwins 36 = .ok (.aload 4, 2) := by decide +kernel
theorem dX7_areTwins_38 : decode cX7_areTwins 38 = .ok (.getfield 62, 3) := by decide +kernel
theorem dX7_areTwins_41 : decode cX7_areTwins 41 = .ok (.arraylength, 1) := by decide +kernel
theorem dX7_areTwins_42 : decode cX7_areTwins 42 = .ok (.iload 5, 2) := by decide +kernel
theorem dX7_areTwins_44 : decode cX7_areTwins 44 = .ok (.if_icmp .ne 18, 3) := by decide +kernel
theorem dX7_areTwins_47 : decode cX7_areTwins 47 = .ok (.aload_n 3, 1) := by decide +kernel
theorem dX7_areTwins_48 : decode cX7_areTwins 48 = .ok (.aload 4, 2) := by decide +kernel
theorem dX7_areTwins_50 : decode cX7_areTwins 50 = .ok (.invokevirtual 59, 3) := by decide +kernel
theorem dX7_areTwins_53 : decode cX7_areTwins 53 = .ok (.iload 5, 2) := by decide +kernel
theorem dX7_areTwins_55 : decode cX7_areTwins 55 = .ok (.if_icmp .ne 7, 3) := by decide +kernel
theorem dX7_areTwins_58 : decode cX7_areTwins 58 = .ok (.iconst 1, 1) := by decide +kernel
theorem dX7_areTwins_59 : decode cX7_areTwins 59 = .ok (.goto 4, 3) := by decide +kernel
theorem dX7_areTwins_62 : decode cX7_areTwins 62 = .ok (.iconst 0, 1) := by decide +kernel
theorem dX7_areTwins_63 : decode cX7_areTwins 63 = .ok (.ireturn, 1) := by decide +kernel
theorem dX7_isAhead_0 : decode cX7_isAhead 0 = .ok (.aload_n 0, 1) := by decide +kernel
theorem dX7_isAhead_1 : decode cX7_isAhead 1 = .ok (.iload_n 1, 1) := by decide +kernel
theorem dX7_isAhead_2 : decode cX7_isAhead 2 = .ok (.invokevirtual 21, 3) := by decide +kernel
theorem dX7_isAhead_5 : decode cX7_isAhead 5 = .ok (.astore_n 3, 1) := by decide +kernel
theorem dX7_isAhead_6 : decode cX7_isAhead 6 = .ok (.aload_n 0, 1) := by decide +kernel
theorem dX7_isAhead_7 : decode cX7_isAhead 7 = .ok (.iload_n 2, 1) := by decide +kernel
theorem dX7_isAhead_8 : decode cX7_isAhead 8 = .ok (.invokevirtual 21, 3) := by decide +kernel
theorem dX7_isAhead_11 : decode cX7_isAhead 11 = .ok (.astore 4, 2) := by decide +kernel
theorem dX7_isAhead_13 : decode cX7_isAhead 13 = .ok (.aload_n 3, 1) := by decide +kernel
theorem dX7_isAhead_14 : decode cX7_isAhead 14 = .ok (.ifnull 8, 3) := by decide +kernel
theorem dX7_isAhead_17 : decode cX7_isAhead 17 = .ok (.aload 4, 2) := by decide +kernel
theorem dX7_isAhead_19 : decode cX7_isAhead 19 = .ok (.ifnonnull 5, 3) := by decide +kernel
theorem dX7_isAhead_22 : decode cX7_isAhead 22 = .ok (.iconst 0, 1) := by decide +kernel
theorem dX7_isAhead_23 : decode cX7_isAhead 23 = .ok (.ireturn, 1) := by decide +kernel
theorem dX7_isAhead_24 : decode cX7_isAhead 24 = .ok (.aload_n 3, 1) := by decide +kernel
theorem dX7_isAhead_25 : decode cX7_isAhead 25 = .ok (.getfield 45, 3) := by decide +kernel
theorem dX7_isAhead_28 : decode cX7_isAhead 28 = .ok (.aload 4, 2) := by decide +kernel
theorem dX7_isAhead_30 : decode cX7_isAhead 30 = .ok (.getfield 45, 3) := by decide +kernel
theorem dX7_isAhead_33 : decode cX7_isAhead 33 = .ok (.if_icmp .gt 20, 3) := by decide +kernel
theorem dX7_isAhead_36 : decode cX7_isAhead 36 = .ok (.aload_n 3, 1) := by decide +kernel
theorem dX7_isAhead_37 : decode cX7_isAhead 37 = .ok (.getfield 45, 3) := by decide +kernel
theorem dX7_isAhead_40 : decode cX7_isAhead 40 = .ok (.aload 4, 2) := by decide +kernel
theorem dX7_isAhead_42 : decode cX7_isAhead 42 = .ok (.getfield 45, 3) := by decide +kernel
theorem dX7_isAhead_45 : decode cX7_isAhead 45 = .ok (.if_icmp .ne 12, 3) := by decide +kernel
theorem dX7_isAhead_48 : decode cX7_isAhead 48 = .ok (.iload_n 1, 1) := by decide +kernel
theorem dX7_isAhead_49 : decode cX7_isAhead 49 = .ok (.iload_n 2, 1) := by decide +kernel
theorem dX7_isAhead_50 : decode cX7_isAhead 50 = .ok (.if_icmp .ge 7, 3) := by decide +kernel
theorem dX7_isAhead_53 : decode cX7_isAhead 53 = .ok (.iconst 1, 1) := by decide +kernel
theorem dX7_isAhead_54 : decode cX7_isAhead 54 = .ok (.goto 4, 3) := by decide +kernel
theorem dX7_isAhead_57 : decode cX7_isAhead 57 = .ok (.iconst 0, 1) := by decide +kernel
theorem dX7_isAhead_58 : decode cX7_isAhead 58 = .ok (.ireturn, 1) := by decide +kernel
theorem dX7_beginsWith_0 : decode cX7_beginsWith 0 = .ok (.aload_n 0, 1) := by decide +kernel
theorem dX7_beginsWith_1 : decode cX7_beginsWith 1 = .ok (.iload_n 1, 1) := by decide +kernel
theorem dX7_beginsWith_2 : decode cX7_beginsWith 2 = .ok (.invokevirtual 21, 3) := by decide +kernel
theorem dX7_beginsWith_5 : decode cX7_beginsWith 5 = .ok (.astore_n 3, 1) := by decide +kernel
theorem dX7_beginsWith_6 : decode cX7_beginsWith 6 = .ok (.aload_n 3, 1) := by decide +kernel
theorem dX7_beginsWith_7 : decode cX7_beginsWith 7 = .ok (.ifnull 15, 3) := by decide +kernel
theorem dX7_beginsWith_10 : decode cX7_beginsWith 10 = .ok (.aload_n 3, 1) := by decide +kernel
theorem dX7_beginsWith_11 : decode cX7_beginsWith 11 = .ok (.aload_n 2, 1) := by decide +kernel
theorem dX7_beginsWith_12 : decode cX7_beginsWith 12 = .ok (.invokevirtual 65, 3) := by decide +kernel
theorem dX7_beginsWith_15 : decode cX7_beginsWith 15 = .ok (.ifCond .eq 7, 3) := by decide +kernel
theorem dX7_beginsWith_18 : decode cX7_beginsWith 18 = .ok (.iconst 1, 1) := by decide +kernel
theorem dX7_beginsWith_19 : decode cX7_beginsWith 19 = .ok (.goto 4, 3) := by decide +kernel
theorem dX7_beginsWith_22 : decode cX7_beginsWith 22 = .ok (.iconst 0, 1) := by decide +kernel
theorem dX7_beginsWith_23 : decode cX7_beginsWith 23 = .ok (.ireturn, 1) := by decide +kernel
theorem dX7_isTypedAt_0 : decode cX7_isTypedAt 0 = .ok (.aload_n 0, 1) := by decide +kernel
theorem dX7_isTypedAt_1 : decode cX7_isTypedAt 1 = .ok (.iload_n 1, 1) := by decide +kernel
theorem dX7_isTypedAt_2 : decode cX7_isTypedAt 2 = .ok (.invokevirtual 21, 3) := by decide +kernel
theorem dX7_isTypedAt_5 : decode cX7_isTypedAt 5 = .ok (.astore 4, 2) := by decide +kernel
theorem dX7_isTypedAt_7 : decode cX7_isTypedAt 7 = .ok (.aload 4, 2) := by decide +kernel
theorem dX7_isTypedAt_9 : decode cX7_isTypedAt 9 = .ok (.ifnull 17, 3) := by decide +kernel
theorem dX7_isTypedAt_12 : decode cX7_isTypedAt 12 = .ok (.aload 4, 2) := by decide +kernel
theorem dX7_isTypedAt_14 : decode cX7_isTypedAt 14 = .ok (.aload_n 2, 1) := by decide +kernel
theorem dX7_isTypedAt_15 : decode cX7_isTypedAt 15 = .ok (.iload_n 3, 1) := by decide +kernel
theorem dX7_isTypedAt_16 : decode cX7_isTypedAt 16 = .ok (.invokevirtual 69, 3) := by decide +kernel
theorem dX7_isTypedAt_19 : decode cX7_isTypedAt 19 = .ok (.ifCond .eq 7, 3) := by decide +kernel
theorem dX7_isTypedAt_22 : decode cX7_isTypedAt 22 = .ok (.iconst 1, 1) := by decide +kernel
theorem dX7_isTypedAt_23 : decode cX7_isTypedAt 23 = .ok (.goto 4, 3) := by decide +kernel
theorem dX7_isTypedAt_26 : decode cX7_isTypedAt 26 = .ok (.iconst 0, 1) := by decide +kernel
theorem dX7_isTypedAt_27 : decode cX7_isTypedAt 27 = .ok (.ireturn, 1) := by decide +kernel
theorem dX7_sumOfFrequencies_0 : decode cX7_sumOfFrequencies 0 = .ok (.iconst 0, 1) := by decide +kernel
theorem dX7_sumOfFrequencies_1 : decode cX7_sumOfFrequencies 1 = .ok (.istore_n 1, 1) := by decide +kernel
theorem dX7_sumOfFrequencies_2 : decode cX7_sumOfFrequencies 2 = .ok (.aload_n 0, 1) := by decide +kernel
theorem dX7_sumOfFrequencies_3 : decode cX7_sumOfFrequencies 3 = .ok (.getfield 11, 3) := by decide +kernel
theorem dX7_sumOfFrequencies_6 : decode cX7_sumOfFrequencies 6 = .ok (.astore_n 2, 1) := by decide +kernel
theorem dX7_sumOfFrequencies_7 : decode cX7_sumOfFrequencies 7 = .ok (.aload_n 2, 1) := by decide +kernel
theorem dX7_sumOfFrequencies_8 : decode cX7_sumOfFrequencies 8 = .ok (.arraylength, 1) := by decide +kernel
theorem dX7_sumOfFrequencies_9 : decode cX7_sumOfFrequencies 9 = .ok (.istore_n 3, 1) := by decide +kernel
theorem dX7_sumOfFrequencies_10 : decode cX7_sumOfFrequencies 10 = .ok (.iconst 0, 1) := by decide +kernel
theorem dX7_sumOfFrequencies_11 : decode cX7_sumOfFrequencies 11 = .ok (.istore 4, 2) := by decide +kernel
theorem dX7_sumOfFrequencies_13 : decode cX7_sumOfFrequencies 13 = .ok (.iload 4, 2) := by decide +kernel
theorem dX7_sumOfFrequencies_15 : decode cX7_sumOfFrequencies 15 = .ok (.iload_n 3, 1) := by decide +kernel
theorem dX7_sumOfFrequencies_16 : decode cX7_sumOfFrequencies 16 = .ok (.if_icmp .ge 28, 3) := by decide +kernel
theorem dX7_sumOfFrequencies_19 : decode cX7_sumOfFrequencies 19 = .ok (.aload_n 2, 1) := by decide +kernel
theorem dX7_sumOfFrequencies_20 : decode cX7_sumOfFrequencies 20 = .ok (.iload 4, 2) := by decide +kernel
theorem dX7_sumOfFrequencies_22 : decode cX7_sumOfFrequencies 22 = .ok (.aaload, 1) := by decide +kernel
theorem dX7_sumOfFrequencies_23 : decode cX7_sumOfFrequencies 23 = .ok (.astore 5, 2) := by decide +kernel
theorem dX7_sumOfFrequencies_25 : decode cX7_sumOfFrequencies 25 = .ok (.aload 5, 2) := by decide +kernel
theorem dX7_sumOfFrequencies_27 : decode cX7_sumOfFrequencies 27 = .ok (.ifnull 11, 3) := by decide +kernel
theorem dX7_sumOfFrequencies_30 : decode cX7_sumOfFrequencies 30 = .ok (.iload_n 1, 1) := by decide +kernel
theorem dX7_sumOfFrequencies_31 : decode cX7_sumOfFrequencies 31 = .ok (.aload 5, 2) := by decide +kernel
theorem dX7_sumOfFrequencies_33 : decode cX7_sumOfFrequencies 33 = .ok (.getfield 45, 3) := by decide +kernel
theorem dX7_sumOfFrequencies_36 : decode cX7_sumOfFrequencies 36 = .ok (.iadd, 1) := by decide +kernel
theorem dX7_sumOfFrequencies_37 : decode cX7_sumOfFrequencies 37 = .ok (.istore_n 1, 1) := by decide +kernel
theorem dX7_sumOfFrequencies_38 : decode cX7_sumOfFrequencies 38 = .ok (.iinc 4 1, 3) := by decide +kernel
theorem dX7_sumOfFrequencies_41 : decode cX7_sumOfFrequencies 41 = .ok (.goto (-28), 3) := by decide +kernel
theorem dX7_sumOfFrequencies_44 : decode cX7_sumOfFrequencies 44 = .ok (.iload_n 1, 1) := by decide +kernel
theorem dX7_sumOfFrequencies_45 : decode cX7_sumOfFrequencies 45 = .ok (.ireturn, 1) := by decide +kernel
theorem dX7_sumOfLengths_0 : decode cX7_sumOfLengths 0 = .ok (.iconst 0, 1) := by decide +kernel
theorem dX7_sumOfLengths_1 : decode cX7_sumOfLengths 1 = .ok (.istore_n 1, 1) := by decide +kernel
theorem dX7_sumOfLengths_2 : decode cX7_sumOfLengths 2 = .ok (.aload_n 0, 1) := by decide +kernel
theorem dX7_sumOfLengths_3 : decode cX7_sumOfLengths 3 = .ok (.getfield 11, 3) := by decide +kernel
theorem dX7_sumOfLengths_6 : decode cX7_sumOfLengths 6 = .ok (.astore_n 2, 1) := by decide +kernel
theorem dX7_sumOfLengths_7 : decode cX7_sumOfLengths 7 = .ok (.aload_n 2, 1) := by decide +kernel
theorem dX7_sumOfLengths_8 : decode cX7_sumOfLengths 8 = .ok (.arraylength, 1) := by decide +kernel
theorem dX7_sumOfLengths_9 : decode cX7_sumOfLengths 9 = .ok (.istore_n 3, 1) := by decide +kernel
theorem dX7_sumOfLengths_10 : decode cX7_sumOfLengths 10 = .ok (.iconst 0, 1) := by decide +kernel
theorem dX7_sumOfLengths_11 : decode cX7_sumOfLengths 11 = .ok (.istore 4, 2) := by decide +kernel
theorem dX7_sumOfLengths_13 : decode cX7_sumOfLengths 13 = .ok (.iload 4, 2) := by decide +kernel
theorem dX7_sumOfLengths_15 : decode cX7_sumOfLengths 15 = .ok (.iload_n 3, 1) := by decide +kernel
theorem dX7_sumOfLengths_16 : decode cX7_sumOfLengths 16 = .ok (.if_icmp .ge 35, 3) := by decide +kernel
theorem dX7_sumOfLengths_19 : decode cX7_sumOfLengths 19 = .ok (.aload_n 2, 1) := by decide +kernel
theorem dX7_sumOfLengths_20 : decode cX7_sumOfLengths 20 = .ok (.iload 4, 2) := by decide +kernel
theorem dX7_sumOfLengths_22 : decode cX7_sumOfLengths 22 = .ok (.aaload, 1) := by decide +kernel
theorem dX7_sumOfLengths_23 : decode cX7_sumOfLengths 23 = .ok (.astore 5, 2) := by decide +kernel
theorem dX7_sumOfLengths_25 : decode cX7_sumOfLengths 25 = .ok (.aload 5, 2) := by decide +kernel
theorem dX7_sumOfLengths_27 : decode cX7_sumOfLengths 27 = .ok (.ifnull 18, 3) := by decide +kernel
theorem dX7_sumOfLengths_30 : decode cX7_sumOfLengths 30 = .ok (.iload_n 1, 1) := by decide +kernel
theorem dX7_sumOfLengths_31 : decode cX7_sumOfLengths 31 = .ok (.aload 5, 2) := by decide +kernel
theorem dX7_sumOfLengths_33 : decode cX7_sumOfLengths 33 = .ok (.getfield 45, 3) := by decide +kernel
theorem dX7_sumOfLengths_36 : decode cX7_sumOfLengths 36 = .ok (.aload 5, 2) := by decide +kernel
theorem dX7_sumOfLengths_38 : decode cX7_sumOfLengths 38 = .ok (.getfield 48, 3) := by decide +kernel
theorem dX7_sumOfLengths_41 : decode cX7_sumOfLengths 41 = .ok (.arraylength, 1) := by decide +kernel
theorem dX7_sumOfLengths_42 : decode cX7_sumOfLengths 42 = .ok (.imul, 1) := by decide +kernel
theorem dX7_sumOfLengths_43 : decode cX7_sumOfLengths 43 = .ok (.iadd, 1) := by decide +kernel
theorem dX7_sumOfLengths_44 : decode cX7_sumOfLengths 44 = .ok (.istore_n 1, 1) := by decide +kernel
theorem dX7_sumOfLengths_45 : decode cX7_sumOfLengths 45 = .ok (.iinc 4 1, 3) := by decide +kernel
theorem dX7_sumOfLengths_48 : decode cX7_sumOfLengths 48 = .ok (.goto (-35), 3) := by decide +kernel
theorem dX7_sumOfLengths_51 : decode cX7_sumOfLengths 51 = .ok (.iload_n 1, 1) := by decide +kernel
theorem dX7_sumOfLengths_52 : decode cX7_sumOfLengths 52 = .ok (.ireturn, 1) := by decide +kernel
theorem dX8_init_0 : decode cX8_init 0 = .ok (.aload_n 0, 1) := by decide +kernel
theorem dX8_init_1 : decode cX8_init 1 = .ok (.invokespecial 3, 3) := by decide +kernel
theorem dX8_init_4 : decode cX8_init 4 = .ok (.aload_n 0, 1) := by decide +kernel
theorem dX8_init_5 : decode cX8_init 5 = .ok (.iload_n 1, 1) := by decide +kernel
theorem dX8_init_6 : decode cX8_init 6 = .ok (.iconst 0, 1) := by decide +kernel
theorem dX8_init_7 : decode cX8_init 7 = .ok (.invokestatic 9, 3) := by decide +kernel
theorem dX8_init_10 : decode cX8_init 10 = .ok (.newarray .int, 2) := by decide +kernel
theorem dX8_init_12 : decode cX8_init 12 = .ok (.putfield 15, 3) := by decide +kernel
theorem dX8_init_15 : decode cX8_init 15 = .ok (.return_, 1) := by decide +kernel
theorem dX8_size_0 : decode cX8_size 0 = .ok (.aload_n 0, 1) := by decide +kernel
theorem dX8_size_1 : decode cX8_size 1 = .ok (.getfield 21, 3) := by decide +kernel
theorem dX8_size_4 : decode cX8_size 4 = .ok (.ireturn, 1) := by decide +kernel
theorem dX8_isFull_0 : decode cX8_isFull 0 = .ok (.aload_n 0, 1) := by decide +kernel
theorem dX8_isFull_1 : decode cX8_isFull 1 = .ok (.getfield 21, 3) := by decide +kernel
theorem dX8_isFull_4 : decode cX8_isFull 4 = .ok (.aload_n 0, 1) := by decide +kernel
theorem dX8_isFull_5 : decode cX8_isFull 5 = .ok (.getfield 15, 3) := by decide +kernel
theorem dX8_isFull_8 : decode cX8_isFull 8 = .ok (.arraylength, 1) := by decide +kernel
theorem dX8_isFull_9 : decode cX8_isFull 9 = .ok (.if_icmp .lt 7, 3) := by decide +kernel
theorem dX8_isFull_12 : decode cX8_isFull 12 = .ok (.iconst 1, 1) := by decide +kernel
theorem dX8_isFull_13 : decode cX8_isFull 13 = .ok (.goto 4, 3) := by decide +kernel
theorem dX8_isFull_16 : decode cX8_isFull 16 = .ok (.iconst 0, 1) := by decide +kernel
theorem dX8_isFull_17 : decode cX8_isFull 17 = .ok (.ireturn, 1) := by decide +kernel
theorem dX8_get_0 : decode cX8_get 0 = .ok (.iload_n 1, 1) := by decide +kernel
theorem dX8_get_1 : decode cX8_get 1 = .ok (.ifCond .lt 20, 3) := by decide +kernel
theorem dX8_get_4 : decode cX8_get 4 = .ok (.iload_n 1, 1) := by decide +kernel
theorem dX8_get_5 : decode cX8_get 5 = .ok (.aload_n 0, 1) := by decide +kernel
theorem dX8_get_6 : decode cX8_get 6 = .ok (.getfield 21, 3) := by decide +kernel
theorem dX8_get_9 : decode cX8_get 9 = .ok (.if_icmp .ge 12, 3) := by decide +kernel
theorem dX8_get_12 : decode cX8_get 12 = .ok (.aload_n 0, 1) := by decide +kernel
theorem dX8_get_13 : decode cX8_get 13 = .ok (.getfield 15, 3) := by decide +kernel
theorem dX8_get_16 : decode cX8_get 16 = .ok (.iload_n 1, 1) := by decide +kernel
theorem dX8_get_17 : decode cX8_get 17 = .ok (.iaload, 1) := by decide +kernel
theorem dX8_get_18 : decode cX8_get 18 = .ok (.goto 5, 3) := by decide +kernel
theorem dX8_get_21 : decode cX8_get 21 = .ok (.bipush (-101), 2) := by decide +kernel
theorem dX8_get_23 : decode cX8_get 23 = .ok (.ireturn, 1) := by decide +kernel
theorem dX8_add_0 : decode cX8_add 0 = .ok (.aload_n 0, 1) := by decide +kernel
theorem dX8_add_1 : decode cX8_add 1 = .ok (.invokevirtual 25, 3) := by decide +kernel
theorem dX8_add_4 : decode cX8_add 4 = .ok (.ifCond .ne 23, 3) := by decide +kernel
theorem dX8_add_7 : decode cX8_add 7 = .ok (.aload_n 0, 1) := by decide +kernel
theorem dX8_add_8 : decode cX8_add 8 = .ok (.getfield 15, 3) := by decide +kernel
theorem dX8_add_11 : decode cX8_add 11 = .ok (.aload_n 0, 1) := by decide +kernel
theorem dX8_add_12 : decode cX8_add 12 = .ok (.getfield 21, 3) := by decide +kernel
theorem dX8_add_15 : decode cX8_add 15 = .ok (.iload_n 1, 1) := by decide +kernel
theorem dX8_add_16 : decode cX8_add 16 = .ok (.iastore, 1) := by decide +kernel
theorem dX8_add_17 : decode cX8_add 17 = .ok (.aload_n 0, 1) := by decide +kernel
theorem dX8_add_18 : decode cX8_add 18 = .ok (.dup, 1) := by decide +kernel
theorem dX8_add_19 : decode cX8_add 19 = .ok (.getfield 21, 3) := by decide +kernel
theorem dX8_add_22 : decode cX8_add 22 = .ok (.iconst 1, 1) := by decide +kernel
theorem dX8_add_23 : decode cX8_add 23 = .ok (.iadd, 1) := by decide +kernel
theorem dX8_add_24 : decode cX8_add 24 = .ok (.putfield 21, 3) := by decide +kernel
theorem dX8_add_27 : decode cX8_add 27 = .ok (.return_, 1) := by decide +kernel
theorem dX8_insert_0 : decode cX8_insert 0 = .ok (.aload_n 0, 1) := by decide +kernel
theorem dX8_insert_1 : decode cX8_insert 1 = .ok (.invokevirtual 25, 3) := by decide +kernel
theorem dX8_insert_4 : decode cX8_insert 4 = .ok (.ifCond .ne 15, 3) := by decide +kernel
theorem dX8_insert_7 : decode cX8_insert 7 = .ok (.iload_n 1, 1) := by decide +kernel
theorem dX8_insert_8 : decode cX8_insert 8 = .ok (.ifCond .lt 11, 3) := by decide +kernel
theorem dX8_insert_11 : decode cX8_insert 11 = .ok (.iload_n 1, 1) := by decide +kernel
theorem dX8_insert_12 : decode cX8_insert 12 = .ok (.aload_n 0, 1) := by decide +kernel
theorem dX8_insert_13 : decode cX8_insert 13 = .ok (.getfield 21, 3) := by decide +kernel
theorem dX8_insert_16 : decode cX8_insert 16 = .ok (.if_icmp .le 4, 3) := by decide +kernel
theorem dX8_insert_19 : decode cX8_insert 19 = .ok (.return_, 1) := by decide +kernel
theorem dX8_insert_20 : decode cX8_insert 20 = .ok (.aload_n 0, 1) := by decide +kernel
theorem dX8_insert_21 : decode cX8_insert 21 = .ok (.getfield 21, 3) := by decide +kernel
theorem dX8_insert_24 : decode cX8_insert 24 = .ok (.istore_n 3, 1) := by decide +kernel
theorem dX8_insert_25 : decode cX8_insert 25 = .ok (.iload_n 3, 1) := by decide +kernel
theorem dX8_insert_26 : decode cX8_insert 26 = .ok (.iload_n 1, 1) := by decide +kernel
theorem dX8_insert_27 : decode cX8_insert 27 = .ok (.if_icmp .le 23, 3) := by decide +kernel
theorem dX8_insert_30 : decode cX8_insert 30 = .ok (.aload_n 0, 1) := by decide +kernel
theorem dX8_insert_31 : decode cX8_insert 31 = .ok (.getfield 15, 3) := by decide +kernel
theorem dX8_insert_34 : decode cX8_insert 34 = .ok (.iload_n 3, 1) := by decide +kernel
theorem dX8_insert_35 : decode cX8_insert 35 = .ok (.aload_n 0, 1) := by decide +kernel
theorem dX8_insert_36 : decode cX8_insert 36 = .ok (.getfield 15, 3) := by decide +kernel
theorem dX8_insert_39 : decode cX8_insert 39 = .ok (.iload_n 3, 1) := by decide +kernel
theorem dX8_insert_40 : decode cX8_insert 40 = .ok (.iconst 1, 1) := by decide +kernel
theorem dX8_insert_41 : decode cX8_insert 41 = .ok (.isub, 1) := by decide +kernel
theorem dX8_insert_42 : decode cX8_insert 42 = .ok (.iaload, 1) := by decide +kernel
theorem dX8_insert_43 : decode cX8_insert 43 = .ok (.iastore, 1) := by decide +kernel
theorem dX8_insert_44 : decode cX8_insert 44 = .ok (.iinc 3 (-1), 3) := by decide +kernel
theorem dX8_insert_47 : decode cX8_insert 47 = .ok (.goto (-22), 3) := by decide +kernel
theorem dX8_insert_50 : decode cX8_insert 50 = .ok (.aload_n 0, 1) := by decide +kernel
theorem dX8_insert_51 : decode cX8_insert 51 = .ok (.getfield 15, 3) := by decide +kernel
theorem dX8_insert_54 : decode cX8_insert 54 = .ok (.iload_n 1, 1) := by decide +kernel
theorem dX8_insert_55 : decode cX8_insert 55 = .ok (.iload_n 2, 1) := by decide +kernel
theorem dX8_insert_56 : decode cX8_insert 56 = .ok (.iastore, 1) := by decide +kernel
theorem dX8_insert_57 : decode cX8_insert 57 = .ok (.aload_n 0, 1) := by decide +kernel
theorem dX8_insert_58 : decode cX8_insert 58 = .ok (.dup, 1) := by decide +kernel
theorem dX8_insert_59 : decode cX8_insert 59 = .ok (.getfield 21, 3) := by decide +kernel
theorem dX8_insert_62 : decode cX8_insert 62 = .ok (.iconst 1, 1) := by decide +kernel
theorem dX8_insert_63 : decode cX8_insert 63 = .ok (.iadd, 1) := by decide +kernel
theorem dX8_insert_64 : decode cX8_insert 64 = .ok (.putfield 21, 3) := by decide +kernel
theorem dX8_insert_67 : decode cX8_insert 67 = .ok (.return_, 1) := by decide +kernel
theorem dX8_removeLast_0 : decode cX8_removeLast 0 = .ok (.aload_n 0, 1) := by decide +kernel
theorem dX8_removeLast_1 : decode cX8_removeLast 1 = .ok (.getfield 21, 3) := by decide +kernel
theorem dX8_removeLast_4 : decode cX8_removeLast 4 = .ok (.ifCond .le 13, 3) := by decide +kernel
theorem dX8_removeLast_7 : decode cX8_removeLast 7 = .ok (.aload_n 0, 1) := by decide +kernel
theorem dX8_removeLast_8 : decode cX8_removeLast 8 = .ok (.dup, 1) := by decide +kernel
theorem dX8_removeLast_9 : decode cX8_removeLast 9 = .ok (.getfield 21, 3) := by decide +kernel
theorem dX8_removeLast_12 : decode cX8_removeLast 12 = .ok (.iconst 1, 1) := by decide +kernel
theorem dX8_removeLast_13 : decode cX8_removeLast 13 = .ok (.isub, 1) := by decide +kernel
theorem dX8_removeLast_14 : decode cX8_removeLast 14 = .ok (.putfield 21, 3) := by decide +kernel
theorem dX8_removeLast_17 : decode cX8_removeLast 17 = .ok (.return_, 1) := by decide +kernel
theorem dX8_clear_0 : decode cX8_clear 0 = .ok (.aload_n 0, 1) := by decide +kernel
theorem dX8_clear_1 : decode cX8_clear 1 = .ok (.getfield 21, 3) := by decide +kernel
theorem dX8_clear_4 : decode cX8_clear 4 = .ok (.istore_n 1, 1) := by decide +kernel
theorem dX8_clear_5 : decode cX8_clear 5 = .ok (.aload_n 0, 1) := by decide +kernel
theorem dX8_clear_6 : decode cX8_clear 6 = .ok (.iconst 0, 1) := by decide +kernel
theorem dX8_clear_7 : decode cX8_clear 7 = .ok (.putfield 21, 3) := by decide +kernel
theorem dX8_clear_10 : decode cX8_clear 10 = .ok (.iload_n 1, 1) := by decide +kernel
theorem dX8_clear_11 : decode cX8_clear 11 = .ok (.ireturn, 1) := by decide +kernel
theorem dX9_init_0 : decode cX9_init 0 = .ok (.aload_n 0, 1) := by decide +kernel
theorem dX9_init_1 : decode cX9_init 1 = .ok (.invokespecial 3, 3) := by decide +kernel
theorem dX9_init_4 : decode cX9_init 4 = .ok (.aload_n 0, 1) := by decide +kernel
theorem dX9_init_5 : decode cX9_init 5 = .ok (.new 9, 3) := by decide +kernel
theorem dX9_init_8 : decode cX9_init 8 = .ok (.dup, 1) := by decide +kernel
theorem dX9_init_9 : decode cX9_init 9 = .ok (.bipush 50, 2) := by decide +kernel
theorem dX9_init_11 : decode cX9_init 11 = .ok (.invokespecial 11, 3) := by decide +kernel
theorem dX9_init_14 : decode cX9_init 14 = .ok (.putfield 14, 3) := by decide +kernel
theorem dX9_init_17 : decode cX9_init 17 = .ok (.aload_n 0, 1) := by decide +kernel
theorem dX9_init_18 : decode cX9_init 18 = .ok (.new 9, 3) := by decide +kernel
theorem dX9_init_21 : decode cX9_init 21 = .ok (.dup, 1) := by decide +kernel
theorem dX9_init_22 : decode cX9_init 22 = .ok (.bipush 10, 2) := by decide +kernel
theorem dX9_init_24 : decode cX9_init 24 = .ok (.invokespecial 11, 3) := by decide +kernel
theorem dX9_init_27 : decode cX9_init 27 = .ok (.putfield 18, 3) := by decide +kernel
theorem dX9_init_30 : decode cX9_init 30 = .ok (.aload_n 0, 1) := by decide +kernel
theorem dX9_init_31 : decode cX9_init 31 = .ok (.new 21, 3) := by decide +kernel
theorem dX9_init_34 : decode cX9_init 34 = .ok (.dup, 1) := by decide +kernel
theorem dX9_init_35 : decode cX9_init 35 = .ok (.invokespecial 23, 3) := by decide +kernel
theorem dX9_init_38 : decode cX9_init 38 = .ok (.putfield 24, 3) := by decide +kernel
theorem dX9_init_41 : decode cX9_init 41 = .ok (.aload_n 0, 1) := by decide +kernel
theorem dX9_init_42 : decode cX9_init 42 = .ok (.new 28, 3) := by decide +kernel
theorem dX9_init_45 : decode cX9_init 45 = .ok (.dup, 1) := by decide +kernel
theorem dX9_init_46 : decode cX9_init 46 = .ok (.invokespecial 30, 3) := by decide +kernel
theorem dX9_init_49 : decode cX9_init 49 = .ok (.putfield 31, 3) := by decide +kernel
theorem dX9_init_52 : decode cX9_init 52 = .ok (.aload_n 0, 1) := by decide +kernel
theorem dX9_init_53 : decode cX9_init 53 = .ok (.new 35, 3) := by decide +kernel
theorem dX9_init_56 : decode cX9_init 56 = .ok (.dup, 1) := by decide +kernel
theorem dX9_init_57 : decode cX9_init 57 = .ok (.invokespecial 37, 3) := by decide +kernel
theorem dX9_init_60 : decode cX9_init 60 = .ok (.putfield 38, 3) := by decide +kernel
theorem dX9_init_63 : decode cX9_init 63 = .ok (.aload_n 0, 1) := by decide +kernel
theorem dX9_init_64 : decode cX9_init 64 = .ok (.new 42, 3) := by decide +kernel
theorem dX9_init_67 : decode cX9_init 67 = .ok (.dup, 1) := by decide +kernel
theorem dX9_init_68 : decode cX9_init 68 = .ok (.invokespecial 44, 3) := by decide +kernel
theorem dX9_init_71 : decode cX9_init 71 = .ok (.putfield 45, 3) := by decide +kernel
theorem dX9_init_74 : decode cX9_init 74 = .ok (.aload_n 0, 1) := by decide +kernel
theorem dX9_init_75 : decode cX9_init 75 = .ok (.new 49, 3) := by decide +kernel
theorem dX9_init_78 : decode cX9_init 78 = .ok (.dup, 1) := by decide +kernel
theorem dX9_init_79 : decode cX9_init 79 = .ok (.invokespecial 51, 3) := by decide +kernel
theorem dX9_init_82 : decode cX9_init 82 = .ok (.putfield 52, 3) := by decide +kernel
theorem dX9_init_85 : decode cX9_init 85 = .ok (.aload_n 0, 1) := by decide +kernel
theorem dX9_init_86 : decode cX9_init 86 = .ok (.new 56, 3) := by decide +kernel
theorem dX9_init_89 : decode cX9_init 89 = .ok (.dup, 1) := by decide +kernel
theorem dX9_init_90 : decode cX9_init 90 = .ok (.invokespecial 58, 3) := by decide +kernel
theorem dX9_init_93 : decode cX9_init 93 = .ok (.putfield 59, 3) := by decide +kernel
theorem dX9_init_96 : decode cX9_init 96 = .ok (.aload_n 0, 1) := by decide +kernel
theorem dX9_init_97 : decode cX9_init 97 = .ok (.new 63, 3) := by decide +kernel
theorem dX9_init_100 : decode cX9_init 100 = .ok (.dup, 1) := by decide +kernel
theorem dX9_init_101 : decode cX9_init 101 = .ok (.invokespecial 65, 3) := by decide +kernel
theorem dX9_init_104 : decode cX9_init 104 = .ok (.putfield 66, 3) := by decide +kernel
theorem dX9_init_107 : decode cX9_init 107 = .ok (.aload_n 0, 1) := by decide +kernel
theorem dX9_init_108 : decode cX9_init 108 = .ok (.new 63, 3) := by decide +kernel
theorem dX9_init_111 : decode cX9_init 111 = .ok (.dup, 1) := by decide +kernel
theorem dX9_init_112 : decode cX9_init 112 = .ok (.invokespecial 65, 3) := by decide +kernel
theorem dX9_init_115 : decode cX9_init 115 = .ok (.putfield 70, 3) := by decide +kernel
theorem dX9_init_118 : decode cX9_init 118 = .ok (.return_, 1) := by decide +kernel
theorem dX9_letter_0 : decode cX9_letter 0 = .ok (.iload_n 1, 1) := by decide +kernel
theorem dX9_letter_1 : decode cX9_letter 1 = .ok (.bipush 32, 2) := by decide +kernel
theorem dX9_letter_3 : decode cX9_letter 3 = .ok (.if_icmp .lt 9, 3) := by decide +kernel
theorem dX9_letter_6 : decode cX9_letter 6 = .ok (.iload_n 1, 1) := by decide +kernel
theorem dX9_letter_7 : decode cX9_letter 7 = .ok (.bipush 126, 2) := by decide +kernel
theorem dX9_letter_9 : decode cX9_letter 9 = .ok (.if_icmp .le 6, 3) := by decide +kernel
theorem dX9_letter_12 : decode cX9_letter 12 = .ok (.bipush (-102), 2) := by decide +kernel
theorem dX9_letter_14 : decode cX9_letter 14 = .ok (.ireturn, 1) := by decide +kernel
theorem dX9_letter_15 : decode cX9_letter 15 = .ok (.aload_n 0, 1) := by decide +kernel
theorem dX9_letter_16 : decode cX9_letter 16 = .ok (.getfield 14, 3) := by decide +kernel
theorem dX9_letter_19 : decode cX9_letter 19 = .ok (.invokevirtual 73, 3) := by decide +kernel
theorem dX9_letter_22 : decode cX9_letter 22 = .ok (.ifCond .eq 6, 3) := by decide +kernel
theorem dX9_letter_25 : decode cX9_letter 25 = .ok (.bipush (-104), 2) := by decide +kernel
theorem dX9_letter_27 : decode cX9_letter 27 = .ok (.ireturn, 1) := by decide +kernel
theorem dX9_letter_28 : decode cX9_letter 28 = .ok (.aload_n 0, 1) := by decide +kernel
theorem dX9_letter_29 : decode cX9_letter 29 = .ok (.getfield 14, 3) := by decide +kernel
theorem dX9_letter_32 : decode cX9_letter 32 = .ok (.iload_n 1, 1) := by decide +kernel
theorem dX9_letter_33 : decode cX9_letter 33 = .ok (.invokevirtual 77, 3) := by decide +kernel
theorem dX9_letter_36 : decode cX9_letter 36 = .ok (.aload_n 0, 1) := by decide +kernel
theorem dX9_letter_37 : decode cX9_letter 37 = .ok (.getfield 14, 3) := by decide +kernel
theorem dX9_letter_40 : decode cX9_letter 40 = .ok (.invokevirtual 80, 3) := by decide +kernel
theorem dX9_letter_43 : decode cX9_letter 43 = .ok (.ireturn, 1) := by decide +kernel
theorem dX9_blank_0 : decode cX9_blank 0 = .ok (.aload_n 0, 1) := by decide +kernel
theorem dX9_blank_1 : decode cX9_blank 1 = .ok (.getfield 14, 3) := by decide +kernel
theorem dX9_blank_4 : decode cX9_blank 4 = .ok (.invokevirtual 84, 3) := by decide +kernel
theorem dX9_blank_7 : decode cX9_blank 7 = .ok (.ireturn, 1) := by decide +kernel
theorem dX9_fault_0 : decode cX9_fault 0 = .ok (.aload_n 0, 1) := by decide +kernel
theorem dX9_fault_1 : decode cX9_fault 1 = .ok (.getfield 38, 3) := by decide +kernel
theorem dX9_fault_4 : decode cX9_fault 4 = .ok (.aload_n 0, 1) := by decide +kernel
theorem dX9_fault_5 : decode cX9_fault 5 = .ok (.getfield 14, 3) := by decide +kernel
theorem dX9_fault_8 : decode cX9_fault 8 = .ok (.invokevirtual 87, 3) := by decide +kernel
theorem dX9_fault_11 : decode cX9_fault 11 = .ok (.ireturn, 1) := by decide +kernel
theorem dX9_names_0 : decode cX9_names 0 = .ok (.aload_n 0, 1) := by decide +kernel
theorem dX9_names_1 : decode cX9_names 1 = .ok (.getfield 38, 3) := by decide +kernel
theorem dX9_names_4 : decode cX9_names 4 = .ok (.aload_n 0, 1) := by decide +kernel
theorem dX9_names_5 : decode cX9_names 5 = .ok (.getfield 14, 3) := by decide +kernel
theorem dX9_names_8 : decode cX9_names 8 = .ok (.invokevirtual 87, 3) := by decide +kernel
theorem dX9_names_11 : decode cX9_names 11 = .ok (.aload_n 0, 1) := by decide +kernel
theorem dX9_names_12 : decode cX9_names 12 = .ok (.getfield 14, 3) := by decide +kernel
theorem dX9_names_15 : decode cX9_names 15 = .ok (.invokevirtual 80, 3) := by decide +kernel
theorem dX9_names_18 : decode cX9_names 18 = .ok (.if_icmp .ne 7, 3) := by decide +kernel
theorem dX9_names_21 : decode cX9_names 21 = .ok (.iconst 1, 1) := by decide +kernel
theorem dX9_names_22 : decode cX9_names 22 = .ok (.goto 4, 3) := by decide +kernel
theorem dX9_names_25 : decode cX9_names 25 = .ok (.iconst 0, 1) := by decide +kernel
theorem dX9_names_26 : decode cX9_names 26 = .ok (.istore_n 1, 1) := by decide +kernel
theorem dX9_names_27 : decode cX9_names 27 = .ok (.iload_n 1, 1) := by decide +kernel
theorem dX9_names_28 : decode cX9_names 28 = .ok (.ifCond .eq 20, 3) := by decide +kernel
theorem dX9_names_31 : decode cX9_names 31 = .ok (.aload_n 0, 1) := by decide +kernel
theorem dX9_names_32 : decode cX9_names 32 = .ok (.getfield 38, 3) := by decide +kernel
theorem dX9_names_35 : decode cX9_names 35 = .ok (.invokevirtual 91, 3) := by decide +kernel
theorem dX9_names_38 : decode cX9_names 38 = .ok (.ifCond .eq 10, 3) := by decide +kernel
theorem dX9_names_41 : decode cX9_names 41 = .ok (.aload_n 0, 1) := by decide +kernel
theorem dX9_names_42 : decode cX9_names 42 = .ok (.invokevirtual 94, 3) := by decide +kernel
theorem dX9_names_45 : decode cX9_names 45 = .ok (.ifCond .eq 6, 3) := by decide +kernel
theorem dX9_names_48 : decode cX9_names 48 = .ok (.bipush (-103), 2) := by decide +kernel
theorem dX9_names_50 : decode cX9_names 50 = .ok (.ireturn, 1) := by decide +kernel
theorem dX9_names_51 : decode cX9_names 51 = .ok (.aload_n 0, 1) := by decide +kernel
theorem dX9_names_52 : decode cX9_names 52 = .ok (.getfield 38, 3) := by decide +kernel
theorem dX9_names_55 : decode cX9_names 55 = .ok (.invokevirtual 97, 3) := by decide +kernel
theorem dX9_names_58 : decode cX9_names 58 = .ok (.istore_n 2, 1) := by decide +kernel
theorem dX9_names_59 : decode cX9_names 59 = .ok (.aload_n 0, 1) := by decide +kernel
theorem dX9_names_60 : decode cX9_names 60 = .ok (.getfield 31, 3) := by decide +kernel
theorem dX9_names_63 : decode cX9_names 63 = .ok (.invokevirtual 100, 3) := by decide +kernel
theorem dX9_names_66 : decode cX9_names 66 = .ok (.iload_n 2, 1) := by decide +kernel
theorem dX9_names_67 : decode cX9_names 67 = .ok (.iadd, 1) := by decide +kernel
theorem dX9_names_68 : decode cX9_names 68 = .ok (.bipush 14, 2) := by decide +kernel
theorem dX9_names_70 : decode cX9_names 70 = .ok (.if_icmp .le 6, 3) := by decide +kernel
theorem dX9_names_73 : decode cX9_names 73 = .ok (.bipush (-104), 2) := by decide +kernel
theorem dX9_names_75 : decode cX9_names 75 = .ok (.ireturn, 1) := by decide +kernel
theorem dX9_names_76 : decode cX9_names 76 = .ok (.iconst 0, 1) := by decide +kernel
theorem dX9_names_77 : decode cX9_names 77 = .ok (.istore_n 3, 1) := by decide +kernel
theorem dX9_names_78 : decode cX9_names 78 = .ok (.iload_n 3, 1) := by decide +kernel
theorem dX9_names_79 : decode cX9_names 79 = .ok (.iload_n 2, 1) := by decide +kernel
theorem dX9_names_80 : decode cX9_names 80 = .ok (.if_icmp .ge 41, 3) := by decide +kernel
theorem dX9_names_83 : decode cX9_names 83 = .ok (.aload_n 0, 1) := by decide +kernel
theorem dX9_names_84 : decode cX9_names 84 = .ok (.getfield 38, 3) := by decide +kernel
theorem dX9_names_87 : decode cX9_names 87 = .ok (.aload_n 0, 1) := by decide +kernel
theorem dX9_names_88 : decode cX9_names 88 = .ok (.getfield 14, 3) := by decide +kernel
theorem dX9_names_91 : decode cX9_names 91 = .ok (.iload_n 3, 1) := by decide +kernel
theorem dX9_names_92 : decode cX9_names 92 = .ok (.invokevirtual 101, 3) := by decide +kernel
theorem dX9_names_95 : decode cX9_names 95 = .ok (.astore 4, 2) := by decide +kernel
theorem dX9_names_97 : decode cX9_names 97 = .ok (.aload 4, 2) := by decide +kernel
theorem dX9_names_99 : decode cX9_names 99 = .ok (.aload_n 0, 1) := by decide +kernel
theorem dX9_names_100 : decode cX9_names 100 = .ok (.getfield 24, 3) := by decide +kernel
theorem dX9_names_103 : decode cX9_names 103 = .ok (.invokevirtual 105, 3) := by decide +kernel
theorem dX9_names_106 : decode cX9_names 106 = .ok (.aload_n 0, 1) := by decide +kernel
theorem dX9_names_107 : decode cX9_names 107 = .ok (.getfield 31, 3) := by decide +kernel
theorem dX9_names_110 : decode cX9_names 110 = .ok (.aload 4, 2) := by decide +kernel
theorem dX9_names_112 : decode cX9_names 112 = .ok (.invokevirtual 111, 3) := by decide +kernel
theorem dX9_names_115 : decode cX9_names 115 = .ok (.iinc 3 1, 3) := by decide +kernel
theorem dX9_names_118 : decode cX9_names 118 = .ok (.goto (-40), 3) := by decide +kernel
theorem dX9_names_121 : decode cX9_names 121 = .ok (.aload_n 0, 1) := by decide +kernel
theorem dX9_names_122 : decode cX9_names 122 = .ok (.getfield 14, 3) := by decide +kernel
theorem dX9_names_125 : decode cX9_names 125 = .ok (.invokevirtual 84, 3) := by decide +kernel
theorem dX9_names_128 : decode cX9_names 128 = .ok (.pop, 1) := by decide +kernel
theorem dX9_names_129 : decode cX9_names 129 = .ok (.aload_n 0, 1) := by decide +kernel
theorem dX9_names_130 : decode cX9_names 130 = .ok (.iconst 0, 1) := by decide +kernel
theorem dX9_names_131 : decode cX9_names 131 = .ok (.putfield 115, 3) := by decide +kernel
theorem dX9_names_134 : decode cX9_names 134 = .ok (.aload_n 0, 1) := by decide +kernel
theorem dX9_names_135 : decode cX9_names 135 = .ok (.dup, 1) := by decide +kernel
theorem dX9_names_136 : decode cX9_names 136 = .ok (.getfield 119, 3) := by decide +kernel
theorem dX9_names_139 : decode cX9_names 139 = .ok (.iconst 1, 1) := by decide +kernel
theorem dX9_names_140 : decode cX9_names 140 = .ok (.iadd, 1) := by decide +kernel
theorem dX9_names_141 : decode cX9_names 141 = .ok (.putfield 119, 3) := by decide +kernel
theorem dX9_names_144 : decode cX9_names 144 = .ok (.iload_n 2, 1) := by decide +kernel
theorem dX9_names_145 : decode cX9_names 145 = .ok (.ireturn, 1) := by decide +kernel
theorem dX9_isAnyItemKnown_0 : decode cX9_isAnyItemKnown 0 = .ok (.iconst 0, 1) := by decide +kernel
theorem dX9_isAnyItemKnown_1 : decode cX9_isAnyItemKnown 1 = .ok (.istore_n 1, 1) := by decide +kernel
theorem dX9_isAnyItemKnown_2 : decode cX9_isAnyItemKnown 2 = .ok (.iload_n 1, 1) := by decide +kernel
theorem dX9_isAnyItemKnown_3 : decode cX9_isAnyItemKnown 3 = .ok (.aload_n 0, 1) := by decide +kernel
theorem dX9_isAnyItemKnown_4 : decode cX9_isAnyItemKnown 4 = .ok (.getfield 38, 3) := by decide +kernel
theorem dX9_isAnyItemKnown_7 : decode cX9_isAnyItemKnown 7 = .ok (.invokevirtual 97, 3) := by decide +kernel
theorem dX9_isAnyItemKnown_10 : decode cX9_isAnyItemKnown 10 = .ok (.if_icmp .ge 41, 3) := by decide +kernel
theorem dX9_isAnyItemKnown_13 : decode cX9_isAnyItemKnown 13 = .ok (.aload_n 0, 1) := by decide +kernel
theorem dX9_isAnyItemKnown_14 : decode cX9_isAnyItemKnown 14 = .ok (.getfield 31, 3) := by decide +kernel
theorem dX9_isAnyItemKnown_17 : decode cX9_isAnyItemKnown 17 = .ok (.aload_n 0, 1) := by decide +kernel
theorem dX9_isAnyItemKnown_18 : decode cX9_isAnyItemKnown 18 = .ok (.getfield 14, 3) := by decide +kernel
theorem dX9_isAnyItemKnown_21 : decode cX9_isAnyItemKnown 21 = .ok (.aload_n 0, 1) := by decide +kernel
theorem dX9_isAnyItemKnown_22 : decode cX9_isAnyItemKnown 22 = .ok (.getfield 38, 3) := by decide +kernel
theorem dX9_isAnyItemKnown_25 : decode cX9_isAnyItemKnown 25 = .ok (.iload_n 1, 1) := by decide +kernel
theorem dX9_isAnyItemKnown_26 : decode cX9_isAnyItemKnown 26 = .ok (.invokevirtual 123, 3) := by decide +kernel
theorem dX9_isAnyItemKnown_29 : decode cX9_isAnyItemKnown 29 = .ok (.aload_n 0, 1) := by decide +kernel
theorem dX9_isAnyItemKnown_30 : decode cX9_isAnyItemKnown 30 = .ok (.getfield 38, 3) := by decide +kernel
theorem dX9_isAnyItemKnown_33 : decode cX9_isAnyItemKnown 33 = .ok (.iload_n 1, 1) := by decide +kernel
theorem dX9_isAnyItemKnown_34 : decode cX9_isAnyItemKnown 34 = .ok (.invokevirtual 127, 3) := by decide +kernel
theorem dX9_isAnyItemKnown_37 : decode cX9_isAnyItemKnown 37 = .ok (.invokevirtual 130, 3) := by decide +kernel
theorem dX9_isAnyItemKnown_40 : decode cX9_isAnyItemKnown 40 = .ok (.ifCond .eq 5, 3) := by decide +kernel
theorem dX9_isAnyItemKnown_43 : decode cX9_isAnyItemKnown 43 = .ok (.iconst 1, 1) := by decide +kernel
theorem dX9_isAnyItemKnown_44 : decode cX9_isAnyItemKnown 44 = .ok (.ireturn, 1) := by decide +kernel
theorem dX9_isAnyItemKnown_45 : decode cX9_isAnyItemKnown 45 = .ok (.iinc 1 1, 3) := by decide +kernel
theorem dX9_isAnyItemKnown_48 : decode cX9_isAnyItemKnown 48 = .ok (.goto (-46), 3) := by decide +kernel
theorem dX9_isAnyItemKnown_51 : decode cX9_isAnyItemKnown 51 = .ok (.iconst 0, 1) := by decide +kernel
theorem dX9_isAnyItemKnown_52 : decode cX9_isAnyItemKnown 52 = .ok (.ireturn, 1) := by decide +kernel
theorem dX9_dial_0 : decode cX9_dial 0 = .ok (.aload_n 0, 1) := by decide +kernel
theorem dX9_dial_1 : decode cX9_dial 1 = .ok (.getfield 24, 3) := by decide +kernel
theorem dX9_dial_4 : decode cX9_dial 4 = .ok (.aload_n 0, 1) := by decide +kernel
theorem dX9_dial_5 : decode cX9_dial 5 = .ok (.getfield 14, 3) := by decide +kernel
theorem dX9_dial_8 : decode cX9_dial 8 = .ok (.invokevirtual 134, 3) := by decide +kernel
theorem dX9_dial_11 : decode cX9_dial 11 = .ok (.istore_n 1, 1) := by decide +kernel
theorem dX9_dial_12 : decode cX9_dial 12 = .ok (.iload_n 1, 1) := by decide +kernel
theorem dX9_dial_13 : decode cX9_dial 13 = .ok (.ifCond .ne 6, 3) := by decide +kernel
theorem dX9_dial_16 : decode cX9_dial 16 = .ok (.bipush (-103), 2) := by decide +kernel
theorem dX9_dial_18 : decode cX9_dial 18 = .ok (.ireturn, 1) := by decide +kernel
theorem dX9_dial_19 : decode cX9_dial 19 = .ok (.aload_n 0, 1) := by decide +kernel
theorem dX9_dial_20 : decode cX9_dial 20 = .ok (.getfield 31, 3) := by decide +kernel
theorem dX9_dial_23 : decode cX9_dial 23 = .ok (.aload_n 0, 1) := by decide +kernel
theorem dX9_dial_24 : decode cX9_dial 24 = .ok (.getfield 24, 3) := by decide +kernel
theorem dX9_dial_27 : decode cX9_dial 27 = .ok (.invokevirtual 137, 3) := by decide +kernel
theorem dX9_dial_30 : decode cX9_dial 30 = .ok (.aload_n 0, 1) := by decide +kernel
theorem dX9_dial_31 : decode cX9_dial 31 = .ok (.getfield 14, 3) := by decide +kernel
theorem dX9_dial_34 : decode cX9_dial 34 = .ok (.invokevirtual 84, 3) := by decide +kernel
theorem dX9_dial_37 : decode cX9_dial 37 = .ok (.pop, 1) := by decide +kernel
theorem dX9_dial_38 : decode cX9_dial 38 = .ok (.aload_n 0, 1) := by decide +kernel
theorem dX9_dial_39 : decode cX9_dial 39 = .ok (.dup, 1) := by decide +kernel
theorem dX9_dial_40 : decode cX9_dial 40 = .ok (.getfield 138, 3) := by decide +kernel
theorem dX9_dial_43 : decode cX9_dial 43 = .ok (.iconst 1, 1) := by decide +kernel
theorem dX9_dial_44 : decode cX9_dial 44 = .ok (.iadd, 1) := by decide +kernel
theorem dX9_dial_45 : decode cX9_dial 45 = .ok (.putfield 138, 3) := by decide +kernel
theorem dX9_dial_48 : decode cX9_dial 48 = .ok (.iload_n 1, 1) := by decide +kernel
theorem dX9_dial_49 : decode cX9_dial 49 = .ok (.ireturn, 1) := by decide +kernel
theorem dX9_drop_0 : decode cX9_drop 0 = .ok (.aload_n 0, 1) := by decide +kernel
theorem dX9_drop_1 : decode cX9_drop 1 = .ok (.getfield 31, 3) := by decide +kernel
theorem dX9_drop_4 : decode cX9_drop 4 = .ok (.iload_n 1, 1) := by decide +kernel
theorem dX9_drop_5 : decode cX9_drop 5 = .ok (.invokevirtual 141, 3) := by decide +kernel
theorem dX9_drop_8 : decode cX9_drop 8 = .ok (.ifCond .ne 6, 3) := by decide +kernel
theorem dX9_drop_11 : decode cX9_drop 11 = .ok (.bipush (-101), 2) := by decide +kernel
theorem dX9_drop_13 : decode cX9_drop 13 = .ok (.ireturn, 1) := by decide +kernel
theorem dX9_drop_14 : decode cX9_drop 14 = .ok (.aload_n 0, 1) := by decide +kernel
theorem dX9_drop_15 : decode cX9_drop 15 = .ok (.getfield 31, 3) := by decide +kernel
theorem dX9_drop_18 : decode cX9_drop 18 = .ok (.iload_n 1, 1) := by decide +kernel
theorem dX9_drop_19 : decode cX9_drop 19 = .ok (.invokevirtual 145, 3) := by decide +kernel
theorem dX9_drop_22 : decode cX9_drop 22 = .ok (.aload_n 0, 1) := by decide +kernel
theorem dX9_drop_23 : decode cX9_drop 23 = .ok (.iconst 0, 1) := by decide +kernel
theorem dX9_drop_24 : decode cX9_drop 24 = .ok (.putfield 115, 3) := by decide +kernel
theorem dX9_drop_27 : decode cX9_drop 27 = .ok (.aload_n 0, 1) := by decide +kernel
theorem dX9_drop_28 : decode cX9_drop 28 = .ok (.dup, 1) := by decide +kernel
theorem dX9_drop_29 : decode cX9_drop 29 = .ok (.getfield 148, 3) := by decide +kernel
theorem dX9_drop_32 : decode cX9_drop 32 = .ok (.iconst 1, 1) := by decide +kernel
theorem dX9_drop_33 : decode cX9_drop 33 = .ok (.iadd, 1) := by decide +kernel
theorem dX9_drop_34 : decode cX9_drop 34 = .ok (.putfield 148, 3) := by decide +kernel
theorem dX9_drop_37 : decode cX9_drop 37 = .ok (.aload_n 0, 1) := by decide +kernel
theorem dX9_drop_38 : decode cX9_drop 38 = .ok (.getfield 31, 3) := by decide +kernel
theorem dX9_drop_41 : decode cX9_drop 41 = .ok (.invokevirtual 100, 3) := by decide +kernel
theorem dX9_drop_44 : decode cX9_drop 44 = .ok (.ireturn, 1) := by decide +kernel
theorem dX9_use_0 : decode cX9_use 0 = .ok (.aload_n 0, 1) := by decide +kernel
theorem dX9_use_1 : decode cX9_use 1 = .ok (.getfield 31, 3) := by decide +kernel
theorem dX9_use_4 : decode cX9_use 4 = .ok (.iload_n 1, 1) := by decide +kernel
theorem dX9_use_5 : decode cX9_use 5 = .ok (.invokevirtual 141, 3) := by decide +kernel
theorem dX9_use_8 : decode cX9_use 8 = .ok (.ifCond .ne 6, 3) := by decide +kernel
theorem dX9_use_11 : decode cX9_use 11 = .ok (.bipush (-101), 2) := by decide +kernel
theorem dX9_use_13 : decode cX9_use 13 = .ok (.ireturn, 1) := by decide +kernel
theorem dX9_use_14 : decode cX9_use 14 = .ok (.iload_n 2, 1) := by decide +kernel
theorem dX9_use_15 : decode cX9_use 15 = .ok (.iconst 1, 1) := by decide +kernel
theorem dX9_use_16 : decode cX9_use 16 = .ok (.if_icmp .lt 9, 3) := by decide +kernel
theorem dX9_use_19 : decode cX9_use 19 = .ok (.iload_n 2, 1) := by decide +kernel
theorem dX9_use_20 : decode cX9_use 20 = .ok (.bipush 99, 2) := by decide +kernel
theorem dX9_use_22 : decode cX9_use 22 = .ok (.if_icmp .le 6, 3) := by decide +kernel
theorem dX9_use_25 : decode cX9_use 25 = .ok (.bipush (-102), 2) := by decide +kernel
theorem dX9_use_27 : decode cX9_use 27 = .ok (.ireturn, 1) := by decide +kernel
theorem dX9_use_28 : decode cX9_use 28 = .ok (.aload_n 0, 1) := by decide +kernel
theorem dX9_use_29 : decode cX9_use 29 = .ok (.getfield 31, 3) := by decide +kernel
theorem dX9_use_32 : decode cX9_use 32 = .ok (.iload_n 1, 1) := by decide +kernel
theorem dX9_use_33 : decode cX9_use 33 = .ok (.iload_n 2, 1) := by decide +kernel
theorem dX9_use_34 : decode cX9_use 34 = .ok (.invokevirtual 151, 3) := by decide +kernel
theorem dX9_use_37 : decode cX9_use 37 = .ok (.ireturn, 1) := by decide +kernel
theorem dX9_name_0 : decode cX9_name 0 = .ok (.aload_n 0, 1) := by decide +kernel
theorem dX9_name_1 : decode cX9_name 1 = .ok (.getfield 31, 3) := by decide +kernel
theorem dX9_name_4 : decode cX9_name 4 = .ok (.iload_n 1, 1) := by decide +kernel
theorem dX9_name_5 : decode cX9_name 5 = .ok (.invokevirtual 141, 3) := by decide +kernel
theorem dX9_name_8 : decode cX9_name 8 = .ok (.ifCond .ne 6, 3) := by decide +kernel
theorem dX9_name_11 : decode cX9_name 11 = .ok (.bipush (-101), 2) := by decide +kernel
theorem dX9_name_13 : decode cX9_name 13 = .ok (.ireturn, 1) := by decide +kernel
theorem dX9_name_14 : decode cX9_name 14 = .ok (.iload_n 2, 1) := by decide +kernel
theorem dX9_name_15 : decode cX9_name 15 = .ok (.tableswitch 164 0 7 #[45, 54, 63, 76, 89, 102, 123, 143], 45) := by decide +kernel
theorem dX9_name_60 : decode cX9_name 60 = .ok (.aload_n 0, 1) := by decide +kernel
theorem dX9_name_61 : decode cX9_name 61 = .ok (.getfield 31, 3) := by decide +kernel
theorem dX9_name_64 : decode cX9_name 64 = .ok (.iload_n 1, 1) := by decide +kernel
theorem dX9_name_65 : decode cX9_name 65 = .ok (.invokevirtual 155, 3) := by decide +kernel
theorem dX9_name_68 : decode cX9_name 68 = .ok (.ireturn, 1) := by decide +kernel
theorem dX9_name_69 : decode cX9_name 69 = .ok (.aload_n 0, 1) := by decide +kernel
theorem dX9_name_70 : decode cX9_name 70 = .ok (.getfield 31, 3) := by decide +kernel
theorem dX9_name_73 : decode cX9_name 73 = .ok (.iload_n 1, 1) := by decide +kernel
theorem dX9_name_74 : decode cX9_name 74 = .ok (.invokevirtual 156, 3) := by decide +kernel
theorem dX9_name_77 : decode cX9_name 77 = .ok (.ireturn, 1) := by decide +kernel
theorem dX9_name_78 : decode cX9_name 78 = .ok (.aload_n 0, 1) := by decide +kernel
theorem dX9_name_79 : decode cX9_name 79 = .ok (.getfield 45, 3) := by decide +kernel
theorem dX9_name_82 : decode cX9_name 82 = .ok (.aload_n 0, 1) := by decide +kernel
theorem dX9_name_83 : decode cX9_name 83 = .ok (.getfield 31, 3) := by decide +kernel
theorem dX9_name_86 : decode cX9_name 86 = .ok (.iload_n 1, 1) := by decide +kernel
theorem dX9_name_87 : decode cX9_name 87 = .ok (.invokevirtual 159, 3) := by decide +kernel
theorem dX9_name_90 : decode cX9_name 90 = .ok (.ireturn, 1) := by decide +kernel
theorem dX9_name_91 : decode cX9_name 91 = .ok (.aload_n 0, 1) := by decide +kernel
theorem dX9_name_92 : decode cX9_name 92 = .ok (.getfield 45, 3) := by decide +kernel
theorem dX9_name_95 : decode cX9_name 95 = .ok (.aload_n 0, 1) := by decide +kernel
theorem dX9_name_96 : decode cX9_name 96 = .ok (.getfield 31, 3) := by decide +kernel
theorem dX9_name_99 : decode cX9_name 99 = .ok (.iload_n 1, 1) := by decide +kernel
theorem dX9_name_100 : decode cX9_name 100 = .ok (.invokevirtual 163, 3) := by decide +kernel
theorem dX9_name_103 : decode cX9_name 103 = .ok (.ireturn, 1) := by decide +kernel
theorem dX9_name_104 : decode cX9_name 104 = .ok (.aload_n 0, 1) := by decide +kernel
theorem dX9_name_105 : decode cX9_name 105 = .ok (.getfield 45, 3) := by decide +kernel
theorem dX9_name_108 : decode cX9_name 108 = .ok (.aload_n 0, 1) := by decide +kernel
theorem dX9_name_109 : decode cX9_name 109 = .ok (.getfield 31, 3) := by decide +kernel
theorem dX9_name_112 : decode cX9_name 112 = .ok (.iload_n 1, 1) := by decide +kernel
theorem dX9_name_113 : decode cX9_name 113 = .ok (.invokevirtual 166, 3) := by decide +kernel
theorem dX9_name_116 : decode cX9_name 116 = .ok (.ireturn, 1) := by decide +kernel
theorem dX9_name_117 : decode cX9_name 117 = .ok (.aload_n 0, 1) := by decide +kernel
theorem dX9_name_118 : decode cX9_name 118 = .ok (.getfield 45, 3) := by decide +kernel
theorem dX9_name_121 : decode cX9_name 121 = .ok (.aload_n 0, 1) := by decide +kernel
theorem dX9_name_122 : decode cX9_name 122 = .ok (.getfield 31, 3) := by decide +kernel
theorem dX9_name_125 : decode cX9_name 125 = .ok (.aload_n 0, 1) := by decide +kernel
theorem dX9_name_126 : decode cX9_name 126 = .ok (.getfield 31, 3) := by decide +kernel
theorem dX9_name_129 : decode cX9_name 129 = .ok (.iload_n 1, 1) := by decide +kernel
theorem dX9_name_130 : decode cX9_name 130 = .ok (.invokevirtual 155, 3) := by decide +kernel
theorem dX9_name_133 : decode cX9_name 133 = .ok (.iload_n 1, 1) := by decide +kernel
theorem dX9_name_134 : decode cX9_name 134 = .ok (.invokevirtual 169, 3) := by decide +kernel
theorem dX9_name_137 : decode cX9_name 137 = .ok (.ireturn, 1) := by decide +kernel
theorem dX9_name_138 : decode cX9_name 138 = .ok (.aload_n 0, 1) := by decide +kernel
theorem dX9_name_139 : decode cX9_name 139 = .ok (.getfield 115, 3) := by decide +kernel
theorem dX9_name_142 : decode cX9_name 142 = .ok (.ifCond .eq 14, 3) := by decide +kernel
theorem dX9_name_145 : decode cX9_name 145 = .ok (.aload_n 0, 1) := by decide +kernel
theorem dX9_name_146 : decode cX9_name 146 = .ok (.getfield 66, 3) := by decide +kernel
theorem dX9_name_149 : decode cX9_name 149 = .ok (.iload_n 1, 1) := by decide +kernel
theorem dX9_name_150 : decode cX9_name 150 = .ok (.invokevirtual 173, 3) := by decide +kernel
theorem dX9_name_153 : decode cX9_name 153 = .ok (.goto 4, 3) := by decide +kernel
theorem dX9_name_156 : decode cX9_name 156 = .ok (.iconst (-1), 1) := by decide +kernel
theorem dX9_name_157 : decode cX9_name 157 = .ok (.ireturn, 1) := by decide +kernel
theorem dX9_name_158 : decode cX9_name 158 = .ok (.aload_n 0, 1) := by decide +kernel
theorem dX9_name_159 : decode cX9_name 159 = .ok (.getfield 59, 3) := by decide +kernel
theorem dX9_name_162 : decode cX9_name 162 = .ok (.aload_n 0, 1) := by decide +kernel
theorem dX9_name_163 : decode cX9_name 163 = .ok (.getfield 70, 3) := by decide +kernel
theorem dX9_name_166 : decode cX9_name 166 = .ok (.aload_n 0, 1) := by decide +kernel
theorem dX9_name_167 : decode cX9_name 167 = .ok (.getfield 31, 3) := by decide +kernel
theorem dX9_name_170 : decode cX9_name 170 = .ok (.iconst 3, 1) := by decide +kernel
theorem dX9_name_171 : decode cX9_name 171 = .ok (.invokevirtual 174, 3) := by decide +kernel
theorem dX9_name_174 : decode cX9_name 174 = .ok (.iload_n 1, 1) := by decide +kernel
theorem dX9_name_175 : decode cX9_name 175 = .ok (.invokevirtual 173, 3) := by decide +kernel
theorem dX9_name_178 : decode cX9_name 178 = .ok (.ireturn, 1) := by decide +kernel
theorem dX9_name_179 : decode cX9_name 179 = .ok (.bipush (-102), 2) := by decide +kernel
theorem dX9_name_181 : decode cX9_name 181 = .ok (.ireturn, 1) := by decide +kernel
theorem dX9_sign_0 : decode cX9_sign 0 = .ok (.aload_n 0, 1) := by decide +kernel
theorem dX9_sign_1 : decode cX9_sign 1 = .ok (.getfield 31, 3) := by decide +kernel
theorem dX9_sign_4 : decode cX9_sign 4 = .ok (.iload_n 1, 1) := by decide +kernel
theorem dX9_sign_5 : decode cX9_sign 5 = .ok (.iload_n 2, 1) := by decide +kernel
theorem dX9_sign_6 : decode cX9_sign 6 = .ok (.invokevirtual 178, 3) := by decide +kernel
theorem dX9_sign_9 : decode cX9_sign 9 = .ok (.ireturn, 1) := by decide +kernel
theorem dX9_digit_0 : decode cX9_digit 0 = .ok (.aload_n 0, 1) := by decide +kernel
theorem dX9_digit_1 : decode cX9_digit 1 = .ok (.getfield 31, 3) := by decide +kernel
theorem dX9_digit_4 : decode cX9_digit 4 = .ok (.iload_n 1, 1) := by decide +kernel
theorem dX9_digit_5 : decode cX9_digit 5 = .ok (.iload_n 2, 1) := by decide +kernel
theorem dX9_digit_6 : decode cX9_digit 6 = .ok (.invokevirtual 181, 3) := by decide +kernel
theorem dX9_digit_9 : decode cX9_digit 9 = .ok (.ireturn, 1) := by decide +kernel
theorem dX9_laid_0 : decode cX9_laid 0 = .ok (.aload_n 0, 1) := by decide +kernel
theorem dX9_laid_1 : decode cX9_laid 1 = .ok (.getfield 24, 3) := by decide +kernel
theorem dX9_laid_4 : decode cX9_laid 4 = .ok (.iload_n 1, 1) := by decide +kernel
theorem dX9_laid_5 : decode cX9_laid 5 = .ok (.invokevirtual 184, 3) := by decide +kernel
theorem dX9_laid_8 : decode cX9_laid 8 = .ok (.ireturn, 1) := by decide +kernel
theorem dX9_about_0 : decode cX9_about 0 = .ok (.iload_n 1, 1) := by decide +kernel
theorem dX9_about_1 : decode cX9_about 1 = .ok (.tableswitch 115 0 6 #[43, 51, 59, 71, 83, 95, 107], 43) := by decide +kernel
theorem dX9_about_44 : decode cX9_about 44 = .ok (.aload_n 0, 1) := by decide +kernel
theorem dX9_about_45 : decode cX9_about 45 = .ok (.getfield 31, 3) := by decide +kernel
theorem dX9_about_48 : decode cX9_about 48 = .ok (.invokevirtual 100, 3) := by decide +kernel
theorem dX9_about_51 : decode cX9_about 51 = .ok (.ireturn, 1) := by decide +kernel
theorem dX9_about_52 : decode cX9_about 52 = .ok (.aload_n 0, 1) := by decide +kernel
theorem dX9_about_53 : decode cX9_about 53 = .ok (.getfield 31, 3) := by decide +kernel
theorem dX9_about_56 : decode cX9_about 56 = .ok (.invokevirtual 187, 3) := by decide +kernel
theorem dX9_about_59 : decode cX9_about 59 = .ok (.ireturn, 1) := by decide +kernel
theorem dX9_about_60 : decode cX9_about 60 = .ok (.aload_n 0, 1) := by decide +kernel
theorem dX9_about_61 : decode cX9_about 61 = .ok (.getfield 45, 3) := by decide +kernel
theorem dX9_about_64 : decode cX9_about 64 = .ok (.aload_n 0, 1) := by decide +kernel
theorem dX9_about_65 : decode cX9_about 65 = .ok (.getfield 31, 3) := by decide +kernel
theorem dX9_about_68 : decode cX9_about 68 = .ok (.invokevirtual 190, 3) := by decide +kernel
theorem dX9_about_71 : decode cX9_about 71 = .ok (.ireturn, 1) := by decide +kernel
theorem dX9_about_72 : decode cX9_about 72 = .ok (.aload_n 0, 1) := by decide +kernel
theorem dX9_about_73 : decode cX9_about 73 = .ok (.getfield 45, 3) := by decide +kernel
theorem dX9_about_76 : decode cX9_about 76 = .ok (.aload_n 0, 1) := by decide +kernel
theorem dX9_about_77 : decode cX9_about 77 = .ok (.getfield 31, 3) := by decide +kernel
theorem dX9_about_80 : decode cX9_about 80 = .ok (.invokevirtual 194, 3) := by decide +kernel
theorem dX9_about_83 : decode cX9_about 83 = .ok (.ireturn, 1) := by decide +kernel
theorem dX9_about_84 : decode cX9_about 84 = .ok (.aload_n 0, 1) := by decide +kernel
theorem dX9_about_85 : decode cX9_about 85 = .ok (.getfield 45, 3) := by decide +kernel
theorem dX9_about_88 : decode cX9_about 88 = .ok (.aload_n 0, 1) := by decide +kernel
theorem dX9_about_89 : decode cX9_about 89 = .ok (.getfield 31, 3) := by decide +kernel
theorem dX9_about_92 : decode cX9_about 92 = .ok (.invokevirtual 197, 3) := by decide +kernel
theorem dX9_about_95 : decode cX9_about 95 = .ok (.ireturn, 1) := by decide +kernel
theorem dX9_about_96 : decode cX9_about 96 = .ok (.aload_n 0, 1) := by decide +kernel
theorem dX9_about_97 : decode cX9_about 97 = .ok (.getfield 45, 3) := by decide +kernel
theorem dX9_about_100 : decode cX9_about 100 = .ok (.aload_n 0, 1) := by decide +kernel
theorem dX9_about_101 : decode cX9_about 101 = .ok (.getfield 31, 3) := by decide +kernel
theorem dX9_about_104 : decode cX9_about 104 = .ok (.invokevirtual 200, 3) := by decide +kernel
theorem dX9_about_107 : decode cX9_about 107 = .ok (.ireturn, 1) := by decide +kernel
theorem dX9_about_108 : decode cX9_about 108 = .ok (.aload_n 0, 1) := by decide +kernel
theorem dX9_about_109 : decode cX9_about 109 = .ok (.getfield 31, 3) := by decide +kernel
theorem dX9_about_112 : decode cX9_about 112 = .ok (.invokevirtual 203, 3) := by decide +kernel
theorem dX9_about_115 : decode cX9_about 115 = .ok (.ireturn, 1) := by decide +kernel
theorem dX9_about_116 : decode cX9_about 116 = .ok (.bipush (-102), 2) := by decide +kernel
theorem dX9_about_118 : decode cX9_about 118 = .ok (.ireturn, 1) := by decide +kernel
theorem dX9_press_0 : decode cX9_press 0 = .ok (.iload_n 1, 1) := by decide +kernel
theorem dX9_press_1 : decode cX9_press 1 = .ok (.iconst 2, 1) := by decide +kernel
theorem dX9_press_2 : decode cX9_press 2 = .ok (.if_icmp .lt 9, 3) := by decide +kernel
theorem dX9_press_5 : decode cX9_press 5 = .ok (.iload_n 1, 1) := by decide +kernel
theorem dX9_press_6 : decode cX9_press 6 = .ok (.bipush 9, 2) := by decide +kernel
theorem dX9_press_8 : decode cX9_press 8 = .ok (.if_icmp .le 6, 3) := by decide +kernel
theorem dX9_press_11 : decode cX9_press 11 = .ok (.bipush (-102), 2) := by decide +kernel
theorem dX9_press_13 : decode cX9_press 13 = .ok (.ireturn, 1) := by decide +kernel
theorem dX9_press_14 : decode cX9_press 14 = .ok (.aload_n 0, 1) := by decide +kernel
theorem dX9_press_15 : decode cX9_press 15 = .ok (.getfield 18, 3) := by decide +kernel
theorem dX9_press_18 : decode cX9_press 18 = .ok (.invokevirtual 73, 3) := by decide +kernel
theorem dX9_press_21 : decode cX9_press 21 = .ok (.ifCond .eq 6, 3) := by decide +kernel
theorem dX9_press_24 : decode cX9_press 24 = .ok (.bipush (-104), 2) := by decide +kernel
theorem dX9_press_26 : decode cX9_press 26 = .ok (.ireturn, 1) := by decide +kernel
theorem dX9_press_27 : decode cX9_press 27 = .ok (.aload_n 0, 1) := by decide +kernel
theorem dX9_press_28 : decode cX9_press 28 = .ok (.getfield 18, 3) := by decide +kernel
theorem dX9_press_31 : decode cX9_press 31 = .ok (.iload_n 1, 1) := by decide +kernel
theorem dX9_press_32 : decode cX9_press 32 = .ok (.invokevirtual 77, 3) := by decide +kernel
theorem dX9_press_35 : decode cX9_press 35 = .ok (.aload_n 0, 1) := by decide +kernel
theorem dX9_press_36 : decode cX9_press 36 = .ok (.getfield 18, 3) := by decide +kernel
theorem dX9_press_39 : decode cX9_press 39 = .ok (.invokevirtual 80, 3) := by decide +kernel
theorem dX9_press_42 : decode cX9_press 42 = .ok (.ireturn, 1) := by decide +kernel
theorem dX9_back_0 : decode cX9_back 0 = .ok (.aload_n 0, 1) := by decide +kernel
theorem dX9_back_1 : decode cX9_back 1 = .ok (.getfield 18, 3) := by decide +kernel
theorem dX9_back_4 : decode cX9_back 4 = .ok (.invokevirtual 80, 3) := by decide +kernel
theorem dX9_back_7 : decode cX9_back 7 = .ok (.ifCond .ne 6, 3) := by decide +kernel
theorem dX9_back_10 : decode cX9_back 10 = .ok (.bipush (-103), 2) := by decide +kernel
theorem dX9_back_12 : decode cX9_back 12 = .ok (.ireturn, 1) := by decide +kernel
theorem dX9_back_13 : decode cX9_back 13 = .ok (.aload_n 0, 1) := by decide +kernel
theorem dX9_back_14 : decode cX9_back 14 = .ok (.getfield 18, 3) := by decide +kernel
theorem dX9_back_17 : decode cX9_back 17 = .ok (.invokevirtual 206, 3) := by decide +kernel
theorem dX9_back_20 : decode cX9_back 20 = .ok (.aload_n 0, 1) := by decide +kernel
theorem dX9_back_21 : decode cX9_back 21 = .ok (.getfield 18, 3) := by decide +kernel
theorem dX9_back_24 : decode cX9_back 24 = .ok (.invokevirtual 80, 3) := by decide +kernel
theorem dX9_back_27 : decode cX9_back 27 = .ok (.ireturn, 1) := by decide +kernel
theorem dX9_wipe_0 : decode cX9_wipe 0 = .ok (.aload_n 0, 1) := by decide +kernel
theorem dX9_wipe_1 : decode cX9_wipe 1 = .ok (.getfield 18, 3) := by decide +kernel
theorem dX9_wipe_4 : decode cX9_wipe 4 = .ok (.invokevirtual 84, 3) := by decide +kernel
theorem dX9_wipe_7 : decode cX9_wipe 7 = .ok (.ireturn, 1) := by decide +kernel
theorem dX9_typed_0 : decode cX9_typed 0 = .ok (.aload_n 0, 1) := by decide +kernel
theorem dX9_typed_1 : decode cX9_typed 1 = .ok (.getfield 18, 3) := by decide +kernel
theorem dX9_typed_4 : decode cX9_typed 4 = .ok (.iload_n 1, 1) := by decide +kernel
theorem dX9_typed_5 : decode cX9_typed 5 = .ok (.invokevirtual 209, 3) := by decide +kernel
theorem dX9_typed_8 : decode cX9_typed 8 = .ok (.ireturn, 1) := by decide +kernel
theorem dX9_choice_0 : decode cX9_choice 0 = .ok (.aload_n 0, 1) := by decide +kernel
theorem dX9_choice_1 : decode cX9_choice 1 = .ok (.getfield 45, 3) := by decide +kernel
theorem dX9_choice_4 : decode cX9_choice 4 = .ok (.aload_n 0, 1) := by decide +kernel
theorem dX9_choice_5 : decode cX9_choice 5 = .ok (.getfield 31, 3) := by decide +kernel
theorem dX9_choice_8 : decode cX9_choice 8 = .ok (.aload_n 0, 1) := by decide +kernel
theorem dX9_choice_9 : decode cX9_choice 9 = .ok (.getfield 18, 3) := by decide +kernel
theorem dX9_choice_12 : decode cX9_choice 12 = .ok (.invokevirtual 212, 3) := by decide +kernel
theorem dX9_choice_15 : decode cX9_choice 15 = .ok (.iload_n 1, 1) := by decide +kernel
theorem dX9_choice_16 : decode cX9_choice 16 = .ok (.invokevirtual 209, 3) := by decide +kernel
theorem dX9_choice_19 : decode cX9_choice 19 = .ok (.ireturn, 1) := by decide +kernel
theorem dX9_spelling_0 : decode cX9_spelling 0 = .ok (.aload_n 0, 1) := by decide +kernel
theorem dX9_spelling_1 : decode cX9_spelling 1 = .ok (.getfield 52, 3) := by decide +kernel
theorem dX9_spelling_4 : decode cX9_spelling 4 = .ok (.aload_n 0, 1) := by decide +kernel
theorem dX9_spelling_5 : decode cX9_spelling 5 = .ok (.getfield 31, 3) := by decide +kernel
theorem dX9_spelling_8 : decode cX9_spelling 8 = .ok (.aload_n 0, 1) := by decide +kernel
theorem dX9_spelling_9 : decode cX9_spelling 9 = .ok (.getfield 18, 3) := by decide +kernel
theorem dX9_spelling_12 : decode cX9_spelling 12 = .ok (.invokevirtual 216, 3) := by decide +kernel
theorem dX9_spelling_15 : decode cX9_spelling 15 = .ok (.aload_n 0, 1) := by decide +kernel
theorem dX9_spelling_16 : decode cX9_spelling 16 = .ok (.getfield 52, 3) := by decide +kernel
theorem dX9_spelling_19 : decode cX9_spelling 19 = .ok (.iload_n 1, 1) := by decide +kernel
theorem dX9_spelling_20 : decode cX9_spelling 20 = .ok (.invokevirtual 220, 3) := by decide +kernel
theorem dX9_spelling_23 : decode cX9_spelling 23 = .ok (.ireturn, 1) := by decide +kernel
theorem dX9_piece_0 : decode cX9_piece 0 = .ok (.aload_n 0, 1) := by decide +kernel
theorem dX9_piece_1 : decode cX9_piece 1 = .ok (.getfield 52, 3) := by decide +kernel
theorem dX9_piece_4 : decode cX9_piece 4 = .ok (.aload_n 0, 1) := by decide +kernel
theorem dX9_piece_5 : decode cX9_piece 5 = .ok (.getfield 31, 3) := by decide +kernel
theorem dX9_piece_8 : decode cX9_piece 8 = .ok (.aload_n 0, 1) := by decide +kernel
theorem dX9_piece_9 : decode cX9_piece 9 = .ok (.getfield 18, 3) := by decide +kernel
theorem dX9_piece_12 : decode cX9_piece 12 = .ok (.invokevirtual 216, 3) := by decide +kernel
theorem dX9_piece_15 : decode cX9_piece 15 = .ok (.aload_n 0, 1) := by decide +kernel
theorem dX9_piece_16 : decode cX9_piece 16 = .ok (.getfield 52, 3) := by decide +kernel
theorem dX9_piece_19 : decode cX9_piece 19 = .ok (.invokevirtual 223, 3) := by decide +kernel
theorem dX9_piece_22 : decode cX9_piece 22 = .ok (.iload_n 1, 1) := by decide +kernel
theorem dX9_piece_23 : decode cX9_piece 23 = .ok (.invokevirtual 209, 3) := by decide +kernel
theorem dX9_piece_26 : decode cX9_piece 26 = .ok (.ireturn, 1) := by decide +kernel
theorem dX9_build_0 : decode cX9_build 0 = .ok (.iload_n 1, 1) := by decide +kernel
theorem dX9_build_1 : decode cX9_build 1 = .ok (.iconst 2, 1) := by decide +kernel
theorem dX9_build_2 : decode cX9_build 2 = .ok (.if_icmp .lt 8, 3) := by decide +kernel
theorem dX9_build_5 : decode cX9_build 5 = .ok (.iload_n 1, 1) := by decide +kernel
theorem dX9_build_6 : decode cX9_build 6 = .ok (.iconst 4, 1) := by decide +kernel
theorem dX9_build_7 : decode cX9_build 7 = .ok (.if_icmp .le 6, 3) := by decide +kernel
theorem dX9_build_10 : decode cX9_build 10 = .ok (.bipush (-102), 2) := by decide +kernel
theorem dX9_build_12 : decode cX9_build 12 = .ok (.ireturn, 1) := by decide +kernel
theorem dX9_build_13 : decode cX9_build 13 = .ok (.aload_n 0, 1) := by decide +kernel
theorem dX9_build_14 : decode cX9_build 14 = .ok (.getfield 31, 3) := by decide +kernel
theorem dX9_build_17 : decode cX9_build 17 = .ok (.invokevirtual 100, 3) := by decide +kernel
theorem dX9_build_20 : decode cX9_build 20 = .ok (.ifCond .ne 6, 3) := by decide +kernel
theorem dX9_build_23 : decode cX9_build 23 = .ok (.bipush (-103), 2) := by decide +kernel
theorem dX9_build_25 : decode cX9_build 25 = .ok (.ireturn, 1) := by decide +kernel
theorem dX9_build_26 : decode cX9_build 26 = .ok (.aload_n 0, 1) := by decide +kernel
theorem dX9_build_27 : decode cX9_build 27 = .ok (.getfield 59, 3) := by decide +kernel
theorem dX9_build_30 : decode cX9_build 30 = .ok (.aload_n 0, 1) := by decide +kernel
theorem dX9_build_31 : decode cX9_build 31 = .ok (.getfield 70, 3) := by decide +kernel
theorem dX9_build_34 : decode cX9_build 34 = .ok (.aload_n 0, 1) := by decide +kernel
theorem dX9_build_35 : decode cX9_build 35 = .ok (.getfield 31, 3) := by decide +kernel
theorem dX9_build_38 : decode cX9_build 38 = .ok (.iload_n 1, 1) := by decide +kernel
theorem dX9_build_39 : decode cX9_build 39 = .ok (.invokevirtual 174, 3) := by decide +kernel
theorem dX9_build_42 : decode cX9_build 42 = .ok (.aload_n 0, 1) := by decide +kernel
theorem dX9_build_43 : decode cX9_build 43 = .ok (.getfield 31, 3) := by decide +kernel
theorem dX9_build_46 : decode cX9_build 46 = .ok (.invokevirtual 227, 3) := by decide +kernel
theorem dX9_build_49 : decode cX9_build 49 = .ok (.istore_n 2, 1) := by decide +kernel
theorem dX9_build_50 : decode cX9_build 50 = .ok (.aload_n 0, 1) := by decide +kernel
theorem dX9_build_51 : decode cX9_build 51 = .ok (.invokevirtual 230, 3) := by decide +kernel
theorem dX9_build_54 : decode cX9_build 54 = .ok (.iload_n 2, 1) := by decide +kernel
theorem dX9_build_55 : decode cX9_build 55 = .ok (.ireturn, 1) := by decide +kernel
theorem dX9_tend_0 : decode cX9_tend 0 = .ok (.aload_n 0, 1) := by decide +kernel
theorem dX9_tend_1 : decode cX9_tend 1 = .ok (.getfield 115, 3) := by decide +kernel
theorem dX9_tend_4 : decode cX9_tend 4 = .ok (.ifCond .ne 6, 3) := by decide +kernel
theorem dX9_tend_7 : decode cX9_tend 7 = .ok (.bipush (-103), 2) := by decide +kernel
theorem dX9_tend_9 : decode cX9_tend 9 = .ok (.ireturn, 1) := by decide +kernel
theorem dX9_tend_10 : decode cX9_tend 10 = .ok (.iload_n 1, 1) := by decide +kernel
theorem dX9_tend_11 : decode cX9_tend 11 = .ok (.ifCond .lt 9, 3) := by decide +kernel
theorem dX9_tend_14 : decode cX9_tend 14 = .ok (.iload_n 1, 1) := by decide +kernel
theorem dX9_tend_15 : decode cX9_tend 15 = .ok (.bipush 100, 2) := by decide +kernel
theorem dX9_tend_17 : decode cX9_tend 17 = .ok (.if_icmp .le 6, 3) := by decide +kernel
theorem dX9_tend_20 : decode cX9_tend 20 = .ok (.bipush (-102), 2) := by decide +kernel
theorem dX9_tend_22 : decode cX9_tend 22 = .ok (.ireturn, 1) := by decide +kernel
theorem dX9_tend_23 : decode cX9_tend 23 = .ok (.aload_n 0, 1) := by decide +kernel
theorem dX9_tend_24 : decode cX9_tend 24 = .ok (.getfield 59, 3) := by decide +kernel
theorem dX9_tend_27 : decode cX9_tend 27 = .ok (.aload_n 0, 1) := by decide +kernel
theorem dX9_tend_28 : decode cX9_tend 28 = .ok (.getfield 70, 3) := by decide +kernel
theorem dX9_tend_31 : decode cX9_tend 31 = .ok (.aload_n 0, 1) := by decide +kernel
theorem dX9_tend_32 : decode cX9_tend 32 = .ok (.getfield 31, 3) := by decide +kernel
theorem dX9_tend_35 : decode cX9_tend 35 = .ok (.aload_n 0, 1) := by decide +kernel
theorem dX9_tend_36 : decode cX9_tend 36 = .ok (.getfield 66, 3) := by decide +kernel
theorem dX9_tend_39 : decode cX9_tend 39 = .ok (.invokevirtual 233, 3) := by decide +kernel
theorem dX9_tend_42 : decode cX9_tend 42 = .ok (.invokevirtual 174, 3) := by decide +kernel
theorem dX9_tend_45 : decode cX9_tend 45 = .ok (.aload_n 0, 1) := by decide +kernel
theorem dX9_tend_46 : decode cX9_tend 46 = .ok (.getfield 31, 3) := by decide +kernel
theorem dX9_tend_49 : decode cX9_tend 49 = .ok (.invokevirtual 227, 3) := by decide +kernel
theorem dX9_tend_52 : decode cX9_tend 52 = .ok (.istore_n 2, 1) := by decide +kernel
theorem dX9_tend_53 : decode cX9_tend 53 = .ok (.bipush 100, 2) := by decide +kernel
theorem dX9_tend_55 : decode cX9_tend 55 = .ok (.aload_n 0, 1) := by decide +kernel
theorem dX9_tend_56 : decode cX9_tend 56 = .ok (.getfield 66, 3) := by decide +kernel
theorem dX9_tend_59 : decode cX9_tend 59 = .ok (.aload_n 0, 1) := by decide +kernel
theorem dX9_tend_60 : decode cX9_tend 60 = .ok (.getfield 31, 3) := by decide +kernel
theorem dX9_tend_63 : decode cX9_tend 63 = .ok (.invokevirtual 227, 3) := by decide +kernel
theorem dX9_tend_66 : decode cX9_tend 66 = .ok (.iload_n 2, 1) := by decide +kernel
theorem dX9_tend_67 : decode cX9_tend 67 = .ok (.isub, 1) := by decide +kernel
theorem dX9_tend_68 : decode cX9_tend 68 = .ok (.imul, 1) := by decide +kernel
theorem dX9_tend_69 : decode cX9_tend 69 = .ok (.iload_n 1, 1) := by decide +kernel
theorem dX9_tend_70 : decode cX9_tend 70 = .ok (.iload_n 2, 1) := by decide +kernel
theorem dX9_tend_71 : decode cX9_tend 71 = .ok (.imul, 1) := by decide +kernel
theorem dX9_tend_72 : decode cX9_tend 72 = .ok (.if_icmp .gt 5, 3) := by decide +kernel
theorem dX9_tend_75 : decode cX9_tend 75 = .ok (.iconst (-1), 1) := by decide +kernel
theorem dX9_tend_76 : decode cX9_tend 76 = .ok (.ireturn, 1) := by decide +kernel
theorem dX9_tend_77 : decode cX9_tend 77 = .ok (.aload_n 0, 1) := by decide +kernel
theorem dX9_tend_78 : decode cX9_tend 78 = .ok (.getfield 66, 3) := by decide +kernel
theorem dX9_tend_81 : decode cX9_tend 81 = .ok (.aload_n 0, 1) := by decide +kernel
theorem dX9_tend_82 : decode cX9_tend 82 = .ok (.getfield 70, 3) := by decide +kernel
theorem dX9_tend_85 : decode cX9_tend 85 = .ok (.invokevirtual 236, 3) := by decide +kernel
theorem dX9_tend_88 : decode cX9_tend 88 = .ok (.istore_n 3, 1) := by decide +kernel
theorem dX9_tend_89 : decode cX9_tend 89 = .ok (.aload_n 0, 1) := by decide +kernel
theorem dX9_tend_90 : decode cX9_tend 90 = .ok (.invokevirtual 230, 3) := by decide +kernel
theorem dX9_tend_93 : decode cX9_tend 93 = .ok (.iload_n 3, 1) := by decide +kernel
theorem dX9_tend_94 : decode cX9_tend 94 = .ok (.ireturn, 1) := by decide +kernel
theorem dX9_path_0 : decode cX9_path 0 = .ok (.aload_n 0, 1) := by decide +kernel
theorem dX9_path_1 : decode cX9_path 1 = .ok (.getfield 115, 3) := by decide +kernel
theorem dX9_path_4 : decode cX9_path 4 = .ok (.ifCond .eq 15, 3) := by decide +kernel
theorem dX9_path_7 : decode cX9_path 7 = .ok (.aload_n 0, 1) := by decide +kernel
theorem dX9_path_8 : decode cX9_path 8 = .ok (.getfield 66, 3) := by decide +kernel
theorem dX9_path_11 : decode cX9_path 11 = .ok (.iload_n 1, 1) := by decide +kernel
theorem dX9_path_12 : decode cX9_path 12 = .ok (.iload_n 2, 1) := by decide +kernel
theorem dX9_path_13 : decode cX9_path 13 = .ok (.invokevirtual 240, 3) := by decide +kernel
theorem dX9_path_16 : decode cX9_path 16 = .ok (.goto 5, 3) := by decide +kernel
theorem dX9_path_19 : decode cX9_path 19 = .ok (.bipush (-103), 2) := by decide +kernel
theorem dX9_path_21 : decode cX9_path 21 = .ok (.ireturn, 1) := by decide +kernel
theorem dX9_leads_0 : decode cX9_leads 0 = .ok (.aload_n 0, 1) := by decide +kernel
theorem dX9_leads_1 : decode cX9_leads 1 = .ok (.getfield 115, 3) := by decide +kernel
theorem dX9_leads_4 : decode cX9_leads 4 = .ok (.ifCond .eq 14, 3) := by decide +kernel
theorem dX9_leads_7 : decode cX9_leads 7 = .ok (.aload_n 0, 1) := by decide +kernel
theorem dX9_leads_8 : decode cX9_leads 8 = .ok (.getfield 66, 3) := by decide +kernel
theorem dX9_leads_11 : decode cX9_leads 11 = .ok (.iload_n 1, 1) := by decide +kernel
theorem dX9_leads_12 : decode cX9_leads 12 = .ok (.invokevirtual 243, 3) := by decide +kernel
theorem dX9_leads_15 : decode cX9_leads 15 = .ok (.goto 5, 3) := by decide +kernel
theorem dX9_leads_18 : decode cX9_leads 18 = .ok (.bipush (-103), 2) := by decide +kernel
theorem dX9_leads_20 : decode cX9_leads 20 = .ok (.ireturn, 1) := by decide +kernel
theorem dX9_menu_0 : decode cX9_menu 0 = .ok (.aload_n 0, 1) := by decide +kernel
theorem dX9_menu_1 : decode cX9_menu 1 = .ok (.getfield 115, 3) := by decide +kernel
theorem dX9_menu_4 : decode cX9_menu 4 = .ok (.ifCond .ne 6, 3) := by decide +kernel
theorem dX9_menu_7 : decode cX9_menu 7 = .ok (.bipush (-103), 2) := by decide +kernel
theorem dX9_menu_9 : decode cX9_menu 9 = .ok (.ireturn, 1) := by decide +kernel
theorem dX9_menu_10 : decode cX9_menu 10 = .ok (.iload_n 1, 1) := by decide +kernel
theorem dX9_menu_11 : decode cX9_menu 11 = .ok (.tableswitch 120 0 6 #[41, 49, 61, 91, 99, 107, 115], 41) := by decide +kernel
theorem dX9_menu_52 : decode cX9_menu 52 = .ok (.aload_n 0, 1) := by decide +kernel
theorem dX9_menu_53 : decode cX9_menu 53 = .ok (.getfield 66, 3) := by decide +kernel
theorem dX9_menu_56 : decode cX9_menu 56 = .ok (.invokevirtual 233, 3) := by decide +kernel
theorem dX9_menu_59 : decode cX9_menu 59 = .ok (.ireturn, 1) := by decide +kernel
theorem dX9_menu_60 : decode cX9_menu 60 = .ok (.aload_n 0, 1) := by decide +kernel
theorem dX9_menu_61 : decode cX9_menu 61 = .ok (.getfield 66, 3) := by decide +kernel
theorem dX9_menu_64 : decode cX9_menu 64 = .ok (.aload_n 0, 1) := by decide +kernel
theorem dX9_menu_65 : decode cX9_menu 65 = .ok (.getfield 31, 3) := by decide +kernel
theorem dX9_menu_68 : decode cX9_menu 68 = .ok (.invokevirtual 227, 3) := by decide +kernel
theorem dX9_menu_71 : decode cX9_menu 71 = .ok (.ireturn, 1) := by decide +kernel
theorem dX9_menu_72 : decode cX9_menu 72 = .ok (.aload_n 0, 1) := by decide +kernel
theorem dX9_menu_73 : decode cX9_menu 73 = .ok (.getfield 59, 3) := by decide +kernel
theorem dX9_menu_76 : decode cX9_menu 76 = .ok (.aload_n 0, 1) := by decide +kernel
theorem dX9_menu_77 : decode cX9_menu 77 = .ok (.getfield 70, 3) := by decide +kernel
theorem dX9_menu_80 : decode cX9_menu 80 = .ok (.aload_n 0, 1) := by decide +kernel
theorem dX9_menu_81 : decode cX9_menu 81 = .ok (.getfield 31, 3) := by decide +kernel
theorem dX9_menu_84 : decode cX9_menu 84 = .ok (.aload_n 0, 1) := by decide +kernel
theorem dX9_menu_85 : decode cX9_menu 85 = .ok (.getfield 66, 3) := by decide +kernel
theorem dX9_menu_88 : decode cX9_menu 88 = .ok (.invokevirtual 233, 3) := by decide +kernel
theorem dX9_menu_91 : decode cX9_menu 91 = .ok (.invokevirtual 174, 3) := by decide +kernel
theorem dX9_menu_94 : decode cX9_menu 94 = .ok (.aload_n 0, 1) := by decide +kernel
theorem dX9_menu_95 : decode cX9_menu 95 = .ok (.getfield 31, 3) := by decide +kernel
theorem dX9_menu_98 : decode cX9_menu 98 = .ok (.invokevirtual 227, 3) := by decide +kernel
theorem dX9_menu_101 : decode cX9_menu 101 = .ok (.ireturn, 1) := by decide +kernel
theorem dX9_menu_102 : decode cX9_menu 102 = .ok (.aload_n 0, 1) := by decide +kernel
theorem dX9_menu_103 : decode cX9_menu 103 = .ok (.getfield 66, 3) := by decide +kernel
theorem dX9_menu_106 : decode cX9_menu 106 = .ok (.invokevirtual 246, 3) := by decide +kernel
theorem dX9_menu_109 : decode cX9_menu 109 = .ok (.ireturn, 1) := by decide +kernel
theorem dX9_menu_110 : decode cX9_menu 110 = .ok (.aload_n 0, 1) := by decide +kernel
theorem dX9_menu_111 : decode cX9_menu 111 = .ok (.getfield 66, 3) := by decide +kernel
theorem dX9_menu_114 : decode cX9_menu 114 = .ok (.invokevirtual 249, 3) := by decide +kernel
theorem dX9_menu_117 : decode cX9_menu 117 = .ok (.ireturn, 1) := by decide +kernel
theorem dX9_menu_118 : decode cX9_menu 118 = .ok (.aload_n 0, 1) := by decide +kernel
theorem dX9_menu_119 : decode cX9_menu 119 = .ok (.getfield 66, 3) := by decide +kernel
theorem dX9_menu_122 : decode cX9_menu 122 = .ok (.invokevirtual 252, 3) := by decide +kernel
theorem dX9_menu_125 : decode cX9_menu 125 = .ok (.ireturn, 1) := by decide +kernel
theorem dX9_menu_126 : decode cX9_menu 126 = .ok (.aload_n 0, 1) := by decide +kernel
theorem dX9_menu_127 : decode cX9_menu 127 = .ok (.getfield 255, 3) := by decide +kernel
theorem dX9_menu_130 : decode cX9_menu 130 = .ok (.ireturn, 1) := by decide +kernel
theorem dX9_menu_131 : decode cX9_menu 131 = .ok (.bipush (-102), 2) := by decide +kernel
theorem dX9_menu_133 : decode cX9_menu 133 = .ok (.ireturn, 1) := by decide +kernel
theorem dX9_adoptSpare_0 : decode cX9_adoptSpare 0 = .ok (.aload_n 0, 1) := by decide +kernel
theorem dX9_adoptSpare_1 : decode cX9_adoptSpare 1 = .ok (.getfield 66, 3) := by decide +kernel
theorem dX9_adoptSpare_4 : decode cX9_adoptSpare 4 = .ok (.astore_n 1, 1) := by decide +kernel
theorem dX9_adoptSpare_5 : decode cX9_adoptSpare 5 = .ok (.aload_n 0, 1) := by decide +kernel
theorem dX9_adoptSpare_6 : decode cX9_adoptSpare 6 = .ok (.aload_n 0, 1) := by decide +kernel
theorem dX9_adoptSpare_7 : decode cX9_adoptSpare 7 = .ok (.getfield 70, 3) := by decide +kernel
theorem dX9_adoptSpare_10 : decode cX9_adoptSpare 10 = .ok (.putfield 66, 3) := by decide +kernel
theorem dX9_adoptSpare_13 : decode cX9_adoptSpare 13 = .ok (.aload_n 0, 1) := by decide +kernel
theorem dX9_adoptSpare_14 : decode cX9_adoptSpare 14 = .ok (.aload_n 1, 1) := by decide +kernel
theorem dX9_adoptSpare_15 : decode cX9_adoptSpare 15 = .ok (.putfield 70, 3) := by decide +kernel
theorem dX9_adoptSpare_18 : decode cX9_adoptSpare 18 = .ok (.aload_n 0, 1) := by decide +kernel
theorem dX9_adoptSpare_19 : decode cX9_adoptSpare 19 = .ok (.iconst 1, 1) := by decide +kernel
theorem dX9_adoptSpare_20 : decode cX9_adoptSpare 20 = .ok (.putfield 115, 3) := by decide +kernel
theorem dX9_adoptSpare_23 : decode cX9_adoptSpare 23 = .ok (.aload_n 0, 1) := by decide +kernel
theorem dX9_adoptSpare_24 : decode cX9_adoptSpare 24 = .ok (.dup, 1) := by decide +kernel
theorem dX9_adoptSpare_25 : decode cX9_adoptSpare 25 = .ok (.getfield 255, 3) := by decide +kernel
theorem dX9_adoptSpare_28 : decode cX9_adoptSpare 28 = .ok (.iconst 1, 1) := by decide +kernel
theorem dX9_adoptSpare_29 : decode cX9_adoptSpare 29 = .ok (.iadd, 1) := by decide +kernel
theorem dX9_adoptSpare_30 : decode cX9_adoptSpare 30 = .ok (.putfield 255, 3) := by decide +kernel
theorem dX9_adoptSpare_33 : decode cX9_adoptSpare 33 = .ok (.return_, 1) := by decide +kernel
theorem dX9_count_0 : decode cX9_count 0 = .ok (.iload_n 1, 1) := by decide +kernel
theorem dX9_count_1 : decode cX9_count 1 = .ok (.tableswitch 78 0 5 #[39, 47, 55, 63, 68, 73], 39) := by decide +kernel
theorem dX9_count_40 : decode cX9_count 40 = .ok (.aload_n 0, 1) := by decide +kernel
theorem dX9_count_41 : decode cX9_count 41 = .ok (.getfield 31, 3) := by decide +kernel
theorem dX9_count_44 : decode cX9_count 44 = .ok (.invokevirtual 100, 3) := by decide +kernel
theorem dX9_count_47 : decode cX9_count 47 = .ok (.ireturn, 1) := by decide +kernel
theorem dX9_count_48 : decode cX9_count 48 = .ok (.aload_n 0, 1) := by decide +kernel
theorem dX9_count_49 : decode cX9_count 49 = .ok (.getfield 14, 3) := by decide +kernel
theorem dX9_count_52 : decode cX9_count 52 = .ok (.invokevirtual 80, 3) := by decide +kernel
theorem dX9_count_55 : decode cX9_count 55 = .ok (.ireturn, 1) := by decide +kernel
theorem dX9_count_56 : decode cX9_count 56 = .ok (.aload_n 0, 1) := by decide +kernel
theorem dX9_count_57 : decode cX9_count 57 = .ok (.getfield 18, 3) := by decide +kernel
theorem dX9_count_60 : decode cX9_count 60 = .ok (.invokevirtual 80, 3) := by decide +kernel
theorem dX9_count_63 : decode cX9_count 63 = .ok (.ireturn, 1) := by decide +kernel
theorem dX9_count_64 : decode cX9_count 64 = .ok (.aload_n 0, 1) := by decide +kernel
theorem dX9_count_65 : decode cX9_count 65 = .ok (.getfield 119, 3) := by decide +kernel
theorem dX9_count_68 : decode cX9_count 68 = .ok (.ireturn, 1) := by decide +kernel
theorem dX9_count_69 : decode cX9_count 69 = .ok (.aload_n 0, 1) := by decide +kernel
theorem dX9_count_70 : decode cX9_count 70 = .ok (.getfield 138, 3) := by decide +kernel
theorem dX9_count_73 : decode cX9_count 73 = .ok (.ireturn, 1) := by decide +kernel
theorem dX9_count_74 : decode cX9_count 74 = .ok (.aload_n 0, 1) := by decide +kernel
theorem dX9_count_75 : decode cX9_count 75 = .ok (.getfield 148, 3) := by decide +kernel
theorem dX9_count_78 : decode cX9_count 78 = .ok (.ireturn, 1) := by decide +kernel
theorem dX9_count_79 : decode cX9_count 79 = .ok (.bipush (-102), 2) := by decide +kernel
theorem dX9_count_81 : decode cX9_count 81 = .ok (.ireturn, 1) := by decide +kernel
theorem dX9_digest_0 : decode cX9_digest 0 = .ok (.ldc2_w 258, 3) := by decide +kernel
theorem dX9_digest_3 : decode cX9_digest 3 = .ok (.lstore_n 1, 1) := by decide +kernel
theorem dX9_digest_4 : decode cX9_digest 4 = .ok (.bipush 97, 2) := by decide +kernel
theorem dX9_digest_6 : decode cX9_digest 6 = .ok (.istore_n 3, 1) := by decide +kernel
theorem dX9_digest_7 : decode cX9_digest 7 = .ok (.iload_n 3, 1) := by decide +kernel
theorem dX9_digest_8 : decode cX9_digest 8 = .ok (.bipush 122, 2) := by decide +kernel
theorem dX9_digest_10 : decode cX9_digest 10 = .ok (.if_icmp .gt 22, 3) := by decide +kernel
theorem dX9_digest_13 : decode cX9_digest 13 = .ok (.lload_n 1, 1) := by decide +kernel
theorem dX9_digest_14 : decode cX9_digest 14 = .ok (.aload_n 0, 1) := by decide +kernel
theorem dX9_digest_15 : decode cX9_digest 15 = .ok (.getfield 24, 3) := by decide +kernel
theorem dX9_digest_18 : decode cX9_digest 18 = .ok (.iload_n 3, 1) := by decide +kernel
theorem dX9_digest_19 : decode cX9_digest 19 = .ok (.invokevirtual 184, 3) := by decide +kernel
theorem dX9_digest_22 : decode cX9_digest 22 = .ok (.invokestatic 260, 3) := by decide +kernel
theorem dX9_digest_25 : decode cX9_digest 25 = .ok (.lstore_n 1, 1) := by decide +kernel
theorem dX9_digest_26 : decode cX9_digest 26 = .ok (.iinc 3 1, 3) := by decide +kernel
theorem dX9_digest_29 : decode cX9_digest 29 = .ok (.goto (-22), 3) := by decide +kernel
theorem dX9_digest_32 : decode cX9_digest 32 = .ok (.aload_n 0, 1) := by decide +kernel
theorem dX9_digest_33 : decode cX9_digest 33 = .ok (.lload_n 1, 1) := by decide +kernel
theorem dX9_digest_34 : decode cX9_digest 34 = .ok (.invokevirtual 264, 3) := by decide +kernel
theorem dX9_digest_37 : decode cX9_digest 37 = .ok (.lstore_n 1, 1) := by decide +kernel
theorem dX9_digest_38 : decode cX9_digest 38 = .ok (.iconst 0, 1) := by decide +kernel
theorem dX9_digest_39 : decode cX9_digest 39 = .ok (.istore_n 3, 1) := by decide +kernel
theorem dX9_digest_40 : decode cX9_digest 40 = .ok (.iload_n 3, 1) := by decide +kernel
theorem dX9_digest_41 : decode cX9_digest 41 = .ok (.bipush 6, 2) := by decide +kernel
theorem dX9_digest_43 : decode cX9_digest 43 = .ok (.if_icmp .gt 19, 3) := by decide +kernel
theorem dX9_digest_46 : decode cX9_digest 46 = .ok (.lload_n 1, 1) := by decide +kernel
theorem dX9_digest_47 : decode cX9_digest 47 = .ok (.aload_n 0, 1) := by decide +kernel
theorem dX9_digest_48 : decode cX9_digest 48 = .ok (.iload_n 3, 1) := by decide +kernel
theorem dX9_digest_49 : decode cX9_digest 49 = .ok (.invokevirtual 268, 3) := by decide +kernel
theorem dX9_digest_52 : decode cX9_digest 52 = .ok (.invokestatic 260, 3) := by decide +kernel
theorem dX9_digest_55 : decode cX9_digest 55 = .ok (.lstore_n 1, 1) := by decide +kernel
theorem dX9_digest_56 : decode cX9_digest 56 = .ok (.iinc 3 1, 3) := by decide +kernel
theorem dX9_digest_59 : decode cX9_digest 59 = .ok (.goto (-19), 3) := by decide +kernel
theorem dX9_digest_62 : decode cX9_digest 62 = .ok (.lload_n 1, 1) := by decide +kernel
theorem dX9_digest_63 : decode cX9_digest 63 = .ok (.aload_n 0, 1) := by decide +kernel
theorem dX9_digest_64 : decode cX9_digest 64 = .ok (.getfield 18, 3) := by decide +kernel
theorem dX9_digest_67 : decode cX9_digest 67 = .ok (.invokestatic 271, 3) := by decide +kernel
theorem dX9_digest_70 : decode cX9_digest 70 = .ok (.lstore_n 1, 1) := by decide +kernel
theorem dX9_digest_71 : decode cX9_digest 71 = .ok (.lload_n 1, 1) := by decide +kernel
theorem dX9_digest_72 : decode cX9_digest 72 = .ok (.aload_n 0, 1) := by decide +kernel
theorem dX9_digest_73 : decode cX9_digest 73 = .ok (.getfield 45, 3) := by decide +kernel
theorem dX9_digest_76 : decode cX9_digest 76 = .ok (.aload_n 0, 1) := by decide +kernel
theorem dX9_digest_77 : decode cX9_digest 77 = .ok (.getfield 31, 3) := by decide +kernel
theorem dX9_digest_80 : decode cX9_digest 80 = .ok (.aload_n 0, 1) := by decide +kernel
theorem dX9_digest_81 : decode cX9_digest 81 = .ok (.getfield 18, 3) := by decide +kernel
theorem dX9_digest_84 : decode cX9_digest 84 = .ok (.invokevirtual 212, 3) := by decide +kernel
theorem dX9_digest_87 : decode cX9_digest 87 = .ok (.invokestatic 271, 3) := by decide +kernel
theorem dX9_digest_90 : decode cX9_digest 90 = .ok (.lstore_n 1, 1) := by decide +kernel
theorem dX9_digest_91 : decode cX9_digest 91 = .ok (.aload_n 0, 1) := by decide +kernel
theorem dX9_digest_92 : decode cX9_digest 92 = .ok (.getfield 52, 3) := by decide +kernel
theorem dX9_digest_95 : decode cX9_digest 95 = .ok (.aload_n 0, 1) := by decide +kernel
theorem dX9_digest_96 : decode cX9_digest 96 = .ok (.getfield 31, 3) := by decide +kernel
theorem dX9_digest_99 : decode cX9_digest 99 = .ok (.aload_n 0, 1) := by decide +kernel
theorem dX9_digest_100 : decode cX9_digest 100 = .ok (.getfield 18, 3) := by decide +kernel
theorem dX9_digest_103 : decode cX9_digest 103 = .ok (.invokevirtual 216, 3) := by decide +kernel
theorem dX9_digest_106 : decode cX9_digest 106 = .ok (.iconst 0, 1) := by decide +kernel
theorem dX9_digest_107 : decode cX9_digest 107 = .ok (.istore_n 3, 1) := by decide +kernel
theorem dX9_digest_108 : decode cX9_digest 108 = .ok (.iload_n 3, 1) := by decide +kernel
theorem dX9_digest_109 : decode cX9_digest 109 = .ok (.iconst 3, 1) := by decide +kernel
theorem dX9_digest_110 : decode cX9_digest 110 = .ok (.if_icmp .gt 22, 3) := by decide +kernel
theorem dX9_digest_113 : decode cX9_digest 113 = .ok (.lload_n 1, 1) := by decide +kernel
theorem dX9_digest_114 : decode cX9_digest 114 = .ok (.aload_n 0, 1) := by decide +kernel
theorem dX9_digest_115 : decode cX9_digest 115 = .ok (.getfield 52, 3) := by decide +kernel
theorem dX9_digest_118 : decode cX9_digest 118 = .ok (.iload_n 3, 1) := by decide +kernel
theorem dX9_digest_119 : decode cX9_digest 119 = .ok (.invokevirtual 220, 3) := by decide +kernel
theorem dX9_digest_122 : decode cX9_digest 122 = .ok (.invokestatic 260, 3) := by decide +kernel
theorem dX9_digest_125 : decode cX9_digest 125 = .ok (.lstore_n 1, 1) := by decide +kernel
theorem dX9_digest_126 : decode cX9_digest 126 = .ok (.iinc 3 1, 3) := by decide +kernel
theorem dX9_digest_129 : decode cX9_digest 129 = .ok (.goto (-21), 3) := by decide +kernel
theorem dX9_digest_132 : decode cX9_digest 132 = .ok (.lload_n 1, 1) := by decide +kernel
theorem dX9_digest_133 : decode cX9_digest 133 = .ok (.aload_n 0, 1) := by decide +kernel
theorem dX9_digest_134 : decode cX9_digest 134 = .ok (.getfield 52, 3) := by decide +kernel
theorem dX9_digest_137 : decode cX9_digest 137 = .ok (.invokevirtual 223, 3) := by decide +kernel
theorem dX9_digest_140 : decode cX9_digest 140 = .ok (.invokestatic 271, 3) := by decide +kernel
theorem dX9_digest_143 : decode cX9_digest 143 = .ok (.lstore_n 1, 1) := by decide +kernel
theorem dX9_digest_144 : decode cX9_digest 144 = .ok (.aload_n 0, 1) := by decide +kernel
theorem dX9_digest_145 : decode cX9_digest 145 = .ok (.getfield 115, 3) := by decide +kernel
theorem dX9_digest_148 : decode cX9_digest 148 = .ok (.ifCond .eq 33, 3) := by decide +kernel
theorem dX9_digest_151 : decode cX9_digest 151 = .ok (.iconst 0, 1) := by decide +kernel
theorem dX9_digest_152 : decode cX9_digest 152 = .ok (.istore_n 3, 1) := by decide +kernel
theorem dX9_digest_153 : decode cX9_digest 153 = .ok (.iload_n 3, 1) := by decide +kernel
theorem dX9_digest_154 : decode cX9_digest 154 = .ok (.bipush 6, 2) := by decide +kernel
theorem dX9_digest_156 : decode cX9_digest 156 = .ok (.if_icmp .gt 19, 3) := by decide +kernel
theorem dX9_digest_159 : decode cX9_digest 159 = .ok (.lload_n 1, 1) := by decide +kernel
theorem dX9_digest_160 : decode cX9_digest 160 = .ok (.aload_n 0, 1) := by decide +kernel
theorem dX9_digest_161 : decode cX9_digest 161 = .ok (.iload_n 3, 1) := by decide +kernel
theorem dX9_digest_162 : decode cX9_digest 162 = .ok (.invokevirtual 275, 3) := by decide +kernel
theorem dX9_digest_165 : decode cX9_digest 165 = .ok (.invokestatic 260, 3) := by decide +kernel
theorem dX9_digest_168 : decode cX9_digest 168 = .ok (.lstore_n 1, 1) := by decide +kernel
theorem dX9_digest_169 : decode cX9_digest 169 = .ok (.iinc 3 1, 3) := by decide +kernel
theorem dX9_digest_172 : decode cX9_digest 172 = .ok (.goto (-19), 3) := by decide +kernel
theorem dX9_digest_175 : decode cX9_digest 175 = .ok (.aload_n 0, 1) := by decide +kernel
theorem dX9_digest_176 : decode cX9_digest 176 = .ok (.lload_n 1, 1) := by decide +kernel
theorem dX9_digest_177 : decode cX9_digest 177 = .ok (.invokevirtual 278, 3) := by decide +kernel
theorem dX9_digest_180 : decode cX9_digest 180 = .ok (.lstore_n 1, 1) := by decide +kernel
theorem dX9_digest_181 : decode cX9_digest 181 = .ok (.lload_n 1, 1) := by decide +kernel
theorem dX9_digest_182 : decode cX9_digest 182 = .ok (.aload_n 0, 1) := by decide +kernel
theorem dX9_digest_183 : decode cX9_digest 183 = .ok (.getfield 14, 3) := by decide +kernel
theorem dX9_digest_186 : decode cX9_digest 186 = .ok (.invokestatic 271, 3) := by decide +kernel
theorem dX9_digest_189 : decode cX9_digest 189 = .ok (.lstore_n 1, 1) := by decide +kernel
theorem dX9_digest_190 : decode cX9_digest 190 = .ok (.iconst 0, 1) := by decide +kernel
theorem dX9_digest_191 : decode cX9_digest 191 = .ok (.istore_n 3, 1) := by decide +kernel
theorem dX9_digest_192 : decode cX9_digest 192 = .ok (.iload_n 3, 1) := by decide +kernel
theorem dX9_digest_193 : decode cX9_digest 193 = .ok (.iconst 5, 1) := by decide +kernel
theorem dX9_digest_194 : decode cX9_digest 194 = .ok (.if_icmp .gt 19, 3) := by decide +kernel
theorem dX9_digest_197 : decode cX9_digest 197 = .ok (.lload_n 1, 1) := by decide +kernel
theorem dX9_digest_198 : decode cX9_digest 198 = .ok (.aload_n 0, 1) := by decide +kernel
theorem dX9_digest_199 : decode cX9_digest 199 = .ok (.iload_n 3, 1) := by decide +kernel
theorem dX9_digest_200 : decode cX9_digest 200 = .ok (.invokevirtual 281, 3) := by decide +kernel
theorem dX9_digest_203 : decode cX9_digest 203 = .ok (.invokestatic 260, 3) := by decide +kernel
theorem dX9_digest_206 : decode cX9_digest 206 = .ok (.lstore_n 1, 1) := by decide +kernel
theorem dX9_digest_207 : decode cX9_digest 207 = .ok (.iinc 3 1, 3) := by decide +kernel
theorem dX9_digest_210 : decode cX9_digest 210 = .ok (.goto (-18), 3) := by decide +kernel
theorem dX9_digest_213 : decode cX9_digest 213 = .ok (.lload_n 1, 1) := by decide +kernel
theorem dX9_digest_214 : decode cX9_digest 214 = .ok (.lreturn, 1) := by decide +kernel
theorem dX9_mixNames_0 : decode cX9_mixNames 0 = .ok (.lload_n 1, 1) := by decide +kernel
theorem dX9_mixNames_1 : decode cX9_mixNames 1 = .ok (.lstore_n 3, 1) := by decide +kernel
theorem dX9_mixNames_2 : decode cX9_mixNames 2 = .ok (.aload_n 0, 1) := by decide +kernel
theorem dX9_mixNames_3 : decode cX9_mixNames 3 = .ok (.getfield 59, 3) := by decide +kernel
theorem dX9_mixNames_6 : decode cX9_mixNames 6 = .ok (.aload_n 0, 1) := by decide +kernel
theorem dX9_mixNames_7 : decode cX9_mixNames 7 = .ok (.getfield 70, 3) := by decide +kernel
theorem dX9_mixNames_10 : decode cX9_mixNames 10 = .ok (.aload_n 0, 1) := by decide +kernel
theorem dX9_mixNames_11 : decode cX9_mixNames 11 = .ok (.getfield 31, 3) := by decide +kernel
theorem dX9_mixNames_14 : decode cX9_mixNames 14 = .ok (.iconst 3, 1) := by decide +kernel
theorem dX9_mixNames_15 : decode cX9_mixNames 15 = .ok (.invokevirtual 174, 3) := by decide +kernel
theorem dX9_mixNames_18 : decode cX9_mixNames 18 = .ok (.astore 5, 2) := by decide +kernel
theorem dX9_mixNames_20 : decode cX9_mixNames 20 = .ok (.iconst 0, 1) := by decide +kernel
theorem dX9_mixNames_21 : decode cX9_mixNames 21 = .ok (.istore 6, 2) := by decide +kernel
theorem dX9_mixNames_23 : decode cX9_mixNames 23 = .ok (.iload 6, 2) := by decide +kernel
theorem dX9_mixNames_25 : decode cX9_mixNames 25 = .ok (.aload_n 0, 1) := by decide +kernel
theorem dX9_mixNames_26 : decode cX9_mixNames 26 = .ok (.getfield 31, 3) := by decide +kernel
theorem dX9_mixNames_29 : decode cX9_mixNames 29 = .ok (.invokevirtual 100, 3) := by decide +kernel
theorem dX9_mixNames_32 : decode cX9_mixNames 32 = .ok (.if_icmp .ge 125, 3) := by decide +kernel
theorem dX9_mixNames_35 : decode cX9_mixNames 35 = .ok (.aload_n 0, 1) := by decide +kernel
theorem dX9_mixNames_36 : decode cX9_mixNames 36 = .ok (.getfield 31, 3) := by decide +kernel
theorem dX9_mixNames_39 : decode cX9_mixNames 39 = .ok (.iload 6, 2) := by decide +kernel
theorem dX9_mixNames_41 : decode cX9_mixNames 41 = .ok (.invokevirtual 155, 3) := by decide +kernel
theorem dX9_mixNames_44 : decode cX9_mixNames 44 = .ok (.istore 7, 2) := by decide +kernel
theorem dX9_mixNames_46 : decode cX9_mixNames 46 = .ok (.iconst 0, 1) := by decide +kernel
theorem dX9_mixNames_47 : decode cX9_mixNames 47 = .ok (.istore 8, 2) := by decide +kernel
theorem dX9_mixNames_49 : decode cX9_mixNames 49 = .ok (.iload 8, 2) := by decide +kernel
theorem dX9_mixNames_51 : decode cX9_mixNames 51 = .ok (.iload 7, 2) := by decide +kernel
theorem dX9_mixNames_53 : decode cX9_mixNames 53 = .ok (.if_icmp .ge 25, 3) := by decide +kernel
theorem dX9_mixNames_56 : decode cX9_mixNames 56 = .ok (.lload_n 3, 1) := by decide +kernel
theorem dX9_mixNames_57 : decode cX9_mixNames 57 = .ok (.aload_n 0, 1) := by decide +kernel
theorem dX9_mixNames_58 : decode cX9_mixNames 58 = .ok (.getfield 31, 3) := by decide +kernel
theorem dX9_mixNames_61 : decode cX9_mixNames 61 = .ok (.iload 6, 2) := by decide +kernel
theorem dX9_mixNames_63 : decode cX9_mixNames 63 = .ok (.iload 8, 2) := by decide +kernel
theorem dX9_mixNames_65 : decode cX9_mixNames 65 = .ok (.invokevirtual 178, 3) := by decide +kernel
theorem dX9_mixNames_68 : decode cX9_mixNames 68 = .ok (.invokestatic 260, 3) := by decide +kernel
theorem dX9_mixNames_71 : decode cX9_mixNames 71 = .ok (.lstore_n 3, 1) := by decide +kernel
theorem dX9_mixNames_72 : decode cX9_mixNames 72 = .ok (.iinc 8 1, 3) := by decide +kernel
theorem dX9_mixNames_75 : decode cX9_mixNames 75 = .ok (.goto (-26), 3) := by decide +kernel
theorem dX9_mixNames_78 : decode cX9_mixNames 78 = .ok (.iconst 0, 1) := by decide +kernel
theorem dX9_mixNames_79 : decode cX9_mixNames 79 = .ok (.istore 8, 2) := by decide +kernel
theorem dX9_mixNames_81 : decode cX9_mixNames 81 = .ok (.iload 8, 2) := by decide +kernel
theorem dX9_mixNames_83 : decode cX9_mixNames 83 = .ok (.bipush 6, 2) := by decide +kernel
theorem dX9_mixNames_85 : decode cX9_mixNames 85 = .ok (.if_icmp .gt 22, 3) := by decide +kernel
theorem dX9_mixNames_88 : decode cX9_mixNames 88 = .ok (.lload_n 3, 1) := by decide +kernel
theorem dX9_mixNames_89 : decode cX9_mixNames 89 = .ok (.aload_n 0, 1) := by decide +kernel
theorem dX9_mixNames_90 : decode cX9_mixNames 90 = .ok (.iload 6, 2) := by decide +kernel
theorem dX9_mixNames_92 : decode cX9_mixNames 92 = .ok (.iload 8, 2) := by decide +kernel
theorem dX9_mixNames_94 : decode cX9_mixNames 94 = .ok (.invokevirtual 284, 3) := by decide +kernel
theorem dX9_mixNames_97 : decode cX9_mixNames 97 = .ok (.invokestatic 260, 3) := by decide +kernel
theorem dX9_mixNames_100 : decode cX9_mixNames 100 = .ok (.lstore_n 3, 1) := by decide +kernel
theorem dX9_mixNames_101 : decode cX9_mixNames 101 = .ok (.iinc 8 1, 3) := by decide +kernel
theorem dX9_mixNames_104 : decode cX9_mixNames 104 = .ok (.goto (-23), 3) := by decide +kernel
theorem dX9_mixNames_107 : decode cX9_mixNames 107 = .ok (.lload_n 3, 1) := by decide +kernel
theorem dX9_mixNames_108 : decode cX9_mixNames 108 = .ok (.aload 5, 2) := by decide +kernel
theorem dX9_mixNames_110 : decode cX9_mixNames 110 = .ok (.iload 6, 2) := by decide +kernel
theorem dX9_mixNames_112 : decode cX9_mixNames 112 = .ok (.invokevirtual 173, 3) := by decide +kernel
theorem dX9_mixNames_115 : decode cX9_mixNames 115 = .ok (.invokestatic 260, 3) := by decide +kernel
theorem dX9_mixNames_118 : decode cX9_mixNames 118 = .ok (.lstore_n 3, 1) := by decide +kernel
theorem dX9_mixNames_119 : decode cX9_mixNames 119 = .ok (.iconst 0, 1) := by decide +kernel
theorem dX9_mixNames_120 : decode cX9_mixNames 120 = .ok (.istore 8, 2) := by decide +kernel
theorem dX9_mixNames_122 : decode cX9_mixNames 122 = .ok (.iload 8, 2) := by decide +kernel
theorem dX9_mixNames_124 : decode cX9_mixNames 124 = .ok (.iload 7, 2) := by decide +kernel
theorem dX9_mixNames_126 : decode cX9_mixNames 126 = .ok (.if_icmp .ge 25, 3) := by decide +kernel
theorem dX9_mixNames_129 : decode cX9_mixNames 129 = .ok (.lload_n 3, 1) := by decide +kernel
theorem dX9_mixNames_130 : decode cX9_mixNames 130 = .ok (.aload_n 0, 1) := by decide +kernel
theorem dX9_mixNames_131 : decode cX9_mixNames 131 = .ok (.getfield 31, 3) := by decide +kernel
theorem dX9_mixNames_134 : decode cX9_mixNames 134 = .ok (.iload 6, 2) := by decide +kernel
theorem dX9_mixNames_136 : decode cX9_mixNames 136 = .ok (.iload 8, 2) := by decide +kernel
theorem dX9_mixNames_138 : decode cX9_mixNames 138 = .ok (.invokevirtual 181, 3) := by decide +kernel
theorem dX9_mixNames_141 : decode cX9_mixNames 141 = .ok (.invokestatic 260, 3) := by decide +kernel
theorem dX9_mixNames_144 : decode cX9_mixNames 144 = .ok (.lstore_n 3, 1) := by decide +kernel
theorem dX9_mixNames_145 : decode cX9_mixNames 145 = .ok (.iinc 8 1, 3) := by decide +kernel
theorem dX9_mixNames_148 : decode cX9_mixNames 148 = .ok (.goto (-26), 3) := by decide +kernel
theorem dX9_mixNames_151 : decode cX9_mixNames 151 = .ok (.iinc 6 1, 3) := by decide +kernel
theorem dX9_mixNames_154 : decode cX9_mixNames 154 = .ok (.goto (-131), 3) := by decide +kernel
theorem dX9_mixNames_157 : decode cX9_mixNames 157 = .ok (.lload_n 3, 1) := by decide +kernel
theorem dX9_mixNames_158 : decode cX9_mixNames 158 = .ok (.lreturn, 1) := by decide +kernel
theorem dX9_mixPaths_0 : decode cX9_mixPaths 0 = .ok (.lload_n 1, 1) := by decide +kernel
theorem dX9_mixPaths_1 : decode cX9_mixPaths 1 = .ok (.lstore_n 3, 1) := by decide +kernel
theorem dX9_mixPaths_2 : decode cX9_mixPaths 2 = .ok (.iconst 0, 1) := by decide +kernel
theorem dX9_mixPaths_3 : decode cX9_mixPaths 3 = .ok (.istore 5, 2) := by decide +kernel
theorem dX9_mixPaths_5 : decode cX9_mixPaths 5 = .ok (.iload 5, 2) := by decide +kernel
theorem dX9_mixPaths_7 : decode cX9_mixPaths 7 = .ok (.aload_n 0, 1) := by decide +kernel
theorem dX9_mixPaths_8 : decode cX9_mixPaths 8 = .ok (.getfield 31, 3) := by decide +kernel
theorem dX9_mixPaths_11 : decode cX9_mixPaths 11 = .ok (.invokevirtual 100, 3) := by decide +kernel
theorem dX9_mixPaths_14 : decode cX9_mixPaths 14 = .ok (.if_icmp .ge 52, 3) := by decide +kernel
theorem dX9_mixPaths_17 : decode cX9_mixPaths 17 = .ok (.aload_n 0, 1) := by decide +kernel
theorem dX9_mixPaths_18 : decode cX9_mixPaths 18 = .ok (.getfield 66, 3) := by decide +kernel
theorem dX9_mixPaths_21 : decode cX9_mixPaths 21 = .ok (.iload 5, 2) := by decide +kernel
theorem dX9_mixPaths_23 : decode cX9_mixPaths 23 = .ok (.invokevirtual 173, 3) := by decide +kernel
theorem dX9_mixPaths_26 : decode cX9_mixPaths 26 = .ok (.istore 6, 2) := by decide +kernel
theorem dX9_mixPaths_28 : decode cX9_mixPaths 28 = .ok (.iconst 0, 1) := by decide +kernel
theorem dX9_mixPaths_29 : decode cX9_mixPaths 29 = .ok (.istore 7, 2) := by decide +kernel
theorem dX9_mixPaths_31 : decode cX9_mixPaths 31 = .ok (.iload 7, 2) := by decide +kernel
theorem dX9_mixPaths_33 : decode cX9_mixPaths 33 = .ok (.iload 6, 2) := by decide +kernel
theorem dX9_mixPaths_35 : decode cX9_mixPaths 35 = .ok (.if_icmp .ge 25, 3) := by decide +kernel
theorem dX9_mixPaths_38 : decode cX9_mixPaths 38 = .ok (.lload_n 3, 1) := by decide +kernel
theorem dX9_mixPaths_39 : decode cX9_mixPaths 39 = .ok (.aload_n 0, 1) := by decide +kernel
theorem dX9_mixPaths_40 : decode cX9_mixPaths 40 = .ok (.getfield 66, 3) := by decide +kernel
theorem dX9_mixPaths_43 : decode cX9_mixPaths 43 = .ok (.iload 5, 2) := by decide +kernel
theorem dX9_mixPaths_45 : decode cX9_mixPaths 45 = .ok (.iload 7, 2) := by decide +kernel
theorem dX9_mixPaths_47 : decode cX9_mixPaths 47 = .ok (.invokevirtual 240, 3) := by decide +kernel
theorem dX9_mixPaths_50 : decode cX9_mixPaths 50 = .ok (.invokestatic 260, 3) := by decide +kernel
theorem dX9_mixPaths_53 : decode cX9_mixPaths 53 = .ok (.lstore_n 3, 1) := by decide +kernel
theorem dX9_mixPaths_54 : decode cX9_mixPaths 54 = .ok (.iinc 7 1, 3) := by decide +kernel
theorem dX9_mixPaths_57 : decode cX9_mixPaths 57 = .ok (.goto (-26), 3) := by decide +kernel
theorem dX9_mixPaths_60 : decode cX9_mixPaths 60 = .ok (.iinc 5 1, 3) := by decide +kernel
theorem dX9_mixPaths_63 : decode cX9_mixPaths 63 = .ok (.goto (-58), 3) := by decide +kernel
theorem dX9_mixPaths_66 : decode cX9_mixPaths 66 = .ok (.lload_n 3, 1) := by decide +kernel
theorem dX9_mixPaths_67 : decode cX9_mixPaths 67 = .ok (.lreturn, 1) := by decide +kernel
theorem dX9_mixRow_0 : decode cX9_mixRow 0 = .ok (.lload_n 0, 1) := by decide +kernel
theorem dX9_mixRow_1 : decode cX9_mixRow 1 = .ok (.lstore_n 3, 1) := by decide +kernel
theorem dX9_mixRow_2 : decode cX9_mixRow 2 = .ok (.iconst 0, 1) := by decide +kernel
theorem dX9_mixRow_3 : decode cX9_mixRow 3 = .ok (.istore 5, 2) := by decide +kernel
theorem dX9_mixRow_5 : decode cX9_mixRow 5 = .ok (.iload 5, 2) := by decide +kernel
theorem dX9_mixRow_7 : decode cX9_mixRow 7 = .ok (.aload_n 2, 1) := by decide +kernel
theorem dX9_mixRow_8 : decode cX9_mixRow 8 = .ok (.invokevirtual 80, 3) := by decide +kernel
theorem dX9_mixRow_11 : decode cX9_mixRow 11 = .ok (.if_icmp .ge 20, 3) := by decide +kernel
theorem dX9_mixRow_14 : decode cX9_mixRow 14 = .ok (.lload_n 3, 1) := by decide +kernel
theorem dX9_mixRow_15 : decode cX9_mixRow 15 = .ok (.aload_n 2, 1) := by decide +kernel
theorem dX9_mixRow_16 : decode cX9_mixRow 16 = .ok (.iload 5, 2) := by decide +kernel
theorem dX9_mixRow_18 : decode cX9_mixRow 18 = .ok (.invokevirtual 209, 3) := by decide +kernel
theorem dX9_mixRow_21 : decode cX9_mixRow 21 = .ok (.invokestatic 260, 3) := by decide +kernel
theorem dX9_mixRow_24 : decode cX9_mixRow 24 = .ok (.lstore_n 3, 1) := by decide +kernel
theorem dX9_mixRow_25 : decode cX9_mixRow 25 = .ok (.iinc 5 1, 3) := by decide +kernel
theorem dX9_mixRow_28 : decode cX9_mixRow 28 = .ok (.goto (-23), 3) := by decide +kernel
theorem dX9_mixRow_31 : decode cX9_mixRow 31 = .ok (.lload_n 3, 1) := by decide +kernel
theorem dX9_mixRow_32 : decode cX9_mixRow 32 = .ok (.lreturn, 1) := by decide +kernel
theorem dX9_mix_0 : decode cX9_mix 0 = .ok (.ldc2_w 287, 3) := by decide +kernel
theorem dX9_mix_3 : decode cX9_mix 3 = .ok (.lload_n 0, 1) := by decide +kernel
theorem dX9_mix_4 : decode cX9_mix 4 = .ok (.lmul, 1) := by decide +kernel
theorem dX9_mix_5 : decode cX9_mix 5 = .ok (.iload_n 2, 1) := by decide +kernel
theorem dX9_mix_6 : decode cX9_mix 6 = .ok (.i2l, 1) := by decide +kernel
theorem dX9_mix_7 : decode cX9_mix 7 = .ok (.ladd, 1) := by decide +kernel
theorem dX9_mix_8 : decode cX9_mix 8 = .ok (.lreturn, 1) := by decide +kernel
theorem dX10_init_0 : decode cX10_init 0 = .ok (.aload_n 0, 1) := by decide +kernel
theorem dX10_init_1 : decode cX10_init 1 = .ok (.invokespecial 1, 3) := by decide +kernel
theorem dX10_init_4 : decode cX10_init 4 = .ok (.aload_n 0, 1) := by decide +kernel
theorem dX10_init_5 : decode cX10_init 5 = .ok (.bipush 50, 2) := by decide +kernel
theorem dX10_init_7 : decode cX10_init 7 = .ok (.newarray .int, 2) := by decide +kernel
theorem dX10_init_9 : decode cX10_init 9 = .ok (.putfield 7, 3) := by decide +kernel
theorem dX10_init_12 : decode cX10_init 12 = .ok (.aload_n 0, 1) := by decide +kernel
theorem dX10_init_13 : decode cX10_init 13 = .ok (.bipush 14, 2) := by decide +kernel
theorem dX10_init_15 : decode cX10_init 15 = .ok (.newarray .int, 2) := by decide +kernel
theorem dX10_init_17 : decode cX10_init 17 = .ok (.putfield 13, 3) := by decide +kernel
theorem dX10_init_20 : decode cX10_init 20 = .ok (.aload_n 0, 1) := by decide +kernel
theorem dX10_init_21 : decode cX10_init 21 = .ok (.bipush 112, 2) := by decide +kernel
theorem dX10_init_23 : decode cX10_init 23 = .ok (.newarray .int, 2) := by decide +kernel
theorem dX10_init_25 : decode cX10_init 25 = .ok (.putfield 16, 3) := by decide +kernel
theorem dX10_init_28 : decode cX10_init 28 = .ok (.aload_n 0, 1) := by decide +kernel
theorem dX10_init_29 : decode cX10_init 29 = .ok (.bipush 14, 2) := by decide +kernel
theorem dX10_init_31 : decode cX10_init 31 = .ok (.newarray .int, 2) := by decide +kernel
theorem dX10_init_33 : decode cX10_init 33 = .ok (.putfield 19, 3) := by decide +kernel
theorem dX10_init_36 : decode cX10_init 36 = .ok (.aload_n 0, 1) := by decide +kernel
theorem dX10_init_37 : decode cX10_init 37 = .ok (.bipush 26, 2) := by decide +kernel
theorem dX10_init_39 : decode cX10_init 39 = .ok (.newarray .int, 2) := by decide +kernel
theorem dX10_init_41 : decode cX10_init 41 = .ok (.putfield 22, 3) := by decide +kernel
theorem dX10_init_44 : decode cX10_init 44 = .ok (.aload_n 0, 1) := by decide +kernel
theorem dX10_init_45 : decode cX10_init 45 = .ok (.bipush 10, 2) := by decide +kernel
theorem dX10_init_47 : decode cX10_init 47 = .ok (.newarray .int, 2) := by decide +kernel
theorem dX10_init_49 : decode cX10_init 49 = .ok (.putfield 25, 3) := by decide +kernel
theorem dX10_init_52 : decode cX10_init 52 = .ok (.aload_n 0, 1) := by decide +kernel
theorem dX10_init_53 : decode cX10_init 53 = .ok (.bipush 14, 2) := by decide +kernel
theorem dX10_init_55 : decode cX10_init 55 = .ok (.newarray .int, 2) := by decide +kernel
theorem dX10_init_57 : decode cX10_init 57 = .ok (.putfield 28, 3) := by decide +kernel
theorem dX10_init_60 : decode cX10_init 60 = .ok (.aload_n 0, 1) := by decide +kernel
theorem dX10_init_61 : decode cX10_init 61 = .ok (.sipush 196, 3) := by decide +kernel
theorem dX10_init_64 : decode cX10_init 64 = .ok (.newarray .int, 2) := by decide +kernel
theorem dX10_init_66 : decode cX10_init 66 = .ok (.putfield 31, 3) := by decide +kernel
theorem dX10_init_69 : decode cX10_init 69 = .ok (.aload_n 0, 1) := by decide +kernel
theorem dX10_init_70 : decode cX10_init 70 = .ok (.bipush 14, 2) := by decide +kernel
theorem dX10_init_72 : decode cX10_init 72 = .ok (.newarray .int, 2) := by decide +kernel
theorem dX10_init_74 : decode cX10_init 74 = .ok (.putfield 34, 3) := by decide +kernel
theorem dX10_init_77 : decode cX10_init 77 = .ok (.aload_n 0, 1) := by decide +kernel
theorem dX10_init_78 : decode cX10_init 78 = .ok (.bipush 112, 2) := by decide +kernel
theorem dX10_init_80 : decode cX10_init 80 = .ok (.newarray .int, 2) := by decide +kernel
theorem dX10_init_82 : decode cX10_init 82 = .ok (.putfield 37, 3) := by decide +kernel
theorem dX10_init_85 : decode cX10_init 85 = .ok (.aload_n 0, 1) := by decide +kernel
theorem dX10_init_86 : decode cX10_init 86 = .ok (.bipush 14, 2) := by decide +kernel
theorem dX10_init_88 : decode cX10_init 88 = .ok (.newarray .int, 2) := by decide +kernel
theorem dX10_init_90 : decode cX10_init 90 = .ok (.putfield 40, 3) := by decide +kernel
theorem dX10_init_93 : decode cX10_init 93 = .ok (.aload_n 0, 1) := by decide +kernel
theorem dX10_init_94 : decode cX10_init 94 = .ok (.bipush 26, 2) := by decide +kernel
theorem dX10_init_96 : decode cX10_init 96 = .ok (.newarray .int, 2) := by decide +kernel
theorem dX10_init_98 : decode cX10_init 98 = .ok (.putfield 43, 3) := by decide +kernel
theorem dX10_init_101 : decode cX10_init 101 = .ok (.aload_n 0, 1) := by decide +kernel
theorem dX10_init_102 : decode cX10_init 102 = .ok (.bipush 11, 2) := by decide +kernel
theorem dX10_init_104 : decode cX10_init 104 = .ok (.newarray .int, 2) := by decide +kernel
theorem dX10_init_106 : decode cX10_init 106 = .ok (.putfield 46, 3) := by decide +kernel
theorem dX10_init_109 : decode cX10_init 109 = .ok (.aload_n 0, 1) := by decide +kernel
theorem dX10_init_110 : decode cX10_init 110 = .ok (.bipush 11, 2) := by decide +kernel
theorem dX10_init_112 : decode cX10_init 112 = .ok (.newarray .int, 2) := by decide +kernel
theorem dX10_init_114 : decode cX10_init 114 = .ok (.putfield 49, 3) := by decide +kernel
theorem dX10_init_117 : decode cX10_init 117 = .ok (.aload_n 0, 1) := by decide +kernel
theorem dX10_init_118 : decode cX10_init 118 = .ok (.bipush 11, 2) := by decide +kernel
theorem dX10_init_120 : decode cX10_init 120 = .ok (.newarray .int, 2) := by decide +kernel
theorem dX10_init_122 : decode cX10_init 122 = .ok (.putfield 52, 3) := by decide +kernel
theorem dX10_init_125 : decode cX10_init 125 = .ok (.aload_n 0, 1) := by decide +kernel
theorem dX10_init_126 : decode cX10_init 126 = .ok (.bipush 11, 2) := by decide +kernel
theorem dX10_init_128 : decode cX10_init 128 = .ok (.newarray .int, 2) := by decide +kernel
theorem dX10_init_130 : decode cX10_init 130 = .ok (.putfield 55, 3) := by decide +kernel
theorem dX10_init_133 : decode cX10_init 133 = .ok (.aload_n 0, 1) := by decide +kernel
theorem dX10_init_134 : decode cX10_init 134 = .ok (.sipush 225, 3) := by decide +kernel
theorem dX10_init_137 : decode cX10_init 137 = .ok (.newarray .int, 2) := by decide +kernel
theorem dX10_init_139 : decode cX10_init 139 = .ok (.putfield 58, 3) := by decide +kernel
theorem dX10_init_142 : decode cX10_init 142 = .ok (.aload_n 0, 1) := by decide +kernel
theorem dX10_init_143 : decode cX10_init 143 = .ok (.sipush 1125, 3) := by decide +kernel
theorem dX10_init_146 : decode cX10_init 146 = .ok (.newarray .int, 2) := by decide +kernel
theorem dX10_init_148 : decode cX10_init 148 = .ok (.putfield 61, 3) := by decide +kernel
theorem dX10_init_151 : decode cX10_init 151 = .ok (.aload_n 0, 1) := by decide +kernel
theorem dX10_init_152 : decode cX10_init 152 = .ok (.bipush 14, 2) := by decide +kernel
theorem dX10_init_154 : decode cX10_init 154 = .ok (.newarray .int, 2) := by decide +kernel
theorem dX10_init_156 : decode cX10_init 156 = .ok (.putfield 64, 3) := by decide +kernel
theorem dX10_init_159 : decode cX10_init 159 = .ok (.aload_n 0, 1) := by decide +kernel
theorem dX10_init_160 : decode cX10_init 160 = .ok (.sipush 196, 3) := by decide +kernel
theorem dX10_init_163 : decode cX10_init 163 = .ok (.newarray .int, 2) := by decide +kernel
theorem dX10_init_165 : decode cX10_init 165 = .ok (.putfield 67, 3) := by decide +kernel
theorem dX10_init_168 : decode cX10_init 168 = .ok (.aload_n 0, 1) := by decide +kernel
theorem dX10_init_169 : decode cX10_init 169 = .ok (.bipush 10, 2) := by decide +kernel
