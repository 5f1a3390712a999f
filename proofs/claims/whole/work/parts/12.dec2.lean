theorem dX10_init_171 : decode cX10_init 171 = .ok (.newarray .int, 2) := by decide +kernel
theorem dX10_init_173 : decode cX10_init 173 = .ok (.putfield 70, 3) := by decide +kernel
theorem dX10_init_176 : decode cX10_init 176 = .ok (.iconst 0, 1) := by decide +kernel
theorem dX10_init_177 : decode cX10_init 177 = .ok (.istore_n 1, 1) := by decide +kernel
theorem dX10_init_178 : decode cX10_init 178 = .ok (.iload_n 1, 1) := by decide +kernel
theorem dX10_init_179 : decode cX10_init 179 = .ok (.bipush 26, 2) := by decide +kernel
theorem dX10_init_181 : decode cX10_init 181 = .ok (.if_icmp .ge 53, 3) := by decide +kernel
theorem dX10_init_184 : decode cX10_init 184 = .ok (.aload_n 0, 1) := by decide +kernel
theorem dX10_init_185 : decode cX10_init 185 = .ok (.getfield 22, 3) := by decide +kernel
theorem dX10_init_188 : decode cX10_init 188 = .ok (.iload_n 1, 1) := by decide +kernel
theorem dX10_init_189 : decode cX10_init 189 = .ok (.iload_n 1, 1) := by decide +kernel
theorem dX10_init_190 : decode cX10_init 190 = .ok (.bipush 15, 2) := by decide +kernel
theorem dX10_init_192 : decode cX10_init 192 = .ok (.if_icmp .ge 11, 3) := by decide +kernel
theorem dX10_init_195 : decode cX10_init 195 = .ok (.iconst 2, 1) := by decide +kernel
theorem dX10_init_196 : decode cX10_init 196 = .ok (.iload_n 1, 1) := by decide +kernel
theorem dX10_init_197 : decode cX10_init 197 = .ok (.iconst 3, 1) := by decide +kernel
theorem dX10_init_198 : decode cX10_init 198 = .ok (.idiv, 1) := by decide +kernel
theorem dX10_init_199 : decode cX10_init 199 = .ok (.iadd, 1) := by decide +kernel
theorem dX10_init_200 : decode cX10_init 200 = .ok (.goto 27, 3) := by decide +kernel
theorem dX10_init_203 : decode cX10_init 203 = .ok (.iload_n 1, 1) := by decide +kernel
theorem dX10_init_204 : decode cX10_init 204 = .ok (.bipush 19, 2) := by decide +kernel
theorem dX10_init_206 : decode cX10_init 206 = .ok (.if_icmp .ge 8, 3) := by decide +kernel
theorem dX10_init_209 : decode cX10_init 209 = .ok (.bipush 7, 2) := by decide +kernel
theorem dX10_init_211 : decode cX10_init 211 = .ok (.goto 16, 3) := by decide +kernel
theorem dX10_init_214 : decode cX10_init 214 = .ok (.iload_n 1, 1) := by decide +kernel
theorem dX10_init_215 : decode cX10_init 215 = .ok (.bipush 22, 2) := by decide +kernel
theorem dX10_init_217 : decode cX10_init 217 = .ok (.if_icmp .ge 8, 3) := by decide +kernel
theorem dX10_init_220 : decode cX10_init 220 = .ok (.bipush 8, 2) := by decide +kernel
theorem dX10_init_222 : decode cX10_init 222 = .ok (.goto 5, 3) := by decide +kernel
theorem dX10_init_225 : decode cX10_init 225 = .ok (.bipush 9, 2) := by decide +kernel
theorem dX10_init_227 : decode cX10_init 227 = .ok (.iastore, 1) := by decide +kernel
theorem dX10_init_228 : decode cX10_init 228 = .ok (.iinc 1 1, 3) := by decide +kernel
theorem dX10_init_231 : decode cX10_init 231 = .ok (.goto (-53), 3) := by decide +kernel
theorem dX10_init_234 : decode cX10_init 234 = .ok (.return_, 1) := by decide +kernel
theorem dX10_within_0 : decode cX10_within 0 = .ok (.iload_n 0, 1) := by decide +kernel
theorem dX10_within_1 : decode cX10_within 1 = .ok (.iload_n 1, 1) := by decide +kernel
theorem dX10_within_2 : decode cX10_within 2 = .ok (.if_icmp .lt 12, 3) := by decide +kernel
theorem dX10_within_5 : decode cX10_within 5 = .ok (.iload_n 0, 1) := by decide +kernel
theorem dX10_within_6 : decode cX10_within 6 = .ok (.iload_n 2, 1) := by decide +kernel
theorem dX10_within_7 : decode cX10_within 7 = .ok (.if_icmp .gt 7, 3) := by decide +kernel
theorem dX10_within_10 : decode cX10_within 10 = .ok (.iconst 1, 1) := by decide +kernel
theorem dX10_within_11 : decode cX10_within 11 = .ok (.goto 4, 3) := by decide +kernel
theorem dX10_within_14 : decode cX10_within 14 = .ok (.iconst 0, 1) := by decide +kernel
theorem dX10_within_15 : decode cX10_within 15 = .ok (.ireturn, 1) := by decide +kernel
theorem dX10_letter_0 : decode cX10_letter 0 = .ok (.iload_n 1, 1) := by decide +kernel
theorem dX10_letter_1 : decode cX10_letter 1 = .ok (.bipush 32, 2) := by decide +kernel
theorem dX10_letter_3 : decode cX10_letter 3 = .ok (.bipush 126, 2) := by decide +kernel
theorem dX10_letter_5 : decode cX10_letter 5 = .ok (.invokestatic 73, 3) := by decide +kernel
theorem dX10_letter_8 : decode cX10_letter 8 = .ok (.ifCond .ne 6, 3) := by decide +kernel
theorem dX10_letter_11 : decode cX10_letter 11 = .ok (.bipush (-102), 2) := by decide +kernel
theorem dX10_letter_13 : decode cX10_letter 13 = .ok (.ireturn, 1) := by decide +kernel
theorem dX10_letter_14 : decode cX10_letter 14 = .ok (.aload_n 0, 1) := by decide +kernel
theorem dX10_letter_15 : decode cX10_letter 15 = .ok (.getfield 77, 3) := by decide +kernel
theorem dX10_letter_18 : decode cX10_letter 18 = .ok (.bipush 50, 2) := by decide +kernel
theorem dX10_letter_20 : decode cX10_letter 20 = .ok (.if_icmp .ne 6, 3) := by decide +kernel
theorem dX10_letter_23 : decode cX10_letter 23 = .ok (.bipush (-104), 2) := by decide +kernel
theorem dX10_letter_25 : decode cX10_letter 25 = .ok (.ireturn, 1) := by decide +kernel
theorem dX10_letter_26 : decode cX10_letter 26 = .ok (.aload_n 0, 1) := by decide +kernel
theorem dX10_letter_27 : decode cX10_letter 27 = .ok (.getfield 7, 3) := by decide +kernel
theorem dX10_letter_30 : decode cX10_letter 30 = .ok (.aload_n 0, 1) := by decide +kernel
theorem dX10_letter_31 : decode cX10_letter 31 = .ok (.getfield 77, 3) := by decide +kernel
theorem dX10_letter_34 : decode cX10_letter 34 = .ok (.iload_n 1, 1) := by decide +kernel
theorem dX10_letter_35 : decode cX10_letter 35 = .ok (.iastore, 1) := by decide +kernel
theorem dX10_letter_36 : decode cX10_letter 36 = .ok (.aload_n 0, 1) := by decide +kernel
theorem dX10_letter_37 : decode cX10_letter 37 = .ok (.dup, 1) := by decide +kernel
theorem dX10_letter_38 : decode cX10_letter 38 = .ok (.getfield 77, 3) := by decide +kernel
theorem dX10_letter_41 : decode cX10_letter 41 = .ok (.iconst 1, 1) := by decide +kernel
theorem dX10_letter_42 : decode cX10_letter 42 = .ok (.iadd, 1) := by decide +kernel
theorem dX10_letter_43 : decode cX10_letter 43 = .ok (.putfield 77, 3) := by decide +kernel
theorem dX10_letter_46 : decode cX10_letter 46 = .ok (.aload_n 0, 1) := by decide +kernel
theorem dX10_letter_47 : decode cX10_letter 47 = .ok (.getfield 77, 3) := by decide +kernel
theorem dX10_letter_50 : decode cX10_letter 50 = .ok (.ireturn, 1) := by decide +kernel
theorem dX10_blank_0 : decode cX10_blank 0 = .ok (.aload_n 0, 1) := by decide +kernel
theorem dX10_blank_1 : decode cX10_blank 1 = .ok (.getfield 77, 3) := by decide +kernel
theorem dX10_blank_4 : decode cX10_blank 4 = .ok (.istore_n 1, 1) := by decide +kernel
theorem dX10_blank_5 : decode cX10_blank 5 = .ok (.aload_n 0, 1) := by decide +kernel
theorem dX10_blank_6 : decode cX10_blank 6 = .ok (.iconst 0, 1) := by decide +kernel
theorem dX10_blank_7 : decode cX10_blank 7 = .ok (.putfield 77, 3) := by decide +kernel
theorem dX10_blank_10 : decode cX10_blank 10 = .ok (.iload_n 1, 1) := by decide +kernel
theorem dX10_blank_11 : decode cX10_blank 11 = .ok (.ireturn, 1) := by decide +kernel
theorem dX10_goes_0 : decode cX10_goes 0 = .ok (.aload_n 0, 1) := by decide +kernel
theorem dX10_goes_1 : decode cX10_goes 1 = .ok (.iload_n 1, 1) := by decide +kernel
theorem dX10_goes_2 : decode cX10_goes 2 = .ok (.ifCond .eq 7, 3) := by decide +kernel
theorem dX10_goes_5 : decode cX10_goes 5 = .ok (.iload_n 2, 1) := by decide +kernel
theorem dX10_goes_6 : decode cX10_goes 6 = .ok (.goto 7, 3) := by decide +kernel
theorem dX10_goes_9 : decode cX10_goes 9 = .ok (.aload_n 0, 1) := by decide +kernel
theorem dX10_goes_10 : decode cX10_goes 10 = .ok (.getfield 81, 3) := by decide +kernel
theorem dX10_goes_13 : decode cX10_goes 13 = .ok (.putfield 81, 3) := by decide +kernel
theorem dX10_goes_16 : decode cX10_goes 16 = .ok (.iload_n 1, 1) := by decide +kernel
theorem dX10_goes_17 : decode cX10_goes 17 = .ok (.ireturn, 1) := by decide +kernel
theorem dX10_isNewTwice_0 : decode cX10_isNewTwice 0 = .ok (.iconst 0, 1) := by decide +kernel
theorem dX10_isNewTwice_1 : decode cX10_isNewTwice 1 = .ok (.istore_n 1, 1) := by decide +kernel
theorem dX10_isNewTwice_2 : decode cX10_isNewTwice 2 = .ok (.iconst 0, 1) := by decide +kernel
theorem dX10_isNewTwice_3 : decode cX10_isNewTwice 3 = .ok (.istore_n 2, 1) := by decide +kernel
theorem dX10_isNewTwice_4 : decode cX10_isNewTwice 4 = .ok (.iload_n 2, 1) := by decide +kernel
theorem dX10_isNewTwice_5 : decode cX10_isNewTwice 5 = .ok (.aload_n 0, 1) := by decide +kernel
theorem dX10_isNewTwice_6 : decode cX10_isNewTwice 6 = .ok (.getfield 84, 3) := by decide +kernel
theorem dX10_isNewTwice_9 : decode cX10_isNewTwice 9 = .ok (.if_icmp .ge 110, 3) := by decide +kernel
theorem dX10_isNewTwice_12 : decode cX10_isNewTwice 12 = .ok (.aload_n 0, 1) := by decide +kernel
theorem dX10_isNewTwice_13 : decode cX10_isNewTwice 13 = .ok (.getfield 34, 3) := by decide +kernel
theorem dX10_isNewTwice_16 : decode cX10_isNewTwice 16 = .ok (.iload_n 2, 1) := by decide +kernel
theorem dX10_isNewTwice_17 : decode cX10_isNewTwice 17 = .ok (.iaload, 1) := by decide +kernel
theorem dX10_isNewTwice_18 : decode cX10_isNewTwice 18 = .ok (.aload_n 0, 1) := by decide +kernel
theorem dX10_isNewTwice_19 : decode cX10_isNewTwice 19 = .ok (.getfield 34, 3) := by decide +kernel
theorem dX10_isNewTwice_22 : decode cX10_isNewTwice 22 = .ok (.aload_n 0, 1) := by decide +kernel
theorem dX10_isNewTwice_23 : decode cX10_isNewTwice 23 = .ok (.getfield 84, 3) := by decide +kernel
theorem dX10_isNewTwice_26 : decode cX10_isNewTwice 26 = .ok (.iaload, 1) := by decide +kernel
theorem dX10_isNewTwice_27 : decode cX10_isNewTwice 27 = .ok (.if_icmp .ne 7, 3) := by decide +kernel
theorem dX10_isNewTwice_30 : decode cX10_isNewTwice 30 = .ok (.iconst 1, 1) := by decide +kernel
theorem dX10_isNewTwice_31 : decode cX10_isNewTwice 31 = .ok (.goto 4, 3) := by decide +kernel
theorem dX10_isNewTwice_34 : decode cX10_isNewTwice 34 = .ok (.iconst 0, 1) := by decide +kernel
theorem dX10_isNewTwice_35 : decode cX10_isNewTwice 35 = .ok (.istore_n 3, 1) := by decide +kernel
theorem dX10_isNewTwice_36 : decode cX10_isNewTwice 36 = .ok (.iconst 0, 1) := by decide +kernel
theorem dX10_isNewTwice_37 : decode cX10_isNewTwice 37 = .ok (.istore 4, 2) := by decide +kernel
theorem dX10_isNewTwice_39 : decode cX10_isNewTwice 39 = .ok (.iload 4, 2) := by decide +kernel
theorem dX10_isNewTwice_41 : decode cX10_isNewTwice 41 = .ok (.aload_n 0, 1) := by decide +kernel
theorem dX10_isNewTwice_42 : decode cX10_isNewTwice 42 = .ok (.getfield 34, 3) := by decide +kernel
theorem dX10_isNewTwice_45 : decode cX10_isNewTwice 45 = .ok (.aload_n 0, 1) := by decide +kernel
theorem dX10_isNewTwice_46 : decode cX10_isNewTwice 46 = .ok (.getfield 84, 3) := by decide +kernel
theorem dX10_isNewTwice_49 : decode cX10_isNewTwice 49 = .ok (.iaload, 1) := by decide +kernel
theorem dX10_isNewTwice_50 : decode cX10_isNewTwice 50 = .ok (.if_icmp .ge 49, 3) := by decide +kernel
theorem dX10_isNewTwice_53 : decode cX10_isNewTwice 53 = .ok (.iload_n 3, 1) := by decide +kernel
theorem dX10_isNewTwice_54 : decode cX10_isNewTwice 54 = .ok (.ifCond .eq 37, 3) := by decide +kernel
theorem dX10_isNewTwice_57 : decode cX10_isNewTwice 57 = .ok (.aload_n 0, 1) := by decide +kernel
theorem dX10_isNewTwice_58 : decode cX10_isNewTwice 58 = .ok (.getfield 37, 3) := by decide +kernel
theorem dX10_isNewTwice_61 : decode cX10_isNewTwice 61 = .ok (.bipush 8, 2) := by decide +kernel
theorem dX10_isNewTwice_63 : decode cX10_isNewTwice 63 = .ok (.iload_n 2, 1) := by decide +kernel
theorem dX10_isNewTwice_64 : decode cX10_isNewTwice 64 = .ok (.imul, 1) := by decide +kernel
theorem dX10_isNewTwice_65 : decode cX10_isNewTwice 65 = .ok (.iload 4, 2) := by decide +kernel
theorem dX10_isNewTwice_67 : decode cX10_isNewTwice 67 = .ok (.iadd, 1) := by decide +kernel
theorem dX10_isNewTwice_68 : decode cX10_isNewTwice 68 = .ok (.iaload, 1) := by decide +kernel
theorem dX10_isNewTwice_69 : decode cX10_isNewTwice 69 = .ok (.aload_n 0, 1) := by decide +kernel
theorem dX10_isNewTwice_70 : decode cX10_isNewTwice 70 = .ok (.getfield 37, 3) := by decide +kernel
theorem dX10_isNewTwice_73 : decode cX10_isNewTwice 73 = .ok (.bipush 8, 2) := by decide +kernel
theorem dX10_isNewTwice_75 : decode cX10_isNewTwice 75 = .ok (.aload_n 0, 1) := by decide +kernel
theorem dX10_isNewTwice_76 : decode cX10_isNewTwice 76 = .ok (.getfield 84, 3) := by decide +kernel
theorem dX10_isNewTwice_79 : decode cX10_isNewTwice 79 = .ok (.imul, 1) := by decide +kernel
theorem dX10_isNewTwice_80 : decode cX10_isNewTwice 80 = .ok (.iload 4, 2) := by decide +kernel
theorem dX10_isNewTwice_82 : decode cX10_isNewTwice 82 = .ok (.iadd, 1) := by decide +kernel
theorem dX10_isNewTwice_83 : decode cX10_isNewTwice 83 = .ok (.iaload, 1) := by decide +kernel
theorem dX10_isNewTwice_84 : decode cX10_isNewTwice 84 = .ok (.if_icmp .ne 7, 3) := by decide +kernel
theorem dX10_isNewTwice_87 : decode cX10_isNewTwice 87 = .ok (.iconst 1, 1) := by decide +kernel
theorem dX10_isNewTwice_88 : decode cX10_isNewTwice 88 = .ok (.goto 4, 3) := by decide +kernel
theorem dX10_isNewTwice_91 : decode cX10_isNewTwice 91 = .ok (.iconst 0, 1) := by decide +kernel
theorem dX10_isNewTwice_92 : decode cX10_isNewTwice 92 = .ok (.istore_n 3, 1) := by decide +kernel
theorem dX10_isNewTwice_93 : decode cX10_isNewTwice 93 = .ok (.iinc 4 1, 3) := by decide +kernel
theorem dX10_isNewTwice_96 : decode cX10_isNewTwice 96 = .ok (.goto (-57), 3) := by decide +kernel
theorem dX10_isNewTwice_99 : decode cX10_isNewTwice 99 = .ok (.iload_n 1, 1) := by decide +kernel
theorem dX10_isNewTwice_100 : decode cX10_isNewTwice 100 = .ok (.ifCond .ne 7, 3) := by decide +kernel
theorem dX10_isNewTwice_103 : decode cX10_isNewTwice 103 = .ok (.iload_n 3, 1) := by decide +kernel
theorem dX10_isNewTwice_104 : decode cX10_isNewTwice 104 = .ok (.ifCond .eq 7, 3) := by decide +kernel
theorem dX10_isNewTwice_107 : decode cX10_isNewTwice 107 = .ok (.iconst 1, 1) := by decide +kernel
theorem dX10_isNewTwice_108 : decode cX10_isNewTwice 108 = .ok (.goto 4, 3) := by decide +kernel
theorem dX10_isNewTwice_111 : decode cX10_isNewTwice 111 = .ok (.iconst 0, 1) := by decide +kernel
theorem dX10_isNewTwice_112 : decode cX10_isNewTwice 112 = .ok (.istore_n 1, 1) := by decide +kernel
theorem dX10_isNewTwice_113 : decode cX10_isNewTwice 113 = .ok (.iinc 2 1, 3) := by decide +kernel
theorem dX10_isNewTwice_116 : decode cX10_isNewTwice 116 = .ok (.goto (-112), 3) := by decide +kernel
theorem dX10_isNewTwice_119 : decode cX10_isNewTwice 119 = .ok (.iload_n 1, 1) := by decide +kernel
theorem dX10_isNewTwice_120 : decode cX10_isNewTwice 120 = .ok (.ireturn, 1) := by decide +kernel
theorem dX10_takesName_0 : decode cX10_takesName 0 = .ok (.aload_n 0, 1) := by decide +kernel
theorem dX10_takesName_1 : decode cX10_takesName 1 = .ok (.getfield 81, 3) := by decide +kernel
theorem dX10_takesName_4 : decode cX10_takesName 4 = .ok (.ifCond .ne 13, 3) := by decide +kernel
theorem dX10_takesName_7 : decode cX10_takesName 7 = .ok (.aload_n 0, 1) := by decide +kernel
theorem dX10_takesName_8 : decode cX10_takesName 8 = .ok (.getfield 34, 3) := by decide +kernel
theorem dX10_takesName_11 : decode cX10_takesName 11 = .ok (.aload_n 0, 1) := by decide +kernel
theorem dX10_takesName_12 : decode cX10_takesName 12 = .ok (.getfield 84, 3) := by decide +kernel
theorem dX10_takesName_15 : decode cX10_takesName 15 = .ok (.iconst 0, 1) := by decide +kernel
theorem dX10_takesName_16 : decode cX10_takesName 16 = .ok (.iastore, 1) := by decide +kernel
theorem dX10_takesName_17 : decode cX10_takesName 17 = .ok (.iload_n 1, 1) := by decide +kernel
theorem dX10_takesName_18 : decode cX10_takesName 18 = .ok (.bipush 58, 2) := by decide +kernel
theorem dX10_takesName_20 : decode cX10_takesName 20 = .ok (.if_icmp .ne 29, 3) := by decide +kernel
theorem dX10_takesName_23 : decode cX10_takesName 23 = .ok (.aload_n 0, 1) := by decide +kernel
theorem dX10_takesName_24 : decode cX10_takesName 24 = .ok (.getfield 81, 3) := by decide +kernel
theorem dX10_takesName_27 : decode cX10_takesName 27 = .ok (.iconst 1, 1) := by decide +kernel
theorem dX10_takesName_28 : decode cX10_takesName 28 = .ok (.if_icmp .ne 21, 3) := by decide +kernel
theorem dX10_takesName_31 : decode cX10_takesName 31 = .ok (.aload_n 0, 1) := by decide +kernel
theorem dX10_takesName_32 : decode cX10_takesName 32 = .ok (.aload_n 0, 1) := by decide +kernel
theorem dX10_takesName_33 : decode cX10_takesName 33 = .ok (.invokevirtual 87, 3) := by decide +kernel
theorem dX10_takesName_36 : decode cX10_takesName 36 = .ok (.ifCond .ne 7, 3) := by decide +kernel
theorem dX10_takesName_39 : decode cX10_takesName 39 = .ok (.iconst 1, 1) := by decide +kernel
theorem dX10_takesName_40 : decode cX10_takesName 40 = .ok (.goto 4, 3) := by decide +kernel
theorem dX10_takesName_43 : decode cX10_takesName 43 = .ok (.iconst 0, 1) := by decide +kernel
theorem dX10_takesName_44 : decode cX10_takesName 44 = .ok (.iconst 2, 1) := by decide +kernel
theorem dX10_takesName_45 : decode cX10_takesName 45 = .ok (.invokevirtual 91, 3) := by decide +kernel
theorem dX10_takesName_48 : decode cX10_takesName 48 = .ok (.ireturn, 1) := by decide +kernel
theorem dX10_takesName_49 : decode cX10_takesName 49 = .ok (.iload_n 1, 1) := by decide +kernel
theorem dX10_takesName_50 : decode cX10_takesName 50 = .ok (.bipush 97, 2) := by decide +kernel
theorem dX10_takesName_52 : decode cX10_takesName 52 = .ok (.bipush 122, 2) := by decide +kernel
theorem dX10_takesName_54 : decode cX10_takesName 54 = .ok (.invokestatic 73, 3) := by decide +kernel
theorem dX10_takesName_57 : decode cX10_takesName 57 = .ok (.ifCond .eq 21, 3) := by decide +kernel
theorem dX10_takesName_60 : decode cX10_takesName 60 = .ok (.aload_n 0, 1) := by decide +kernel
theorem dX10_takesName_61 : decode cX10_takesName 61 = .ok (.getfield 34, 3) := by decide +kernel
theorem dX10_takesName_64 : decode cX10_takesName 64 = .ok (.aload_n 0, 1) := by decide +kernel
theorem dX10_takesName_65 : decode cX10_takesName 65 = .ok (.getfield 84, 3) := by decide +kernel
theorem dX10_takesName_68 : decode cX10_takesName 68 = .ok (.iaload, 1) := by decide +kernel
theorem dX10_takesName_69 : decode cX10_takesName 69 = .ok (.bipush 8, 2) := by decide +kernel
theorem dX10_takesName_71 : decode cX10_takesName 71 = .ok (.if_icmp .ge 7, 3) := by decide +kernel
theorem dX10_takesName_74 : decode cX10_takesName 74 = .ok (.iconst 1, 1) := by decide +kernel
theorem dX10_takesName_75 : decode cX10_takesName 75 = .ok (.goto 4, 3) := by decide +kernel
theorem dX10_takesName_78 : decode cX10_takesName 78 = .ok (.iconst 0, 1) := by decide +kernel
theorem dX10_takesName_79 : decode cX10_takesName 79 = .ok (.istore_n 2, 1) := by decide +kernel
theorem dX10_takesName_80 : decode cX10_takesName 80 = .ok (.iload_n 2, 1) := by decide +kernel
theorem dX10_takesName_81 : decode cX10_takesName 81 = .ok (.ifCond .eq 39, 3) := by decide +kernel
theorem dX10_takesName_84 : decode cX10_takesName 84 = .ok (.aload_n 0, 1) := by decide +kernel
theorem dX10_takesName_85 : decode cX10_takesName 85 = .ok (.getfield 37, 3) := by decide +kernel
theorem dX10_takesName_88 : decode cX10_takesName 88 = .ok (.bipush 8, 2) := by decide +kernel
theorem dX10_takesName_90 : decode cX10_takesName 90 = .ok (.aload_n 0, 1) := by decide +kernel
theorem dX10_takesName_91 : decode cX10_takesName 91 = .ok (.getfield 84, 3) := by decide +kernel
theorem dX10_takesName_94 : decode cX10_takesName 94 = .ok (.imul, 1) := by decide +kernel
theorem dX10_takesName_95 : decode cX10_takesName 95 = .ok (.aload_n 0, 1) := by decide +kernel
theorem dX10_takesName_96 : decode cX10_takesName 96 = .ok (.getfield 34, 3) := by decide +kernel
theorem dX10_takesName_99 : decode cX10_takesName 99 = .ok (.aload_n 0, 1) := by decide +kernel
theorem dX10_takesName_100 : decode cX10_takesName 100 = .ok (.getfield 84, 3) := by decide +kernel
theorem dX10_takesName_103 : decode cX10_takesName 103 = .ok (.iaload, 1) := by decide +kernel
theorem dX10_takesName_104 : decode cX10_takesName 104 = .ok (.iadd, 1) := by decide +kernel
theorem dX10_takesName_105 : decode cX10_takesName 105 = .ok (.iload_n 1, 1) := by decide +kernel
theorem dX10_takesName_106 : decode cX10_takesName 106 = .ok (.iastore, 1) := by decide +kernel
theorem dX10_takesName_107 : decode cX10_takesName 107 = .ok (.aload_n 0, 1) := by decide +kernel
theorem dX10_takesName_108 : decode cX10_takesName 108 = .ok (.getfield 34, 3) := by decide +kernel
theorem dX10_takesName_111 : decode cX10_takesName 111 = .ok (.aload_n 0, 1) := by decide +kernel
theorem dX10_takesName_112 : decode cX10_takesName 112 = .ok (.getfield 84, 3) := by decide +kernel
theorem dX10_takesName_115 : decode cX10_takesName 115 = .ok (.dup2, 1) := by decide +kernel
theorem dX10_takesName_116 : decode cX10_takesName 116 = .ok (.iaload, 1) := by decide +kernel
theorem dX10_takesName_117 : decode cX10_takesName 117 = .ok (.iconst 1, 1) := by decide +kernel
theorem dX10_takesName_118 : decode cX10_takesName 118 = .ok (.iadd, 1) := by decide +kernel
theorem dX10_takesName_119 : decode cX10_takesName 119 = .ok (.iastore, 1) := by decide +kernel
theorem dX10_takesName_120 : decode cX10_takesName 120 = .ok (.aload_n 0, 1) := by decide +kernel
theorem dX10_takesName_121 : decode cX10_takesName 121 = .ok (.iload_n 2, 1) := by decide +kernel
theorem dX10_takesName_122 : decode cX10_takesName 122 = .ok (.iconst 1, 1) := by decide +kernel
theorem dX10_takesName_123 : decode cX10_takesName 123 = .ok (.invokevirtual 91, 3) := by decide +kernel
theorem dX10_takesName_126 : decode cX10_takesName 126 = .ok (.ireturn, 1) := by decide +kernel
theorem dX10_takesUse_0 : decode cX10_takesUse 0 = .ok (.iload_n 1, 1) := by decide +kernel
theorem dX10_takesUse_1 : decode cX10_takesUse 1 = .ok (.bipush 48, 2) := by decide +kernel
theorem dX10_takesUse_3 : decode cX10_takesUse 3 = .ok (.isub, 1) := by decide +kernel
theorem dX10_takesUse_4 : decode cX10_takesUse 4 = .ok (.istore_n 2, 1) := by decide +kernel
theorem dX10_takesUse_5 : decode cX10_takesUse 5 = .ok (.aload_n 0, 1) := by decide +kernel
theorem dX10_takesUse_6 : decode cX10_takesUse 6 = .ok (.getfield 81, 3) := by decide +kernel
theorem dX10_takesUse_9 : decode cX10_takesUse 9 = .ok (.iconst 2, 1) := by decide +kernel
theorem dX10_takesUse_10 : decode cX10_takesUse 10 = .ok (.if_icmp .ne 50, 3) := by decide +kernel
theorem dX10_takesUse_13 : decode cX10_takesUse 13 = .ok (.aload_n 0, 1) := by decide +kernel
theorem dX10_takesUse_14 : decode cX10_takesUse 14 = .ok (.getfield 40, 3) := by decide +kernel
theorem dX10_takesUse_17 : decode cX10_takesUse 17 = .ok (.aload_n 0, 1) := by decide +kernel
theorem dX10_takesUse_18 : decode cX10_takesUse 18 = .ok (.getfield 84, 3) := by decide +kernel
theorem dX10_takesUse_21 : decode cX10_takesUse 21 = .ok (.iload_n 2, 1) := by decide +kernel
theorem dX10_takesUse_22 : decode cX10_takesUse 22 = .ok (.iastore, 1) := by decide +kernel
theorem dX10_takesUse_23 : decode cX10_takesUse 23 = .ok (.aload_n 0, 1) := by decide +kernel
theorem dX10_takesUse_24 : decode cX10_takesUse 24 = .ok (.dup, 1) := by decide +kernel
theorem dX10_takesUse_25 : decode cX10_takesUse 25 = .ok (.getfield 84, 3) := by decide +kernel
theorem dX10_takesUse_28 : decode cX10_takesUse 28 = .ok (.iload_n 2, 1) := by decide +kernel
theorem dX10_takesUse_29 : decode cX10_takesUse 29 = .ok (.iconst 1, 1) := by decide +kernel
theorem dX10_takesUse_30 : decode cX10_takesUse 30 = .ok (.bipush 9, 2) := by decide +kernel
theorem dX10_takesUse_32 : decode cX10_takesUse 32 = .ok (.invokestatic 73, 3) := by decide +kernel
theorem dX10_takesUse_35 : decode cX10_takesUse 35 = .ok (.ifCond .eq 7, 3) := by decide +kernel
theorem dX10_takesUse_38 : decode cX10_takesUse 38 = .ok (.iconst 1, 1) := by decide +kernel
theorem dX10_takesUse_39 : decode cX10_takesUse 39 = .ok (.goto 4, 3) := by decide +kernel
theorem dX10_takesUse_42 : decode cX10_takesUse 42 = .ok (.iconst 0, 1) := by decide +kernel
theorem dX10_takesUse_43 : decode cX10_takesUse 43 = .ok (.iadd, 1) := by decide +kernel
theorem dX10_takesUse_44 : decode cX10_takesUse 44 = .ok (.putfield 84, 3) := by decide +kernel
theorem dX10_takesUse_47 : decode cX10_takesUse 47 = .ok (.aload_n 0, 1) := by decide +kernel
theorem dX10_takesUse_48 : decode cX10_takesUse 48 = .ok (.iload_n 2, 1) := by decide +kernel
theorem dX10_takesUse_49 : decode cX10_takesUse 49 = .ok (.iconst 1, 1) := by decide +kernel
theorem dX10_takesUse_50 : decode cX10_takesUse 50 = .ok (.bipush 9, 2) := by decide +kernel
theorem dX10_takesUse_52 : decode cX10_takesUse 52 = .ok (.invokestatic 73, 3) := by decide +kernel
theorem dX10_takesUse_55 : decode cX10_takesUse 55 = .ok (.iconst 3, 1) := by decide +kernel
theorem dX10_takesUse_56 : decode cX10_takesUse 56 = .ok (.invokevirtual 91, 3) := by decide +kernel
theorem dX10_takesUse_59 : decode cX10_takesUse 59 = .ok (.ireturn, 1) := by decide +kernel
theorem dX10_takesUse_60 : decode cX10_takesUse 60 = .ok (.iload_n 1, 1) := by decide +kernel
theorem dX10_takesUse_61 : decode cX10_takesUse 61 = .ok (.bipush 59, 2) := by decide +kernel
theorem dX10_takesUse_63 : decode cX10_takesUse 63 = .ok (.if_icmp .ne 23, 3) := by decide +kernel
theorem dX10_takesUse_66 : decode cX10_takesUse 66 = .ok (.aload_n 0, 1) := by decide +kernel
theorem dX10_takesUse_67 : decode cX10_takesUse 67 = .ok (.aload_n 0, 1) := by decide +kernel
theorem dX10_takesUse_68 : decode cX10_takesUse 68 = .ok (.getfield 84, 3) := by decide +kernel
theorem dX10_takesUse_71 : decode cX10_takesUse 71 = .ok (.bipush 14, 2) := by decide +kernel
theorem dX10_takesUse_73 : decode cX10_takesUse 73 = .ok (.if_icmp .ge 7, 3) := by decide +kernel
theorem dX10_takesUse_76 : decode cX10_takesUse 76 = .ok (.iconst 1, 1) := by decide +kernel
theorem dX10_takesUse_77 : decode cX10_takesUse 77 = .ok (.goto 4, 3) := by decide +kernel
theorem dX10_takesUse_80 : decode cX10_takesUse 80 = .ok (.iconst 0, 1) := by decide +kernel
theorem dX10_takesUse_81 : decode cX10_takesUse 81 = .ok (.iconst 0, 1) := by decide +kernel
theorem dX10_takesUse_82 : decode cX10_takesUse 82 = .ok (.invokevirtual 91, 3) := by decide +kernel
theorem dX10_takesUse_85 : decode cX10_takesUse 85 = .ok (.ireturn, 1) := by decide +kernel
theorem dX10_takesUse_86 : decode cX10_takesUse 86 = .ok (.aload_n 0, 1) := by decide +kernel
theorem dX10_takesUse_87 : decode cX10_takesUse 87 = .ok (.getfield 81, 3) := by decide +kernel
theorem dX10_takesUse_90 : decode cX10_takesUse 90 = .ok (.iconst 3, 1) := by decide +kernel
theorem dX10_takesUse_91 : decode cX10_takesUse 91 = .ok (.if_icmp .ne 17, 3) := by decide +kernel
theorem dX10_takesUse_94 : decode cX10_takesUse 94 = .ok (.iload_n 2, 1) := by decide +kernel
theorem dX10_takesUse_95 : decode cX10_takesUse 95 = .ok (.iconst 0, 1) := by decide +kernel
theorem dX10_takesUse_96 : decode cX10_takesUse 96 = .ok (.bipush 9, 2) := by decide +kernel
theorem dX10_takesUse_98 : decode cX10_takesUse 98 = .ok (.invokestatic 73, 3) := by decide +kernel
theorem dX10_takesUse_101 : decode cX10_takesUse 101 = .ok (.ifCond .eq 7, 3) := by decide +kernel
theorem dX10_takesUse_104 : decode cX10_takesUse 104 = .ok (.iconst 1, 1) := by decide +kernel
theorem dX10_takesUse_105 : decode cX10_takesUse 105 = .ok (.goto 4, 3) := by decide +kernel
theorem dX10_takesUse_108 : decode cX10_takesUse 108 = .ok (.iconst 0, 1) := by decide +kernel
theorem dX10_takesUse_109 : decode cX10_takesUse 109 = .ok (.istore_n 3, 1) := by decide +kernel
theorem dX10_takesUse_110 : decode cX10_takesUse 110 = .ok (.iload_n 3, 1) := by decide +kernel
theorem dX10_takesUse_111 : decode cX10_takesUse 111 = .ok (.ifCond .eq 30, 3) := by decide +kernel
theorem dX10_takesUse_114 : decode cX10_takesUse 114 = .ok (.aload_n 0, 1) := by decide +kernel
theorem dX10_takesUse_115 : decode cX10_takesUse 115 = .ok (.getfield 40, 3) := by decide +kernel
theorem dX10_takesUse_118 : decode cX10_takesUse 118 = .ok (.aload_n 0, 1) := by decide +kernel
theorem dX10_takesUse_119 : decode cX10_takesUse 119 = .ok (.getfield 84, 3) := by decide +kernel
theorem dX10_takesUse_122 : decode cX10_takesUse 122 = .ok (.iconst 1, 1) := by decide +kernel
theorem dX10_takesUse_123 : decode cX10_takesUse 123 = .ok (.isub, 1) := by decide +kernel
theorem dX10_takesUse_124 : decode cX10_takesUse 124 = .ok (.bipush 10, 2) := by decide +kernel
theorem dX10_takesUse_126 : decode cX10_takesUse 126 = .ok (.aload_n 0, 1) := by decide +kernel
theorem dX10_takesUse_127 : decode cX10_takesUse 127 = .ok (.getfield 40, 3) := by decide +kernel
theorem dX10_takesUse_130 : decode cX10_takesUse 130 = .ok (.aload_n 0, 1) := by decide +kernel
theorem dX10_takesUse_131 : decode cX10_takesUse 131 = .ok (.getfield 84, 3) := by decide +kernel
theorem dX10_takesUse_134 : decode cX10_takesUse 134 = .ok (.iconst 1, 1) := by decide +kernel
theorem dX10_takesUse_135 : decode cX10_takesUse 135 = .ok (.isub, 1) := by decide +kernel
theorem dX10_takesUse_136 : decode cX10_takesUse 136 = .ok (.iaload, 1) := by decide +kernel
theorem dX10_takesUse_137 : decode cX10_takesUse 137 = .ok (.imul, 1) := by decide +kernel
theorem dX10_takesUse_138 : decode cX10_takesUse 138 = .ok (.iload_n 2, 1) := by decide +kernel
theorem dX10_takesUse_139 : decode cX10_takesUse 139 = .ok (.iadd, 1) := by decide +kernel
theorem dX10_takesUse_140 : decode cX10_takesUse 140 = .ok (.iastore, 1) := by decide +kernel
theorem dX10_takesUse_141 : decode cX10_takesUse 141 = .ok (.aload_n 0, 1) := by decide +kernel
theorem dX10_takesUse_142 : decode cX10_takesUse 142 = .ok (.iload_n 3, 1) := by decide +kernel
theorem dX10_takesUse_143 : decode cX10_takesUse 143 = .ok (.iconst 4, 1) := by decide +kernel
theorem dX10_takesUse_144 : decode cX10_takesUse 144 = .ok (.invokevirtual 91, 3) := by decide +kernel
theorem dX10_takesUse_147 : decode cX10_takesUse 147 = .ok (.ireturn, 1) := by decide +kernel
theorem dX10_takes_0 : decode cX10_takes 0 = .ok (.aload_n 0, 1) := by decide +kernel
theorem dX10_takes_1 : decode cX10_takes 1 = .ok (.getfield 81, 3) := by decide +kernel
theorem dX10_takes_4 : decode cX10_takes 4 = .ok (.iconst 2, 1) := by decide +kernel
theorem dX10_takes_5 : decode cX10_takes 5 = .ok (.if_icmp .ge 11, 3) := by decide +kernel
theorem dX10_takes_8 : decode cX10_takes 8 = .ok (.aload_n 0, 1) := by decide +kernel
theorem dX10_takes_9 : decode cX10_takes 9 = .ok (.iload_n 1, 1) := by decide +kernel
theorem dX10_takes_10 : decode cX10_takes 10 = .ok (.invokevirtual 95, 3) := by decide +kernel
theorem dX10_takes_13 : decode cX10_takes 13 = .ok (.goto 8, 3) := by decide +kernel
theorem dX10_takes_16 : decode cX10_takes 16 = .ok (.aload_n 0, 1) := by decide +kernel
theorem dX10_takes_17 : decode cX10_takes 17 = .ok (.iload_n 1, 1) := by decide +kernel
theorem dX10_takes_18 : decode cX10_takes 18 = .ok (.invokevirtual 99, 3) := by decide +kernel
theorem dX10_takes_21 : decode cX10_takes 21 = .ok (.ireturn, 1) := by decide +kernel
theorem dX10_read_0 : decode cX10_read 0 = .ok (.aload_n 0, 1) := by decide +kernel
theorem dX10_read_1 : decode cX10_read 1 = .ok (.iconst 0, 1) := by decide +kernel
theorem dX10_read_2 : decode cX10_read 2 = .ok (.putfield 81, 3) := by decide +kernel
theorem dX10_read_5 : decode cX10_read 5 = .ok (.aload_n 0, 1) := by decide +kernel
theorem dX10_read_6 : decode cX10_read 6 = .ok (.iconst 0, 1) := by decide +kernel
theorem dX10_read_7 : decode cX10_read 7 = .ok (.putfield 84, 3) := by decide +kernel
theorem dX10_read_10 : decode cX10_read 10 = .ok (.iconst 0, 1) := by decide +kernel
theorem dX10_read_11 : decode cX10_read 11 = .ok (.istore_n 1, 1) := by decide +kernel
theorem dX10_read_12 : decode cX10_read 12 = .ok (.iload_n 1, 1) := by decide +kernel
theorem dX10_read_13 : decode cX10_read 13 = .ok (.aload_n 0, 1) := by decide +kernel
theorem dX10_read_14 : decode cX10_read 14 = .ok (.getfield 77, 3) := by decide +kernel
theorem dX10_read_17 : decode cX10_read 17 = .ok (.if_icmp .ge 22, 3) := by decide +kernel
theorem dX10_read_20 : decode cX10_read 20 = .ok (.aload_n 0, 1) := by decide +kernel
theorem dX10_read_21 : decode cX10_read 21 = .ok (.aload_n 0, 1) := by decide +kernel
theorem dX10_read_22 : decode cX10_read 22 = .ok (.getfield 7, 3) := by decide +kernel
theorem dX10_read_25 : decode cX10_read 25 = .ok (.iload_n 1, 1) := by decide +kernel
theorem dX10_read_26 : decode cX10_read 26 = .ok (.iaload, 1) := by decide +kernel
theorem dX10_read_27 : decode cX10_read 27 = .ok (.invokevirtual 102, 3) := by decide +kernel
theorem dX10_read_30 : decode cX10_read 30 = .ok (.ifCond .eq 9, 3) := by decide +kernel
theorem dX10_read_33 : decode cX10_read 33 = .ok (.iinc 1 1, 3) := by decide +kernel
theorem dX10_read_36 : decode cX10_read 36 = .ok (.goto (-24), 3) := by decide +kernel
theorem dX10_read_39 : decode cX10_read 39 = .ok (.iload_n 1, 1) := by decide +kernel
theorem dX10_read_40 : decode cX10_read 40 = .ok (.ireturn, 1) := by decide +kernel
theorem dX10_fault_0 : decode cX10_fault 0 = .ok (.aload_n 0, 1) := by decide +kernel
theorem dX10_fault_1 : decode cX10_fault 1 = .ok (.invokevirtual 105, 3) := by decide +kernel
theorem dX10_fault_4 : decode cX10_fault 4 = .ok (.ireturn, 1) := by decide +kernel
theorem dX10_compareNew_0 : decode cX10_compareNew 0 = .ok (.iconst 0, 1) := by decide +kernel
theorem dX10_compareNew_1 : decode cX10_compareNew 1 = .ok (.istore_n 3, 1) := by decide +kernel
theorem dX10_compareNew_2 : decode cX10_compareNew 2 = .ok (.iload_n 3, 1) := by decide +kernel
theorem dX10_compareNew_3 : decode cX10_compareNew 3 = .ok (.bipush 8, 2) := by decide +kernel
theorem dX10_compareNew_5 : decode cX10_compareNew 5 = .ok (.if_icmp .ge 83, 3) := by decide +kernel
theorem dX10_compareNew_8 : decode cX10_compareNew 8 = .ok (.iload_n 3, 1) := by decide +kernel
theorem dX10_compareNew_9 : decode cX10_compareNew 9 = .ok (.aload_n 0, 1) := by decide +kernel
theorem dX10_compareNew_10 : decode cX10_compareNew 10 = .ok (.getfield 13, 3) := by decide +kernel
theorem dX10_compareNew_13 : decode cX10_compareNew 13 = .ok (.iload_n 1, 1) := by decide +kernel
theorem dX10_compareNew_14 : decode cX10_compareNew 14 = .ok (.iaload, 1) := by decide +kernel
theorem dX10_compareNew_15 : decode cX10_compareNew 15 = .ok (.if_icmp .ge 17, 3) := by decide +kernel
theorem dX10_compareNew_18 : decode cX10_compareNew 18 = .ok (.aload_n 0, 1) := by decide +kernel
theorem dX10_compareNew_19 : decode cX10_compareNew 19 = .ok (.getfield 16, 3) := by decide +kernel
theorem dX10_compareNew_22 : decode cX10_compareNew 22 = .ok (.bipush 8, 2) := by decide +kernel
theorem dX10_compareNew_24 : decode cX10_compareNew 24 = .ok (.iload_n 1, 1) := by decide +kernel
theorem dX10_compareNew_25 : decode cX10_compareNew 25 = .ok (.imul, 1) := by decide +kernel
theorem dX10_compareNew_26 : decode cX10_compareNew 26 = .ok (.iload_n 3, 1) := by decide +kernel
theorem dX10_compareNew_27 : decode cX10_compareNew 27 = .ok (.iadd, 1) := by decide +kernel
theorem dX10_compareNew_28 : decode cX10_compareNew 28 = .ok (.iaload, 1) := by decide +kernel
theorem dX10_compareNew_29 : decode cX10_compareNew 29 = .ok (.goto 4, 3) := by decide +kernel
theorem dX10_compareNew_32 : decode cX10_compareNew 32 = .ok (.iconst 0, 1) := by decide +kernel
theorem dX10_compareNew_33 : decode cX10_compareNew 33 = .ok (.istore 4, 2) := by decide +kernel
theorem dX10_compareNew_35 : decode cX10_compareNew 35 = .ok (.iload_n 3, 1) := by decide +kernel
theorem dX10_compareNew_36 : decode cX10_compareNew 36 = .ok (.aload_n 0, 1) := by decide +kernel
theorem dX10_compareNew_37 : decode cX10_compareNew 37 = .ok (.getfield 34, 3) := by decide +kernel
theorem dX10_compareNew_40 : decode cX10_compareNew 40 = .ok (.iload_n 2, 1) := by decide +kernel
theorem dX10_compareNew_41 : decode cX10_compareNew 41 = .ok (.iaload, 1) := by decide +kernel
theorem dX10_compareNew_42 : decode cX10_compareNew 42 = .ok (.if_icmp .ge 17, 3) := by decide +kernel
theorem dX10_compareNew_45 : decode cX10_compareNew 45 = .ok (.aload_n 0, 1) := by decide +kernel
theorem dX10_compareNew_46 : decode cX10_compareNew 46 = .ok (.getfield 37, 3) := by decide +kernel
theorem dX10_compareNew_49 : decode cX10_compareNew 49 = .ok (.bipush 8, 2) := by decide +kernel
theorem dX10_compareNew_51 : decode cX10_compareNew 51 = .ok (.iload_n 2, 1) := by decide +kernel
theorem dX10_compareNew_52 : decode cX10_compareNew 52 = .ok (.imul, 1) := by decide +kernel
theorem dX10_compareNew_53 : decode cX10_compareNew 53 = .ok (.iload_n 3, 1) := by decide +kernel
theorem dX10_compareNew_54 : decode cX10_compareNew 54 = .ok (.iadd, 1) := by decide +kernel
theorem dX10_compareNew_55 : decode cX10_compareNew 55 = .ok (.iaload, 1) := by decide +kernel
theorem dX10_compareNew_56 : decode cX10_compareNew 56 = .ok (.goto 4, 3) := by decide +kernel
theorem dX10_compareNew_59 : decode cX10_compareNew 59 = .ok (.iconst 0, 1) := by decide +kernel
theorem dX10_compareNew_60 : decode cX10_compareNew 60 = .ok (.istore 5, 2) := by decide +kernel
theorem dX10_compareNew_62 : decode cX10_compareNew 62 = .ok (.iload 4, 2) := by decide +kernel
theorem dX10_compareNew_64 : decode cX10_compareNew 64 = .ok (.iload 5, 2) := by decide +kernel
theorem dX10_compareNew_66 : decode cX10_compareNew 66 = .ok (.if_icmp .eq 16, 3) := by decide +kernel
theorem dX10_compareNew_69 : decode cX10_compareNew 69 = .ok (.iload 4, 2) := by decide +kernel
theorem dX10_compareNew_71 : decode cX10_compareNew 71 = .ok (.iload 5, 2) := by decide +kernel
theorem dX10_compareNew_73 : decode cX10_compareNew 73 = .ok (.if_icmp .ge 7, 3) := by decide +kernel
theorem dX10_compareNew_76 : decode cX10_compareNew 76 = .ok (.iconst (-1), 1) := by decide +kernel
theorem dX10_compareNew_77 : decode cX10_compareNew 77 = .ok (.goto 4, 3) := by decide +kernel
theorem dX10_compareNew_80 : decode cX10_compareNew 80 = .ok (.iconst 1, 1) := by decide +kernel
theorem dX10_compareNew_81 : decode cX10_compareNew 81 = .ok (.ireturn, 1) := by decide +kernel
theorem dX10_compareNew_82 : decode cX10_compareNew 82 = .ok (.iinc 3 1, 3) := by decide +kernel
theorem dX10_compareNew_85 : decode cX10_compareNew 85 = .ok (.goto (-83), 3) := by decide +kernel
theorem dX10_compareNew_88 : decode cX10_compareNew 88 = .ok (.iconst 0, 1) := by decide +kernel
theorem dX10_compareNew_89 : decode cX10_compareNew 89 = .ok (.ireturn, 1) := by decide +kernel
theorem dX10_isThere_0 : decode cX10_isThere 0 = .ok (.iconst 0, 1) := by decide +kernel
theorem dX10_isThere_1 : decode cX10_isThere 1 = .ok (.istore_n 2, 1) := by decide +kernel
theorem dX10_isThere_2 : decode cX10_isThere 2 = .ok (.iconst 0, 1) := by decide +kernel
theorem dX10_isThere_3 : decode cX10_isThere 3 = .ok (.istore_n 3, 1) := by decide +kernel
theorem dX10_isThere_4 : decode cX10_isThere 4 = .ok (.iload_n 3, 1) := by decide +kernel
theorem dX10_isThere_5 : decode cX10_isThere 5 = .ok (.aload_n 0, 1) := by decide +kernel
theorem dX10_isThere_6 : decode cX10_isThere 6 = .ok (.getfield 109, 3) := by decide +kernel
theorem dX10_isThere_9 : decode cX10_isThere 9 = .ok (.if_icmp .ge 28, 3) := by decide +kernel
theorem dX10_isThere_12 : decode cX10_isThere 12 = .ok (.iload_n 2, 1) := by decide +kernel
theorem dX10_isThere_13 : decode cX10_isThere 13 = .ok (.ifCond .ne 12, 3) := by decide +kernel
theorem dX10_isThere_16 : decode cX10_isThere 16 = .ok (.aload_n 0, 1) := by decide +kernel
theorem dX10_isThere_17 : decode cX10_isThere 17 = .ok (.iload_n 3, 1) := by decide +kernel
theorem dX10_isThere_18 : decode cX10_isThere 18 = .ok (.iload_n 1, 1) := by decide +kernel
theorem dX10_isThere_19 : decode cX10_isThere 19 = .ok (.invokevirtual 112, 3) := by decide +kernel
theorem dX10_isThere_22 : decode cX10_isThere 22 = .ok (.ifCond .ne 7, 3) := by decide +kernel
theorem dX10_isThere_25 : decode cX10_isThere 25 = .ok (.iconst 1, 1) := by decide +kernel
theorem dX10_isThere_26 : decode cX10_isThere 26 = .ok (.goto 4, 3) := by decide +kernel
theorem dX10_isThere_29 : decode cX10_isThere 29 = .ok (.iconst 0, 1) := by decide +kernel
theorem dX10_isThere_30 : decode cX10_isThere 30 = .ok (.istore_n 2, 1) := by decide +kernel
theorem dX10_isThere_31 : decode cX10_isThere 31 = .ok (.iinc 3 1, 3) := by decide +kernel
theorem dX10_isThere_34 : decode cX10_isThere 34 = .ok (.goto (-30), 3) := by decide +kernel
theorem dX10_isThere_37 : decode cX10_isThere 37 = .ok (.iload_n 2, 1) := by decide +kernel
theorem dX10_isThere_38 : decode cX10_isThere 38 = .ok (.ireturn, 1) := by decide +kernel
theorem dX10_moveName_0 : decode cX10_moveName 0 = .ok (.aload_n 0, 1) := by decide +kernel
theorem dX10_moveName_1 : decode cX10_moveName 1 = .ok (.getfield 13, 3) := by decide +kernel
theorem dX10_moveName_4 : decode cX10_moveName 4 = .ok (.iload_n 2, 1) := by decide +kernel
theorem dX10_moveName_5 : decode cX10_moveName 5 = .ok (.aload_n 0, 1) := by decide +kernel
theorem dX10_moveName_6 : decode cX10_moveName 6 = .ok (.getfield 13, 3) := by decide +kernel
theorem dX10_moveName_9 : decode cX10_moveName 9 = .ok (.iload_n 1, 1) := by decide +kernel
theorem dX10_moveName_10 : decode cX10_moveName 10 = .ok (.iaload, 1) := by decide +kernel
theorem dX10_moveName_11 : decode cX10_moveName 11 = .ok (.iastore, 1) := by decide +kernel
theorem dX10_moveName_12 : decode cX10_moveName 12 = .ok (.aload_n 0, 1) := by decide +kernel
theorem dX10_moveName_13 : decode cX10_moveName 13 = .ok (.getfield 19, 3) := by decide +kernel
theorem dX10_moveName_16 : decode cX10_moveName 16 = .ok (.iload_n 2, 1) := by decide +kernel
theorem dX10_moveName_17 : decode cX10_moveName 17 = .ok (.aload_n 0, 1) := by decide +kernel
theorem dX10_moveName_18 : decode cX10_moveName 18 = .ok (.getfield 19, 3) := by decide +kernel
theorem dX10_moveName_21 : decode cX10_moveName 21 = .ok (.iload_n 1, 1) := by decide +kernel
theorem dX10_moveName_22 : decode cX10_moveName 22 = .ok (.iaload, 1) := by decide +kernel
theorem dX10_moveName_23 : decode cX10_moveName 23 = .ok (.iastore, 1) := by decide +kernel
theorem dX10_moveName_24 : decode cX10_moveName 24 = .ok (.iconst 0, 1) := by decide +kernel
theorem dX10_moveName_25 : decode cX10_moveName 25 = .ok (.istore_n 3, 1) := by decide +kernel
theorem dX10_moveName_26 : decode cX10_moveName 26 = .ok (.iload_n 3, 1) := by decide +kernel
theorem dX10_moveName_27 : decode cX10_moveName 27 = .ok (.bipush 8, 2) := by decide +kernel
theorem dX10_moveName_29 : decode cX10_moveName 29 = .ok (.if_icmp .ge 31, 3) := by decide +kernel
theorem dX10_moveName_32 : decode cX10_moveName 32 = .ok (.aload_n 0, 1) := by decide +kernel
theorem dX10_moveName_33 : decode cX10_moveName 33 = .ok (.getfield 16, 3) := by decide +kernel
theorem dX10_moveName_36 : decode cX10_moveName 36 = .ok (.bipush 8, 2) := by decide +kernel
theorem dX10_moveName_38 : decode cX10_moveName 38 = .ok (.iload_n 2, 1) := by decide +kernel
theorem dX10_moveName_39 : decode cX10_moveName 39 = .ok (.imul, 1) := by decide +kernel
theorem dX10_moveName_40 : decode cX10_moveName 40 = .ok (.iload_n 3, 1) := by decide +kernel
theorem dX10_moveName_41 : decode cX10_moveName 41 = .ok (.iadd, 1) := by decide +kernel
theorem dX10_moveName_42 : decode cX10_moveName 42 = .ok (.aload_n 0, 1) := by decide +kernel
theorem dX10_moveName_43 : decode cX10_moveName 43 = .ok (.getfield 16, 3) := by decide +kernel
theorem dX10_moveName_46 : decode cX10_moveName 46 = .ok (.bipush 8, 2) := by decide +kernel
theorem dX10_moveName_48 : decode cX10_moveName 48 = .ok (.iload_n 1, 1) := by decide +kernel
theorem dX10_moveName_49 : decode cX10_moveName 49 = .ok (.imul, 1) := by decide +kernel
theorem dX10_moveName_50 : decode cX10_moveName 50 = .ok (.iload_n 3, 1) := by decide +kernel
theorem dX10_moveName_51 : decode cX10_moveName 51 = .ok (.iadd, 1) := by decide +kernel
theorem dX10_moveName_52 : decode cX10_moveName 52 = .ok (.iaload, 1) := by decide +kernel
theorem dX10_moveName_53 : decode cX10_moveName 53 = .ok (.iastore, 1) := by decide +kernel
theorem dX10_moveName_54 : decode cX10_moveName 54 = .ok (.iinc 3 1, 3) := by decide +kernel
theorem dX10_moveName_57 : decode cX10_moveName 57 = .ok (.goto (-31), 3) := by decide +kernel
theorem dX10_moveName_60 : decode cX10_moveName 60 = .ok (.return_, 1) := by decide +kernel
theorem dX10_comes_0 : decode cX10_comes 0 = .ok (.aload_n 0, 1) := by decide +kernel
theorem dX10_comes_1 : decode cX10_comes 1 = .ok (.getfield 109, 3) := by decide +kernel
theorem dX10_comes_4 : decode cX10_comes 4 = .ok (.istore_n 2, 1) := by decide +kernel
theorem dX10_comes_5 : decode cX10_comes 5 = .ok (.iload_n 2, 1) := by decide +kernel
theorem dX10_comes_6 : decode cX10_comes 6 = .ok (.ifCond .le 28, 3) := by decide +kernel
theorem dX10_comes_9 : decode cX10_comes 9 = .ok (.aload_n 0, 1) := by decide +kernel
theorem dX10_comes_10 : decode cX10_comes 10 = .ok (.iload_n 2, 1) := by decide +kernel
theorem dX10_comes_11 : decode cX10_comes 11 = .ok (.iconst 1, 1) := by decide +kernel
theorem dX10_comes_12 : decode cX10_comes 12 = .ok (.isub, 1) := by decide +kernel
theorem dX10_comes_13 : decode cX10_comes 13 = .ok (.iload_n 1, 1) := by decide +kernel
theorem dX10_comes_14 : decode cX10_comes 14 = .ok (.invokevirtual 112, 3) := by decide +kernel
theorem dX10_comes_17 : decode cX10_comes 17 = .ok (.ifCond .le 17, 3) := by decide +kernel
theorem dX10_comes_20 : decode cX10_comes 20 = .ok (.aload_n 0, 1) := by decide +kernel
theorem dX10_comes_21 : decode cX10_comes 21 = .ok (.iload_n 2, 1) := by decide +kernel
theorem dX10_comes_22 : decode cX10_comes 22 = .ok (.iconst 1, 1) := by decide +kernel
theorem dX10_comes_23 : decode cX10_comes 23 = .ok (.isub, 1) := by decide +kernel
theorem dX10_comes_24 : decode cX10_comes 24 = .ok (.iload_n 2, 1) := by decide +kernel
theorem dX10_comes_25 : decode cX10_comes 25 = .ok (.invokevirtual 116, 3) := by decide +kernel
theorem dX10_comes_28 : decode cX10_comes 28 = .ok (.iinc 2 (-1), 3) := by decide +kernel
theorem dX10_comes_31 : decode cX10_comes 31 = .ok (.goto (-26), 3) := by decide +kernel
theorem dX10_comes_34 : decode cX10_comes 34 = .ok (.aload_n 0, 1) := by decide +kernel
theorem dX10_comes_35 : decode cX10_comes 35 = .ok (.getfield 13, 3) := by decide +kernel
theorem dX10_comes_38 : decode cX10_comes 38 = .ok (.iload_n 2, 1) := by decide +kernel
theorem dX10_comes_39 : decode cX10_comes 39 = .ok (.aload_n 0, 1) := by decide +kernel
theorem dX10_comes_40 : decode cX10_comes 40 = .ok (.getfield 34, 3) := by decide +kernel
theorem dX10_comes_43 : decode cX10_comes 43 = .ok (.iload_n 1, 1) := by decide +kernel
theorem dX10_comes_44 : decode cX10_comes 44 = .ok (.iaload, 1) := by decide +kernel
theorem dX10_comes_45 : decode cX10_comes 45 = .ok (.iastore, 1) := by decide +kernel
theorem dX10_comes_46 : decode cX10_comes 46 = .ok (.aload_n 0, 1) := by decide +kernel
theorem dX10_comes_47 : decode cX10_comes 47 = .ok (.getfield 19, 3) := by decide +kernel
theorem dX10_comes_50 : decode cX10_comes 50 = .ok (.iload_n 2, 1) := by decide +kernel
theorem dX10_comes_51 : decode cX10_comes 51 = .ok (.aload_n 0, 1) := by decide +kernel
theorem dX10_comes_52 : decode cX10_comes 52 = .ok (.getfield 40, 3) := by decide +kernel
theorem dX10_comes_55 : decode cX10_comes 55 = .ok (.iload_n 1, 1) := by decide +kernel
theorem dX10_comes_56 : decode cX10_comes 56 = .ok (.iaload, 1) := by decide +kernel
theorem dX10_comes_57 : decode cX10_comes 57 = .ok (.iastore, 1) := by decide +kernel
theorem dX10_comes_58 : decode cX10_comes 58 = .ok (.iconst 0, 1) := by decide +kernel
theorem dX10_comes_59 : decode cX10_comes 59 = .ok (.istore_n 3, 1) := by decide +kernel
theorem dX10_comes_60 : decode cX10_comes 60 = .ok (.iload_n 3, 1) := by decide +kernel
theorem dX10_comes_61 : decode cX10_comes 61 = .ok (.bipush 8, 2) := by decide +kernel
theorem dX10_comes_63 : decode cX10_comes 63 = .ok (.if_icmp .ge 31, 3) := by decide +kernel
theorem dX10_comes_66 : decode cX10_comes 66 = .ok (.aload_n 0, 1) := by decide +kernel
theorem dX10_comes_67 : decode cX10_comes 67 = .ok (.getfield 16, 3) := by decide +kernel
theorem dX10_comes_70 : decode cX10_comes 70 = .ok (.bipush 8, 2) := by decide +kernel
theorem dX10_comes_72 : decode cX10_comes 72 = .ok (.iload_n 2, 1) := by decide +kernel
theorem dX10_comes_73 : decode cX10_comes 73 = .ok (.imul, 1) := by decide +kernel
theorem dX10_comes_74 : decode cX10_comes 74 = .ok (.iload_n 3, 1) := by decide +kernel
theorem dX10_comes_75 : decode cX10_comes 75 = .ok (.iadd, 1) := by decide +kernel
theorem dX10_comes_76 : decode cX10_comes 76 = .ok (.aload_n 0, 1) := by decide +kernel
theorem dX10_comes_77 : decode cX10_comes 77 = .ok (.getfield 37, 3) := by decide +kernel
theorem dX10_comes_80 : decode cX10_comes 80 = .ok (.bipush 8, 2) := by decide +kernel
theorem dX10_comes_82 : decode cX10_comes 82 = .ok (.iload_n 1, 1) := by decide +kernel
theorem dX10_comes_83 : decode cX10_comes 83 = .ok (.imul, 1) := by decide +kernel
theorem dX10_comes_84 : decode cX10_comes 84 = .ok (.iload_n 3, 1) := by decide +kernel
theorem dX10_comes_85 : decode cX10_comes 85 = .ok (.iadd, 1) := by decide +kernel
theorem dX10_comes_86 : decode cX10_comes 86 = .ok (.iaload, 1) := by decide +kernel
theorem dX10_comes_87 : decode cX10_comes 87 = .ok (.iastore, 1) := by decide +kernel
theorem dX10_comes_88 : decode cX10_comes 88 = .ok (.iinc 3 1, 3) := by decide +kernel
theorem dX10_comes_91 : decode cX10_comes 91 = .ok (.goto (-31), 3) := by decide +kernel
theorem dX10_comes_94 : decode cX10_comes 94 = .ok (.aload_n 0, 1) := by decide +kernel
theorem dX10_comes_95 : decode cX10_comes 95 = .ok (.dup, 1) := by decide +kernel
theorem dX10_comes_96 : decode cX10_comes 96 = .ok (.getfield 109, 3) := by decide +kernel
theorem dX10_comes_99 : decode cX10_comes 99 = .ok (.iconst 1, 1) := by decide +kernel
theorem dX10_comes_100 : decode cX10_comes 100 = .ok (.iadd, 1) := by decide +kernel
theorem dX10_comes_101 : decode cX10_comes 101 = .ok (.putfield 109, 3) := by decide +kernel
theorem dX10_comes_104 : decode cX10_comes 104 = .ok (.return_, 1) := by decide +kernel
theorem dX10_names_0 : decode cX10_names 0 = .ok (.aload_n 0, 1) := by decide +kernel
theorem dX10_names_1 : decode cX10_names 1 = .ok (.invokevirtual 105, 3) := by decide +kernel
theorem dX10_names_4 : decode cX10_names 4 = .ok (.aload_n 0, 1) := by decide +kernel
theorem dX10_names_5 : decode cX10_names 5 = .ok (.getfield 77, 3) := by decide +kernel
theorem dX10_names_8 : decode cX10_names 8 = .ok (.if_icmp .ne 15, 3) := by decide +kernel
theorem dX10_names_11 : decode cX10_names 11 = .ok (.aload_n 0, 1) := by decide +kernel
theorem dX10_names_12 : decode cX10_names 12 = .ok (.getfield 81, 3) := by decide +kernel
theorem dX10_names_15 : decode cX10_names 15 = .ok (.iconst 2, 1) := by decide +kernel
theorem dX10_names_16 : decode cX10_names 16 = .ok (.if_icmp .le 7, 3) := by decide +kernel
theorem dX10_names_19 : decode cX10_names 19 = .ok (.iconst 1, 1) := by decide +kernel
theorem dX10_names_20 : decode cX10_names 20 = .ok (.goto 4, 3) := by decide +kernel
theorem dX10_names_23 : decode cX10_names 23 = .ok (.iconst 0, 1) := by decide +kernel
theorem dX10_names_24 : decode cX10_names 24 = .ok (.istore_n 1, 1) := by decide +kernel
theorem dX10_names_25 : decode cX10_names 25 = .ok (.iconst 0, 1) := by decide +kernel
theorem dX10_names_26 : decode cX10_names 26 = .ok (.istore_n 2, 1) := by decide +kernel
theorem dX10_names_27 : decode cX10_names 27 = .ok (.iload_n 2, 1) := by decide +kernel
theorem dX10_names_28 : decode cX10_names 28 = .ok (.aload_n 0, 1) := by decide +kernel
theorem dX10_names_29 : decode cX10_names 29 = .ok (.getfield 84, 3) := by decide +kernel
theorem dX10_names_32 : decode cX10_names 32 = .ok (.if_icmp .ge 27, 3) := by decide +kernel
theorem dX10_names_35 : decode cX10_names 35 = .ok (.iload_n 1, 1) := by decide +kernel
theorem dX10_names_36 : decode cX10_names 36 = .ok (.ifCond .eq 23, 3) := by decide +kernel
theorem dX10_names_39 : decode cX10_names 39 = .ok (.aload_n 0, 1) := by decide +kernel
theorem dX10_names_40 : decode cX10_names 40 = .ok (.iload_n 2, 1) := by decide +kernel
theorem dX10_names_41 : decode cX10_names 41 = .ok (.invokevirtual 120, 3) := by decide +kernel
theorem dX10_names_44 : decode cX10_names 44 = .ok (.ifCond .ne 7, 3) := by decide +kernel
theorem dX10_names_47 : decode cX10_names 47 = .ok (.iconst 1, 1) := by decide +kernel
theorem dX10_names_48 : decode cX10_names 48 = .ok (.goto 4, 3) := by decide +kernel
theorem dX10_names_51 : decode cX10_names 51 = .ok (.iconst 0, 1) := by decide +kernel
theorem dX10_names_52 : decode cX10_names 52 = .ok (.istore_n 1, 1) := by decide +kernel
theorem dX10_names_53 : decode cX10_names 53 = .ok (.iinc 2 1, 3) := by decide +kernel
theorem dX10_names_56 : decode cX10_names 56 = .ok (.goto (-29), 3) := by decide +kernel
theorem dX10_names_59 : decode cX10_names 59 = .ok (.iload_n 1, 1) := by decide +kernel
theorem dX10_names_60 : decode cX10_names 60 = .ok (.ifCond .ne 6, 3) := by decide +kernel
theorem dX10_names_63 : decode cX10_names 63 = .ok (.bipush (-103), 2) := by decide +kernel
theorem dX10_names_65 : decode cX10_names 65 = .ok (.ireturn, 1) := by decide +kernel
theorem dX10_names_66 : decode cX10_names 66 = .ok (.aload_n 0, 1) := by decide +kernel
theorem dX10_names_67 : decode cX10_names 67 = .ok (.getfield 109, 3) := by decide +kernel
theorem dX10_names_70 : decode cX10_names 70 = .ok (.aload_n 0, 1) := by decide +kernel
theorem dX10_names_71 : decode cX10_names 71 = .ok (.getfield 84, 3) := by decide +kernel
theorem dX10_names_74 : decode cX10_names 74 = .ok (.iadd, 1) := by decide +kernel
theorem dX10_names_75 : decode cX10_names 75 = .ok (.bipush 14, 2) := by decide +kernel
theorem dX10_names_77 : decode cX10_names 77 = .ok (.if_icmp .le 6, 3) := by decide +kernel
theorem dX10_names_80 : decode cX10_names 80 = .ok (.bipush (-104), 2) := by decide +kernel
theorem dX10_names_82 : decode cX10_names 82 = .ok (.ireturn, 1) := by decide +kernel
theorem dX10_names_83 : decode cX10_names 83 = .ok (.iconst 0, 1) := by decide +kernel
theorem dX10_names_84 : decode cX10_names 84 = .ok (.istore_n 2, 1) := by decide +kernel
theorem dX10_names_85 : decode cX10_names 85 = .ok (.iload_n 2, 1) := by decide +kernel
theorem dX10_names_86 : decode cX10_names 86 = .ok (.aload_n 0, 1) := by decide +kernel
theorem dX10_names_87 : decode cX10_names 87 = .ok (.getfield 84, 3) := by decide +kernel
theorem dX10_names_90 : decode cX10_names 90 = .ok (.if_icmp .ge 14, 3) := by decide +kernel
theorem dX10_names_93 : decode cX10_names 93 = .ok (.aload_n 0, 1) := by decide +kernel
theorem dX10_names_94 : decode cX10_names 94 = .ok (.iload_n 2, 1) := by decide +kernel
theorem dX10_names_95 : decode cX10_names 95 = .ok (.invokevirtual 123, 3) := by decide +kernel
theorem dX10_names_98 : decode cX10_names 98 = .ok (.iinc 2 1, 3) := by decide +kernel
theorem dX10_names_101 : decode cX10_names 101 = .ok (.goto (-16), 3) := by decide +kernel
theorem dX10_names_104 : decode cX10_names 104 = .ok (.aload_n 0, 1) := by decide +kernel
theorem dX10_names_105 : decode cX10_names 105 = .ok (.dup, 1) := by decide +kernel
theorem dX10_names_106 : decode cX10_names 106 = .ok (.getfield 127, 3) := by decide +kernel
theorem dX10_names_109 : decode cX10_names 109 = .ok (.iconst 1, 1) := by decide +kernel
theorem dX10_names_110 : decode cX10_names 110 = .ok (.iadd, 1) := by decide +kernel
theorem dX10_names_111 : decode cX10_names 111 = .ok (.putfield 127, 3) := by decide +kernel
theorem dX10_names_114 : decode cX10_names 114 = .ok (.aload_n 0, 1) := by decide +kernel
theorem dX10_names_115 : decode cX10_names 115 = .ok (.iconst 0, 1) := by decide +kernel
theorem dX10_names_116 : decode cX10_names 116 = .ok (.putfield 130, 3) := by decide +kernel
theorem dX10_names_119 : decode cX10_names 119 = .ok (.aload_n 0, 1) := by decide +kernel
theorem dX10_names_120 : decode cX10_names 120 = .ok (.iconst 0, 1) := by decide +kernel
theorem dX10_names_121 : decode cX10_names 121 = .ok (.putfield 77, 3) := by decide +kernel
theorem dX10_names_124 : decode cX10_names 124 = .ok (.aload_n 0, 1) := by decide +kernel
theorem dX10_names_125 : decode cX10_names 125 = .ok (.getfield 84, 3) := by decide +kernel
theorem dX10_names_128 : decode cX10_names 128 = .ok (.ireturn, 1) := by decide +kernel
theorem dX10_isDial_0 : decode cX10_isDial 0 = .ok (.iconst 0, 1) := by decide +kernel
theorem dX10_isDial_1 : decode cX10_isDial 1 = .ok (.istore_n 1, 1) := by decide +kernel
theorem dX10_isDial_2 : decode cX10_isDial 2 = .ok (.iconst 2, 1) := by decide +kernel
theorem dX10_isDial_3 : decode cX10_isDial 3 = .ok (.istore_n 2, 1) := by decide +kernel
theorem dX10_isDial_4 : decode cX10_isDial 4 = .ok (.iconst 0, 1) := by decide +kernel
theorem dX10_isDial_5 : decode cX10_isDial 5 = .ok (.istore_n 3, 1) := by decide +kernel
theorem dX10_isDial_6 : decode cX10_isDial 6 = .ok (.iconst 1, 1) := by decide +kernel
theorem dX10_isDial_7 : decode cX10_isDial 7 = .ok (.istore 4, 2) := by decide +kernel
theorem dX10_isDial_9 : decode cX10_isDial 9 = .ok (.iconst 0, 1) := by decide +kernel
theorem dX10_isDial_10 : decode cX10_isDial 10 = .ok (.istore 5, 2) := by decide +kernel
theorem dX10_isDial_12 : decode cX10_isDial 12 = .ok (.iload 5, 2) := by decide +kernel
theorem dX10_isDial_14 : decode cX10_isDial 14 = .ok (.aload_n 0, 1) := by decide +kernel
theorem dX10_isDial_15 : decode cX10_isDial 15 = .ok (.getfield 77, 3) := by decide +kernel
theorem dX10_isDial_18 : decode cX10_isDial 18 = .ok (.if_icmp .ge 95, 3) := by decide +kernel
theorem dX10_isDial_21 : decode cX10_isDial 21 = .ok (.iload 4, 2) := by decide +kernel
theorem dX10_isDial_23 : decode cX10_isDial 23 = .ok (.ifCond .eq 90, 3) := by decide +kernel
theorem dX10_isDial_26 : decode cX10_isDial 26 = .ok (.aload_n 0, 1) := by decide +kernel
theorem dX10_isDial_27 : decode cX10_isDial 27 = .ok (.getfield 7, 3) := by decide +kernel
theorem dX10_isDial_30 : decode cX10_isDial 30 = .ok (.iload 5, 2) := by decide +kernel
theorem dX10_isDial_32 : decode cX10_isDial 32 = .ok (.iaload, 1) := by decide +kernel
theorem dX10_isDial_33 : decode cX10_isDial 33 = .ok (.bipush 44, 2) := by decide +kernel
theorem dX10_isDial_35 : decode cX10_isDial 35 = .ok (.if_icmp .ne 28, 3) := by decide +kernel
theorem dX10_isDial_38 : decode cX10_isDial 38 = .ok (.iload_n 3, 1) := by decide +kernel
theorem dX10_isDial_39 : decode cX10_isDial 39 = .ok (.ifCond .eq 13, 3) := by decide +kernel
theorem dX10_isDial_42 : decode cX10_isDial 42 = .ok (.iload_n 2, 1) := by decide +kernel
theorem dX10_isDial_43 : decode cX10_isDial 43 = .ok (.bipush 9, 2) := by decide +kernel
theorem dX10_isDial_45 : decode cX10_isDial 45 = .ok (.if_icmp .ge 7, 3) := by decide +kernel
theorem dX10_isDial_48 : decode cX10_isDial 48 = .ok (.iconst 1, 1) := by decide +kernel
theorem dX10_isDial_49 : decode cX10_isDial 49 = .ok (.goto 4, 3) := by decide +kernel
theorem dX10_isDial_52 : decode cX10_isDial 52 = .ok (.iconst 0, 1) := by decide +kernel
theorem dX10_isDial_53 : decode cX10_isDial 53 = .ok (.istore 4, 2) := by decide +kernel
theorem dX10_isDial_55 : decode cX10_isDial 55 = .ok (.iinc 2 1, 3) := by decide +kernel
theorem dX10_isDial_58 : decode cX10_isDial 58 = .ok (.iconst 0, 1) := by decide +kernel
theorem dX10_isDial_59 : decode cX10_isDial 59 = .ok (.istore_n 3, 1) := by decide +kernel
theorem dX10_isDial_60 : decode cX10_isDial 60 = .ok (.goto 47, 3) := by decide +kernel
theorem dX10_isDial_63 : decode cX10_isDial 63 = .ok (.iload_n 1, 1) := by decide +kernel
theorem dX10_isDial_64 : decode cX10_isDial 64 = .ok (.bipush 26, 2) := by decide +kernel
theorem dX10_isDial_66 : decode cX10_isDial 66 = .ok (.if_icmp .ge 21, 3) := by decide +kernel
theorem dX10_isDial_69 : decode cX10_isDial 69 = .ok (.aload_n 0, 1) := by decide +kernel
theorem dX10_isDial_70 : decode cX10_isDial 70 = .ok (.getfield 7, 3) := by decide +kernel
theorem dX10_isDial_73 : decode cX10_isDial 73 = .ok (.iload 5, 2) := by decide +kernel
theorem dX10_isDial_75 : decode cX10_isDial 75 = .ok (.iaload, 1) := by decide +kernel
theorem dX10_isDial_76 : decode cX10_isDial 76 = .ok (.bipush 97, 2) := by decide +kernel
theorem dX10_isDial_78 : decode cX10_isDial 78 = .ok (.iload_n 1, 1) := by decide +kernel
theorem dX10_isDial_79 : decode cX10_isDial 79 = .ok (.iadd, 1) := by decide +kernel
theorem dX10_isDial_80 : decode cX10_isDial 80 = .ok (.if_icmp .ne 7, 3) := by decide +kernel
theorem dX10_isDial_83 : decode cX10_isDial 83 = .ok (.iconst 1, 1) := by decide +kernel
theorem dX10_isDial_84 : decode cX10_isDial 84 = .ok (.goto 4, 3) := by decide +kernel
theorem dX10_isDial_87 : decode cX10_isDial 87 = .ok (.iconst 0, 1) := by decide +kernel
theorem dX10_isDial_88 : decode cX10_isDial 88 = .ok (.istore 4, 2) := by decide +kernel
theorem dX10_isDial_90 : decode cX10_isDial 90 = .ok (.iload 4, 2) := by decide +kernel
theorem dX10_isDial_92 : decode cX10_isDial 92 = .ok (.ifCond .eq 15, 3) := by decide +kernel
theorem dX10_isDial_95 : decode cX10_isDial 95 = .ok (.aload_n 0, 1) := by decide +kernel
theorem dX10_isDial_96 : decode cX10_isDial 96 = .ok (.getfield 43, 3) := by decide +kernel
theorem dX10_isDial_99 : decode cX10_isDial 99 = .ok (.iload_n 1, 1) := by decide +kernel
theorem dX10_isDial_100 : decode cX10_isDial 100 = .ok (.iload_n 2, 1) := by decide +kernel
theorem dX10_isDial_101 : decode cX10_isDial 101 = .ok (.iastore, 1) := by decide +kernel
theorem dX10_isDial_102 : decode cX10_isDial 102 = .ok (.iinc 1 1, 3) := by decide +kernel
theorem dX10_isDial_105 : decode cX10_isDial 105 = .ok (.iconst 1, 1) := by decide +kernel
theorem dX10_isDial_106 : decode cX10_isDial 106 = .ok (.istore_n 3, 1) := by decide +kernel
theorem dX10_isDial_107 : decode cX10_isDial 107 = .ok (.iinc 5 1, 3) := by decide +kernel
theorem dX10_isDial_110 : decode cX10_isDial 110 = .ok (.goto (-98), 3) := by decide +kernel
theorem dX10_isDial_113 : decode cX10_isDial 113 = .ok (.iload 4, 2) := by decide +kernel
theorem dX10_isDial_115 : decode cX10_isDial 115 = .ok (.ifCond .eq 23, 3) := by decide +kernel
theorem dX10_isDial_118 : decode cX10_isDial 118 = .ok (.iload_n 1, 1) := by decide +kernel
theorem dX10_isDial_119 : decode cX10_isDial 119 = .ok (.bipush 26, 2) := by decide +kernel
theorem dX10_isDial_121 : decode cX10_isDial 121 = .ok (.if_icmp .ne 17, 3) := by decide +kernel
theorem dX10_isDial_124 : decode cX10_isDial 124 = .ok (.iload_n 2, 1) := by decide +kernel
theorem dX10_isDial_125 : decode cX10_isDial 125 = .ok (.bipush 9, 2) := by decide +kernel
theorem dX10_isDial_127 : decode cX10_isDial 127 = .ok (.if_icmp .ne 11, 3) := by decide +kernel
theorem dX10_isDial_130 : decode cX10_isDial 130 = .ok (.iload_n 3, 1) := by decide +kernel
theorem dX10_isDial_131 : decode cX10_isDial 131 = .ok (.ifCond .eq 7, 3) := by decide +kernel
theorem dX10_isDial_134 : decode cX10_isDial 134 = .ok (.iconst 1, 1) := by decide +kernel
theorem dX10_isDial_135 : decode cX10_isDial 135 = .ok (.goto 4, 3) := by decide +kernel
theorem dX10_isDial_138 : decode cX10_isDial 138 = .ok (.iconst 0, 1) := by decide +kernel
theorem dX10_isDial_139 : decode cX10_isDial 139 = .ok (.ireturn, 1) := by decide +kernel
theorem dX10_dial_0 : decode cX10_dial 0 = .ok (.aload_n 0, 1) := by decide +kernel
theorem dX10_dial_1 : decode cX10_dial 1 = .ok (.invokevirtual 133, 3) := by decide +kernel
theorem dX10_dial_4 : decode cX10_dial 4 = .ok (.ifCond .ne 6, 3) := by decide +kernel
theorem dX10_dial_7 : decode cX10_dial 7 = .ok (.bipush (-103), 2) := by decide +kernel
theorem dX10_dial_9 : decode cX10_dial 9 = .ok (.ireturn, 1) := by decide +kernel
theorem dX10_dial_10 : decode cX10_dial 10 = .ok (.iconst 0, 1) := by decide +kernel
theorem dX10_dial_11 : decode cX10_dial 11 = .ok (.istore_n 1, 1) := by decide +kernel
theorem dX10_dial_12 : decode cX10_dial 12 = .ok (.iconst 2, 1) := by decide +kernel
theorem dX10_dial_13 : decode cX10_dial 13 = .ok (.istore_n 2, 1) := by decide +kernel
theorem dX10_dial_14 : decode cX10_dial 14 = .ok (.iload_n 2, 1) := by decide +kernel
theorem dX10_dial_15 : decode cX10_dial 15 = .ok (.bipush 10, 2) := by decide +kernel
theorem dX10_dial_17 : decode cX10_dial 17 = .ok (.if_icmp .ge 57, 3) := by decide +kernel
theorem dX10_dial_20 : decode cX10_dial 20 = .ok (.iconst 0, 1) := by decide +kernel
theorem dX10_dial_21 : decode cX10_dial 21 = .ok (.istore_n 3, 1) := by decide +kernel
theorem dX10_dial_22 : decode cX10_dial 22 = .ok (.iconst 0, 1) := by decide +kernel
theorem dX10_dial_23 : decode cX10_dial 23 = .ok (.istore 4, 2) := by decide +kernel
theorem dX10_dial_25 : decode cX10_dial 25 = .ok (.iload 4, 2) := by decide +kernel
theorem dX10_dial_27 : decode cX10_dial 27 = .ok (.bipush 26, 2) := by decide +kernel
theorem dX10_dial_29 : decode cX10_dial 29 = .ok (.if_icmp .ge 28, 3) := by decide +kernel
theorem dX10_dial_32 : decode cX10_dial 32 = .ok (.iload_n 3, 1) := by decide +kernel
theorem dX10_dial_33 : decode cX10_dial 33 = .ok (.aload_n 0, 1) := by decide +kernel
theorem dX10_dial_34 : decode cX10_dial 34 = .ok (.getfield 43, 3) := by decide +kernel
theorem dX10_dial_37 : decode cX10_dial 37 = .ok (.iload 4, 2) := by decide +kernel
theorem dX10_dial_39 : decode cX10_dial 39 = .ok (.iaload, 1) := by decide +kernel
theorem dX10_dial_40 : decode cX10_dial 40 = .ok (.iload_n 2, 1) := by decide +kernel
theorem dX10_dial_41 : decode cX10_dial 41 = .ok (.if_icmp .ne 7, 3) := by decide +kernel
theorem dX10_dial_44 : decode cX10_dial 44 = .ok (.iconst 1, 1) := by decide +kernel
theorem dX10_dial_45 : decode cX10_dial 45 = .ok (.goto 4, 3) := by decide +kernel
theorem dX10_dial_48 : decode cX10_dial 48 = .ok (.iconst 0, 1) := by decide +kernel
theorem dX10_dial_49 : decode cX10_dial 49 = .ok (.iadd, 1) := by decide +kernel
theorem dX10_dial_50 : decode cX10_dial 50 = .ok (.istore_n 3, 1) := by decide +kernel
theorem dX10_dial_51 : decode cX10_dial 51 = .ok (.iinc 4 1, 3) := by decide +kernel
theorem dX10_dial_54 : decode cX10_dial 54 = .ok (.goto (-29), 3) := by decide +kernel
theorem dX10_dial_57 : decode cX10_dial 57 = .ok (.iload_n 3, 1) := by decide +kernel
theorem dX10_dial_58 : decode cX10_dial 58 = .ok (.iload_n 1, 1) := by decide +kernel
theorem dX10_dial_59 : decode cX10_dial 59 = .ok (.if_icmp .le 7, 3) := by decide +kernel
theorem dX10_dial_62 : decode cX10_dial 62 = .ok (.iload_n 3, 1) := by decide +kernel
theorem dX10_dial_63 : decode cX10_dial 63 = .ok (.goto 4, 3) := by decide +kernel
theorem dX10_dial_66 : decode cX10_dial 66 = .ok (.iload_n 1, 1) := by decide +kernel
theorem dX10_dial_67 : decode cX10_dial 67 = .ok (.istore_n 1, 1) := by decide +kernel
theorem dX10_dial_68 : decode cX10_dial 68 = .ok (.iinc 2 1, 3) := by decide +kernel
theorem dX10_dial_71 : decode cX10_dial 71 = .ok (.goto (-57), 3) := by decide +kernel
theorem dX10_dial_74 : decode cX10_dial 74 = .ok (.iconst 0, 1) := by decide +kernel
theorem dX10_dial_75 : decode cX10_dial 75 = .ok (.istore_n 2, 1) := by decide +kernel
theorem dX10_dial_76 : decode cX10_dial 76 = .ok (.iload_n 2, 1) := by decide +kernel
theorem dX10_dial_77 : decode cX10_dial 77 = .ok (.bipush 26, 2) := by decide +kernel
theorem dX10_dial_79 : decode cX10_dial 79 = .ok (.if_icmp .ge 21, 3) := by decide +kernel
theorem dX10_dial_82 : decode cX10_dial 82 = .ok (.aload_n 0, 1) := by decide +kernel
theorem dX10_dial_83 : decode cX10_dial 83 = .ok (.getfield 22, 3) := by decide +kernel
theorem dX10_dial_86 : decode cX10_dial 86 = .ok (.iload_n 2, 1) := by decide +kernel
theorem dX10_dial_87 : decode cX10_dial 87 = .ok (.aload_n 0, 1) := by decide +kernel
theorem dX10_dial_88 : decode cX10_dial 88 = .ok (.getfield 43, 3) := by decide +kernel
theorem dX10_dial_91 : decode cX10_dial 91 = .ok (.iload_n 2, 1) := by decide +kernel
theorem dX10_dial_92 : decode cX10_dial 92 = .ok (.iaload, 1) := by decide +kernel
theorem dX10_dial_93 : decode cX10_dial 93 = .ok (.iastore, 1) := by decide +kernel
theorem dX10_dial_94 : decode cX10_dial 94 = .ok (.iinc 2 1, 3) := by decide +kernel
theorem dX10_dial_97 : decode cX10_dial 97 = .ok (.goto (-21), 3) := by decide +kernel
theorem dX10_dial_100 : decode cX10_dial 100 = .ok (.aload_n 0, 1) := by decide +kernel
theorem dX10_dial_101 : decode cX10_dial 101 = .ok (.dup, 1) := by decide +kernel
theorem dX10_dial_102 : decode cX10_dial 102 = .ok (.getfield 136, 3) := by decide +kernel
theorem dX10_dial_105 : decode cX10_dial 105 = .ok (.iconst 1, 1) := by decide +kernel
theorem dX10_dial_106 : decode cX10_dial 106 = .ok (.iadd, 1) := by decide +kernel
theorem dX10_dial_107 : decode cX10_dial 107 = .ok (.putfield 136, 3) := by decide +kernel
theorem dX10_dial_110 : decode cX10_dial 110 = .ok (.aload_n 0, 1) := by decide +kernel
theorem dX10_dial_111 : decode cX10_dial 111 = .ok (.iconst 0, 1) := by decide +kernel
theorem dX10_dial_112 : decode cX10_dial 112 = .ok (.putfield 77, 3) := by decide +kernel
theorem dX10_dial_115 : decode cX10_dial 115 = .ok (.iload_n 1, 1) := by decide +kernel
theorem dX10_dial_116 : decode cX10_dial 116 = .ok (.ireturn, 1) := by decide +kernel
theorem dX10_isName_0 : decode cX10_isName 0 = .ok (.iload_n 1, 1) := by decide +kernel
theorem dX10_isName_1 : decode cX10_isName 1 = .ok (.iconst 0, 1) := by decide +kernel
theorem dX10_isName_2 : decode cX10_isName 2 = .ok (.aload_n 0, 1) := by decide +kernel
theorem dX10_isName_3 : decode cX10_isName 3 = .ok (.getfield 109, 3) := by decide +kernel
theorem dX10_isName_6 : decode cX10_isName 6 = .ok (.iconst 1, 1) := by decide +kernel
theorem dX10_isName_7 : decode cX10_isName 7 = .ok (.isub, 1) := by decide +kernel
theorem dX10_isName_8 : decode cX10_isName 8 = .ok (.invokestatic 73, 3) := by decide +kernel
theorem dX10_isName_11 : decode cX10_isName 11 = .ok (.ireturn, 1) := by decide +kernel
theorem dX10_drop_0 : decode cX10_drop 0 = .ok (.aload_n 0, 1) := by decide +kernel
theorem dX10_drop_1 : decode cX10_drop 1 = .ok (.iload_n 1, 1) := by decide +kernel
theorem dX10_drop_2 : decode cX10_drop 2 = .ok (.invokevirtual 139, 3) := by decide +kernel
theorem dX10_drop_5 : decode cX10_drop 5 = .ok (.ifCond .ne 6, 3) := by decide +kernel
theorem dX10_drop_8 : decode cX10_drop 8 = .ok (.bipush (-101), 2) := by decide +kernel
theorem dX10_drop_10 : decode cX10_drop 10 = .ok (.ireturn, 1) := by decide +kernel
theorem dX10_drop_11 : decode cX10_drop 11 = .ok (.aload_n 0, 1) := by decide +kernel
theorem dX10_drop_12 : decode cX10_drop 12 = .ok (.dup, 1) := by decide +kernel
theorem dX10_drop_13 : decode cX10_drop 13 = .ok (.getfield 109, 3) := by decide +kernel
theorem dX10_drop_16 : decode cX10_drop 16 = .ok (.iconst 1, 1) := by decide +kernel
theorem dX10_drop_17 : decode cX10_drop 17 = .ok (.isub, 1) := by decide +kernel
theorem dX10_drop_18 : decode cX10_drop 18 = .ok (.putfield 109, 3) := by decide +kernel
theorem dX10_drop_21 : decode cX10_drop 21 = .ok (.iload_n 1, 1) := by decide +kernel
theorem dX10_drop_22 : decode cX10_drop 22 = .ok (.istore_n 2, 1) := by decide +kernel
theorem dX10_drop_23 : decode cX10_drop 23 = .ok (.iload_n 2, 1) := by decide +kernel
theorem dX10_drop_24 : decode cX10_drop 24 = .ok (.aload_n 0, 1) := by decide +kernel
theorem dX10_drop_25 : decode cX10_drop 25 = .ok (.getfield 109, 3) := by decide +kernel
theorem dX10_drop_28 : decode cX10_drop 28 = .ok (.if_icmp .ge 17, 3) := by decide +kernel
theorem dX10_drop_31 : decode cX10_drop 31 = .ok (.aload_n 0, 1) := by decide +kernel
theorem dX10_drop_32 : decode cX10_drop 32 = .ok (.iload_n 2, 1) := by decide +kernel
theorem dX10_drop_33 : decode cX10_drop 33 = .ok (.iconst 1, 1) := by decide +kernel
theorem dX10_drop_34 : decode cX10_drop 34 = .ok (.iadd, 1) := by decide +kernel
theorem dX10_drop_35 : decode cX10_drop 35 = .ok (.iload_n 2, 1) := by decide +kernel
theorem dX10_drop_36 : decode cX10_drop 36 = .ok (.invokevirtual 116, 3) := by decide +kernel
theorem dX10_drop_39 : decode cX10_drop 39 = .ok (.iinc 2 1, 3) := by decide +kernel
theorem dX10_drop_42 : decode cX10_drop 42 = .ok (.goto (-19), 3) := by decide +kernel
theorem dX10_drop_45 : decode cX10_drop 45 = .ok (.aload_n 0, 1) := by decide +kernel
theorem dX10_drop_46 : decode cX10_drop 46 = .ok (.dup, 1) := by decide +kernel
theorem dX10_drop_47 : decode cX10_drop 47 = .ok (.getfield 142, 3) := by decide +kernel
theorem dX10_drop_50 : decode cX10_drop 50 = .ok (.iconst 1, 1) := by decide +kernel
theorem dX10_drop_51 : decode cX10_drop 51 = .ok (.iadd, 1) := by decide +kernel
theorem dX10_drop_52 : decode cX10_drop 52 = .ok (.putfield 142, 3) := by decide +kernel
theorem dX10_drop_55 : decode cX10_drop 55 = .ok (.aload_n 0, 1) := by decide +kernel
theorem dX10_drop_56 : decode cX10_drop 56 = .ok (.iconst 0, 1) := by decide +kernel
theorem dX10_drop_57 : decode cX10_drop 57 = .ok (.putfield 130, 3) := by decide +kernel
theorem dX10_drop_60 : decode cX10_drop 60 = .ok (.aload_n 0, 1) := by decide +kernel
theorem dX10_drop_61 : decode cX10_drop 61 = .ok (.getfield 109, 3) := by decide +kernel
theorem dX10_drop_64 : decode cX10_drop 64 = .ok (.ireturn, 1) := by decide +kernel
theorem dX10_use_0 : decode cX10_use 0 = .ok (.aload_n 0, 1) := by decide +kernel
theorem dX10_use_1 : decode cX10_use 1 = .ok (.iload_n 1, 1) := by decide +kernel
theorem dX10_use_2 : decode cX10_use 2 = .ok (.invokevirtual 139, 3) := by decide +kernel
theorem dX10_use_5 : decode cX10_use 5 = .ok (.ifCond .ne 6, 3) := by decide +kernel
theorem dX10_use_8 : decode cX10_use 8 = .ok (.bipush (-101), 2) := by decide +kernel
theorem dX10_use_10 : decode cX10_use 10 = .ok (.ireturn, 1) := by decide +kernel
theorem dX10_use_11 : decode cX10_use 11 = .ok (.iload_n 2, 1) := by decide +kernel
theorem dX10_use_12 : decode cX10_use 12 = .ok (.iconst 1, 1) := by decide +kernel
theorem dX10_use_13 : decode cX10_use 13 = .ok (.bipush 99, 2) := by decide +kernel
theorem dX10_use_15 : decode cX10_use 15 = .ok (.invokestatic 73, 3) := by decide +kernel
theorem dX10_use_18 : decode cX10_use 18 = .ok (.ifCond .ne 6, 3) := by decide +kernel
theorem dX10_use_21 : decode cX10_use 21 = .ok (.bipush (-102), 2) := by decide +kernel
theorem dX10_use_23 : decode cX10_use 23 = .ok (.ireturn, 1) := by decide +kernel
theorem dX10_use_24 : decode cX10_use 24 = .ok (.aload_n 0, 1) := by decide +kernel
theorem dX10_use_25 : decode cX10_use 25 = .ok (.getfield 19, 3) := by decide +kernel
theorem dX10_use_28 : decode cX10_use 28 = .ok (.iload_n 1, 1) := by decide +kernel
theorem dX10_use_29 : decode cX10_use 29 = .ok (.iaload, 1) := by decide +kernel
theorem dX10_use_30 : decode cX10_use 30 = .ok (.istore_n 3, 1) := by decide +kernel
theorem dX10_use_31 : decode cX10_use 31 = .ok (.aload_n 0, 1) := by decide +kernel
theorem dX10_use_32 : decode cX10_use 32 = .ok (.getfield 19, 3) := by decide +kernel
theorem dX10_use_35 : decode cX10_use 35 = .ok (.iload_n 1, 1) := by decide +kernel
theorem dX10_use_36 : decode cX10_use 36 = .ok (.iload_n 2, 1) := by decide +kernel
theorem dX10_use_37 : decode cX10_use 37 = .ok (.iastore, 1) := by decide +kernel
theorem dX10_use_38 : decode cX10_use 38 = .ok (.iload_n 3, 1) := by decide +kernel
theorem dX10_use_39 : decode cX10_use 39 = .ok (.ireturn, 1) := by decide +kernel
theorem dX10_codeAt_0 : decode cX10_codeAt 0 = .ok (.aload_n 0, 1) := by decide +kernel
theorem dX10_codeAt_1 : decode cX10_codeAt 1 = .ok (.getfield 22, 3) := by decide +kernel
theorem dX10_codeAt_4 : decode cX10_codeAt 4 = .ok (.aload_n 0, 1) := by decide +kernel
theorem dX10_codeAt_5 : decode cX10_codeAt 5 = .ok (.getfield 16, 3) := by decide +kernel
theorem dX10_codeAt_8 : decode cX10_codeAt 8 = .ok (.bipush 8, 2) := by decide +kernel
theorem dX10_codeAt_10 : decode cX10_codeAt 10 = .ok (.iload_n 1, 1) := by decide +kernel
theorem dX10_codeAt_11 : decode cX10_codeAt 11 = .ok (.imul, 1) := by decide +kernel
theorem dX10_codeAt_12 : decode cX10_codeAt 12 = .ok (.iload_n 2, 1) := by decide +kernel
theorem dX10_codeAt_13 : decode cX10_codeAt 13 = .ok (.iadd, 1) := by decide +kernel
theorem dX10_codeAt_14 : decode cX10_codeAt 14 = .ok (.iaload, 1) := by decide +kernel
theorem dX10_codeAt_15 : decode cX10_codeAt 15 = .ok (.bipush 97, 2) := by decide +kernel
theorem dX10_codeAt_17 : decode cX10_codeAt 17 = .ok (.isub, 1) := by decide +kernel
theorem dX10_codeAt_18 : decode cX10_codeAt 18 = .ok (.iaload, 1) := by decide +kernel
theorem dX10_codeAt_19 : decode cX10_codeAt 19 = .ok (.ireturn, 1) := by decide +kernel
theorem dX10_begins_0 : decode cX10_begins 0 = .ok (.iload_n 2, 1) := by decide +kernel
theorem dX10_begins_1 : decode cX10_begins 1 = .ok (.aload_n 0, 1) := by decide +kernel
theorem dX10_begins_2 : decode cX10_begins 2 = .ok (.getfield 13, 3) := by decide +kernel
theorem dX10_begins_5 : decode cX10_begins 5 = .ok (.iload_n 3, 1) := by decide +kernel
theorem dX10_begins_6 : decode cX10_begins 6 = .ok (.iaload, 1) := by decide +kernel
theorem dX10_begins_7 : decode cX10_begins 7 = .ok (.if_icmp .gt 7, 3) := by decide +kernel
theorem dX10_begins_10 : decode cX10_begins 10 = .ok (.iconst 1, 1) := by decide +kernel
theorem dX10_begins_11 : decode cX10_begins 11 = .ok (.goto 4, 3) := by decide +kernel
theorem dX10_begins_14 : decode cX10_begins 14 = .ok (.iconst 0, 1) := by decide +kernel
theorem dX10_begins_15 : decode cX10_begins 15 = .ok (.istore 4, 2) := by decide +kernel
theorem dX10_begins_17 : decode cX10_begins 17 = .ok (.iconst 0, 1) := by decide +kernel
theorem dX10_begins_18 : decode cX10_begins 18 = .ok (.istore 5, 2) := by decide +kernel
theorem dX10_begins_20 : decode cX10_begins 20 = .ok (.iload 5, 2) := by decide +kernel
theorem dX10_begins_22 : decode cX10_begins 22 = .ok (.iload_n 2, 1) := by decide +kernel
theorem dX10_begins_23 : decode cX10_begins 23 = .ok (.if_icmp .ge 38, 3) := by decide +kernel
theorem dX10_begins_26 : decode cX10_begins 26 = .ok (.iload 4, 2) := by decide +kernel
theorem dX10_begins_28 : decode cX10_begins 28 = .ok (.ifCond .eq 33, 3) := by decide +kernel
theorem dX10_begins_31 : decode cX10_begins 31 = .ok (.aload_n 0, 1) := by decide +kernel
theorem dX10_begins_32 : decode cX10_begins 32 = .ok (.iload_n 1, 1) := by decide +kernel
theorem dX10_begins_33 : decode cX10_begins 33 = .ok (.iload 5, 2) := by decide +kernel
theorem dX10_begins_35 : decode cX10_begins 35 = .ok (.invokevirtual 145, 3) := by decide +kernel
theorem dX10_begins_38 : decode cX10_begins 38 = .ok (.aload_n 0, 1) := by decide +kernel
theorem dX10_begins_39 : decode cX10_begins 39 = .ok (.iload_n 3, 1) := by decide +kernel
theorem dX10_begins_40 : decode cX10_begins 40 = .ok (.iload 5, 2) := by decide +kernel
theorem dX10_begins_42 : decode cX10_begins 42 = .ok (.invokevirtual 145, 3) := by decide +kernel
theorem dX10_begins_45 : decode cX10_begins 45 = .ok (.if_icmp .ne 7, 3) := by decide +kernel
theorem dX10_begins_48 : decode cX10_begins 48 = .ok (.iconst 1, 1) := by decide +kernel
theorem dX10_begins_49 : decode cX10_begins 49 = .ok (.goto 4, 3) := by decide +kernel
theorem dX10_begins_52 : decode cX10_begins 52 = .ok (.iconst 0, 1) := by decide +kernel
theorem dX10_begins_53 : decode cX10_begins 53 = .ok (.istore 4, 2) := by decide +kernel
theorem dX10_begins_55 : decode cX10_begins 55 = .ok (.iinc 5 1, 3) := by decide +kernel
theorem dX10_begins_58 : decode cX10_begins 58 = .ok (.goto (-38), 3) := by decide +kernel
theorem dX10_begins_61 : decode cX10_begins 61 = .ok (.iload 4, 2) := by decide +kernel
theorem dX10_begins_63 : decode cX10_begins 63 = .ok (.ireturn, 1) := by decide +kernel
theorem dX10_isTwin_0 : decode cX10_isTwin 0 = .ok (.iload_n 1, 1) := by decide +kernel
theorem dX10_isTwin_1 : decode cX10_isTwin 1 = .ok (.iload_n 2, 1) := by decide +kernel
theorem dX10_isTwin_2 : decode cX10_isTwin 2 = .ok (.if_icmp .eq 37, 3) := by decide +kernel
theorem dX10_isTwin_5 : decode cX10_isTwin 5 = .ok (.aload_n 0, 1) := by decide +kernel
theorem dX10_isTwin_6 : decode cX10_isTwin 6 = .ok (.getfield 13, 3) := by decide +kernel
theorem dX10_isTwin_9 : decode cX10_isTwin 9 = .ok (.iload_n 1, 1) := by decide +kernel
theorem dX10_isTwin_10 : decode cX10_isTwin 10 = .ok (.iaload, 1) := by decide +kernel
theorem dX10_isTwin_11 : decode cX10_isTwin 11 = .ok (.aload_n 0, 1) := by decide +kernel
theorem dX10_isTwin_12 : decode cX10_isTwin 12 = .ok (.getfield 13, 3) := by decide +kernel
theorem dX10_isTwin_15 : decode cX10_isTwin 15 = .ok (.iload_n 2, 1) := by decide +kernel
theorem dX10_isTwin_16 : decode cX10_isTwin 16 = .ok (.iaload, 1) := by decide +kernel
theorem dX10_isTwin_17 : decode cX10_isTwin 17 = .ok (.if_icmp .ne 22, 3) := by decide +kernel
theorem dX10_isTwin_20 : decode cX10_isTwin 20 = .ok (.aload_n 0, 1) := by decide +kernel
theorem dX10_isTwin_21 : decode cX10_isTwin 21 = .ok (.iload_n 1, 1) := by decide +kernel
theorem dX10_isTwin_22 : decode cX10_isTwin 22 = .ok (.aload_n 0, 1) := by decide +kernel
theorem dX10_isTwin_23 : decode cX10_isTwin 23 = .ok (.getfield 13, 3) := by decide +kernel
theorem dX10_isTwin_26 : decode cX10_isTwin 26 = .ok (.iload_n 1, 1) := by decide +kernel
theorem dX10_isTwin_27 : decode cX10_isTwin 27 = .ok (.iaload, 1) := by decide +kernel
theorem dX10_isTwin_28 : decode cX10_isTwin 28 = .ok (.iload_n 2, 1) := by decide +kernel
theorem dX10_isTwin_29 : decode cX10_isTwin 29 = .ok (.invokevirtual 148, 3) := by decide +kernel
theorem dX10_isTwin_32 : decode cX10_isTwin 32 = .ok (.ifCond .eq 7, 3) := by decide +kernel
theorem dX10_isTwin_35 : decode cX10_isTwin 35 = .ok (.iconst 1, 1) := by decide +kernel
theorem dX10_isTwin_36 : decode cX10_isTwin 36 = .ok (.goto 4, 3) := by decide +kernel
theorem dX10_isTwin_39 : decode cX10_isTwin 39 = .ok (.iconst 0, 1) := by decide +kernel
theorem dX10_isTwin_40 : decode cX10_isTwin 40 = .ok (.ireturn, 1) := by decide +kernel
theorem dX10_twins_0 : decode cX10_twins 0 = .ok (.iconst 0, 1) := by decide +kernel
theorem dX10_twins_1 : decode cX10_twins 1 = .ok (.istore_n 2, 1) := by decide +kernel
theorem dX10_twins_2 : decode cX10_twins 2 = .ok (.iconst 0, 1) := by decide +kernel
theorem dX10_twins_3 : decode cX10_twins 3 = .ok (.istore_n 3, 1) := by decide +kernel
theorem dX10_twins_4 : decode cX10_twins 4 = .ok (.iload_n 3, 1) := by decide +kernel
theorem dX10_twins_5 : decode cX10_twins 5 = .ok (.aload_n 0, 1) := by decide +kernel
theorem dX10_twins_6 : decode cX10_twins 6 = .ok (.getfield 109, 3) := by decide +kernel
theorem dX10_twins_9 : decode cX10_twins 9 = .ok (.if_icmp .ge 26, 3) := by decide +kernel
theorem dX10_twins_12 : decode cX10_twins 12 = .ok (.iload_n 2, 1) := by decide +kernel
theorem dX10_twins_13 : decode cX10_twins 13 = .ok (.aload_n 0, 1) := by decide +kernel
theorem dX10_twins_14 : decode cX10_twins 14 = .ok (.iload_n 1, 1) := by decide +kernel
theorem dX10_twins_15 : decode cX10_twins 15 = .ok (.iload_n 3, 1) := by decide +kernel
theorem dX10_twins_16 : decode cX10_twins 16 = .ok (.invokevirtual 151, 3) := by decide +kernel
theorem dX10_twins_19 : decode cX10_twins 19 = .ok (.ifCond .eq 7, 3) := by decide +kernel
theorem dX10_twins_22 : decode cX10_twins 22 = .ok (.iconst 1, 1) := by decide +kernel
theorem dX10_twins_23 : decode cX10_twins 23 = .ok (.goto 4, 3) := by decide +kernel
theorem dX10_twins_26 : decode cX10_twins 26 = .ok (.iconst 0, 1) := by decide +kernel
theorem dX10_twins_27 : decode cX10_twins 27 = .ok (.iadd, 1) := by decide +kernel
theorem dX10_twins_28 : decode cX10_twins 28 = .ok (.istore_n 2, 1) := by decide +kernel
theorem dX10_twins_29 : decode cX10_twins 29 = .ok (.iinc 3 1, 3) := by decide +kernel
theorem dX10_twins_32 : decode cX10_twins 32 = .ok (.goto (-28), 3) := by decide +kernel
theorem dX10_twins_35 : decode cX10_twins 35 = .ok (.iload_n 2, 1) := by decide +kernel
theorem dX10_twins_36 : decode cX10_twins 36 = .ok (.ireturn, 1) := by decide +kernel
theorem dX10_telling_0 : decode cX10_telling 0 = .ok (.iconst 0, 1) := by decide +kernel
theorem dX10_telling_1 : decode cX10_telling 1 = .ok (.istore_n 2, 1) := by decide +kernel
theorem dX10_telling_2 : decode cX10_telling 2 = .ok (.iload_n 2, 1) := by decide +kernel
theorem dX10_telling_3 : decode cX10_telling 3 = .ok (.aload_n 0, 1) := by decide +kernel
theorem dX10_telling_4 : decode cX10_telling 4 = .ok (.getfield 13, 3) := by decide +kernel
theorem dX10_telling_7 : decode cX10_telling 7 = .ok (.iload_n 1, 1) := by decide +kernel
theorem dX10_telling_8 : decode cX10_telling 8 = .ok (.iaload, 1) := by decide +kernel
theorem dX10_telling_9 : decode cX10_telling 9 = .ok (.if_icmp .gt 62, 3) := by decide +kernel
theorem dX10_telling_12 : decode cX10_telling 12 = .ok (.iconst 1, 1) := by decide +kernel
theorem dX10_telling_13 : decode cX10_telling 13 = .ok (.istore_n 3, 1) := by decide +kernel
theorem dX10_telling_14 : decode cX10_telling 14 = .ok (.iconst 0, 1) := by decide +kernel
theorem dX10_telling_15 : decode cX10_telling 15 = .ok (.istore 4, 2) := by decide +kernel
theorem dX10_telling_17 : decode cX10_telling 17 = .ok (.iload 4, 2) := by decide +kernel
theorem dX10_telling_19 : decode cX10_telling 19 = .ok (.aload_n 0, 1) := by decide +kernel
theorem dX10_telling_20 : decode cX10_telling 20 = .ok (.getfield 109, 3) := by decide +kernel
theorem dX10_telling_23 : decode cX10_telling 23 = .ok (.if_icmp .ge 36, 3) := by decide +kernel
theorem dX10_telling_26 : decode cX10_telling 26 = .ok (.iload_n 3, 1) := by decide +kernel
theorem dX10_telling_27 : decode cX10_telling 27 = .ok (.ifCond .eq 24, 3) := by decide +kernel
theorem dX10_telling_30 : decode cX10_telling 30 = .ok (.iload 4, 2) := by decide +kernel
theorem dX10_telling_32 : decode cX10_telling 32 = .ok (.iload_n 1, 1) := by decide +kernel
theorem dX10_telling_33 : decode cX10_telling 33 = .ok (.if_icmp .eq 14, 3) := by decide +kernel
theorem dX10_telling_36 : decode cX10_telling 36 = .ok (.aload_n 0, 1) := by decide +kernel
theorem dX10_telling_37 : decode cX10_telling 37 = .ok (.iload_n 1, 1) := by decide +kernel
theorem dX10_telling_38 : decode cX10_telling 38 = .ok (.iload_n 2, 1) := by decide +kernel
theorem dX10_telling_39 : decode cX10_telling 39 = .ok (.iload 4, 2) := by decide +kernel
theorem dX10_telling_41 : decode cX10_telling 41 = .ok (.invokevirtual 148, 3) := by decide +kernel
theorem dX10_telling_44 : decode cX10_telling 44 = .ok (.ifCond .ne 7, 3) := by decide +kernel
theorem dX10_telling_47 : decode cX10_telling 47 = .ok (.iconst 1, 1) := by decide +kernel
theorem dX10_telling_48 : decode cX10_telling 48 = .ok (.goto 4, 3) := by decide +kernel
theorem dX10_telling_51 : decode cX10_telling 51 = .ok (.iconst 0, 1) := by decide +kernel
theorem dX10_telling_52 : decode cX10_telling 52 = .ok (.istore_n 3, 1) := by decide +kernel
theorem dX10_telling_53 : decode cX10_telling 53 = .ok (.iinc 4 1, 3) := by decide +kernel
theorem dX10_telling_56 : decode cX10_telling 56 = .ok (.goto (-39), 3) := by decide +kernel
theorem dX10_telling_59 : decode cX10_telling 59 = .ok (.iload_n 3, 1) := by decide +kernel
theorem dX10_telling_60 : decode cX10_telling 60 = .ok (.ifCond .eq 5, 3) := by decide +kernel
theorem dX10_telling_63 : decode cX10_telling 63 = .ok (.iload_n 2, 1) := by decide +kernel
theorem dX10_telling_64 : decode cX10_telling 64 = .ok (.ireturn, 1) := by decide +kernel
theorem dX10_telling_65 : decode cX10_telling 65 = .ok (.iinc 2 1, 3) := by decide +kernel
theorem dX10_telling_68 : decode cX10_telling 68 = .ok (.goto (-66), 3) := by decide +kernel
theorem dX10_telling_71 : decode cX10_telling 71 = .ok (.iconst (-1), 1) := by decide +kernel
theorem dX10_telling_72 : decode cX10_telling 72 = .ok (.ireturn, 1) := by decide +kernel
theorem dX10_isAhead_0 : decode cX10_isAhead 0 = .ok (.aload_n 0, 1) := by decide +kernel
theorem dX10_isAhead_1 : decode cX10_isAhead 1 = .ok (.getfield 19, 3) := by decide +kernel
theorem dX10_isAhead_4 : decode cX10_isAhead 4 = .ok (.iload_n 1, 1) := by decide +kernel
theorem dX10_isAhead_5 : decode cX10_isAhead 5 = .ok (.iaload, 1) := by decide +kernel
theorem dX10_isAhead_6 : decode cX10_isAhead 6 = .ok (.aload_n 0, 1) := by decide +kernel
theorem dX10_isAhead_7 : decode cX10_isAhead 7 = .ok (.getfield 19, 3) := by decide +kernel
theorem dX10_isAhead_10 : decode cX10_isAhead 10 = .ok (.iload_n 2, 1) := by decide +kernel
theorem dX10_isAhead_11 : decode cX10_isAhead 11 = .ok (.iaload, 1) := by decide +kernel
theorem dX10_isAhead_12 : decode cX10_isAhead 12 = .ok (.if_icmp .gt 23, 3) := by decide +kernel
theorem dX10_isAhead_15 : decode cX10_isAhead 15 = .ok (.aload_n 0, 1) := by decide +kernel
theorem dX10_isAhead_16 : decode cX10_isAhead 16 = .ok (.getfield 19, 3) := by decide +kernel
theorem dX10_isAhead_19 : decode cX10_isAhead 19 = .ok (.iload_n 1, 1) := by decide +kernel
theorem dX10_isAhead_20 : decode cX10_isAhead 20 = .ok (.iaload, 1) := by decide +kernel
theorem dX10_isAhead_21 : decode cX10_isAhead 21 = .ok (.aload_n 0, 1) := by decide +kernel
theorem dX10_isAhead_22 : decode cX10_isAhead 22 = .ok (.getfield 19, 3) := by decide +kernel
theorem dX10_isAhead_25 : decode cX10_isAhead 25 = .ok (.iload_n 2, 1) := by decide +kernel
theorem dX10_isAhead_26 : decode cX10_isAhead 26 = .ok (.iaload, 1) := by decide +kernel
theorem dX10_isAhead_27 : decode cX10_isAhead 27 = .ok (.if_icmp .ne 12, 3) := by decide +kernel
theorem dX10_isAhead_30 : decode cX10_isAhead 30 = .ok (.iload_n 1, 1) := by decide +kernel
theorem dX10_isAhead_31 : decode cX10_isAhead 31 = .ok (.iload_n 2, 1) := by decide +kernel
theorem dX10_isAhead_32 : decode cX10_isAhead 32 = .ok (.if_icmp .ge 7, 3) := by decide +kernel
theorem dX10_isAhead_35 : decode cX10_isAhead 35 = .ok (.iconst 1, 1) := by decide +kernel
theorem dX10_isAhead_36 : decode cX10_isAhead 36 = .ok (.goto 4, 3) := by decide +kernel
theorem dX10_isAhead_39 : decode cX10_isAhead 39 = .ok (.iconst 0, 1) := by decide +kernel
theorem dX10_isAhead_40 : decode cX10_isAhead 40 = .ok (.ireturn, 1) := by decide +kernel
theorem dX10_placeIn_0 : decode cX10_placeIn 0 = .ok (.iconst 0, 1) := by decide +kernel
theorem dX10_placeIn_1 : decode cX10_placeIn 1 = .ok (.istore_n 3, 1) := by decide +kernel
theorem dX10_placeIn_2 : decode cX10_placeIn 2 = .ok (.iconst 0, 1) := by decide +kernel
theorem dX10_placeIn_3 : decode cX10_placeIn 3 = .ok (.istore 4, 2) := by decide +kernel
theorem dX10_placeIn_5 : decode cX10_placeIn 5 = .ok (.iload 4, 2) := by decide +kernel
theorem dX10_placeIn_7 : decode cX10_placeIn 7 = .ok (.aload_n 0, 1) := by decide +kernel
theorem dX10_placeIn_8 : decode cX10_placeIn 8 = .ok (.getfield 109, 3) := by decide +kernel
theorem dX10_placeIn_11 : decode cX10_placeIn 11 = .ok (.if_icmp .ge 38, 3) := by decide +kernel
theorem dX10_placeIn_14 : decode cX10_placeIn 14 = .ok (.iload_n 3, 1) := by decide +kernel
theorem dX10_placeIn_15 : decode cX10_placeIn 15 = .ok (.aload_n 0, 1) := by decide +kernel
theorem dX10_placeIn_16 : decode cX10_placeIn 16 = .ok (.iload_n 1, 1) := by decide +kernel
theorem dX10_placeIn_17 : decode cX10_placeIn 17 = .ok (.iload_n 2, 1) := by decide +kernel
theorem dX10_placeIn_18 : decode cX10_placeIn 18 = .ok (.iload 4, 2) := by decide +kernel
theorem dX10_placeIn_20 : decode cX10_placeIn 20 = .ok (.invokevirtual 148, 3) := by decide +kernel
theorem dX10_placeIn_23 : decode cX10_placeIn 23 = .ok (.ifCond .eq 17, 3) := by decide +kernel
theorem dX10_placeIn_26 : decode cX10_placeIn 26 = .ok (.aload_n 0, 1) := by decide +kernel
theorem dX10_placeIn_27 : decode cX10_placeIn 27 = .ok (.iload 4, 2) := by decide +kernel
theorem dX10_placeIn_29 : decode cX10_placeIn 29 = .ok (.iload_n 1, 1) := by decide +kernel
theorem dX10_placeIn_30 : decode cX10_placeIn 30 = .ok (.invokevirtual 155, 3) := by decide +kernel
theorem dX10_placeIn_33 : decode cX10_placeIn 33 = .ok (.ifCond .eq 7, 3) := by decide +kernel
theorem dX10_placeIn_36 : decode cX10_placeIn 36 = .ok (.iconst 1, 1) := by decide +kernel
theorem dX10_placeIn_37 : decode cX10_placeIn 37 = .ok (.goto 4, 3) := by decide +kernel
theorem dX10_placeIn_40 : decode cX10_placeIn 40 = .ok (.iconst 0, 1) := by decide +kernel
theorem dX10_placeIn_41 : decode cX10_placeIn 41 = .ok (.iadd, 1) := by decide +kernel
theorem dX10_placeIn_42 : decode cX10_placeIn 42 = .ok (.istore_n 3, 1) := by decide +kernel
theorem dX10_placeIn_43 : decode cX10_placeIn 43 = .ok (.iinc 4 1, 3) := by decide +kernel
theorem dX10_placeIn_46 : decode cX10_placeIn 46 = .ok (.goto (-41), 3) := by decide +kernel
theorem dX10_placeIn_49 : decode cX10_placeIn 49 = .ok (.iload_n 3, 1) := by decide +kernel
theorem dX10_placeIn_50 : decode cX10_placeIn 50 = .ok (.ireturn, 1) := by decide +kernel
theorem dX10_presses_0 : decode cX10_presses 0 = .ok (.ldc 158, 2) := by decide +kernel
theorem dX10_presses_2 : decode cX10_presses 2 = .ok (.istore_n 2, 1) := by decide +kernel
theorem dX10_presses_3 : decode cX10_presses 3 = .ok (.iconst 0, 1) := by decide +kernel
theorem dX10_presses_4 : decode cX10_presses 4 = .ok (.istore_n 3, 1) := by decide +kernel
theorem dX10_presses_5 : decode cX10_presses 5 = .ok (.iload_n 3, 1) := by decide +kernel
theorem dX10_presses_6 : decode cX10_presses 6 = .ok (.aload_n 0, 1) := by decide +kernel
theorem dX10_presses_7 : decode cX10_presses 7 = .ok (.getfield 13, 3) := by decide +kernel
theorem dX10_presses_10 : decode cX10_presses 10 = .ok (.iload_n 1, 1) := by decide +kernel
theorem dX10_presses_11 : decode cX10_presses 11 = .ok (.iaload, 1) := by decide +kernel
theorem dX10_presses_12 : decode cX10_presses 12 = .ok (.if_icmp .gt 34, 3) := by decide +kernel
theorem dX10_presses_15 : decode cX10_presses 15 = .ok (.iload_n 3, 1) := by decide +kernel
theorem dX10_presses_16 : decode cX10_presses 16 = .ok (.aload_n 0, 1) := by decide +kernel
theorem dX10_presses_17 : decode cX10_presses 17 = .ok (.iload_n 1, 1) := by decide +kernel
theorem dX10_presses_18 : decode cX10_presses 18 = .ok (.iload_n 3, 1) := by decide +kernel
theorem dX10_presses_19 : decode cX10_presses 19 = .ok (.invokevirtual 159, 3) := by decide +kernel
theorem dX10_presses_22 : decode cX10_presses 22 = .ok (.iadd, 1) := by decide +kernel
theorem dX10_presses_23 : decode cX10_presses 23 = .ok (.iconst 1, 1) := by decide +kernel
theorem dX10_presses_24 : decode cX10_presses 24 = .ok (.iadd, 1) := by decide +kernel
theorem dX10_presses_25 : decode cX10_presses 25 = .ok (.istore 4, 2) := by decide +kernel
theorem dX10_presses_27 : decode cX10_presses 27 = .ok (.iload 4, 2) := by decide +kernel
theorem dX10_presses_29 : decode cX10_presses 29 = .ok (.iload_n 2, 1) := by decide +kernel
theorem dX10_presses_30 : decode cX10_presses 30 = .ok (.if_icmp .ge 8, 3) := by decide +kernel
theorem dX10_presses_33 : decode cX10_presses 33 = .ok (.iload 4, 2) := by decide +kernel
theorem dX10_presses_35 : decode cX10_presses 35 = .ok (.goto 4, 3) := by decide +kernel
theorem dX10_presses_38 : decode cX10_presses 38 = .ok (.iload_n 2, 1) := by decide +kernel
theorem dX10_presses_39 : decode cX10_presses 39 = .ok (.istore_n 2, 1) := by decide +kernel
theorem dX10_presses_40 : decode cX10_presses 40 = .ok (.iinc 3 1, 3) := by decide +kernel
theorem dX10_presses_43 : decode cX10_presses 43 = .ok (.goto (-38), 3) := by decide +kernel
theorem dX10_presses_46 : decode cX10_presses 46 = .ok (.iload_n 2, 1) := by decide +kernel
theorem dX10_presses_47 : decode cX10_presses 47 = .ok (.ireturn, 1) := by decide +kernel
theorem dX10_nameNow_0 : decode cX10_nameNow 0 = .ok (.iload_n 2, 1) := by decide +kernel
theorem dX10_nameNow_1 : decode cX10_nameNow 1 = .ok (.tableswitch 105 0 6 #[43, 50, 57, 63, 69, 75, 87], 43) := by decide +kernel
theorem dX10_nameNow_44 : decode cX10_nameNow 44 = .ok (.aload_n 0, 1) := by decide +kernel
theorem dX10_nameNow_45 : decode cX10_nameNow 45 = .ok (.getfield 13, 3) := by decide +kernel
theorem dX10_nameNow_48 : decode cX10_nameNow 48 = .ok (.iload_n 1, 1) := by decide +kernel
theorem dX10_nameNow_49 : decode cX10_nameNow 49 = .ok (.iaload, 1) := by decide +kernel
theorem dX10_nameNow_50 : decode cX10_nameNow 50 = .ok (.ireturn, 1) := by decide +kernel
theorem dX10_nameNow_51 : decode cX10_nameNow 51 = .ok (.aload_n 0, 1) := by decide +kernel
theorem dX10_nameNow_52 : decode cX10_nameNow 52 = .ok (.getfield 19, 3) := by decide +kernel
theorem dX10_nameNow_55 : decode cX10_nameNow 55 = .ok (.iload_n 1, 1) := by decide +kernel
theorem dX10_nameNow_56 : decode cX10_nameNow 56 = .ok (.iaload, 1) := by decide +kernel
theorem dX10_nameNow_57 : decode cX10_nameNow 57 = .ok (.ireturn, 1) := by decide +kernel
theorem dX10_nameNow_58 : decode cX10_nameNow 58 = .ok (.aload_n 0, 1) := by decide +kernel
theorem dX10_nameNow_59 : decode cX10_nameNow 59 = .ok (.iload_n 1, 1) := by decide +kernel
theorem dX10_nameNow_60 : decode cX10_nameNow 60 = .ok (.invokevirtual 162, 3) := by decide +kernel
theorem dX10_nameNow_63 : decode cX10_nameNow 63 = .ok (.ireturn, 1) := by decide +kernel
theorem dX10_nameNow_64 : decode cX10_nameNow 64 = .ok (.aload_n 0, 1) := by decide +kernel
theorem dX10_nameNow_65 : decode cX10_nameNow 65 = .ok (.iload_n 1, 1) := by decide +kernel
theorem dX10_nameNow_66 : decode cX10_nameNow 66 = .ok (.invokevirtual 166, 3) := by decide +kernel
theorem dX10_nameNow_69 : decode cX10_nameNow 69 = .ok (.ireturn, 1) := by decide +kernel
theorem dX10_nameNow_70 : decode cX10_nameNow 70 = .ok (.aload_n 0, 1) := by decide +kernel
theorem dX10_nameNow_71 : decode cX10_nameNow 71 = .ok (.iload_n 1, 1) := by decide +kernel
theorem dX10_nameNow_72 : decode cX10_nameNow 72 = .ok (.invokevirtual 169, 3) := by decide +kernel
theorem dX10_nameNow_75 : decode cX10_nameNow 75 = .ok (.ireturn, 1) := by decide +kernel
theorem dX10_nameNow_76 : decode cX10_nameNow 76 = .ok (.aload_n 0, 1) := by decide +kernel
theorem dX10_nameNow_77 : decode cX10_nameNow 77 = .ok (.iload_n 1, 1) := by decide +kernel
theorem dX10_nameNow_78 : decode cX10_nameNow 78 = .ok (.aload_n 0, 1) := by decide +kernel
theorem dX10_nameNow_79 : decode cX10_nameNow 79 = .ok (.getfield 13, 3) := by decide +kernel
theorem dX10_nameNow_82 : decode cX10_nameNow 82 = .ok (.iload_n 1, 1) := by decide +kernel
theorem dX10_nameNow_83 : decode cX10_nameNow 83 = .ok (.iaload, 1) := by decide +kernel
theorem dX10_nameNow_84 : decode cX10_nameNow 84 = .ok (.invokevirtual 159, 3) := by decide +kernel
theorem dX10_nameNow_87 : decode cX10_nameNow 87 = .ok (.ireturn, 1) := by decide +kernel
theorem dX10_nameNow_88 : decode cX10_nameNow 88 = .ok (.aload_n 0, 1) := by decide +kernel
theorem dX10_nameNow_89 : decode cX10_nameNow 89 = .ok (.getfield 130, 3) := by decide +kernel
theorem dX10_nameNow_92 : decode cX10_nameNow 92 = .ok (.ifCond .ne 7, 3) := by decide +kernel
theorem dX10_nameNow_95 : decode cX10_nameNow 95 = .ok (.iconst (-1), 1) := by decide +kernel
theorem dX10_nameNow_96 : decode cX10_nameNow 96 = .ok (.goto 9, 3) := by decide +kernel
theorem dX10_nameNow_99 : decode cX10_nameNow 99 = .ok (.aload_n 0, 1) := by decide +kernel
theorem dX10_nameNow_100 : decode cX10_nameNow 100 = .ok (.getfield 28, 3) := by decide +kernel
theorem dX10_nameNow_103 : decode cX10_nameNow 103 = .ok (.iload_n 1, 1) := by decide +kernel
theorem dX10_nameNow_104 : decode cX10_nameNow 104 = .ok (.iaload, 1) := by decide +kernel
theorem dX10_nameNow_105 : decode cX10_nameNow 105 = .ok (.ireturn, 1) := by decide +kernel
theorem dX10_nameNow_106 : decode cX10_nameNow 106 = .ok (.aload_n 0, 1) := by decide +kernel
theorem dX10_nameNow_107 : decode cX10_nameNow 107 = .ok (.iconst 3, 1) := by decide +kernel
theorem dX10_nameNow_108 : decode cX10_nameNow 108 = .ok (.invokevirtual 172, 3) := by decide +kernel
theorem dX10_nameNow_111 : decode cX10_nameNow 111 = .ok (.aload_n 0, 1) := by decide +kernel
theorem dX10_nameNow_112 : decode cX10_nameNow 112 = .ok (.getfield 64, 3) := by decide +kernel
theorem dX10_nameNow_115 : decode cX10_nameNow 115 = .ok (.iload_n 1, 1) := by decide +kernel
theorem dX10_nameNow_116 : decode cX10_nameNow 116 = .ok (.iaload, 1) := by decide +kernel
theorem dX10_nameNow_117 : decode cX10_nameNow 117 = .ok (.ireturn, 1) := by decide +kernel
theorem dX10_name_0 : decode cX10_name 0 = .ok (.aload_n 0, 1) := by decide +kernel
theorem dX10_name_1 : decode cX10_name 1 = .ok (.iload_n 1, 1) := by decide +kernel
theorem dX10_name_2 : decode cX10_name 2 = .ok (.invokevirtual 139, 3) := by decide +kernel
theorem dX10_name_5 : decode cX10_name 5 = .ok (.ifCond .ne 8, 3) := by decide +kernel
theorem dX10_name_8 : decode cX10_name 8 = .ok (.bipush (-101), 2) := by decide +kernel
theorem dX10_name_10 : decode cX10_name 10 = .ok (.goto 24, 3) := by decide +kernel
theorem dX10_name_13 : decode cX10_name 13 = .ok (.iload_n 2, 1) := by decide +kernel
theorem dX10_name_14 : decode cX10_name 14 = .ok (.iconst 0, 1) := by decide +kernel
theorem dX10_name_15 : decode cX10_name 15 = .ok (.bipush 7, 2) := by decide +kernel
theorem dX10_name_17 : decode cX10_name 17 = .ok (.invokestatic 73, 3) := by decide +kernel
theorem dX10_name_20 : decode cX10_name 20 = .ok (.ifCond .eq 12, 3) := by decide +kernel
theorem dX10_name_23 : decode cX10_name 23 = .ok (.aload_n 0, 1) := by decide +kernel
theorem dX10_name_24 : decode cX10_name 24 = .ok (.iload_n 1, 1) := by decide +kernel
theorem dX10_name_25 : decode cX10_name 25 = .ok (.iload_n 2, 1) := by decide +kernel
theorem dX10_name_26 : decode cX10_name 26 = .ok (.invokevirtual 175, 3) := by decide +kernel
theorem dX10_name_29 : decode cX10_name 29 = .ok (.goto 5, 3) := by decide +kernel
theorem dX10_name_32 : decode cX10_name 32 = .ok (.bipush (-102), 2) := by decide +kernel
theorem dX10_name_34 : decode cX10_name 34 = .ok (.ireturn, 1) := by decide +kernel
theorem dX10_sign_0 : decode cX10_sign 0 = .ok (.aload_n 0, 1) := by decide +kernel
theorem dX10_sign_1 : decode cX10_sign 1 = .ok (.iload_n 1, 1) := by decide +kernel
theorem dX10_sign_2 : decode cX10_sign 2 = .ok (.invokevirtual 139, 3) := by decide +kernel
theorem dX10_sign_5 : decode cX10_sign 5 = .ok (.ifCond .eq 33, 3) := by decide +kernel
theorem dX10_sign_8 : decode cX10_sign 8 = .ok (.iload_n 2, 1) := by decide +kernel
theorem dX10_sign_9 : decode cX10_sign 9 = .ok (.iconst 0, 1) := by decide +kernel
theorem dX10_sign_10 : decode cX10_sign 10 = .ok (.aload_n 0, 1) := by decide +kernel
theorem dX10_sign_11 : decode cX10_sign 11 = .ok (.getfield 13, 3) := by decide +kernel
theorem dX10_sign_14 : decode cX10_sign 14 = .ok (.iload_n 1, 1) := by decide +kernel
theorem dX10_sign_15 : decode cX10_sign 15 = .ok (.iaload, 1) := by decide +kernel
theorem dX10_sign_16 : decode cX10_sign 16 = .ok (.iconst 1, 1) := by decide +kernel
theorem dX10_sign_17 : decode cX10_sign 17 = .ok (.isub, 1) := by decide +kernel
theorem dX10_sign_18 : decode cX10_sign 18 = .ok (.invokestatic 73, 3) := by decide +kernel
theorem dX10_sign_21 : decode cX10_sign 21 = .ok (.ifCond .eq 17, 3) := by decide +kernel
theorem dX10_sign_24 : decode cX10_sign 24 = .ok (.aload_n 0, 1) := by decide +kernel
theorem dX10_sign_25 : decode cX10_sign 25 = .ok (.getfield 16, 3) := by decide +kernel
theorem dX10_sign_28 : decode cX10_sign 28 = .ok (.bipush 8, 2) := by decide +kernel
theorem dX10_sign_30 : decode cX10_sign 30 = .ok (.iload_n 1, 1) := by decide +kernel
theorem dX10_sign_31 : decode cX10_sign 31 = .ok (.imul, 1) := by decide +kernel
theorem dX10_sign_32 : decode cX10_sign 32 = .ok (.iload_n 2, 1) := by decide +kernel
theorem dX10_sign_33 : decode cX10_sign 33 = .ok (.iadd, 1) := by decide +kernel
theorem dX10_sign_34 : decode cX10_sign 34 = .ok (.iaload, 1) := by decide +kernel
theorem dX10_sign_35 : decode cX10_sign 35 = .ok (.goto 5, 3) := by decide +kernel
theorem dX10_sign_38 : decode cX10_sign 38 = .ok (.bipush (-101), 2) := by decide +kernel
theorem dX10_sign_40 : decode cX10_sign 40 = .ok (.ireturn, 1) := by decide +kernel
theorem dX10_digit_0 : decode cX10_digit 0 = .ok (.aload_n 0, 1) := by decide +kernel
theorem dX10_digit_1 : decode cX10_digit 1 = .ok (.iload_n 1, 1) := by decide +kernel
theorem dX10_digit_2 : decode cX10_digit 2 = .ok (.invokevirtual 139, 3) := by decide +kernel
theorem dX10_digit_5 : decode cX10_digit 5 = .ok (.ifCond .eq 28, 3) := by decide +kernel
theorem dX10_digit_8 : decode cX10_digit 8 = .ok (.iload_n 2, 1) := by decide +kernel
theorem dX10_digit_9 : decode cX10_digit 9 = .ok (.iconst 0, 1) := by decide +kernel
theorem dX10_digit_10 : decode cX10_digit 10 = .ok (.aload_n 0, 1) := by decide +kernel
theorem dX10_digit_11 : decode cX10_digit 11 = .ok (.getfield 13, 3) := by decide +kernel
theorem dX10_digit_14 : decode cX10_digit 14 = .ok (.iload_n 1, 1) := by decide +kernel
theorem dX10_digit_15 : decode cX10_digit 15 = .ok (.iaload, 1) := by decide +kernel
theorem dX10_digit_16 : decode cX10_digit 16 = .ok (.iconst 1, 1) := by decide +kernel
theorem dX10_digit_17 : decode cX10_digit 17 = .ok (.isub, 1) := by decide +kernel
theorem dX10_digit_18 : decode cX10_digit 18 = .ok (.invokestatic 73, 3) := by decide +kernel
theorem dX10_digit_21 : decode cX10_digit 21 = .ok (.ifCond .eq 12, 3) := by decide +kernel
theorem dX10_digit_24 : decode cX10_digit 24 = .ok (.aload_n 0, 1) := by decide +kernel
theorem dX10_digit_25 : decode cX10_digit 25 = .ok (.iload_n 1, 1) := by decide +kernel
theorem dX10_digit_26 : decode cX10_digit 26 = .ok (.iload_n 2, 1) := by decide +kernel
theorem dX10_digit_27 : decode cX10_digit 27 = .ok (.invokevirtual 145, 3) := by decide +kernel
theorem dX10_digit_30 : decode cX10_digit 30 = .ok (.goto 5, 3) := by decide +kernel
theorem dX10_digit_33 : decode cX10_digit 33 = .ok (.bipush (-101), 2) := by decide +kernel
theorem dX10_digit_35 : decode cX10_digit 35 = .ok (.ireturn, 1) := by decide +kernel
theorem dX10_laid_0 : decode cX10_laid 0 = .ok (.iload_n 1, 1) := by decide +kernel
theorem dX10_laid_1 : decode cX10_laid 1 = .ok (.bipush 97, 2) := by decide +kernel
theorem dX10_laid_3 : decode cX10_laid 3 = .ok (.bipush 122, 2) := by decide +kernel
theorem dX10_laid_5 : decode cX10_laid 5 = .ok (.invokestatic 73, 3) := by decide +kernel
theorem dX10_laid_8 : decode cX10_laid 8 = .ok (.ifCond .eq 15, 3) := by decide +kernel
theorem dX10_laid_11 : decode cX10_laid 11 = .ok (.aload_n 0, 1) := by decide +kernel
theorem dX10_laid_12 : decode cX10_laid 12 = .ok (.getfield 22, 3) := by decide +kernel
theorem dX10_laid_15 : decode cX10_laid 15 = .ok (.iload_n 1, 1) := by decide +kernel
theorem dX10_laid_16 : decode cX10_laid 16 = .ok (.bipush 97, 2) := by decide +kernel
theorem dX10_laid_18 : decode cX10_laid 18 = .ok (.isub, 1) := by decide +kernel
theorem dX10_laid_19 : decode cX10_laid 19 = .ok (.iaload, 1) := by decide +kernel
theorem dX10_laid_20 : decode cX10_laid 20 = .ok (.goto 5, 3) := by decide +kernel
theorem dX10_laid_23 : decode cX10_laid 23 = .ok (.bipush (-102), 2) := by decide +kernel
theorem dX10_laid_25 : decode cX10_laid 25 = .ok (.ireturn, 1) := by decide +kernel
theorem dX10_usesAll_0 : decode cX10_usesAll 0 = .ok (.iconst 0, 1) := by decide +kernel
theorem dX10_usesAll_1 : decode cX10_usesAll 1 = .ok (.istore_n 1, 1) := by decide +kernel
theorem dX10_usesAll_2 : decode cX10_usesAll 2 = .ok (.iconst 0, 1) := by decide +kernel
theorem dX10_usesAll_3 : decode cX10_usesAll 3 = .ok (.istore_n 2, 1) := by decide +kernel
theorem dX10_usesAll_4 : decode cX10_usesAll 4 = .ok (.iload_n 2, 1) := by decide +kernel
theorem dX10_usesAll_5 : decode cX10_usesAll 5 = .ok (.aload_n 0, 1) := by decide +kernel
theorem dX10_usesAll_6 : decode cX10_usesAll 6 = .ok (.getfield 109, 3) := by decide +kernel
theorem dX10_usesAll_9 : decode cX10_usesAll 9 = .ok (.if_icmp .ge 18, 3) := by decide +kernel
theorem dX10_usesAll_12 : decode cX10_usesAll 12 = .ok (.iload_n 1, 1) := by decide +kernel
theorem dX10_usesAll_13 : decode cX10_usesAll 13 = .ok (.aload_n 0, 1) := by decide +kernel
theorem dX10_usesAll_14 : decode cX10_usesAll 14 = .ok (.getfield 19, 3) := by decide +kernel
theorem dX10_usesAll_17 : decode cX10_usesAll 17 = .ok (.iload_n 2, 1) := by decide +kernel
theorem dX10_usesAll_18 : decode cX10_usesAll 18 = .ok (.iaload, 1) := by decide +kernel
theorem dX10_usesAll_19 : decode cX10_usesAll 19 = .ok (.iadd, 1) := by decide +kernel
theorem dX10_usesAll_20 : decode cX10_usesAll 20 = .ok (.istore_n 1, 1) := by decide +kernel
theorem dX10_usesAll_21 : decode cX10_usesAll 21 = .ok (.iinc 2 1, 3) := by decide +kernel
theorem dX10_usesAll_24 : decode cX10_usesAll 24 = .ok (.goto (-20), 3) := by decide +kernel
theorem dX10_usesAll_27 : decode cX10_usesAll 27 = .ok (.iload_n 1, 1) := by decide +kernel
theorem dX10_usesAll_28 : decode cX10_usesAll 28 = .ok (.ireturn, 1) := by decide +kernel
theorem dX10_withTwins_0 : decode cX10_withTwins 0 = .ok (.iconst 0, 1) := by decide +kernel
theorem dX10_withTwins_1 : decode cX10_withTwins 1 = .ok (.istore_n 1, 1) := by decide +kernel
theorem dX10_withTwins_2 : decode cX10_withTwins 2 = .ok (.iconst 0, 1) := by decide +kernel
theorem dX10_withTwins_3 : decode cX10_withTwins 3 = .ok (.istore_n 2, 1) := by decide +kernel
theorem dX10_withTwins_4 : decode cX10_withTwins 4 = .ok (.iload_n 2, 1) := by decide +kernel
theorem dX10_withTwins_5 : decode cX10_withTwins 5 = .ok (.aload_n 0, 1) := by decide +kernel
theorem dX10_withTwins_6 : decode cX10_withTwins 6 = .ok (.getfield 109, 3) := by decide +kernel
theorem dX10_withTwins_9 : decode cX10_withTwins 9 = .ok (.if_icmp .ge 25, 3) := by decide +kernel
theorem dX10_withTwins_12 : decode cX10_withTwins 12 = .ok (.iload_n 1, 1) := by decide +kernel
theorem dX10_withTwins_13 : decode cX10_withTwins 13 = .ok (.aload_n 0, 1) := by decide +kernel
theorem dX10_withTwins_14 : decode cX10_withTwins 14 = .ok (.iload_n 2, 1) := by decide +kernel
theorem dX10_withTwins_15 : decode cX10_withTwins 15 = .ok (.invokevirtual 162, 3) := by decide +kernel
theorem dX10_withTwins_18 : decode cX10_withTwins 18 = .ok (.ifCond .le 7, 3) := by decide +kernel
theorem dX10_withTwins_21 : decode cX10_withTwins 21 = .ok (.iconst 1, 1) := by decide +kernel
theorem dX10_withTwins_22 : decode cX10_withTwins 22 = .ok (.goto 4, 3) := by decide +kernel
theorem dX10_withTwins_25 : decode cX10_withTwins 25 = .ok (.iconst 0, 1) := by decide +kernel
theorem dX10_withTwins_26 : decode cX10_withTwins 26 = .ok (.iadd, 1) := by decide +kernel
theorem dX10_withTwins_27 : decode cX10_withTwins 27 = .ok (.istore_n 1, 1) := by decide +kernel
theorem dX10_withTwins_28 : decode cX10_withTwins 28 = .ok (.iinc 2 1, 3) := by decide +kernel
theorem dX10_withTwins_31 : decode cX10_withTwins 31 = .ok (.goto (-27), 3) := by decide +kernel
theorem dX10_withTwins_34 : decode cX10_withTwins 34 = .ok (.iload_n 1, 1) := by decide +kernel
theorem dX10_withTwins_35 : decode cX10_withTwins 35 = .ok (.ireturn, 1) := by decide +kernel
theorem dX10_codesMany_0 : decode cX10_codesMany 0 = .ok (.iconst 0, 1) := by decide +kernel
theorem dX10_codesMany_1 : decode cX10_codesMany 1 = .ok (.istore_n 1, 1) := by decide +kernel
theorem dX10_codesMany_2 : decode cX10_codesMany 2 = .ok (.iconst 0, 1) := by decide +kernel
theorem dX10_codesMany_3 : decode cX10_codesMany 3 = .ok (.istore_n 2, 1) := by decide +kernel
theorem dX10_codesMany_4 : decode cX10_codesMany 4 = .ok (.iload_n 2, 1) := by decide +kernel
theorem dX10_codesMany_5 : decode cX10_codesMany 5 = .ok (.aload_n 0, 1) := by decide +kernel
theorem dX10_codesMany_6 : decode cX10_codesMany 6 = .ok (.getfield 109, 3) := by decide +kernel
theorem dX10_codesMany_9 : decode cX10_codesMany 9 = .ok (.if_icmp .ge 58, 3) := by decide +kernel
theorem dX10_codesMany_12 : decode cX10_codesMany 12 = .ok (.iconst 1, 1) := by decide +kernel
theorem dX10_codesMany_13 : decode cX10_codesMany 13 = .ok (.istore_n 3, 1) := by decide +kernel
theorem dX10_codesMany_14 : decode cX10_codesMany 14 = .ok (.iconst 0, 1) := by decide +kernel
theorem dX10_codesMany_15 : decode cX10_codesMany 15 = .ok (.istore 4, 2) := by decide +kernel
theorem dX10_codesMany_17 : decode cX10_codesMany 17 = .ok (.iload 4, 2) := by decide +kernel
theorem dX10_codesMany_19 : decode cX10_codesMany 19 = .ok (.iload_n 2, 1) := by decide +kernel
theorem dX10_codesMany_20 : decode cX10_codesMany 20 = .ok (.if_icmp .ge 29, 3) := by decide +kernel
theorem dX10_codesMany_23 : decode cX10_codesMany 23 = .ok (.iload_n 3, 1) := by decide +kernel
theorem dX10_codesMany_24 : decode cX10_codesMany 24 = .ok (.ifCond .eq 17, 3) := by decide +kernel
theorem dX10_codesMany_27 : decode cX10_codesMany 27 = .ok (.aload_n 0, 1) := by decide +kernel
theorem dX10_codesMany_28 : decode cX10_codesMany 28 = .ok (.iload_n 2, 1) := by decide +kernel
theorem dX10_codesMany_29 : decode cX10_codesMany 29 = .ok (.iload 4, 2) := by decide +kernel
theorem dX10_codesMany_31 : decode cX10_codesMany 31 = .ok (.invokevirtual 151, 3) := by decide +kernel
theorem dX10_codesMany_34 : decode cX10_codesMany 34 = .ok (.ifCond .ne 7, 3) := by decide +kernel
theorem dX10_codesMany_37 : decode cX10_codesMany 37 = .ok (.iconst 1, 1) := by decide +kernel
theorem dX10_codesMany_38 : decode cX10_codesMany 38 = .ok (.goto 4, 3) := by decide +kernel
theorem dX10_codesMany_41 : decode cX10_codesMany 41 = .ok (.iconst 0, 1) := by decide +kernel
theorem dX10_codesMany_42 : decode cX10_codesMany 42 = .ok (.istore_n 3, 1) := by decide +kernel
theorem dX10_codesMany_43 : decode cX10_codesMany 43 = .ok (.iinc 4 1, 3) := by decide +kernel
theorem dX10_codesMany_46 : decode cX10_codesMany 46 = .ok (.goto (-29), 3) := by decide +kernel
theorem dX10_codesMany_49 : decode cX10_codesMany 49 = .ok (.iload_n 1, 1) := by decide +kernel
theorem dX10_codesMany_50 : decode cX10_codesMany 50 = .ok (.iload_n 3, 1) := by decide +kernel
theorem dX10_codesMany_51 : decode cX10_codesMany 51 = .ok (.ifCond .eq 7, 3) := by decide +kernel
theorem dX10_codesMany_54 : decode cX10_codesMany 54 = .ok (.iconst 1, 1) := by decide +kernel
theorem dX10_codesMany_55 : decode cX10_codesMany 55 = .ok (.goto 4, 3) := by decide +kernel
theorem dX10_codesMany_58 : decode cX10_codesMany 58 = .ok (.iconst 0, 1) := by decide +kernel
theorem dX10_codesMany_59 : decode cX10_codesMany 59 = .ok (.iadd, 1) := by decide +kernel
theorem dX10_codesMany_60 : decode cX10_codesMany 60 = .ok (.istore_n 1, 1) := by decide +kernel
theorem dX10_codesMany_61 : decode cX10_codesMany 61 = .ok (.iinc 2 1, 3) := by decide +kernel
theorem dX10_codesMany_64 : decode cX10_codesMany 64 = .ok (.goto (-60), 3) := by decide +kernel
theorem dX10_codesMany_67 : decode cX10_codesMany 67 = .ok (.iload_n 1, 1) := by decide +kernel
theorem dX10_codesMany_68 : decode cX10_codesMany 68 = .ok (.ireturn, 1) := by decide +kernel
theorem dX10_mostTelling_0 : decode cX10_mostTelling 0 = .ok (.iconst (-1), 1) := by decide +kernel
theorem dX10_mostTelling_1 : decode cX10_mostTelling 1 = .ok (.istore_n 1, 1) := by decide +kernel
theorem dX10_mostTelling_2 : decode cX10_mostTelling 2 = .ok (.iconst 0, 1) := by decide +kernel
theorem dX10_mostTelling_3 : decode cX10_mostTelling 3 = .ok (.istore_n 2, 1) := by decide +kernel
theorem dX10_mostTelling_4 : decode cX10_mostTelling 4 = .ok (.iload_n 2, 1) := by decide +kernel
theorem dX10_mostTelling_5 : decode cX10_mostTelling 5 = .ok (.aload_n 0, 1) := by decide +kernel
theorem dX10_mostTelling_6 : decode cX10_mostTelling 6 = .ok (.getfield 109, 3) := by decide +kernel
theorem dX10_mostTelling_9 : decode cX10_mostTelling 9 = .ok (.if_icmp .ge 26, 3) := by decide +kernel
theorem dX10_mostTelling_12 : decode cX10_mostTelling 12 = .ok (.aload_n 0, 1) := by decide +kernel
theorem dX10_mostTelling_13 : decode cX10_mostTelling 13 = .ok (.iload_n 2, 1) := by decide +kernel
theorem dX10_mostTelling_14 : decode cX10_mostTelling 14 = .ok (.invokevirtual 166, 3) := by decide +kernel
theorem dX10_mostTelling_17 : decode cX10_mostTelling 17 = .ok (.istore_n 3, 1) := by decide +kernel
theorem dX10_mostTelling_18 : decode cX10_mostTelling 18 = .ok (.iload_n 3, 1) := by decide +kernel
theorem dX10_mostTelling_19 : decode cX10_mostTelling 19 = .ok (.iload_n 1, 1) := by decide +kernel
theorem dX10_mostTelling_20 : decode cX10_mostTelling 20 = .ok (.if_icmp .le 7, 3) := by decide +kernel
theorem dX10_mostTelling_23 : decode cX10_mostTelling 23 = .ok (.iload_n 3, 1) := by decide +kernel
theorem dX10_mostTelling_24 : decode cX10_mostTelling 24 = .ok (.goto 4, 3) := by decide +kernel
theorem dX10_mostTelling_27 : decode cX10_mostTelling 27 = .ok (.iload_n 1, 1) := by decide +kernel
theorem dX10_mostTelling_28 : decode cX10_mostTelling 28 = .ok (.istore_n 1, 1) := by decide +kernel
theorem dX10_mostTelling_29 : decode cX10_mostTelling 29 = .ok (.iinc 2 1, 3) := by decide +kernel
theorem dX10_mostTelling_32 : decode cX10_mostTelling 32 = .ok (.goto (-28), 3) := by decide +kernel
theorem dX10_mostTelling_35 : decode cX10_mostTelling 35 = .ok (.iload_n 1, 1) := by decide +kernel
theorem dX10_mostTelling_36 : decode cX10_mostTelling 36 = .ok (.ireturn, 1) := by decide +kernel
theorem dX10_pressesAll_0 : decode cX10_pressesAll 0 = .ok (.iconst 0, 1) := by decide +kernel
theorem dX10_pressesAll_1 : decode cX10_pressesAll 1 = .ok (.istore_n 1, 1) := by decide +kernel
theorem dX10_pressesAll_2 : decode cX10_pressesAll 2 = .ok (.iconst 0, 1) := by decide +kernel
theorem dX10_pressesAll_3 : decode cX10_pressesAll 3 = .ok (.istore_n 2, 1) := by decide +kernel
theorem dX10_pressesAll_4 : decode cX10_pressesAll 4 = .ok (.iload_n 2, 1) := by decide +kernel
theorem dX10_pressesAll_5 : decode cX10_pressesAll 5 = .ok (.aload_n 0, 1) := by decide +kernel
theorem dX10_pressesAll_6 : decode cX10_pressesAll 6 = .ok (.getfield 109, 3) := by decide +kernel
theorem dX10_pressesAll_9 : decode cX10_pressesAll 9 = .ok (.if_icmp .ge 24, 3) := by decide +kernel
theorem dX10_pressesAll_12 : decode cX10_pressesAll 12 = .ok (.iload_n 1, 1) := by decide +kernel
theorem dX10_pressesAll_13 : decode cX10_pressesAll 13 = .ok (.aload_n 0, 1) := by decide +kernel
theorem dX10_pressesAll_14 : decode cX10_pressesAll 14 = .ok (.getfield 19, 3) := by decide +kernel
theorem dX10_pressesAll_17 : decode cX10_pressesAll 17 = .ok (.iload_n 2, 1) := by decide +kernel
theorem dX10_pressesAll_18 : decode cX10_pressesAll 18 = .ok (.iaload, 1) := by decide +kernel
theorem dX10_pressesAll_19 : decode cX10_pressesAll 19 = .ok (.aload_n 0, 1) := by decide +kernel
theorem dX10_pressesAll_20 : decode cX10_pressesAll 20 = .ok (.iload_n 2, 1) := by decide +kernel
theorem dX10_pressesAll_21 : decode cX10_pressesAll 21 = .ok (.invokevirtual 169, 3) := by decide +kernel
theorem dX10_pressesAll_24 : decode cX10_pressesAll 24 = .ok (.imul, 1) := by decide +kernel
theorem dX10_pressesAll_25 : decode cX10_pressesAll 25 = .ok (.iadd, 1) := by decide +kernel
theorem dX10_pressesAll_26 : decode cX10_pressesAll 26 = .ok (.istore_n 1, 1) := by decide +kernel
theorem dX10_pressesAll_27 : decode cX10_pressesAll 27 = .ok (.iinc 2 1, 3) := by decide +kernel
theorem dX10_pressesAll_30 : decode cX10_pressesAll 30 = .ok (.goto (-26), 3) := by decide +kernel
theorem dX10_pressesAll_33 : decode cX10_pressesAll 33 = .ok (.iload_n 1, 1) := by decide +kernel
theorem dX10_pressesAll_34 : decode cX10_pressesAll 34 = .ok (.ireturn, 1) := by decide +kernel
theorem dX10_digitsAll_0 : decode cX10_digitsAll 0 = .ok (.iconst 0, 1) := by decide +kernel
theorem dX10_digitsAll_1 : decode cX10_digitsAll 1 = .ok (.istore_n 1, 1) := by decide +kernel
theorem dX10_digitsAll_2 : decode cX10_digitsAll 2 = .ok (.iconst 0, 1) := by decide +kernel
theorem dX10_digitsAll_3 : decode cX10_digitsAll 3 = .ok (.istore_n 2, 1) := by decide +kernel
theorem dX10_digitsAll_4 : decode cX10_digitsAll 4 = .ok (.iload_n 2, 1) := by decide +kernel
theorem dX10_digitsAll_5 : decode cX10_digitsAll 5 = .ok (.aload_n 0, 1) := by decide +kernel
theorem dX10_digitsAll_6 : decode cX10_digitsAll 6 = .ok (.getfield 109, 3) := by decide +kernel
theorem dX10_digitsAll_9 : decode cX10_digitsAll 9 = .ok (.if_icmp .ge 25, 3) := by decide +kernel
theorem dX10_digitsAll_12 : decode cX10_digitsAll 12 = .ok (.iload_n 1, 1) := by decide +kernel
theorem dX10_digitsAll_13 : decode cX10_digitsAll 13 = .ok (.aload_n 0, 1) := by decide +kernel
theorem dX10_digitsAll_14 : decode cX10_digitsAll 14 = .ok (.getfield 19, 3) := by decide +kernel
theorem dX10_digitsAll_17 : decode cX10_digitsAll 17 = .ok (.iload_n 2, 1) := by decide +kernel
theorem dX10_digitsAll_18 : decode cX10_digitsAll 18 = .ok (.iaload, 1) := by decide +kernel
theorem dX10_digitsAll_19 : decode cX10_digitsAll 19 = .ok (.aload_n 0, 1) := by decide +kernel
theorem dX10_digitsAll_20 : decode cX10_digitsAll 20 = .ok (.getfield 13, 3) := by decide +kernel
theorem dX10_digitsAll_23 : decode cX10_digitsAll 23 = .ok (.iload_n 2, 1) := by decide +kernel
theorem dX10_digitsAll_24 : decode cX10_digitsAll 24 = .ok (.iaload, 1) := by decide +kernel
theorem dX10_digitsAll_25 : decode cX10_digitsAll 25 = .ok (.imul, 1) := by decide +kernel
theorem dX10_digitsAll_26 : decode cX10_digitsAll 26 = .ok (.iadd, 1) := by decide +kernel
theorem dX10_digitsAll_27 : decode cX10_digitsAll 27 = .ok (.istore_n 1, 1) := by decide +kernel
theorem dX10_digitsAll_28 : decode cX10_digitsAll 28 = .ok (.iinc 2 1, 3) := by decide +kernel
theorem dX10_digitsAll_31 : decode cX10_digitsAll 31 = .ok (.goto (-27), 3) := by decide +kernel
theorem dX10_digitsAll_34 : decode cX10_digitsAll 34 = .ok (.iload_n 1, 1) := by decide +kernel
theorem dX10_digitsAll_35 : decode cX10_digitsAll 35 = .ok (.ireturn, 1) := by decide +kernel
theorem dX10_aboutNow_0 : decode cX10_aboutNow 0 = .ok (.iload_n 1, 1) := by decide +kernel
theorem dX10_aboutNow_1 : decode cX10_aboutNow 1 = .ok (.tableswitch 69 0 5 #[39, 44, 49, 54, 59, 64], 39) := by decide +kernel
theorem dX10_aboutNow_40 : decode cX10_aboutNow 40 = .ok (.aload_n 0, 1) := by decide +kernel
theorem dX10_aboutNow_41 : decode cX10_aboutNow 41 = .ok (.getfield 109, 3) := by decide +kernel
theorem dX10_aboutNow_44 : decode cX10_aboutNow 44 = .ok (.ireturn, 1) := by decide +kernel
theorem dX10_aboutNow_45 : decode cX10_aboutNow 45 = .ok (.aload_n 0, 1) := by decide +kernel
theorem dX10_aboutNow_46 : decode cX10_aboutNow 46 = .ok (.invokevirtual 178, 3) := by decide +kernel
theorem dX10_aboutNow_49 : decode cX10_aboutNow 49 = .ok (.ireturn, 1) := by decide +kernel
theorem dX10_aboutNow_50 : decode cX10_aboutNow 50 = .ok (.aload_n 0, 1) := by decide +kernel
theorem dX10_aboutNow_51 : decode cX10_aboutNow 51 = .ok (.invokevirtual 181, 3) := by decide +kernel
theorem dX10_aboutNow_54 : decode cX10_aboutNow 54 = .ok (.ireturn, 1) := by decide +kernel
theorem dX10_aboutNow_55 : decode cX10_aboutNow 55 = .ok (.aload_n 0, 1) := by decide +kernel
theorem dX10_aboutNow_56 : decode cX10_aboutNow 56 = .ok (.invokevirtual 184, 3) := by decide +kernel
theorem dX10_aboutNow_59 : decode cX10_aboutNow 59 = .ok (.ireturn, 1) := by decide +kernel
theorem dX10_aboutNow_60 : decode cX10_aboutNow 60 = .ok (.aload_n 0, 1) := by decide +kernel
theorem dX10_aboutNow_61 : decode cX10_aboutNow 61 = .ok (.invokevirtual 187, 3) := by decide +kernel
theorem dX10_aboutNow_64 : decode cX10_aboutNow 64 = .ok (.ireturn, 1) := by decide +kernel
theorem dX10_aboutNow_65 : decode cX10_aboutNow 65 = .ok (.aload_n 0, 1) := by decide +kernel
theorem dX10_aboutNow_66 : decode cX10_aboutNow 66 = .ok (.invokevirtual 190, 3) := by decide +kernel
theorem dX10_aboutNow_69 : decode cX10_aboutNow 69 = .ok (.ireturn, 1) := by decide +kernel
theorem dX10_aboutNow_70 : decode cX10_aboutNow 70 = .ok (.aload_n 0, 1) := by decide +kernel
theorem dX10_aboutNow_71 : decode cX10_aboutNow 71 = .ok (.invokevirtual 193, 3) := by decide +kernel
theorem dX10_aboutNow_74 : decode cX10_aboutNow 74 = .ok (.ireturn, 1) := by decide +kernel
theorem dX10_about_0 : decode cX10_about 0 = .ok (.iload_n 1, 1) := by decide +kernel
theorem dX10_about_1 : decode cX10_about 1 = .ok (.iconst 0, 1) := by decide +kernel
theorem dX10_about_2 : decode cX10_about 2 = .ok (.bipush 6, 2) := by decide +kernel
theorem dX10_about_4 : decode cX10_about 4 = .ok (.invokestatic 73, 3) := by decide +kernel
theorem dX10_about_7 : decode cX10_about 7 = .ok (.ifCond .eq 11, 3) := by decide +kernel
theorem dX10_about_10 : decode cX10_about 10 = .ok (.aload_n 0, 1) := by decide +kernel
theorem dX10_about_11 : decode cX10_about 11 = .ok (.iload_n 1, 1) := by decide +kernel
theorem dX10_about_12 : decode cX10_about 12 = .ok (.invokevirtual 196, 3) := by decide +kernel
theorem dX10_about_15 : decode cX10_about 15 = .ok (.goto 5, 3) := by decide +kernel
theorem dX10_about_18 : decode cX10_about 18 = .ok (.bipush (-102), 2) := by decide +kernel
theorem dX10_about_20 : decode cX10_about 20 = .ok (.ireturn, 1) := by decide +kernel
theorem dX10_press_0 : decode cX10_press 0 = .ok (.iload_n 1, 1) := by decide +kernel
theorem dX10_press_1 : decode cX10_press 1 = .ok (.iconst 2, 1) := by decide +kernel
theorem dX10_press_2 : decode cX10_press 2 = .ok (.bipush 9, 2) := by decide +kernel
theorem dX10_press_4 : decode cX10_press 4 = .ok (.invokestatic 73, 3) := by decide +kernel
theorem dX10_press_7 : decode cX10_press 7 = .ok (.ifCond .ne 6, 3) := by decide +kernel
theorem dX10_press_10 : decode cX10_press 10 = .ok (.bipush (-102), 2) := by decide +kernel
theorem dX10_press_12 : decode cX10_press 12 = .ok (.ireturn, 1) := by decide +kernel
theorem dX10_press_13 : decode cX10_press 13 = .ok (.aload_n 0, 1) := by decide +kernel
theorem dX10_press_14 : decode cX10_press 14 = .ok (.getfield 199, 3) := by decide +kernel
theorem dX10_press_17 : decode cX10_press 17 = .ok (.bipush 10, 2) := by decide +kernel
theorem dX10_press_19 : decode cX10_press 19 = .ok (.if_icmp .ne 6, 3) := by decide +kernel
theorem dX10_press_22 : decode cX10_press 22 = .ok (.bipush (-104), 2) := by decide +kernel
theorem dX10_press_24 : decode cX10_press 24 = .ok (.ireturn, 1) := by decide +kernel
theorem dX10_press_25 : decode cX10_press 25 = .ok (.aload_n 0, 1) := by decide +kernel
theorem dX10_press_26 : decode cX10_press 26 = .ok (.getfield 25, 3) := by decide +kernel
theorem dX10_press_29 : decode cX10_press 29 = .ok (.aload_n 0, 1) := by decide +kernel
theorem dX10_press_30 : decode cX10_press 30 = .ok (.getfield 199, 3) := by decide +kernel
theorem dX10_press_33 : decode cX10_press 33 = .ok (.iload_n 1, 1) := by decide +kernel
theorem dX10_press_34 : decode cX10_press 34 = .ok (.iastore, 1) := by decide +kernel
theorem dX10_press_35 : decode cX10_press 35 = .ok (.aload_n 0, 1) := by decide +kernel
theorem dX10_press_36 : decode cX10_press 36 = .ok (.dup, 1) := by decide +kernel
theorem dX10_press_37 : decode cX10_press 37 = .ok (.getfield 199, 3) := by decide +kernel
theorem dX10_press_40 : decode cX10_press 40 = .ok (.iconst 1, 1) := by decide +kernel
theorem dX10_press_41 : decode cX10_press 41 = .ok (.iadd, 1) := by decide +kernel
theorem dX10_press_42 : decode cX10_press 42 = .ok (.putfield 199, 3) := by decide +kernel
theorem dX10_press_45 : decode cX10_press 45 = .ok (.aload_n 0, 1) := by decide +kernel
theorem dX10_press_46 : decode cX10_press 46 = .ok (.getfield 199, 3) := by decide +kernel
theorem dX10_press_49 : decode cX10_press 49 = .ok (.ireturn, 1) := by decide +kernel
theorem dX10_back_0 : decode cX10_back 0 = .ok (.aload_n 0, 1) := by decide +kernel
theorem dX10_back_1 : decode cX10_back 1 = .ok (.getfield 199, 3) := by decide +kernel
theorem dX10_back_4 : decode cX10_back 4 = .ok (.ifCond .ne 6, 3) := by decide +kernel
theorem dX10_back_7 : decode cX10_back 7 = .ok (.bipush (-103), 2) := by decide +kernel
theorem dX10_back_9 : decode cX10_back 9 = .ok (.ireturn, 1) := by decide +kernel
theorem dX10_back_10 : decode cX10_back 10 = .ok (.aload_n 0, 1) := by decide +kernel
theorem dX10_back_11 : decode cX10_back 11 = .ok (.dup, 1) := by decide +kernel
theorem dX10_back_12 : decode cX10_back 12 = .ok (.getfield 199, 3) := by decide +kernel
theorem dX10_back_15 : decode cX10_back 15 = .ok (.iconst 1, 1) := by decide +kernel
theorem dX10_back_16 : decode cX10_back 16 = .ok (.isub, 1) := by decide +kernel
theorem dX10_back_17 : decode cX10_back 17 = .ok (.putfield 199, 3) := by decide +kernel
theorem dX10_back_20 : decode cX10_back 20 = .ok (.aload_n 0, 1) := by decide +kernel
theorem dX10_back_21 : decode cX10_back 21 = .ok (.getfield 199, 3) := by decide +kernel
theorem dX10_back_24 : decode cX10_back 24 = .ok (.ireturn, 1) := by decide +kernel
theorem dX10_wipe_0 : decode cX10_wipe 0 = .ok (.aload_n 0, 1) := by decide +kernel
theorem dX10_wipe_1 : decode cX10_wipe 1 = .ok (.getfield 199, 3) := by decide +kernel
theorem dX10_wipe_4 : decode cX10_wipe 4 = .ok (.istore_n 1, 1) := by decide +kernel
theorem dX10_wipe_5 : decode cX10_wipe 5 = .ok (.aload_n 0, 1) := by decide +kernel
theorem dX10_wipe_6 : decode cX10_wipe 6 = .ok (.iconst 0, 1) := by decide +kernel
theorem dX10_wipe_7 : decode cX10_wipe 7 = .ok (.putfield 199, 3) := by decide +kernel
theorem dX10_wipe_10 : decode cX10_wipe 10 = .ok (.iload_n 1, 1) := by decide +kernel
theorem dX10_wipe_11 : decode cX10_wipe 11 = .ok (.ireturn, 1) := by decide +kernel
theorem dX10_typed_0 : decode cX10_typed 0 = .ok (.iload_n 1, 1) := by decide +kernel
theorem dX10_typed_1 : decode cX10_typed 1 = .ok (.iconst 0, 1) := by decide +kernel
theorem dX10_typed_2 : decode cX10_typed 2 = .ok (.aload_n 0, 1) := by decide +kernel
theorem dX10_typed_3 : decode cX10_typed 3 = .ok (.getfield 199, 3) := by decide +kernel
theorem dX10_typed_6 : decode cX10_typed 6 = .ok (.iconst 1, 1) := by decide +kernel
theorem dX10_typed_7 : decode cX10_typed 7 = .ok (.isub, 1) := by decide +kernel
theorem dX10_typed_8 : decode cX10_typed 8 = .ok (.invokestatic 73, 3) := by decide +kernel
theorem dX10_typed_11 : decode cX10_typed 11 = .ok (.ifCond .eq 12, 3) := by decide +kernel
theorem dX10_typed_14 : decode cX10_typed 14 = .ok (.aload_n 0, 1) := by decide +kernel
theorem dX10_typed_15 : decode cX10_typed 15 = .ok (.getfield 25, 3) := by decide +kernel
theorem dX10_typed_18 : decode cX10_typed 18 = .ok (.iload_n 1, 1) := by decide +kernel
theorem dX10_typed_19 : decode cX10_typed 19 = .ok (.iaload, 1) := by decide +kernel
theorem dX10_typed_20 : decode cX10_typed 20 = .ok (.goto 5, 3) := by decide +kernel
theorem dX10_typed_23 : decode cX10_typed 23 = .ok (.bipush (-101), 2) := by decide +kernel
theorem dX10_typed_25 : decode cX10_typed 25 = .ok (.ireturn, 1) := by decide +kernel
theorem dX10_isChosen_0 : decode cX10_isChosen 0 = .ok (.aload_n 0, 1) := by decide +kernel
theorem dX10_isChosen_1 : decode cX10_isChosen 1 = .ok (.getfield 199, 3) := by decide +kernel
theorem dX10_isChosen_4 : decode cX10_isChosen 4 = .ok (.aload_n 0, 1) := by decide +kernel
theorem dX10_isChosen_5 : decode cX10_isChosen 5 = .ok (.getfield 13, 3) := by decide +kernel
theorem dX10_isChosen_8 : decode cX10_isChosen 8 = .ok (.iload_n 1, 1) := by decide +kernel
theorem dX10_isChosen_9 : decode cX10_isChosen 9 = .ok (.iaload, 1) := by decide +kernel
theorem dX10_isChosen_10 : decode cX10_isChosen 10 = .ok (.if_icmp .gt 7, 3) := by decide +kernel
theorem dX10_isChosen_13 : decode cX10_isChosen 13 = .ok (.iconst 1, 1) := by decide +kernel
theorem dX10_isChosen_14 : decode cX10_isChosen 14 = .ok (.goto 4, 3) := by decide +kernel
theorem dX10_isChosen_17 : decode cX10_isChosen 17 = .ok (.iconst 0, 1) := by decide +kernel
theorem dX10_isChosen_18 : decode cX10_isChosen 18 = .ok (.istore_n 2, 1) := by decide +kernel
theorem dX10_isChosen_19 : decode cX10_isChosen 19 = .ok (.iconst 0, 1) := by decide +kernel
theorem dX10_isChosen_20 : decode cX10_isChosen 20 = .ok (.istore_n 3, 1) := by decide +kernel
theorem dX10_isChosen_21 : decode cX10_isChosen 21 = .ok (.iload_n 3, 1) := by decide +kernel
theorem dX10_isChosen_22 : decode cX10_isChosen 22 = .ok (.aload_n 0, 1) := by decide +kernel
theorem dX10_isChosen_23 : decode cX10_isChosen 23 = .ok (.getfield 199, 3) := by decide +kernel
theorem dX10_isChosen_26 : decode cX10_isChosen 26 = .ok (.if_icmp .ge 34, 3) := by decide +kernel
theorem dX10_isChosen_29 : decode cX10_isChosen 29 = .ok (.iload_n 2, 1) := by decide +kernel
theorem dX10_isChosen_30 : decode cX10_isChosen 30 = .ok (.ifCond .eq 30, 3) := by decide +kernel
theorem dX10_isChosen_33 : decode cX10_isChosen 33 = .ok (.aload_n 0, 1) := by decide +kernel
theorem dX10_isChosen_34 : decode cX10_isChosen 34 = .ok (.iload_n 1, 1) := by decide +kernel
theorem dX10_isChosen_35 : decode cX10_isChosen 35 = .ok (.iload_n 3, 1) := by decide +kernel
theorem dX10_isChosen_36 : decode cX10_isChosen 36 = .ok (.invokevirtual 145, 3) := by decide +kernel
theorem dX10_isChosen_39 : decode cX10_isChosen 39 = .ok (.aload_n 0, 1) := by decide +kernel
theorem dX10_isChosen_40 : decode cX10_isChosen 40 = .ok (.getfield 25, 3) := by decide +kernel
theorem dX10_isChosen_43 : decode cX10_isChosen 43 = .ok (.iload_n 3, 1) := by decide +kernel
theorem dX10_isChosen_44 : decode cX10_isChosen 44 = .ok (.iaload, 1) := by decide +kernel
theorem dX10_isChosen_45 : decode cX10_isChosen 45 = .ok (.if_icmp .ne 7, 3) := by decide +kernel
theorem dX10_isChosen_48 : decode cX10_isChosen 48 = .ok (.iconst 1, 1) := by decide +kernel
theorem dX10_isChosen_49 : decode cX10_isChosen 49 = .ok (.goto 4, 3) := by decide +kernel
theorem dX10_isChosen_52 : decode cX10_isChosen 52 = .ok (.iconst 0, 1) := by decide +kernel
theorem dX10_isChosen_53 : decode cX10_isChosen 53 = .ok (.istore_n 2, 1) := by decide +kernel
theorem dX10_isChosen_54 : decode cX10_isChosen 54 = .ok (.iinc 3 1, 3) := by decide +kernel
theorem dX10_isChosen_57 : decode cX10_isChosen 57 = .ok (.goto (-36), 3) := by decide +kernel
theorem dX10_isChosen_60 : decode cX10_isChosen 60 = .ok (.iload_n 2, 1) := by decide +kernel
theorem dX10_isChosen_61 : decode cX10_isChosen 61 = .ok (.ireturn, 1) := by decide +kernel
theorem dX10_chosenAhead_0 : decode cX10_chosenAhead 0 = .ok (.iconst 0, 1) := by decide +kernel
theorem dX10_chosenAhead_1 : decode cX10_chosenAhead 1 = .ok (.istore_n 2, 1) := by decide +kernel
theorem dX10_chosenAhead_2 : decode cX10_chosenAhead 2 = .ok (.iconst 0, 1) := by decide +kernel
theorem dX10_chosenAhead_3 : decode cX10_chosenAhead 3 = .ok (.istore_n 3, 1) := by decide +kernel
theorem dX10_chosenAhead_4 : decode cX10_chosenAhead 4 = .ok (.iload_n 3, 1) := by decide +kernel
theorem dX10_chosenAhead_5 : decode cX10_chosenAhead 5 = .ok (.aload_n 0, 1) := by decide +kernel
theorem dX10_chosenAhead_6 : decode cX10_chosenAhead 6 = .ok (.getfield 109, 3) := by decide +kernel
theorem dX10_chosenAhead_9 : decode cX10_chosenAhead 9 = .ok (.if_icmp .ge 34, 3) := by decide +kernel
theorem dX10_chosenAhead_12 : decode cX10_chosenAhead 12 = .ok (.iload_n 2, 1) := by decide +kernel
theorem dX10_chosenAhead_13 : decode cX10_chosenAhead 13 = .ok (.aload_n 0, 1) := by decide +kernel
theorem dX10_chosenAhead_14 : decode cX10_chosenAhead 14 = .ok (.iload_n 3, 1) := by decide +kernel
theorem dX10_chosenAhead_15 : decode cX10_chosenAhead 15 = .ok (.invokevirtual 202, 3) := by decide +kernel
theorem dX10_chosenAhead_18 : decode cX10_chosenAhead 18 = .ok (.ifCond .eq 16, 3) := by decide +kernel
theorem dX10_chosenAhead_21 : decode cX10_chosenAhead 21 = .ok (.aload_n 0, 1) := by decide +kernel
theorem dX10_chosenAhead_22 : decode cX10_chosenAhead 22 = .ok (.iload_n 3, 1) := by decide +kernel
theorem dX10_chosenAhead_23 : decode cX10_chosenAhead 23 = .ok (.iload_n 1, 1) := by decide +kernel
theorem dX10_chosenAhead_24 : decode cX10_chosenAhead 24 = .ok (.invokevirtual 155, 3) := by decide +kernel
theorem dX10_chosenAhead_27 : decode cX10_chosenAhead 27 = .ok (.ifCond .eq 7, 3) := by decide +kernel
theorem dX10_chosenAhead_30 : decode cX10_chosenAhead 30 = .ok (.iconst 1, 1) := by decide +kernel
theorem dX10_chosenAhead_31 : decode cX10_chosenAhead 31 = .ok (.goto 4, 3) := by decide +kernel
theorem dX10_chosenAhead_34 : decode cX10_chosenAhead 34 = .ok (.iconst 0, 1) := by decide +kernel
theorem dX10_chosenAhead_35 : decode cX10_chosenAhead 35 = .ok (.iadd, 1) := by decide +kernel
theorem dX10_chosenAhead_36 : decode cX10_chosenAhead 36 = .ok (.istore_n 2, 1) := by decide +kernel
theorem dX10_chosenAhead_37 : decode cX10_chosenAhead 37 = .ok (.iinc 3 1, 3) := by decide +kernel
theorem dX10_chosenAhead_40 : decode cX10_chosenAhead 40 = .ok (.goto (-36), 3) := by decide +kernel
theorem dX10_chosenAhead_43 : decode cX10_chosenAhead 43 = .ok (.iload_n 2, 1) := by decide +kernel
theorem dX10_chosenAhead_44 : decode cX10_chosenAhead 44 = .ok (.ireturn, 1) := by decide +kernel
theorem dX10_choice_0 : decode cX10_choice 0 = .ok (.iconst 0, 1) := by decide +kernel
theorem dX10_choice_1 : decode cX10_choice 1 = .ok (.istore_n 2, 1) := by decide +kernel
theorem dX10_choice_2 : decode cX10_choice 2 = .ok (.iload_n 2, 1) := by decide +kernel
theorem dX10_choice_3 : decode cX10_choice 3 = .ok (.aload_n 0, 1) := by decide +kernel
theorem dX10_choice_4 : decode cX10_choice 4 = .ok (.getfield 109, 3) := by decide +kernel
theorem dX10_choice_7 : decode cX10_choice 7 = .ok (.if_icmp .ge 28, 3) := by decide +kernel
theorem dX10_choice_10 : decode cX10_choice 10 = .ok (.aload_n 0, 1) := by decide +kernel
theorem dX10_choice_11 : decode cX10_choice 11 = .ok (.iload_n 2, 1) := by decide +kernel
theorem dX10_choice_12 : decode cX10_choice 12 = .ok (.invokevirtual 202, 3) := by decide +kernel
theorem dX10_choice_15 : decode cX10_choice 15 = .ok (.ifCond .eq 14, 3) := by decide +kernel
theorem dX10_choice_18 : decode cX10_choice 18 = .ok (.aload_n 0, 1) := by decide +kernel
theorem dX10_choice_19 : decode cX10_choice 19 = .ok (.iload_n 2, 1) := by decide +kernel
theorem dX10_choice_20 : decode cX10_choice 20 = .ok (.invokevirtual 205, 3) := by decide +kernel
theorem dX10_choice_23 : decode cX10_choice 23 = .ok (.iload_n 1, 1) := by decide +kernel
theorem dX10_choice_24 : decode cX10_choice 24 = .ok (.if_icmp .ne 5, 3) := by decide +kernel
theorem dX10_choice_27 : decode cX10_choice 27 = .ok (.iload_n 2, 1) := by decide +kernel
theorem dX10_choice_28 : decode cX10_choice 28 = .ok (.ireturn, 1) := by decide +kernel
theorem dX10_choice_29 : decode cX10_choice 29 = .ok (.iinc 2 1, 3) := by decide +kernel
theorem dX10_choice_32 : decode cX10_choice 32 = .ok (.goto (-30), 3) := by decide +kernel
theorem dX10_choice_35 : decode cX10_choice 35 = .ok (.bipush (-101), 2) := by decide +kernel
theorem dX10_choice_37 : decode cX10_choice 37 = .ok (.ireturn, 1) := by decide +kernel
theorem dX10_fitsAt_0 : decode cX10_fitsAt 0 = .ok (.iload_n 2, 1) := by decide +kernel
theorem dX10_fitsAt_1 : decode cX10_fitsAt 1 = .ok (.aload_n 0, 1) := by decide +kernel
theorem dX10_fitsAt_2 : decode cX10_fitsAt 2 = .ok (.getfield 13, 3) := by decide +kernel
theorem dX10_fitsAt_5 : decode cX10_fitsAt 5 = .ok (.iload_n 1, 1) := by decide +kernel
theorem dX10_fitsAt_6 : decode cX10_fitsAt 6 = .ok (.iaload, 1) := by decide +kernel
theorem dX10_fitsAt_7 : decode cX10_fitsAt 7 = .ok (.iadd, 1) := by decide +kernel
theorem dX10_fitsAt_8 : decode cX10_fitsAt 8 = .ok (.aload_n 0, 1) := by decide +kernel
theorem dX10_fitsAt_9 : decode cX10_fitsAt 9 = .ok (.getfield 199, 3) := by decide +kernel
theorem dX10_fitsAt_12 : decode cX10_fitsAt 12 = .ok (.if_icmp .gt 7, 3) := by decide +kernel
theorem dX10_fitsAt_15 : decode cX10_fitsAt 15 = .ok (.iconst 1, 1) := by decide +kernel
theorem dX10_fitsAt_16 : decode cX10_fitsAt 16 = .ok (.goto 4, 3) := by decide +kernel
theorem dX10_fitsAt_19 : decode cX10_fitsAt 19 = .ok (.iconst 0, 1) := by decide +kernel
theorem dX10_fitsAt_20 : decode cX10_fitsAt 20 = .ok (.istore_n 3, 1) := by decide +kernel
theorem dX10_fitsAt_21 : decode cX10_fitsAt 21 = .ok (.iconst 0, 1) := by decide +kernel
theorem dX10_fitsAt_22 : decode cX10_fitsAt 22 = .ok (.istore 4, 2) := by decide +kernel
theorem dX10_fitsAt_24 : decode cX10_fitsAt 24 = .ok (.iload 4, 2) := by decide +kernel
theorem dX10_fitsAt_26 : decode cX10_fitsAt 26 = .ok (.aload_n 0, 1) := by decide +kernel
theorem dX10_fitsAt_27 : decode cX10_fitsAt 27 = .ok (.getfield 13, 3) := by decide +kernel
theorem dX10_fitsAt_30 : decode cX10_fitsAt 30 = .ok (.iload_n 1, 1) := by decide +kernel
theorem dX10_fitsAt_31 : decode cX10_fitsAt 31 = .ok (.iaload, 1) := by decide +kernel
theorem dX10_fitsAt_32 : decode cX10_fitsAt 32 = .ok (.if_icmp .ge 38, 3) := by decide +kernel
theorem dX10_fitsAt_35 : decode cX10_fitsAt 35 = .ok (.iload_n 3, 1) := by decide +kernel
theorem dX10_fitsAt_36 : decode cX10_fitsAt 36 = .ok (.ifCond .eq 34, 3) := by decide +kernel
theorem dX10_fitsAt_39 : decode cX10_fitsAt 39 = .ok (.aload_n 0, 1) := by decide +kernel
theorem dX10_fitsAt_40 : decode cX10_fitsAt 40 = .ok (.iload_n 1, 1) := by decide +kernel
theorem dX10_fitsAt_41 : decode cX10_fitsAt 41 = .ok (.iload 4, 2) := by decide +kernel
theorem dX10_fitsAt_43 : decode cX10_fitsAt 43 = .ok (.invokevirtual 145, 3) := by decide +kernel
theorem dX10_fitsAt_46 : decode cX10_fitsAt 46 = .ok (.aload_n 0, 1) := by decide +kernel
theorem dX10_fitsAt_47 : decode cX10_fitsAt 47 = .ok (.getfield 25, 3) := by decide +kernel
theorem dX10_fitsAt_50 : decode cX10_fitsAt 50 = .ok (.iload_n 2, 1) := by decide +kernel
theorem dX10_fitsAt_51 : decode cX10_fitsAt 51 = .ok (.iload 4, 2) := by decide +kernel
theorem dX10_fitsAt_53 : decode cX10_fitsAt 53 = .ok (.iadd, 1) := by decide +kernel
theorem dX10_fitsAt_54 : decode cX10_fitsAt 54 = .ok (.iaload, 1) := by decide +kernel
theorem dX10_fitsAt_55 : decode cX10_fitsAt 55 = .ok (.if_icmp .ne 7, 3) := by decide +kernel
theorem dX10_fitsAt_58 : decode cX10_fitsAt 58 = .ok (.iconst 1, 1) := by decide +kernel
theorem dX10_fitsAt_59 : decode cX10_fitsAt 59 = .ok (.goto 4, 3) := by decide +kernel
theorem dX10_fitsAt_62 : decode cX10_fitsAt 62 = .ok (.iconst 0, 1) := by decide +kernel
theorem dX10_fitsAt_63 : decode cX10_fitsAt 63 = .ok (.istore_n 3, 1) := by decide +kernel
theorem dX10_fitsAt_64 : decode cX10_fitsAt 64 = .ok (.iinc 4 1, 3) := by decide +kernel
theorem dX10_fitsAt_67 : decode cX10_fitsAt 67 = .ok (.goto (-43), 3) := by decide +kernel
theorem dX10_fitsAt_70 : decode cX10_fitsAt 70 = .ok (.iload_n 3, 1) := by decide +kernel
theorem dX10_fitsAt_71 : decode cX10_fitsAt 71 = .ok (.ireturn, 1) := by decide +kernel
theorem dX10_takesPiece_0 : decode cX10_takesPiece 0 = .ok (.aload_n 0, 1) := by decide +kernel
theorem dX10_takesPiece_1 : decode cX10_takesPiece 1 = .ok (.getfield 46, 3) := by decide +kernel
theorem dX10_takesPiece_4 : decode cX10_takesPiece 4 = .ok (.iload_n 1, 1) := by decide +kernel
theorem dX10_takesPiece_5 : decode cX10_takesPiece 5 = .ok (.aload_n 0, 1) := by decide +kernel
theorem dX10_takesPiece_6 : decode cX10_takesPiece 6 = .ok (.getfield 46, 3) := by decide +kernel
theorem dX10_takesPiece_9 : decode cX10_takesPiece 9 = .ok (.iload_n 1, 1) := by decide +kernel
theorem dX10_takesPiece_10 : decode cX10_takesPiece 10 = .ok (.iaload, 1) := by decide +kernel
theorem dX10_takesPiece_11 : decode cX10_takesPiece 11 = .ok (.aload_n 0, 1) := by decide +kernel
theorem dX10_takesPiece_12 : decode cX10_takesPiece 12 = .ok (.getfield 46, 3) := by decide +kernel
theorem dX10_takesPiece_15 : decode cX10_takesPiece 15 = .ok (.iload_n 2, 1) := by decide +kernel
theorem dX10_takesPiece_16 : decode cX10_takesPiece 16 = .ok (.iaload, 1) := by decide +kernel
theorem dX10_takesPiece_17 : decode cX10_takesPiece 17 = .ok (.iadd, 1) := by decide +kernel
theorem dX10_takesPiece_18 : decode cX10_takesPiece 18 = .ok (.ldc 208, 2) := by decide +kernel
theorem dX10_takesPiece_20 : decode cX10_takesPiece 20 = .ok (.irem, 1) := by decide +kernel
theorem dX10_takesPiece_21 : decode cX10_takesPiece 21 = .ok (.iastore, 1) := by decide +kernel
theorem dX10_takesPiece_22 : decode cX10_takesPiece 22 = .ok (.aload_n 0, 1) := by decide +kernel
theorem dX10_takesPiece_23 : decode cX10_takesPiece 23 = .ok (.getfield 49, 3) := by decide +kernel
theorem dX10_takesPiece_26 : decode cX10_takesPiece 26 = .ok (.iload_n 2, 1) := by decide +kernel
theorem dX10_takesPiece_27 : decode cX10_takesPiece 27 = .ok (.iaload, 1) := by decide +kernel
theorem dX10_takesPiece_28 : decode cX10_takesPiece 28 = .ok (.iload_n 3, 1) := by decide +kernel
theorem dX10_takesPiece_29 : decode cX10_takesPiece 29 = .ok (.iadd, 1) := by decide +kernel
theorem dX10_takesPiece_30 : decode cX10_takesPiece 30 = .ok (.istore 4, 2) := by decide +kernel
theorem dX10_takesPiece_32 : decode cX10_takesPiece 32 = .ok (.iload 4, 2) := by decide +kernel
theorem dX10_takesPiece_34 : decode cX10_takesPiece 34 = .ok (.aload_n 0, 1) := by decide +kernel
theorem dX10_takesPiece_35 : decode cX10_takesPiece 35 = .ok (.getfield 49, 3) := by decide +kernel
theorem dX10_takesPiece_38 : decode cX10_takesPiece 38 = .ok (.iload_n 1, 1) := by decide +kernel
theorem dX10_takesPiece_39 : decode cX10_takesPiece 39 = .ok (.iaload, 1) := by decide +kernel
theorem dX10_takesPiece_40 : decode cX10_takesPiece 40 = .ok (.if_icmp .ge 26, 3) := by decide +kernel
theorem dX10_takesPiece_43 : decode cX10_takesPiece 43 = .ok (.aload_n 0, 1) := by decide +kernel
theorem dX10_takesPiece_44 : decode cX10_takesPiece 44 = .ok (.getfield 49, 3) := by decide +kernel
theorem dX10_takesPiece_47 : decode cX10_takesPiece 47 = .ok (.iload_n 1, 1) := by decide +kernel
theorem dX10_takesPiece_48 : decode cX10_takesPiece 48 = .ok (.iload 4, 2) := by decide +kernel
theorem dX10_takesPiece_50 : decode cX10_takesPiece 50 = .ok (.iastore, 1) := by decide +kernel
theorem dX10_takesPiece_51 : decode cX10_takesPiece 51 = .ok (.aload_n 0, 1) := by decide +kernel
theorem dX10_takesPiece_52 : decode cX10_takesPiece 52 = .ok (.getfield 52, 3) := by decide +kernel
theorem dX10_takesPiece_55 : decode cX10_takesPiece 55 = .ok (.iload_n 1, 1) := by decide +kernel
theorem dX10_takesPiece_56 : decode cX10_takesPiece 56 = .ok (.ldc 158, 2) := by decide +kernel
theorem dX10_takesPiece_58 : decode cX10_takesPiece 58 = .ok (.iastore, 1) := by decide +kernel
theorem dX10_takesPiece_59 : decode cX10_takesPiece 59 = .ok (.aload_n 0, 1) := by decide +kernel
theorem dX10_takesPiece_60 : decode cX10_takesPiece 60 = .ok (.getfield 55, 3) := by decide +kernel
theorem dX10_takesPiece_63 : decode cX10_takesPiece 63 = .ok (.iload_n 1, 1) := by decide +kernel
theorem dX10_takesPiece_64 : decode cX10_takesPiece 64 = .ok (.iconst 0, 1) := by decide +kernel
theorem dX10_takesPiece_65 : decode cX10_takesPiece 65 = .ok (.iastore, 1) := by decide +kernel
theorem dX10_takesPiece_66 : decode cX10_takesPiece 66 = .ok (.iload 4, 2) := by decide +kernel
theorem dX10_takesPiece_68 : decode cX10_takesPiece 68 = .ok (.aload_n 0, 1) := by decide +kernel
theorem dX10_takesPiece_69 : decode cX10_takesPiece 69 = .ok (.getfield 49, 3) := by decide +kernel
theorem dX10_takesPiece_72 : decode cX10_takesPiece 72 = .ok (.iload_n 1, 1) := by decide +kernel
theorem dX10_takesPiece_73 : decode cX10_takesPiece 73 = .ok (.iaload, 1) := by decide +kernel
theorem dX10_takesPiece_74 : decode cX10_takesPiece 74 = .ok (.if_icmp .ne 65, 3) := by decide +kernel
theorem dX10_takesPiece_77 : decode cX10_takesPiece 77 = .ok (.aload_n 0, 1) := by decide +kernel
theorem dX10_takesPiece_78 : decode cX10_takesPiece 78 = .ok (.getfield 52, 3) := by decide +kernel
theorem dX10_takesPiece_81 : decode cX10_takesPiece 81 = .ok (.iload_n 1, 1) := by decide +kernel
theorem dX10_takesPiece_82 : decode cX10_takesPiece 82 = .ok (.aload_n 0, 1) := by decide +kernel
theorem dX10_takesPiece_83 : decode cX10_takesPiece 83 = .ok (.getfield 52, 3) := by decide +kernel
theorem dX10_takesPiece_86 : decode cX10_takesPiece 86 = .ok (.iload_n 2, 1) := by decide +kernel
theorem dX10_takesPiece_87 : decode cX10_takesPiece 87 = .ok (.iaload, 1) := by decide +kernel
theorem dX10_takesPiece_88 : decode cX10_takesPiece 88 = .ok (.iconst 1, 1) := by decide +kernel
theorem dX10_takesPiece_89 : decode cX10_takesPiece 89 = .ok (.iadd, 1) := by decide +kernel
theorem dX10_takesPiece_90 : decode cX10_takesPiece 90 = .ok (.aload_n 0, 1) := by decide +kernel
theorem dX10_takesPiece_91 : decode cX10_takesPiece 91 = .ok (.getfield 52, 3) := by decide +kernel
theorem dX10_takesPiece_94 : decode cX10_takesPiece 94 = .ok (.iload_n 1, 1) := by decide +kernel
theorem dX10_takesPiece_95 : decode cX10_takesPiece 95 = .ok (.iaload, 1) := by decide +kernel
theorem dX10_takesPiece_96 : decode cX10_takesPiece 96 = .ok (.if_icmp .ge 14, 3) := by decide +kernel
theorem dX10_takesPiece_99 : decode cX10_takesPiece 99 = .ok (.aload_n 0, 1) := by decide +kernel
theorem dX10_takesPiece_100 : decode cX10_takesPiece 100 = .ok (.getfield 52, 3) := by decide +kernel
theorem dX10_takesPiece_103 : decode cX10_takesPiece 103 = .ok (.iload_n 2, 1) := by decide +kernel
theorem dX10_takesPiece_104 : decode cX10_takesPiece 104 = .ok (.iaload, 1) := by decide +kernel
theorem dX10_takesPiece_105 : decode cX10_takesPiece 105 = .ok (.iconst 1, 1) := by decide +kernel
theorem dX10_takesPiece_106 : decode cX10_takesPiece 106 = .ok (.iadd, 1) := by decide +kernel
theorem dX10_takesPiece_107 : decode cX10_takesPiece 107 = .ok (.goto 9, 3) := by decide +kernel
theorem dX10_takesPiece_110 : decode cX10_takesPiece 110 = .ok (.aload_n 0, 1) := by decide +kernel
theorem dX10_takesPiece_111 : decode cX10_takesPiece 111 = .ok (.getfield 52, 3) := by decide +kernel
theorem dX10_takesPiece_114 : decode cX10_takesPiece 114 = .ok (.iload_n 1, 1) := by decide +kernel
theorem dX10_takesPiece_115 : decode cX10_takesPiece 115 = .ok (.iaload, 1) := by decide +kernel
theorem dX10_takesPiece_116 : decode cX10_takesPiece 116 = .ok (.iastore, 1) := by decide +kernel
theorem dX10_takesPiece_117 : decode cX10_takesPiece 117 = .ok (.aload_n 0, 1) := by decide +kernel
theorem dX10_takesPiece_118 : decode cX10_takesPiece 118 = .ok (.getfield 55, 3) := by decide +kernel
theorem dX10_takesPiece_121 : decode cX10_takesPiece 121 = .ok (.iload_n 1, 1) := by decide +kernel
theorem dX10_takesPiece_122 : decode cX10_takesPiece 122 = .ok (.aload_n 0, 1) := by decide +kernel
theorem dX10_takesPiece_123 : decode cX10_takesPiece 123 = .ok (.getfield 55, 3) := by decide +kernel
theorem dX10_takesPiece_126 : decode cX10_takesPiece 126 = .ok (.iload_n 1, 1) := by decide +kernel
theorem dX10_takesPiece_127 : decode cX10_takesPiece 127 = .ok (.iaload, 1) := by decide +kernel
theorem dX10_takesPiece_128 : decode cX10_takesPiece 128 = .ok (.aload_n 0, 1) := by decide +kernel
theorem dX10_takesPiece_129 : decode cX10_takesPiece 129 = .ok (.getfield 55, 3) := by decide +kernel
theorem dX10_takesPiece_132 : decode cX10_takesPiece 132 = .ok (.iload_n 2, 1) := by decide +kernel
theorem dX10_takesPiece_133 : decode cX10_takesPiece 133 = .ok (.iaload, 1) := by decide +kernel
theorem dX10_takesPiece_134 : decode cX10_takesPiece 134 = .ok (.iadd, 1) := by decide +kernel
theorem dX10_takesPiece_135 : decode cX10_takesPiece 135 = .ok (.ldc 208, 2) := by decide +kernel
theorem dX10_takesPiece_137 : decode cX10_takesPiece 137 = .ok (.irem, 1) := by decide +kernel
theorem dX10_takesPiece_138 : decode cX10_takesPiece 138 = .ok (.iastore, 1) := by decide +kernel
theorem dX10_takesPiece_139 : decode cX10_takesPiece 139 = .ok (.return_, 1) := by decide +kernel
theorem dX10_laySpellings_0 : decode cX10_laySpellings 0 = .ok (.aload_n 0, 1) := by decide +kernel
theorem dX10_laySpellings_1 : decode cX10_laySpellings 1 = .ok (.getfield 46, 3) := by decide +kernel
theorem dX10_laySpellings_4 : decode cX10_laySpellings 4 = .ok (.aload_n 0, 1) := by decide +kernel
theorem dX10_laySpellings_5 : decode cX10_laySpellings 5 = .ok (.getfield 199, 3) := by decide +kernel
theorem dX10_laySpellings_8 : decode cX10_laySpellings 8 = .ok (.iconst 1, 1) := by decide +kernel
theorem dX10_laySpellings_9 : decode cX10_laySpellings 9 = .ok (.iastore, 1) := by decide +kernel
theorem dX10_laySpellings_10 : decode cX10_laySpellings 10 = .ok (.aload_n 0, 1) := by decide +kernel
theorem dX10_laySpellings_11 : decode cX10_laySpellings 11 = .ok (.getfield 49, 3) := by decide +kernel
theorem dX10_laySpellings_14 : decode cX10_laySpellings 14 = .ok (.aload_n 0, 1) := by decide +kernel
theorem dX10_laySpellings_15 : decode cX10_laySpellings 15 = .ok (.getfield 199, 3) := by decide +kernel
theorem dX10_laySpellings_18 : decode cX10_laySpellings 18 = .ok (.iconst 0, 1) := by decide +kernel
theorem dX10_laySpellings_19 : decode cX10_laySpellings 19 = .ok (.iastore, 1) := by decide +kernel
theorem dX10_laySpellings_20 : decode cX10_laySpellings 20 = .ok (.aload_n 0, 1) := by decide +kernel
theorem dX10_laySpellings_21 : decode cX10_laySpellings 21 = .ok (.getfield 52, 3) := by decide +kernel
theorem dX10_laySpellings_24 : decode cX10_laySpellings 24 = .ok (.aload_n 0, 1) := by decide +kernel
theorem dX10_laySpellings_25 : decode cX10_laySpellings 25 = .ok (.getfield 199, 3) := by decide +kernel
theorem dX10_laySpellings_28 : decode cX10_laySpellings 28 = .ok (.iconst 0, 1) := by decide +kernel
theorem dX10_laySpellings_29 : decode cX10_laySpellings 29 = .ok (.iastore, 1) := by decide +kernel
theorem dX10_laySpellings_30 : decode cX10_laySpellings 30 = .ok (.aload_n 0, 1) := by decide +kernel
theorem dX10_laySpellings_31 : decode cX10_laySpellings 31 = .ok (.getfield 55, 3) := by decide +kernel
theorem dX10_laySpellings_34 : decode cX10_laySpellings 34 = .ok (.aload_n 0, 1) := by decide +kernel
theorem dX10_laySpellings_35 : decode cX10_laySpellings 35 = .ok (.getfield 199, 3) := by decide +kernel
theorem dX10_laySpellings_38 : decode cX10_laySpellings 38 = .ok (.iconst 1, 1) := by decide +kernel
theorem dX10_laySpellings_39 : decode cX10_laySpellings 39 = .ok (.iastore, 1) := by decide +kernel
theorem dX10_laySpellings_40 : decode cX10_laySpellings 40 = .ok (.aload_n 0, 1) := by decide +kernel
theorem dX10_laySpellings_41 : decode cX10_laySpellings 41 = .ok (.getfield 199, 3) := by decide +kernel
theorem dX10_laySpellings_44 : decode cX10_laySpellings 44 = .ok (.iconst 1, 1) := by decide +kernel
theorem dX10_laySpellings_45 : decode cX10_laySpellings 45 = .ok (.isub, 1) := by decide +kernel
theorem dX10_laySpellings_46 : decode cX10_laySpellings 46 = .ok (.istore_n 1, 1) := by decide +kernel
theorem dX10_laySpellings_47 : decode cX10_laySpellings 47 = .ok (.iload_n 1, 1) := by decide +kernel
theorem dX10_laySpellings_48 : decode cX10_laySpellings 48 = .ok (.ifCond .lt 87, 3) := by decide +kernel
theorem dX10_laySpellings_51 : decode cX10_laySpellings 51 = .ok (.aload_n 0, 1) := by decide +kernel
theorem dX10_laySpellings_52 : decode cX10_laySpellings 52 = .ok (.getfield 46, 3) := by decide +kernel
theorem dX10_laySpellings_55 : decode cX10_laySpellings 55 = .ok (.iload_n 1, 1) := by decide +kernel
theorem dX10_laySpellings_56 : decode cX10_laySpellings 56 = .ok (.iconst 0, 1) := by decide +kernel
theorem dX10_laySpellings_57 : decode cX10_laySpellings 57 = .ok (.iastore, 1) := by decide +kernel
theorem dX10_laySpellings_58 : decode cX10_laySpellings 58 = .ok (.aload_n 0, 1) := by decide +kernel
theorem dX10_laySpellings_59 : decode cX10_laySpellings 59 = .ok (.getfield 49, 3) := by decide +kernel
theorem dX10_laySpellings_62 : decode cX10_laySpellings 62 = .ok (.iload_n 1, 1) := by decide +kernel
theorem dX10_laySpellings_63 : decode cX10_laySpellings 63 = .ok (.ldc 158, 2) := by decide +kernel
theorem dX10_laySpellings_65 : decode cX10_laySpellings 65 = .ok (.iastore, 1) := by decide +kernel
theorem dX10_laySpellings_66 : decode cX10_laySpellings 66 = .ok (.aload_n 0, 1) := by decide +kernel
theorem dX10_laySpellings_67 : decode cX10_laySpellings 67 = .ok (.getfield 52, 3) := by decide +kernel
theorem dX10_laySpellings_70 : decode cX10_laySpellings 70 = .ok (.iload_n 1, 1) := by decide +kernel
theorem dX10_laySpellings_71 : decode cX10_laySpellings 71 = .ok (.ldc 158, 2) := by decide +kernel
theorem dX10_laySpellings_73 : decode cX10_laySpellings 73 = .ok (.iastore, 1) := by decide +kernel
theorem dX10_laySpellings_74 : decode cX10_laySpellings 74 = .ok (.aload_n 0, 1) := by decide +kernel
theorem dX10_laySpellings_75 : decode cX10_laySpellings 75 = .ok (.getfield 55, 3) := by decide +kernel
theorem dX10_laySpellings_78 : decode cX10_laySpellings 78 = .ok (.iload_n 1, 1) := by decide +kernel
theorem dX10_laySpellings_79 : decode cX10_laySpellings 79 = .ok (.iconst 0, 1) := by decide +kernel
theorem dX10_laySpellings_80 : decode cX10_laySpellings 80 = .ok (.iastore, 1) := by decide +kernel
theorem dX10_laySpellings_81 : decode cX10_laySpellings 81 = .ok (.aload_n 0, 1) := by decide +kernel
theorem dX10_laySpellings_82 : decode cX10_laySpellings 82 = .ok (.iload_n 1, 1) := by decide +kernel
theorem dX10_laySpellings_83 : decode cX10_laySpellings 83 = .ok (.iload_n 1, 1) := by decide +kernel
theorem dX10_laySpellings_84 : decode cX10_laySpellings 84 = .ok (.iconst 1, 1) := by decide +kernel
theorem dX10_laySpellings_85 : decode cX10_laySpellings 85 = .ok (.iadd, 1) := by decide +kernel
theorem dX10_laySpellings_86 : decode cX10_laySpellings 86 = .ok (.iconst 1, 1) := by decide +kernel
theorem dX10_laySpellings_87 : decode cX10_laySpellings 87 = .ok (.invokevirtual 209, 3) := by decide +kernel
theorem dX10_laySpellings_90 : decode cX10_laySpellings 90 = .ok (.iconst 0, 1) := by decide +kernel
theorem dX10_laySpellings_91 : decode cX10_laySpellings 91 = .ok (.istore_n 2, 1) := by decide +kernel
theorem dX10_laySpellings_92 : decode cX10_laySpellings 92 = .ok (.iload_n 2, 1) := by decide +kernel
theorem dX10_laySpellings_93 : decode cX10_laySpellings 93 = .ok (.aload_n 0, 1) := by decide +kernel
theorem dX10_laySpellings_94 : decode cX10_laySpellings 94 = .ok (.getfield 109, 3) := by decide +kernel
theorem dX10_laySpellings_97 : decode cX10_laySpellings 97 = .ok (.if_icmp .ge 32, 3) := by decide +kernel
theorem dX10_laySpellings_100 : decode cX10_laySpellings 100 = .ok (.aload_n 0, 1) := by decide +kernel
theorem dX10_laySpellings_101 : decode cX10_laySpellings 101 = .ok (.iload_n 2, 1) := by decide +kernel
theorem dX10_laySpellings_102 : decode cX10_laySpellings 102 = .ok (.iload_n 1, 1) := by decide +kernel
theorem dX10_laySpellings_103 : decode cX10_laySpellings 103 = .ok (.invokevirtual 213, 3) := by decide +kernel
theorem dX10_laySpellings_106 : decode cX10_laySpellings 106 = .ok (.ifCond .eq 17, 3) := by decide +kernel
theorem dX10_laySpellings_109 : decode cX10_laySpellings 109 = .ok (.aload_n 0, 1) := by decide +kernel
theorem dX10_laySpellings_110 : decode cX10_laySpellings 110 = .ok (.iload_n 1, 1) := by decide +kernel
theorem dX10_laySpellings_111 : decode cX10_laySpellings 111 = .ok (.iload_n 1, 1) := by decide +kernel
theorem dX10_laySpellings_112 : decode cX10_laySpellings 112 = .ok (.aload_n 0, 1) := by decide +kernel
theorem dX10_laySpellings_113 : decode cX10_laySpellings 113 = .ok (.getfield 13, 3) := by decide +kernel
theorem dX10_laySpellings_116 : decode cX10_laySpellings 116 = .ok (.iload_n 2, 1) := by decide +kernel
theorem dX10_laySpellings_117 : decode cX10_laySpellings 117 = .ok (.iaload, 1) := by decide +kernel
theorem dX10_laySpellings_118 : decode cX10_laySpellings 118 = .ok (.iadd, 1) := by decide +kernel
theorem dX10_laySpellings_119 : decode cX10_laySpellings 119 = .ok (.iconst 0, 1) := by decide +kernel
theorem dX10_laySpellings_120 : decode cX10_laySpellings 120 = .ok (.invokevirtual 209, 3) := by decide +kernel
theorem dX10_laySpellings_123 : decode cX10_laySpellings 123 = .ok (.iinc 2 1, 3) := by decide +kernel
theorem dX10_laySpellings_126 : decode cX10_laySpellings 126 = .ok (.goto (-34), 3) := by decide +kernel
theorem dX10_laySpellings_129 : decode cX10_laySpellings 129 = .ok (.iinc 1 (-1), 3) := by decide +kernel
theorem dX10_laySpellings_132 : decode cX10_laySpellings 132 = .ok (.goto (-85), 3) := by decide +kernel
theorem dX10_laySpellings_135 : decode cX10_laySpellings 135 = .ok (.return_, 1) := by decide +kernel
theorem dX10_spellingNow_0 : decode cX10_spellingNow 0 = .ok (.aload_n 0, 1) := by decide +kernel
theorem dX10_spellingNow_1 : decode cX10_spellingNow 1 = .ok (.invokevirtual 216, 3) := by decide +kernel
theorem dX10_spellingNow_4 : decode cX10_spellingNow 4 = .ok (.iload_n 1, 1) := by decide +kernel
theorem dX10_spellingNow_5 : decode cX10_spellingNow 5 = .ok (.tableswitch 48 0 2 #[27, 34, 41], 27) := by decide +kernel
theorem dX10_spellingNow_32 : decode cX10_spellingNow 32 = .ok (.aload_n 0, 1) := by decide +kernel
theorem dX10_spellingNow_33 : decode cX10_spellingNow 33 = .ok (.getfield 46, 3) := by decide +kernel
theorem dX10_spellingNow_36 : decode cX10_spellingNow 36 = .ok (.iconst 0, 1) := by decide +kernel
theorem dX10_spellingNow_37 : decode cX10_spellingNow 37 = .ok (.iaload, 1) := by decide +kernel
theorem dX10_spellingNow_38 : decode cX10_spellingNow 38 = .ok (.ireturn, 1) := by decide +kernel
theorem dX10_spellingNow_39 : decode cX10_spellingNow 39 = .ok (.aload_n 0, 1) := by decide +kernel
theorem dX10_spellingNow_40 : decode cX10_spellingNow 40 = .ok (.getfield 49, 3) := by decide +kernel
theorem dX10_spellingNow_43 : decode cX10_spellingNow 43 = .ok (.iconst 0, 1) := by decide +kernel
theorem dX10_spellingNow_44 : decode cX10_spellingNow 44 = .ok (.iaload, 1) := by decide +kernel
theorem dX10_spellingNow_45 : decode cX10_spellingNow 45 = .ok (.ireturn, 1) := by decide +kernel
theorem dX10_spellingNow_46 : decode cX10_spellingNow 46 = .ok (.aload_n 0, 1) := by decide +kernel
