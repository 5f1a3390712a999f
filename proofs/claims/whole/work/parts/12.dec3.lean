theorem dX10_spellingNow_47 : decode cX10_spellingNow 47 = .ok (.getfield 52, 3) := by decide +kernel
theorem dX10_spellingNow_50 : decode cX10_spellingNow 50 = .ok (.iconst 0, 1) := by decide +kernel
theorem dX10_spellingNow_51 : decode cX10_spellingNow 51 = .ok (.iaload, 1) := by decide +kernel
theorem dX10_spellingNow_52 : decode cX10_spellingNow 52 = .ok (.ireturn, 1) := by decide +kernel
theorem dX10_spellingNow_53 : decode cX10_spellingNow 53 = .ok (.aload_n 0, 1) := by decide +kernel
theorem dX10_spellingNow_54 : decode cX10_spellingNow 54 = .ok (.getfield 55, 3) := by decide +kernel
theorem dX10_spellingNow_57 : decode cX10_spellingNow 57 = .ok (.iconst 0, 1) := by decide +kernel
theorem dX10_spellingNow_58 : decode cX10_spellingNow 58 = .ok (.iaload, 1) := by decide +kernel
theorem dX10_spellingNow_59 : decode cX10_spellingNow 59 = .ok (.ireturn, 1) := by decide +kernel
theorem dX10_spelling_0 : decode cX10_spelling 0 = .ok (.iload_n 1, 1) := by decide +kernel
theorem dX10_spelling_1 : decode cX10_spelling 1 = .ok (.iconst 0, 1) := by decide +kernel
theorem dX10_spelling_2 : decode cX10_spelling 2 = .ok (.iconst 3, 1) := by decide +kernel
theorem dX10_spelling_3 : decode cX10_spelling 3 = .ok (.invokestatic 73, 3) := by decide +kernel
theorem dX10_spelling_6 : decode cX10_spelling 6 = .ok (.ifCond .eq 11, 3) := by decide +kernel
theorem dX10_spelling_9 : decode cX10_spelling 9 = .ok (.aload_n 0, 1) := by decide +kernel
theorem dX10_spelling_10 : decode cX10_spelling 10 = .ok (.iload_n 1, 1) := by decide +kernel
theorem dX10_spelling_11 : decode cX10_spelling 11 = .ok (.invokevirtual 219, 3) := by decide +kernel
theorem dX10_spelling_14 : decode cX10_spelling 14 = .ok (.goto 5, 3) := by decide +kernel
theorem dX10_spelling_17 : decode cX10_spelling 17 = .ok (.bipush (-102), 2) := by decide +kernel
theorem dX10_spelling_19 : decode cX10_spelling 19 = .ok (.ireturn, 1) := by decide +kernel
theorem dX10_bestName_0 : decode cX10_bestName 0 = .ok (.iconst 0, 1) := by decide +kernel
theorem dX10_bestName_1 : decode cX10_bestName 1 = .ok (.istore_n 2, 1) := by decide +kernel
theorem dX10_bestName_2 : decode cX10_bestName 2 = .ok (.iload_n 2, 1) := by decide +kernel
theorem dX10_bestName_3 : decode cX10_bestName 3 = .ok (.aload_n 0, 1) := by decide +kernel
theorem dX10_bestName_4 : decode cX10_bestName 4 = .ok (.getfield 109, 3) := by decide +kernel
theorem dX10_bestName_7 : decode cX10_bestName 7 = .ok (.if_icmp .ge 66, 3) := by decide +kernel
theorem dX10_bestName_10 : decode cX10_bestName 10 = .ok (.aload_n 0, 1) := by decide +kernel
theorem dX10_bestName_11 : decode cX10_bestName 11 = .ok (.iload_n 2, 1) := by decide +kernel
theorem dX10_bestName_12 : decode cX10_bestName 12 = .ok (.iload_n 1, 1) := by decide +kernel
theorem dX10_bestName_13 : decode cX10_bestName 13 = .ok (.invokevirtual 213, 3) := by decide +kernel
theorem dX10_bestName_16 : decode cX10_bestName 16 = .ok (.ifCond .eq 51, 3) := by decide +kernel
theorem dX10_bestName_19 : decode cX10_bestName 19 = .ok (.aload_n 0, 1) := by decide +kernel
theorem dX10_bestName_20 : decode cX10_bestName 20 = .ok (.getfield 49, 3) := by decide +kernel
theorem dX10_bestName_23 : decode cX10_bestName 23 = .ok (.iload_n 1, 1) := by decide +kernel
theorem dX10_bestName_24 : decode cX10_bestName 24 = .ok (.aload_n 0, 1) := by decide +kernel
theorem dX10_bestName_25 : decode cX10_bestName 25 = .ok (.getfield 13, 3) := by decide +kernel
theorem dX10_bestName_28 : decode cX10_bestName 28 = .ok (.iload_n 2, 1) := by decide +kernel
theorem dX10_bestName_29 : decode cX10_bestName 29 = .ok (.iaload, 1) := by decide +kernel
theorem dX10_bestName_30 : decode cX10_bestName 30 = .ok (.iadd, 1) := by decide +kernel
theorem dX10_bestName_31 : decode cX10_bestName 31 = .ok (.iaload, 1) := by decide +kernel
theorem dX10_bestName_32 : decode cX10_bestName 32 = .ok (.aload_n 0, 1) := by decide +kernel
theorem dX10_bestName_33 : decode cX10_bestName 33 = .ok (.getfield 49, 3) := by decide +kernel
theorem dX10_bestName_36 : decode cX10_bestName 36 = .ok (.iload_n 1, 1) := by decide +kernel
theorem dX10_bestName_37 : decode cX10_bestName 37 = .ok (.iaload, 1) := by decide +kernel
theorem dX10_bestName_38 : decode cX10_bestName 38 = .ok (.if_icmp .ne 29, 3) := by decide +kernel
theorem dX10_bestName_41 : decode cX10_bestName 41 = .ok (.aload_n 0, 1) := by decide +kernel
theorem dX10_bestName_42 : decode cX10_bestName 42 = .ok (.getfield 52, 3) := by decide +kernel
theorem dX10_bestName_45 : decode cX10_bestName 45 = .ok (.iload_n 1, 1) := by decide +kernel
theorem dX10_bestName_46 : decode cX10_bestName 46 = .ok (.aload_n 0, 1) := by decide +kernel
theorem dX10_bestName_47 : decode cX10_bestName 47 = .ok (.getfield 13, 3) := by decide +kernel
theorem dX10_bestName_50 : decode cX10_bestName 50 = .ok (.iload_n 2, 1) := by decide +kernel
theorem dX10_bestName_51 : decode cX10_bestName 51 = .ok (.iaload, 1) := by decide +kernel
theorem dX10_bestName_52 : decode cX10_bestName 52 = .ok (.iadd, 1) := by decide +kernel
theorem dX10_bestName_53 : decode cX10_bestName 53 = .ok (.iaload, 1) := by decide +kernel
theorem dX10_bestName_54 : decode cX10_bestName 54 = .ok (.iconst 1, 1) := by decide +kernel
theorem dX10_bestName_55 : decode cX10_bestName 55 = .ok (.iadd, 1) := by decide +kernel
theorem dX10_bestName_56 : decode cX10_bestName 56 = .ok (.aload_n 0, 1) := by decide +kernel
theorem dX10_bestName_57 : decode cX10_bestName 57 = .ok (.getfield 52, 3) := by decide +kernel
theorem dX10_bestName_60 : decode cX10_bestName 60 = .ok (.iload_n 1, 1) := by decide +kernel
theorem dX10_bestName_61 : decode cX10_bestName 61 = .ok (.iaload, 1) := by decide +kernel
theorem dX10_bestName_62 : decode cX10_bestName 62 = .ok (.if_icmp .ne 5, 3) := by decide +kernel
theorem dX10_bestName_65 : decode cX10_bestName 65 = .ok (.iload_n 2, 1) := by decide +kernel
theorem dX10_bestName_66 : decode cX10_bestName 66 = .ok (.ireturn, 1) := by decide +kernel
theorem dX10_bestName_67 : decode cX10_bestName 67 = .ok (.iinc 2 1, 3) := by decide +kernel
theorem dX10_bestName_70 : decode cX10_bestName 70 = .ok (.goto (-68), 3) := by decide +kernel
theorem dX10_bestName_73 : decode cX10_bestName 73 = .ok (.iconst (-1), 1) := by decide +kernel
theorem dX10_bestName_74 : decode cX10_bestName 74 = .ok (.ireturn, 1) := by decide +kernel
theorem dX10_pieceNow_0 : decode cX10_pieceNow 0 = .ok (.aload_n 0, 1) := by decide +kernel
theorem dX10_pieceNow_1 : decode cX10_pieceNow 1 = .ok (.invokevirtual 216, 3) := by decide +kernel
theorem dX10_pieceNow_4 : decode cX10_pieceNow 4 = .ok (.iconst 0, 1) := by decide +kernel
theorem dX10_pieceNow_5 : decode cX10_pieceNow 5 = .ok (.istore_n 2, 1) := by decide +kernel
theorem dX10_pieceNow_6 : decode cX10_pieceNow 6 = .ok (.iconst 0, 1) := by decide +kernel
theorem dX10_pieceNow_7 : decode cX10_pieceNow 7 = .ok (.istore_n 3, 1) := by decide +kernel
theorem dX10_pieceNow_8 : decode cX10_pieceNow 8 = .ok (.iload_n 2, 1) := by decide +kernel
theorem dX10_pieceNow_9 : decode cX10_pieceNow 9 = .ok (.aload_n 0, 1) := by decide +kernel
theorem dX10_pieceNow_10 : decode cX10_pieceNow 10 = .ok (.getfield 199, 3) := by decide +kernel
theorem dX10_pieceNow_13 : decode cX10_pieceNow 13 = .ok (.if_icmp .ge 62, 3) := by decide +kernel
theorem dX10_pieceNow_16 : decode cX10_pieceNow 16 = .ok (.aload_n 0, 1) := by decide +kernel
theorem dX10_pieceNow_17 : decode cX10_pieceNow 17 = .ok (.iload_n 2, 1) := by decide +kernel
theorem dX10_pieceNow_18 : decode cX10_pieceNow 18 = .ok (.invokevirtual 222, 3) := by decide +kernel
theorem dX10_pieceNow_21 : decode cX10_pieceNow 21 = .ok (.istore 4, 2) := by decide +kernel
theorem dX10_pieceNow_23 : decode cX10_pieceNow 23 = .ok (.iload_n 3, 1) := by decide +kernel
theorem dX10_pieceNow_24 : decode cX10_pieceNow 24 = .ok (.iload_n 1, 1) := by decide +kernel
theorem dX10_pieceNow_25 : decode cX10_pieceNow 25 = .ok (.if_icmp .ne 24, 3) := by decide +kernel
theorem dX10_pieceNow_28 : decode cX10_pieceNow 28 = .ok (.iload 4, 2) := by decide +kernel
theorem dX10_pieceNow_30 : decode cX10_pieceNow 30 = .ok (.iconst (-1), 1) := by decide +kernel
theorem dX10_pieceNow_31 : decode cX10_pieceNow 31 = .ok (.if_icmp .ne 15, 3) := by decide +kernel
theorem dX10_pieceNow_34 : decode cX10_pieceNow 34 = .ok (.bipush (-2), 2) := by decide +kernel
theorem dX10_pieceNow_36 : decode cX10_pieceNow 36 = .ok (.aload_n 0, 1) := by decide +kernel
theorem dX10_pieceNow_37 : decode cX10_pieceNow 37 = .ok (.getfield 25, 3) := by decide +kernel
theorem dX10_pieceNow_40 : decode cX10_pieceNow 40 = .ok (.iload_n 2, 1) := by decide +kernel
theorem dX10_pieceNow_41 : decode cX10_pieceNow 41 = .ok (.iaload, 1) := by decide +kernel
theorem dX10_pieceNow_42 : decode cX10_pieceNow 42 = .ok (.isub, 1) := by decide +kernel
theorem dX10_pieceNow_43 : decode cX10_pieceNow 43 = .ok (.goto 5, 3) := by decide +kernel
theorem dX10_pieceNow_46 : decode cX10_pieceNow 46 = .ok (.iload 4, 2) := by decide +kernel
theorem dX10_pieceNow_48 : decode cX10_pieceNow 48 = .ok (.ireturn, 1) := by decide +kernel
theorem dX10_pieceNow_49 : decode cX10_pieceNow 49 = .ok (.iload_n 2, 1) := by decide +kernel
theorem dX10_pieceNow_50 : decode cX10_pieceNow 50 = .ok (.iload 4, 2) := by decide +kernel
theorem dX10_pieceNow_52 : decode cX10_pieceNow 52 = .ok (.iconst (-1), 1) := by decide +kernel
theorem dX10_pieceNow_53 : decode cX10_pieceNow 53 = .ok (.if_icmp .ne 7, 3) := by decide +kernel
theorem dX10_pieceNow_56 : decode cX10_pieceNow 56 = .ok (.iconst 1, 1) := by decide +kernel
theorem dX10_pieceNow_57 : decode cX10_pieceNow 57 = .ok (.goto 10, 3) := by decide +kernel
theorem dX10_pieceNow_60 : decode cX10_pieceNow 60 = .ok (.aload_n 0, 1) := by decide +kernel
theorem dX10_pieceNow_61 : decode cX10_pieceNow 61 = .ok (.getfield 13, 3) := by decide +kernel
theorem dX10_pieceNow_64 : decode cX10_pieceNow 64 = .ok (.iload 4, 2) := by decide +kernel
theorem dX10_pieceNow_66 : decode cX10_pieceNow 66 = .ok (.iaload, 1) := by decide +kernel
theorem dX10_pieceNow_67 : decode cX10_pieceNow 67 = .ok (.iadd, 1) := by decide +kernel
theorem dX10_pieceNow_68 : decode cX10_pieceNow 68 = .ok (.istore_n 2, 1) := by decide +kernel
theorem dX10_pieceNow_69 : decode cX10_pieceNow 69 = .ok (.iinc 3 1, 3) := by decide +kernel
theorem dX10_pieceNow_72 : decode cX10_pieceNow 72 = .ok (.goto (-64), 3) := by decide +kernel
theorem dX10_pieceNow_75 : decode cX10_pieceNow 75 = .ok (.bipush (-101), 2) := by decide +kernel
theorem dX10_pieceNow_77 : decode cX10_pieceNow 77 = .ok (.ireturn, 1) := by decide +kernel
theorem dX10_piece_0 : decode cX10_piece 0 = .ok (.aload_n 0, 1) := by decide +kernel
theorem dX10_piece_1 : decode cX10_piece 1 = .ok (.iload_n 1, 1) := by decide +kernel
theorem dX10_piece_2 : decode cX10_piece 2 = .ok (.invokevirtual 225, 3) := by decide +kernel
theorem dX10_piece_5 : decode cX10_piece 5 = .ok (.ireturn, 1) := by decide +kernel
theorem dX10_usesOf_0 : decode cX10_usesOf 0 = .ok (.iconst 0, 1) := by decide +kernel
theorem dX10_usesOf_1 : decode cX10_usesOf 1 = .ok (.istore_n 3, 1) := by decide +kernel
theorem dX10_usesOf_2 : decode cX10_usesOf 2 = .ok (.iload_n 1, 1) := by decide +kernel
theorem dX10_usesOf_3 : decode cX10_usesOf 3 = .ok (.istore 4, 2) := by decide +kernel
theorem dX10_usesOf_5 : decode cX10_usesOf 5 = .ok (.iload 4, 2) := by decide +kernel
theorem dX10_usesOf_7 : decode cX10_usesOf 7 = .ok (.iload_n 2, 1) := by decide +kernel
theorem dX10_usesOf_8 : decode cX10_usesOf 8 = .ok (.if_icmp .ge 19, 3) := by decide +kernel
theorem dX10_usesOf_11 : decode cX10_usesOf 11 = .ok (.iload_n 3, 1) := by decide +kernel
theorem dX10_usesOf_12 : decode cX10_usesOf 12 = .ok (.aload_n 0, 1) := by decide +kernel
theorem dX10_usesOf_13 : decode cX10_usesOf 13 = .ok (.getfield 19, 3) := by decide +kernel
theorem dX10_usesOf_16 : decode cX10_usesOf 16 = .ok (.iload 4, 2) := by decide +kernel
theorem dX10_usesOf_18 : decode cX10_usesOf 18 = .ok (.iaload, 1) := by decide +kernel
theorem dX10_usesOf_19 : decode cX10_usesOf 19 = .ok (.iadd, 1) := by decide +kernel
theorem dX10_usesOf_20 : decode cX10_usesOf 20 = .ok (.istore_n 3, 1) := by decide +kernel
theorem dX10_usesOf_21 : decode cX10_usesOf 21 = .ok (.iinc 4 1, 3) := by decide +kernel
theorem dX10_usesOf_24 : decode cX10_usesOf 24 = .ok (.goto (-19), 3) := by decide +kernel
theorem dX10_usesOf_27 : decode cX10_usesOf 27 = .ok (.iload_n 3, 1) := by decide +kernel
theorem dX10_usesOf_28 : decode cX10_usesOf 28 = .ok (.ireturn, 1) := by decide +kernel
theorem dX10_costAt_0 : decode cX10_costAt 0 = .ok (.aload_n 0, 1) := by decide +kernel
theorem dX10_costAt_1 : decode cX10_costAt 1 = .ok (.getfield 58, 3) := by decide +kernel
theorem dX10_costAt_4 : decode cX10_costAt 4 = .ok (.bipush 15, 2) := by decide +kernel
theorem dX10_costAt_6 : decode cX10_costAt 6 = .ok (.iload_n 1, 1) := by decide +kernel
theorem dX10_costAt_7 : decode cX10_costAt 7 = .ok (.imul, 1) := by decide +kernel
theorem dX10_costAt_8 : decode cX10_costAt 8 = .ok (.iload_n 2, 1) := by decide +kernel
theorem dX10_costAt_9 : decode cX10_costAt 9 = .ok (.iadd, 1) := by decide +kernel
theorem dX10_costAt_10 : decode cX10_costAt 10 = .ok (.iaload, 1) := by decide +kernel
theorem dX10_costAt_11 : decode cX10_costAt 11 = .ok (.ireturn, 1) := by decide +kernel
theorem dX10_partsAt_0 : decode cX10_partsAt 0 = .ok (.aload_n 0, 1) := by decide +kernel
theorem dX10_partsAt_1 : decode cX10_partsAt 1 = .ok (.getfield 61, 3) := by decide +kernel
theorem dX10_partsAt_4 : decode cX10_partsAt 4 = .ok (.sipush 225, 3) := by decide +kernel
theorem dX10_partsAt_7 : decode cX10_partsAt 7 = .ok (.iload_n 1, 1) := by decide +kernel
theorem dX10_partsAt_8 : decode cX10_partsAt 8 = .ok (.imul, 1) := by decide +kernel
theorem dX10_partsAt_9 : decode cX10_partsAt 9 = .ok (.bipush 15, 2) := by decide +kernel
theorem dX10_partsAt_11 : decode cX10_partsAt 11 = .ok (.iload_n 2, 1) := by decide +kernel
theorem dX10_partsAt_12 : decode cX10_partsAt 12 = .ok (.imul, 1) := by decide +kernel
theorem dX10_partsAt_13 : decode cX10_partsAt 13 = .ok (.iadd, 1) := by decide +kernel
theorem dX10_partsAt_14 : decode cX10_partsAt 14 = .ok (.iload_n 3, 1) := by decide +kernel
theorem dX10_partsAt_15 : decode cX10_partsAt 15 = .ok (.iadd, 1) := by decide +kernel
theorem dX10_partsAt_16 : decode cX10_partsAt 16 = .ok (.iaload, 1) := by decide +kernel
theorem dX10_partsAt_17 : decode cX10_partsAt 17 = .ok (.ireturn, 1) := by decide +kernel
theorem dX10_bestParts_0 : decode cX10_bestParts 0 = .ok (.ldc 158, 2) := by decide +kernel
theorem dX10_bestParts_2 : decode cX10_bestParts 2 = .ok (.istore 4, 2) := by decide +kernel
theorem dX10_bestParts_4 : decode cX10_bestParts 4 = .ok (.iload_n 2, 1) := by decide +kernel
theorem dX10_bestParts_5 : decode cX10_bestParts 5 = .ok (.iconst 1, 1) := by decide +kernel
theorem dX10_bestParts_6 : decode cX10_bestParts 6 = .ok (.iadd, 1) := by decide +kernel
theorem dX10_bestParts_7 : decode cX10_bestParts 7 = .ok (.istore 5, 2) := by decide +kernel
theorem dX10_bestParts_9 : decode cX10_bestParts 9 = .ok (.iload 5, 2) := by decide +kernel
theorem dX10_bestParts_11 : decode cX10_bestParts 11 = .ok (.iload_n 3, 1) := by decide +kernel
theorem dX10_bestParts_12 : decode cX10_bestParts 12 = .ok (.if_icmp .ge 61, 3) := by decide +kernel
theorem dX10_bestParts_15 : decode cX10_bestParts 15 = .ok (.aload_n 0, 1) := by decide +kernel
theorem dX10_bestParts_16 : decode cX10_bestParts 16 = .ok (.iload_n 1, 1) := by decide +kernel
theorem dX10_bestParts_17 : decode cX10_bestParts 17 = .ok (.iconst 1, 1) := by decide +kernel
theorem dX10_bestParts_18 : decode cX10_bestParts 18 = .ok (.isub, 1) := by decide +kernel
theorem dX10_bestParts_19 : decode cX10_bestParts 19 = .ok (.iload 5, 2) := by decide +kernel
theorem dX10_bestParts_21 : decode cX10_bestParts 21 = .ok (.iload_n 3, 1) := by decide +kernel
theorem dX10_bestParts_22 : decode cX10_bestParts 22 = .ok (.invokevirtual 228, 3) := by decide +kernel
theorem dX10_bestParts_25 : decode cX10_bestParts 25 = .ok (.istore 6, 2) := by decide +kernel
theorem dX10_bestParts_27 : decode cX10_bestParts 27 = .ok (.iload 6, 2) := by decide +kernel
theorem dX10_bestParts_29 : decode cX10_bestParts 29 = .ok (.ldc 158, 2) := by decide +kernel
theorem dX10_bestParts_31 : decode cX10_bestParts 31 = .ok (.if_icmp .ne 8, 3) := by decide +kernel
theorem dX10_bestParts_34 : decode cX10_bestParts 34 = .ok (.ldc 158, 2) := by decide +kernel
theorem dX10_bestParts_36 : decode cX10_bestParts 36 = .ok (.goto 13, 3) := by decide +kernel
theorem dX10_bestParts_39 : decode cX10_bestParts 39 = .ok (.aload_n 0, 1) := by decide +kernel
theorem dX10_bestParts_40 : decode cX10_bestParts 40 = .ok (.iload_n 2, 1) := by decide +kernel
theorem dX10_bestParts_41 : decode cX10_bestParts 41 = .ok (.iload 5, 2) := by decide +kernel
theorem dX10_bestParts_43 : decode cX10_bestParts 43 = .ok (.invokevirtual 232, 3) := by decide +kernel
theorem dX10_bestParts_46 : decode cX10_bestParts 46 = .ok (.iload 6, 2) := by decide +kernel
theorem dX10_bestParts_48 : decode cX10_bestParts 48 = .ok (.iadd, 1) := by decide +kernel
theorem dX10_bestParts_49 : decode cX10_bestParts 49 = .ok (.istore 7, 2) := by decide +kernel
theorem dX10_bestParts_51 : decode cX10_bestParts 51 = .ok (.iload 7, 2) := by decide +kernel
theorem dX10_bestParts_53 : decode cX10_bestParts 53 = .ok (.iload 4, 2) := by decide +kernel
theorem dX10_bestParts_55 : decode cX10_bestParts 55 = .ok (.if_icmp .ge 8, 3) := by decide +kernel
theorem dX10_bestParts_58 : decode cX10_bestParts 58 = .ok (.iload 7, 2) := by decide +kernel
theorem dX10_bestParts_60 : decode cX10_bestParts 60 = .ok (.goto 5, 3) := by decide +kernel
theorem dX10_bestParts_63 : decode cX10_bestParts 63 = .ok (.iload 4, 2) := by decide +kernel
theorem dX10_bestParts_65 : decode cX10_bestParts 65 = .ok (.istore 4, 2) := by decide +kernel
theorem dX10_bestParts_67 : decode cX10_bestParts 67 = .ok (.iinc 5 1, 3) := by decide +kernel
theorem dX10_bestParts_70 : decode cX10_bestParts 70 = .ok (.goto (-61), 3) := by decide +kernel
theorem dX10_bestParts_73 : decode cX10_bestParts 73 = .ok (.iload 4, 2) := by decide +kernel
theorem dX10_bestParts_75 : decode cX10_bestParts 75 = .ok (.ireturn, 1) := by decide +kernel
theorem dX10_layCosts_0 : decode cX10_layCosts 0 = .ok (.iconst 1, 1) := by decide +kernel
theorem dX10_layCosts_1 : decode cX10_layCosts 1 = .ok (.istore_n 2, 1) := by decide +kernel
theorem dX10_layCosts_2 : decode cX10_layCosts 2 = .ok (.iload_n 2, 1) := by decide +kernel
theorem dX10_layCosts_3 : decode cX10_layCosts 3 = .ok (.aload_n 0, 1) := by decide +kernel
theorem dX10_layCosts_4 : decode cX10_layCosts 4 = .ok (.getfield 109, 3) := by decide +kernel
theorem dX10_layCosts_7 : decode cX10_layCosts 7 = .ok (.if_icmp .gt 36, 3) := by decide +kernel
theorem dX10_layCosts_10 : decode cX10_layCosts 10 = .ok (.iconst 0, 1) := by decide +kernel
theorem dX10_layCosts_11 : decode cX10_layCosts 11 = .ok (.istore_n 3, 1) := by decide +kernel
theorem dX10_layCosts_12 : decode cX10_layCosts 12 = .ok (.iload_n 3, 1) := by decide +kernel
theorem dX10_layCosts_13 : decode cX10_layCosts 13 = .ok (.iload_n 2, 1) := by decide +kernel
theorem dX10_layCosts_14 : decode cX10_layCosts 14 = .ok (.iadd, 1) := by decide +kernel
theorem dX10_layCosts_15 : decode cX10_layCosts 15 = .ok (.aload_n 0, 1) := by decide +kernel
theorem dX10_layCosts_16 : decode cX10_layCosts 16 = .ok (.getfield 109, 3) := by decide +kernel
theorem dX10_layCosts_19 : decode cX10_layCosts 19 = .ok (.if_icmp .gt 18, 3) := by decide +kernel
theorem dX10_layCosts_22 : decode cX10_layCosts 22 = .ok (.aload_n 0, 1) := by decide +kernel
theorem dX10_layCosts_23 : decode cX10_layCosts 23 = .ok (.iload_n 1, 1) := by decide +kernel
theorem dX10_layCosts_24 : decode cX10_layCosts 24 = .ok (.iload_n 3, 1) := by decide +kernel
theorem dX10_layCosts_25 : decode cX10_layCosts 25 = .ok (.iload_n 3, 1) := by decide +kernel
theorem dX10_layCosts_26 : decode cX10_layCosts 26 = .ok (.iload_n 2, 1) := by decide +kernel
theorem dX10_layCosts_27 : decode cX10_layCosts 27 = .ok (.iadd, 1) := by decide +kernel
theorem dX10_layCosts_28 : decode cX10_layCosts 28 = .ok (.invokevirtual 235, 3) := by decide +kernel
theorem dX10_layCosts_31 : decode cX10_layCosts 31 = .ok (.iinc 3 1, 3) := by decide +kernel
theorem dX10_layCosts_34 : decode cX10_layCosts 34 = .ok (.goto (-22), 3) := by decide +kernel
theorem dX10_layCosts_37 : decode cX10_layCosts 37 = .ok (.iinc 2 1, 3) := by decide +kernel
theorem dX10_layCosts_40 : decode cX10_layCosts 40 = .ok (.goto (-38), 3) := by decide +kernel
theorem dX10_layCosts_43 : decode cX10_layCosts 43 = .ok (.return_, 1) := by decide +kernel
theorem dX10_layStretch_0 : decode cX10_layStretch 0 = .ok (.ldc 158, 2) := by decide +kernel
theorem dX10_layStretch_2 : decode cX10_layStretch 2 = .ok (.istore 4, 2) := by decide +kernel
theorem dX10_layStretch_4 : decode cX10_layStretch 4 = .ok (.iconst 2, 1) := by decide +kernel
theorem dX10_layStretch_5 : decode cX10_layStretch 5 = .ok (.istore 5, 2) := by decide +kernel
theorem dX10_layStretch_7 : decode cX10_layStretch 7 = .ok (.iload 5, 2) := by decide +kernel
theorem dX10_layStretch_9 : decode cX10_layStretch 9 = .ok (.iload_n 1, 1) := by decide +kernel
theorem dX10_layStretch_10 : decode cX10_layStretch 10 = .ok (.if_icmp .gt 55, 3) := by decide +kernel
theorem dX10_layStretch_13 : decode cX10_layStretch 13 = .ok (.aload_n 0, 1) := by decide +kernel
theorem dX10_layStretch_14 : decode cX10_layStretch 14 = .ok (.iload 5, 2) := by decide +kernel
theorem dX10_layStretch_16 : decode cX10_layStretch 16 = .ok (.iload_n 2, 1) := by decide +kernel
theorem dX10_layStretch_17 : decode cX10_layStretch 17 = .ok (.iload_n 3, 1) := by decide +kernel
theorem dX10_layStretch_18 : decode cX10_layStretch 18 = .ok (.invokevirtual 238, 3) := by decide +kernel
theorem dX10_layStretch_21 : decode cX10_layStretch 21 = .ok (.istore 6, 2) := by decide +kernel
theorem dX10_layStretch_23 : decode cX10_layStretch 23 = .ok (.aload_n 0, 1) := by decide +kernel
theorem dX10_layStretch_24 : decode cX10_layStretch 24 = .ok (.getfield 61, 3) := by decide +kernel
theorem dX10_layStretch_27 : decode cX10_layStretch 27 = .ok (.sipush 225, 3) := by decide +kernel
theorem dX10_layStretch_30 : decode cX10_layStretch 30 = .ok (.iload 5, 2) := by decide +kernel
theorem dX10_layStretch_32 : decode cX10_layStretch 32 = .ok (.imul, 1) := by decide +kernel
theorem dX10_layStretch_33 : decode cX10_layStretch 33 = .ok (.bipush 15, 2) := by decide +kernel
theorem dX10_layStretch_35 : decode cX10_layStretch 35 = .ok (.iload_n 2, 1) := by decide +kernel
theorem dX10_layStretch_36 : decode cX10_layStretch 36 = .ok (.imul, 1) := by decide +kernel
theorem dX10_layStretch_37 : decode cX10_layStretch 37 = .ok (.iadd, 1) := by decide +kernel
theorem dX10_layStretch_38 : decode cX10_layStretch 38 = .ok (.iload_n 3, 1) := by decide +kernel
theorem dX10_layStretch_39 : decode cX10_layStretch 39 = .ok (.iadd, 1) := by decide +kernel
theorem dX10_layStretch_40 : decode cX10_layStretch 40 = .ok (.iload 6, 2) := by decide +kernel
theorem dX10_layStretch_42 : decode cX10_layStretch 42 = .ok (.iastore, 1) := by decide +kernel
theorem dX10_layStretch_43 : decode cX10_layStretch 43 = .ok (.iload 6, 2) := by decide +kernel
theorem dX10_layStretch_45 : decode cX10_layStretch 45 = .ok (.iload 4, 2) := by decide +kernel
theorem dX10_layStretch_47 : decode cX10_layStretch 47 = .ok (.if_icmp .ge 8, 3) := by decide +kernel
theorem dX10_layStretch_50 : decode cX10_layStretch 50 = .ok (.iload 6, 2) := by decide +kernel
theorem dX10_layStretch_52 : decode cX10_layStretch 52 = .ok (.goto 5, 3) := by decide +kernel
theorem dX10_layStretch_55 : decode cX10_layStretch 55 = .ok (.iload 4, 2) := by decide +kernel
theorem dX10_layStretch_57 : decode cX10_layStretch 57 = .ok (.istore 4, 2) := by decide +kernel
theorem dX10_layStretch_59 : decode cX10_layStretch 59 = .ok (.iinc 5 1, 3) := by decide +kernel
theorem dX10_layStretch_62 : decode cX10_layStretch 62 = .ok (.goto (-55), 3) := by decide +kernel
theorem dX10_layStretch_65 : decode cX10_layStretch 65 = .ok (.aload_n 0, 1) := by decide +kernel
theorem dX10_layStretch_66 : decode cX10_layStretch 66 = .ok (.getfield 58, 3) := by decide +kernel
theorem dX10_layStretch_69 : decode cX10_layStretch 69 = .ok (.bipush 15, 2) := by decide +kernel
theorem dX10_layStretch_71 : decode cX10_layStretch 71 = .ok (.iload_n 2, 1) := by decide +kernel
theorem dX10_layStretch_72 : decode cX10_layStretch 72 = .ok (.imul, 1) := by decide +kernel
theorem dX10_layStretch_73 : decode cX10_layStretch 73 = .ok (.iload_n 3, 1) := by decide +kernel
theorem dX10_layStretch_74 : decode cX10_layStretch 74 = .ok (.iadd, 1) := by decide +kernel
theorem dX10_layStretch_75 : decode cX10_layStretch 75 = .ok (.iload_n 3, 1) := by decide +kernel
theorem dX10_layStretch_76 : decode cX10_layStretch 76 = .ok (.iload_n 2, 1) := by decide +kernel
theorem dX10_layStretch_77 : decode cX10_layStretch 77 = .ok (.isub, 1) := by decide +kernel
theorem dX10_layStretch_78 : decode cX10_layStretch 78 = .ok (.iconst 1, 1) := by decide +kernel
theorem dX10_layStretch_79 : decode cX10_layStretch 79 = .ok (.if_icmp .ne 7, 3) := by decide +kernel
theorem dX10_layStretch_82 : decode cX10_layStretch 82 = .ok (.iconst 0, 1) := by decide +kernel
theorem dX10_layStretch_83 : decode cX10_layStretch 83 = .ok (.goto 12, 3) := by decide +kernel
theorem dX10_layStretch_86 : decode cX10_layStretch 86 = .ok (.iload 4, 2) := by decide +kernel
theorem dX10_layStretch_88 : decode cX10_layStretch 88 = .ok (.aload_n 0, 1) := by decide +kernel
theorem dX10_layStretch_89 : decode cX10_layStretch 89 = .ok (.iload_n 2, 1) := by decide +kernel
theorem dX10_layStretch_90 : decode cX10_layStretch 90 = .ok (.iload_n 3, 1) := by decide +kernel
theorem dX10_layStretch_91 : decode cX10_layStretch 91 = .ok (.invokevirtual 241, 3) := by decide +kernel
theorem dX10_layStretch_94 : decode cX10_layStretch 94 = .ok (.iadd, 1) := by decide +kernel
theorem dX10_layStretch_95 : decode cX10_layStretch 95 = .ok (.iastore, 1) := by decide +kernel
theorem dX10_layStretch_96 : decode cX10_layStretch 96 = .ok (.aload_n 0, 1) := by decide +kernel
theorem dX10_layStretch_97 : decode cX10_layStretch 97 = .ok (.getfield 61, 3) := by decide +kernel
theorem dX10_layStretch_100 : decode cX10_layStretch 100 = .ok (.sipush 225, 3) := by decide +kernel
theorem dX10_layStretch_103 : decode cX10_layStretch 103 = .ok (.bipush 15, 2) := by decide +kernel
theorem dX10_layStretch_105 : decode cX10_layStretch 105 = .ok (.iload_n 2, 1) := by decide +kernel
theorem dX10_layStretch_106 : decode cX10_layStretch 106 = .ok (.imul, 1) := by decide +kernel
theorem dX10_layStretch_107 : decode cX10_layStretch 107 = .ok (.iadd, 1) := by decide +kernel
theorem dX10_layStretch_108 : decode cX10_layStretch 108 = .ok (.iload_n 3, 1) := by decide +kernel
theorem dX10_layStretch_109 : decode cX10_layStretch 109 = .ok (.iadd, 1) := by decide +kernel
theorem dX10_layStretch_110 : decode cX10_layStretch 110 = .ok (.aload_n 0, 1) := by decide +kernel
theorem dX10_layStretch_111 : decode cX10_layStretch 111 = .ok (.iload_n 2, 1) := by decide +kernel
theorem dX10_layStretch_112 : decode cX10_layStretch 112 = .ok (.iload_n 3, 1) := by decide +kernel
theorem dX10_layStretch_113 : decode cX10_layStretch 113 = .ok (.invokevirtual 232, 3) := by decide +kernel
theorem dX10_layStretch_116 : decode cX10_layStretch 116 = .ok (.iastore, 1) := by decide +kernel
theorem dX10_layStretch_117 : decode cX10_layStretch 117 = .ok (.return_, 1) := by decide +kernel
theorem dX10_partsOf_0 : decode cX10_partsOf 0 = .ok (.iconst 2, 1) := by decide +kernel
theorem dX10_partsOf_1 : decode cX10_partsOf 1 = .ok (.istore 4, 2) := by decide +kernel
theorem dX10_partsOf_3 : decode cX10_partsOf 3 = .ok (.iconst 3, 1) := by decide +kernel
theorem dX10_partsOf_4 : decode cX10_partsOf 4 = .ok (.istore 5, 2) := by decide +kernel
theorem dX10_partsOf_6 : decode cX10_partsOf 6 = .ok (.iload 5, 2) := by decide +kernel
theorem dX10_partsOf_8 : decode cX10_partsOf 8 = .ok (.iload_n 1, 1) := by decide +kernel
theorem dX10_partsOf_9 : decode cX10_partsOf 9 = .ok (.if_icmp .gt 37, 3) := by decide +kernel
theorem dX10_partsOf_12 : decode cX10_partsOf 12 = .ok (.aload_n 0, 1) := by decide +kernel
theorem dX10_partsOf_13 : decode cX10_partsOf 13 = .ok (.iload 5, 2) := by decide +kernel
theorem dX10_partsOf_15 : decode cX10_partsOf 15 = .ok (.iload_n 2, 1) := by decide +kernel
theorem dX10_partsOf_16 : decode cX10_partsOf 16 = .ok (.iload_n 3, 1) := by decide +kernel
theorem dX10_partsOf_17 : decode cX10_partsOf 17 = .ok (.invokevirtual 228, 3) := by decide +kernel
theorem dX10_partsOf_20 : decode cX10_partsOf 20 = .ok (.aload_n 0, 1) := by decide +kernel
theorem dX10_partsOf_21 : decode cX10_partsOf 21 = .ok (.iload 4, 2) := by decide +kernel
theorem dX10_partsOf_23 : decode cX10_partsOf 23 = .ok (.iload_n 2, 1) := by decide +kernel
theorem dX10_partsOf_24 : decode cX10_partsOf 24 = .ok (.iload_n 3, 1) := by decide +kernel
theorem dX10_partsOf_25 : decode cX10_partsOf 25 = .ok (.invokevirtual 228, 3) := by decide +kernel
theorem dX10_partsOf_28 : decode cX10_partsOf 28 = .ok (.if_icmp .ge 8, 3) := by decide +kernel
theorem dX10_partsOf_31 : decode cX10_partsOf 31 = .ok (.iload 5, 2) := by decide +kernel
theorem dX10_partsOf_33 : decode cX10_partsOf 33 = .ok (.goto 5, 3) := by decide +kernel
theorem dX10_partsOf_36 : decode cX10_partsOf 36 = .ok (.iload 4, 2) := by decide +kernel
theorem dX10_partsOf_38 : decode cX10_partsOf 38 = .ok (.istore 4, 2) := by decide +kernel
theorem dX10_partsOf_40 : decode cX10_partsOf 40 = .ok (.iinc 5 1, 3) := by decide +kernel
theorem dX10_partsOf_43 : decode cX10_partsOf 43 = .ok (.goto (-37), 3) := by decide +kernel
theorem dX10_partsOf_46 : decode cX10_partsOf 46 = .ok (.iload 4, 2) := by decide +kernel
theorem dX10_partsOf_48 : decode cX10_partsOf 48 = .ok (.ireturn, 1) := by decide +kernel
theorem dX10_firstCut_0 : decode cX10_firstCut 0 = .ok (.iload_n 1, 1) := by decide +kernel
theorem dX10_firstCut_1 : decode cX10_firstCut 1 = .ok (.iconst 1, 1) := by decide +kernel
theorem dX10_firstCut_2 : decode cX10_firstCut 2 = .ok (.if_icmp .ne 5, 3) := by decide +kernel
theorem dX10_firstCut_5 : decode cX10_firstCut 5 = .ok (.iload_n 3, 1) := by decide +kernel
theorem dX10_firstCut_6 : decode cX10_firstCut 6 = .ok (.ireturn, 1) := by decide +kernel
theorem dX10_firstCut_7 : decode cX10_firstCut 7 = .ok (.iload_n 2, 1) := by decide +kernel
theorem dX10_firstCut_8 : decode cX10_firstCut 8 = .ok (.iconst 1, 1) := by decide +kernel
theorem dX10_firstCut_9 : decode cX10_firstCut 9 = .ok (.iadd, 1) := by decide +kernel
theorem dX10_firstCut_10 : decode cX10_firstCut 10 = .ok (.istore 4, 2) := by decide +kernel
theorem dX10_firstCut_12 : decode cX10_firstCut 12 = .ok (.aload_n 0, 1) := by decide +kernel
theorem dX10_firstCut_13 : decode cX10_firstCut 13 = .ok (.iload_n 1, 1) := by decide +kernel
theorem dX10_firstCut_14 : decode cX10_firstCut 14 = .ok (.iconst 1, 1) := by decide +kernel
theorem dX10_firstCut_15 : decode cX10_firstCut 15 = .ok (.isub, 1) := by decide +kernel
theorem dX10_firstCut_16 : decode cX10_firstCut 16 = .ok (.iload 4, 2) := by decide +kernel
theorem dX10_firstCut_18 : decode cX10_firstCut 18 = .ok (.iload_n 3, 1) := by decide +kernel
theorem dX10_firstCut_19 : decode cX10_firstCut 19 = .ok (.invokevirtual 228, 3) := by decide +kernel
theorem dX10_firstCut_22 : decode cX10_firstCut 22 = .ok (.ldc 158, 2) := by decide +kernel
theorem dX10_firstCut_24 : decode cX10_firstCut 24 = .ok (.if_icmp .eq 31, 3) := by decide +kernel
theorem dX10_firstCut_27 : decode cX10_firstCut 27 = .ok (.aload_n 0, 1) := by decide +kernel
theorem dX10_firstCut_28 : decode cX10_firstCut 28 = .ok (.iload_n 2, 1) := by decide +kernel
theorem dX10_firstCut_29 : decode cX10_firstCut 29 = .ok (.iload 4, 2) := by decide +kernel
theorem dX10_firstCut_31 : decode cX10_firstCut 31 = .ok (.invokevirtual 232, 3) := by decide +kernel
theorem dX10_firstCut_34 : decode cX10_firstCut 34 = .ok (.aload_n 0, 1) := by decide +kernel
theorem dX10_firstCut_35 : decode cX10_firstCut 35 = .ok (.iload_n 1, 1) := by decide +kernel
theorem dX10_firstCut_36 : decode cX10_firstCut 36 = .ok (.iconst 1, 1) := by decide +kernel
theorem dX10_firstCut_37 : decode cX10_firstCut 37 = .ok (.isub, 1) := by decide +kernel
theorem dX10_firstCut_38 : decode cX10_firstCut 38 = .ok (.iload 4, 2) := by decide +kernel
theorem dX10_firstCut_40 : decode cX10_firstCut 40 = .ok (.iload_n 3, 1) := by decide +kernel
theorem dX10_firstCut_41 : decode cX10_firstCut 41 = .ok (.invokevirtual 228, 3) := by decide +kernel
theorem dX10_firstCut_44 : decode cX10_firstCut 44 = .ok (.iadd, 1) := by decide +kernel
theorem dX10_firstCut_45 : decode cX10_firstCut 45 = .ok (.aload_n 0, 1) := by decide +kernel
theorem dX10_firstCut_46 : decode cX10_firstCut 46 = .ok (.iload_n 1, 1) := by decide +kernel
theorem dX10_firstCut_47 : decode cX10_firstCut 47 = .ok (.iload_n 2, 1) := by decide +kernel
theorem dX10_firstCut_48 : decode cX10_firstCut 48 = .ok (.iload_n 3, 1) := by decide +kernel
theorem dX10_firstCut_49 : decode cX10_firstCut 49 = .ok (.invokevirtual 228, 3) := by decide +kernel
theorem dX10_firstCut_52 : decode cX10_firstCut 52 = .ok (.if_icmp .eq 9, 3) := by decide +kernel
theorem dX10_firstCut_55 : decode cX10_firstCut 55 = .ok (.iinc 4 1, 3) := by decide +kernel
theorem dX10_firstCut_58 : decode cX10_firstCut 58 = .ok (.goto (-46), 3) := by decide +kernel
theorem dX10_firstCut_61 : decode cX10_firstCut 61 = .ok (.iload 4, 2) := by decide +kernel
theorem dX10_firstCut_63 : decode cX10_firstCut 63 = .ok (.ireturn, 1) := by decide +kernel
theorem dX10_layPath_0 : decode cX10_layPath 0 = .ok (.iconst 0, 1) := by decide +kernel
theorem dX10_layPath_1 : decode cX10_layPath 1 = .ok (.istore_n 3, 1) := by decide +kernel
theorem dX10_layPath_2 : decode cX10_layPath 2 = .ok (.aload_n 0, 1) := by decide +kernel
theorem dX10_layPath_3 : decode cX10_layPath 3 = .ok (.getfield 109, 3) := by decide +kernel
theorem dX10_layPath_6 : decode cX10_layPath 6 = .ok (.istore 4, 2) := by decide +kernel
theorem dX10_layPath_8 : decode cX10_layPath 8 = .ok (.aload_n 0, 1) := by decide +kernel
theorem dX10_layPath_9 : decode cX10_layPath 9 = .ok (.getfield 64, 3) := by decide +kernel
theorem dX10_layPath_12 : decode cX10_layPath 12 = .ok (.iload_n 2, 1) := by decide +kernel
theorem dX10_layPath_13 : decode cX10_layPath 13 = .ok (.iconst 0, 1) := by decide +kernel
theorem dX10_layPath_14 : decode cX10_layPath 14 = .ok (.iastore, 1) := by decide +kernel
theorem dX10_layPath_15 : decode cX10_layPath 15 = .ok (.iload 4, 2) := by decide +kernel
theorem dX10_layPath_17 : decode cX10_layPath 17 = .ok (.iload_n 3, 1) := by decide +kernel
theorem dX10_layPath_18 : decode cX10_layPath 18 = .ok (.isub, 1) := by decide +kernel
theorem dX10_layPath_19 : decode cX10_layPath 19 = .ok (.iconst 1, 1) := by decide +kernel
theorem dX10_layPath_20 : decode cX10_layPath 20 = .ok (.if_icmp .le 91, 3) := by decide +kernel
theorem dX10_layPath_23 : decode cX10_layPath 23 = .ok (.aload_n 0, 1) := by decide +kernel
theorem dX10_layPath_24 : decode cX10_layPath 24 = .ok (.iload_n 1, 1) := by decide +kernel
theorem dX10_layPath_25 : decode cX10_layPath 25 = .ok (.iload_n 3, 1) := by decide +kernel
theorem dX10_layPath_26 : decode cX10_layPath 26 = .ok (.iload 4, 2) := by decide +kernel
theorem dX10_layPath_28 : decode cX10_layPath 28 = .ok (.invokevirtual 244, 3) := by decide +kernel
theorem dX10_layPath_31 : decode cX10_layPath 31 = .ok (.istore 5, 2) := by decide +kernel
theorem dX10_layPath_33 : decode cX10_layPath 33 = .ok (.iconst 1, 1) := by decide +kernel
theorem dX10_layPath_34 : decode cX10_layPath 34 = .ok (.istore 6, 2) := by decide +kernel
theorem dX10_layPath_36 : decode cX10_layPath 36 = .ok (.aload_n 0, 1) := by decide +kernel
theorem dX10_layPath_37 : decode cX10_layPath 37 = .ok (.iload 5, 2) := by decide +kernel
theorem dX10_layPath_39 : decode cX10_layPath 39 = .ok (.iload_n 3, 1) := by decide +kernel
theorem dX10_layPath_40 : decode cX10_layPath 40 = .ok (.iload 4, 2) := by decide +kernel
theorem dX10_layPath_42 : decode cX10_layPath 42 = .ok (.invokevirtual 247, 3) := by decide +kernel
theorem dX10_layPath_45 : decode cX10_layPath 45 = .ok (.istore 7, 2) := by decide +kernel
theorem dX10_layPath_47 : decode cX10_layPath 47 = .ok (.iload 7, 2) := by decide +kernel
theorem dX10_layPath_49 : decode cX10_layPath 49 = .ok (.iload_n 2, 1) := by decide +kernel
theorem dX10_layPath_50 : decode cX10_layPath 50 = .ok (.if_icmp .gt 26, 3) := by decide +kernel
theorem dX10_layPath_53 : decode cX10_layPath 53 = .ok (.iload 7, 2) := by decide +kernel
theorem dX10_layPath_55 : decode cX10_layPath 55 = .ok (.istore_n 3, 1) := by decide +kernel
theorem dX10_layPath_56 : decode cX10_layPath 56 = .ok (.iinc 5 (-1), 3) := by decide +kernel
theorem dX10_layPath_59 : decode cX10_layPath 59 = .ok (.iinc 6 1, 3) := by decide +kernel
theorem dX10_layPath_62 : decode cX10_layPath 62 = .ok (.aload_n 0, 1) := by decide +kernel
theorem dX10_layPath_63 : decode cX10_layPath 63 = .ok (.iload 5, 2) := by decide +kernel
theorem dX10_layPath_65 : decode cX10_layPath 65 = .ok (.iload_n 3, 1) := by decide +kernel
theorem dX10_layPath_66 : decode cX10_layPath 66 = .ok (.iload 4, 2) := by decide +kernel
theorem dX10_layPath_68 : decode cX10_layPath 68 = .ok (.invokevirtual 247, 3) := by decide +kernel
theorem dX10_layPath_71 : decode cX10_layPath 71 = .ok (.istore 7, 2) := by decide +kernel
theorem dX10_layPath_73 : decode cX10_layPath 73 = .ok (.goto (-26), 3) := by decide +kernel
theorem dX10_layPath_76 : decode cX10_layPath 76 = .ok (.iload 7, 2) := by decide +kernel
theorem dX10_layPath_78 : decode cX10_layPath 78 = .ok (.istore 4, 2) := by decide +kernel
theorem dX10_layPath_80 : decode cX10_layPath 80 = .ok (.aload_n 0, 1) := by decide +kernel
theorem dX10_layPath_81 : decode cX10_layPath 81 = .ok (.getfield 67, 3) := by decide +kernel
theorem dX10_layPath_84 : decode cX10_layPath 84 = .ok (.bipush 14, 2) := by decide +kernel
theorem dX10_layPath_86 : decode cX10_layPath 86 = .ok (.iload_n 2, 1) := by decide +kernel
theorem dX10_layPath_87 : decode cX10_layPath 87 = .ok (.imul, 1) := by decide +kernel
theorem dX10_layPath_88 : decode cX10_layPath 88 = .ok (.aload_n 0, 1) := by decide +kernel
theorem dX10_layPath_89 : decode cX10_layPath 89 = .ok (.getfield 64, 3) := by decide +kernel
theorem dX10_layPath_92 : decode cX10_layPath 92 = .ok (.iload_n 2, 1) := by decide +kernel
theorem dX10_layPath_93 : decode cX10_layPath 93 = .ok (.iaload, 1) := by decide +kernel
theorem dX10_layPath_94 : decode cX10_layPath 94 = .ok (.iadd, 1) := by decide +kernel
theorem dX10_layPath_95 : decode cX10_layPath 95 = .ok (.iload 6, 2) := by decide +kernel
theorem dX10_layPath_97 : decode cX10_layPath 97 = .ok (.iastore, 1) := by decide +kernel
theorem dX10_layPath_98 : decode cX10_layPath 98 = .ok (.aload_n 0, 1) := by decide +kernel
theorem dX10_layPath_99 : decode cX10_layPath 99 = .ok (.getfield 64, 3) := by decide +kernel
theorem dX10_layPath_102 : decode cX10_layPath 102 = .ok (.iload_n 2, 1) := by decide +kernel
theorem dX10_layPath_103 : decode cX10_layPath 103 = .ok (.dup2, 1) := by decide +kernel
theorem dX10_layPath_104 : decode cX10_layPath 104 = .ok (.iaload, 1) := by decide +kernel
theorem dX10_layPath_105 : decode cX10_layPath 105 = .ok (.iconst 1, 1) := by decide +kernel
theorem dX10_layPath_106 : decode cX10_layPath 106 = .ok (.iadd, 1) := by decide +kernel
theorem dX10_layPath_107 : decode cX10_layPath 107 = .ok (.iastore, 1) := by decide +kernel
theorem dX10_layPath_108 : decode cX10_layPath 108 = .ok (.goto (-93), 3) := by decide +kernel
theorem dX10_layPath_111 : decode cX10_layPath 111 = .ok (.return_, 1) := by decide +kernel
theorem dX10_layMenu_0 : decode cX10_layMenu 0 = .ok (.aload_n 0, 1) := by decide +kernel
theorem dX10_layMenu_1 : decode cX10_layMenu 1 = .ok (.iload_n 1, 1) := by decide +kernel
theorem dX10_layMenu_2 : decode cX10_layMenu 2 = .ok (.invokevirtual 250, 3) := by decide +kernel
theorem dX10_layMenu_5 : decode cX10_layMenu 5 = .ok (.iconst 0, 1) := by decide +kernel
theorem dX10_layMenu_6 : decode cX10_layMenu 6 = .ok (.istore_n 2, 1) := by decide +kernel
theorem dX10_layMenu_7 : decode cX10_layMenu 7 = .ok (.iload_n 2, 1) := by decide +kernel
theorem dX10_layMenu_8 : decode cX10_layMenu 8 = .ok (.aload_n 0, 1) := by decide +kernel
theorem dX10_layMenu_9 : decode cX10_layMenu 9 = .ok (.getfield 109, 3) := by decide +kernel
theorem dX10_layMenu_12 : decode cX10_layMenu 12 = .ok (.if_icmp .ge 15, 3) := by decide +kernel
theorem dX10_layMenu_15 : decode cX10_layMenu 15 = .ok (.aload_n 0, 1) := by decide +kernel
theorem dX10_layMenu_16 : decode cX10_layMenu 16 = .ok (.iload_n 1, 1) := by decide +kernel
theorem dX10_layMenu_17 : decode cX10_layMenu 17 = .ok (.iload_n 2, 1) := by decide +kernel
theorem dX10_layMenu_18 : decode cX10_layMenu 18 = .ok (.invokevirtual 253, 3) := by decide +kernel
theorem dX10_layMenu_21 : decode cX10_layMenu 21 = .ok (.iinc 2 1, 3) := by decide +kernel
theorem dX10_layMenu_24 : decode cX10_layMenu 24 = .ok (.goto (-17), 3) := by decide +kernel
theorem dX10_layMenu_27 : decode cX10_layMenu 27 = .ok (.return_, 1) := by decide +kernel
theorem dX10_isPathChanged_0 : decode cX10_isPathChanged 0 = .ok (.aload_n 0, 1) := by decide +kernel
theorem dX10_isPathChanged_1 : decode cX10_isPathChanged 1 = .ok (.getfield 28, 3) := by decide +kernel
theorem dX10_isPathChanged_4 : decode cX10_isPathChanged 4 = .ok (.iload_n 1, 1) := by decide +kernel
theorem dX10_isPathChanged_5 : decode cX10_isPathChanged 5 = .ok (.iaload, 1) := by decide +kernel
theorem dX10_isPathChanged_6 : decode cX10_isPathChanged 6 = .ok (.aload_n 0, 1) := by decide +kernel
theorem dX10_isPathChanged_7 : decode cX10_isPathChanged 7 = .ok (.getfield 64, 3) := by decide +kernel
theorem dX10_isPathChanged_10 : decode cX10_isPathChanged 10 = .ok (.iload_n 1, 1) := by decide +kernel
theorem dX10_isPathChanged_11 : decode cX10_isPathChanged 11 = .ok (.iaload, 1) := by decide +kernel
theorem dX10_isPathChanged_12 : decode cX10_isPathChanged 12 = .ok (.if_icmp .eq 7, 3) := by decide +kernel
theorem dX10_isPathChanged_15 : decode cX10_isPathChanged 15 = .ok (.iconst 1, 1) := by decide +kernel
theorem dX10_isPathChanged_16 : decode cX10_isPathChanged 16 = .ok (.goto 4, 3) := by decide +kernel
theorem dX10_isPathChanged_19 : decode cX10_isPathChanged 19 = .ok (.iconst 0, 1) := by decide +kernel
theorem dX10_isPathChanged_20 : decode cX10_isPathChanged 20 = .ok (.istore_n 2, 1) := by decide +kernel
theorem dX10_isPathChanged_21 : decode cX10_isPathChanged 21 = .ok (.iconst 0, 1) := by decide +kernel
theorem dX10_isPathChanged_22 : decode cX10_isPathChanged 22 = .ok (.istore_n 3, 1) := by decide +kernel
theorem dX10_isPathChanged_23 : decode cX10_isPathChanged 23 = .ok (.iload_n 3, 1) := by decide +kernel
theorem dX10_isPathChanged_24 : decode cX10_isPathChanged 24 = .ok (.aload_n 0, 1) := by decide +kernel
theorem dX10_isPathChanged_25 : decode cX10_isPathChanged 25 = .ok (.getfield 28, 3) := by decide +kernel
theorem dX10_isPathChanged_28 : decode cX10_isPathChanged 28 = .ok (.iload_n 1, 1) := by decide +kernel
theorem dX10_isPathChanged_29 : decode cX10_isPathChanged 29 = .ok (.iaload, 1) := by decide +kernel
theorem dX10_isPathChanged_30 : decode cX10_isPathChanged 30 = .ok (.if_icmp .ge 44, 3) := by decide +kernel
theorem dX10_isPathChanged_33 : decode cX10_isPathChanged 33 = .ok (.iload_n 2, 1) := by decide +kernel
theorem dX10_isPathChanged_34 : decode cX10_isPathChanged 34 = .ok (.ifCond .ne 40, 3) := by decide +kernel
theorem dX10_isPathChanged_37 : decode cX10_isPathChanged 37 = .ok (.aload_n 0, 1) := by decide +kernel
theorem dX10_isPathChanged_38 : decode cX10_isPathChanged 38 = .ok (.getfield 31, 3) := by decide +kernel
theorem dX10_isPathChanged_41 : decode cX10_isPathChanged 41 = .ok (.bipush 14, 2) := by decide +kernel
theorem dX10_isPathChanged_43 : decode cX10_isPathChanged 43 = .ok (.iload_n 1, 1) := by decide +kernel
theorem dX10_isPathChanged_44 : decode cX10_isPathChanged 44 = .ok (.imul, 1) := by decide +kernel
theorem dX10_isPathChanged_45 : decode cX10_isPathChanged 45 = .ok (.iload_n 3, 1) := by decide +kernel
theorem dX10_isPathChanged_46 : decode cX10_isPathChanged 46 = .ok (.iadd, 1) := by decide +kernel
theorem dX10_isPathChanged_47 : decode cX10_isPathChanged 47 = .ok (.iaload, 1) := by decide +kernel
theorem dX10_isPathChanged_48 : decode cX10_isPathChanged 48 = .ok (.aload_n 0, 1) := by decide +kernel
theorem dX10_isPathChanged_49 : decode cX10_isPathChanged 49 = .ok (.getfield 67, 3) := by decide +kernel
theorem dX10_isPathChanged_52 : decode cX10_isPathChanged 52 = .ok (.bipush 14, 2) := by decide +kernel
theorem dX10_isPathChanged_54 : decode cX10_isPathChanged 54 = .ok (.iload_n 1, 1) := by decide +kernel
theorem dX10_isPathChanged_55 : decode cX10_isPathChanged 55 = .ok (.imul, 1) := by decide +kernel
theorem dX10_isPathChanged_56 : decode cX10_isPathChanged 56 = .ok (.iload_n 3, 1) := by decide +kernel
theorem dX10_isPathChanged_57 : decode cX10_isPathChanged 57 = .ok (.iadd, 1) := by decide +kernel
theorem dX10_isPathChanged_58 : decode cX10_isPathChanged 58 = .ok (.iaload, 1) := by decide +kernel
theorem dX10_isPathChanged_59 : decode cX10_isPathChanged 59 = .ok (.if_icmp .eq 7, 3) := by decide +kernel
theorem dX10_isPathChanged_62 : decode cX10_isPathChanged 62 = .ok (.iconst 1, 1) := by decide +kernel
theorem dX10_isPathChanged_63 : decode cX10_isPathChanged 63 = .ok (.goto 4, 3) := by decide +kernel
theorem dX10_isPathChanged_66 : decode cX10_isPathChanged 66 = .ok (.iconst 0, 1) := by decide +kernel
theorem dX10_isPathChanged_67 : decode cX10_isPathChanged 67 = .ok (.istore_n 2, 1) := by decide +kernel
theorem dX10_isPathChanged_68 : decode cX10_isPathChanged 68 = .ok (.iinc 3 1, 3) := by decide +kernel
theorem dX10_isPathChanged_71 : decode cX10_isPathChanged 71 = .ok (.goto (-48), 3) := by decide +kernel
theorem dX10_isPathChanged_74 : decode cX10_isPathChanged 74 = .ok (.iload_n 2, 1) := by decide +kernel
theorem dX10_isPathChanged_75 : decode cX10_isPathChanged 75 = .ok (.ireturn, 1) := by decide +kernel
theorem dX10_takeMenu_0 : decode cX10_takeMenu 0 = .ok (.iconst 0, 1) := by decide +kernel
theorem dX10_takeMenu_1 : decode cX10_takeMenu 1 = .ok (.istore_n 2, 1) := by decide +kernel
theorem dX10_takeMenu_2 : decode cX10_takeMenu 2 = .ok (.iconst 0, 1) := by decide +kernel
theorem dX10_takeMenu_3 : decode cX10_takeMenu 3 = .ok (.istore_n 3, 1) := by decide +kernel
theorem dX10_takeMenu_4 : decode cX10_takeMenu 4 = .ok (.iload_n 3, 1) := by decide +kernel
theorem dX10_takeMenu_5 : decode cX10_takeMenu 5 = .ok (.aload_n 0, 1) := by decide +kernel
theorem dX10_takeMenu_6 : decode cX10_takeMenu 6 = .ok (.getfield 109, 3) := by decide +kernel
theorem dX10_takeMenu_9 : decode cX10_takeMenu 9 = .ok (.if_icmp .ge 25, 3) := by decide +kernel
theorem dX10_takeMenu_12 : decode cX10_takeMenu 12 = .ok (.iload_n 2, 1) := by decide +kernel
theorem dX10_takeMenu_13 : decode cX10_takeMenu 13 = .ok (.aload_n 0, 1) := by decide +kernel
theorem dX10_takeMenu_14 : decode cX10_takeMenu 14 = .ok (.iload_n 3, 1) := by decide +kernel
theorem dX10_takeMenu_15 : decode cX10_takeMenu 15 = .ok (.invokevirtual 256, 3) := by decide +kernel
theorem dX10_takeMenu_18 : decode cX10_takeMenu 18 = .ok (.ifCond .eq 7, 3) := by decide +kernel
theorem dX10_takeMenu_21 : decode cX10_takeMenu 21 = .ok (.iconst 1, 1) := by decide +kernel
theorem dX10_takeMenu_22 : decode cX10_takeMenu 22 = .ok (.goto 4, 3) := by decide +kernel
theorem dX10_takeMenu_25 : decode cX10_takeMenu 25 = .ok (.iconst 0, 1) := by decide +kernel
theorem dX10_takeMenu_26 : decode cX10_takeMenu 26 = .ok (.iadd, 1) := by decide +kernel
theorem dX10_takeMenu_27 : decode cX10_takeMenu 27 = .ok (.istore_n 2, 1) := by decide +kernel
theorem dX10_takeMenu_28 : decode cX10_takeMenu 28 = .ok (.iinc 3 1, 3) := by decide +kernel
theorem dX10_takeMenu_31 : decode cX10_takeMenu 31 = .ok (.goto (-27), 3) := by decide +kernel
theorem dX10_takeMenu_34 : decode cX10_takeMenu 34 = .ok (.iconst 0, 1) := by decide +kernel
theorem dX10_takeMenu_35 : decode cX10_takeMenu 35 = .ok (.istore_n 3, 1) := by decide +kernel
theorem dX10_takeMenu_36 : decode cX10_takeMenu 36 = .ok (.iload_n 3, 1) := by decide +kernel
theorem dX10_takeMenu_37 : decode cX10_takeMenu 37 = .ok (.aload_n 0, 1) := by decide +kernel
theorem dX10_takeMenu_38 : decode cX10_takeMenu 38 = .ok (.getfield 109, 3) := by decide +kernel
theorem dX10_takeMenu_41 : decode cX10_takeMenu 41 = .ok (.if_icmp .ge 21, 3) := by decide +kernel
theorem dX10_takeMenu_44 : decode cX10_takeMenu 44 = .ok (.aload_n 0, 1) := by decide +kernel
theorem dX10_takeMenu_45 : decode cX10_takeMenu 45 = .ok (.getfield 28, 3) := by decide +kernel
theorem dX10_takeMenu_48 : decode cX10_takeMenu 48 = .ok (.iload_n 3, 1) := by decide +kernel
theorem dX10_takeMenu_49 : decode cX10_takeMenu 49 = .ok (.aload_n 0, 1) := by decide +kernel
theorem dX10_takeMenu_50 : decode cX10_takeMenu 50 = .ok (.getfield 64, 3) := by decide +kernel
theorem dX10_takeMenu_53 : decode cX10_takeMenu 53 = .ok (.iload_n 3, 1) := by decide +kernel
theorem dX10_takeMenu_54 : decode cX10_takeMenu 54 = .ok (.iaload, 1) := by decide +kernel
theorem dX10_takeMenu_55 : decode cX10_takeMenu 55 = .ok (.iastore, 1) := by decide +kernel
theorem dX10_takeMenu_56 : decode cX10_takeMenu 56 = .ok (.iinc 3 1, 3) := by decide +kernel
theorem dX10_takeMenu_59 : decode cX10_takeMenu 59 = .ok (.goto (-23), 3) := by decide +kernel
theorem dX10_takeMenu_62 : decode cX10_takeMenu 62 = .ok (.iconst 0, 1) := by decide +kernel
theorem dX10_takeMenu_63 : decode cX10_takeMenu 63 = .ok (.istore_n 3, 1) := by decide +kernel
theorem dX10_takeMenu_64 : decode cX10_takeMenu 64 = .ok (.iload_n 3, 1) := by decide +kernel
theorem dX10_takeMenu_65 : decode cX10_takeMenu 65 = .ok (.sipush 196, 3) := by decide +kernel
theorem dX10_takeMenu_68 : decode cX10_takeMenu 68 = .ok (.if_icmp .ge 21, 3) := by decide +kernel
theorem dX10_takeMenu_71 : decode cX10_takeMenu 71 = .ok (.aload_n 0, 1) := by decide +kernel
theorem dX10_takeMenu_72 : decode cX10_takeMenu 72 = .ok (.getfield 31, 3) := by decide +kernel
theorem dX10_takeMenu_75 : decode cX10_takeMenu 75 = .ok (.iload_n 3, 1) := by decide +kernel
theorem dX10_takeMenu_76 : decode cX10_takeMenu 76 = .ok (.aload_n 0, 1) := by decide +kernel
theorem dX10_takeMenu_77 : decode cX10_takeMenu 77 = .ok (.getfield 67, 3) := by decide +kernel
theorem dX10_takeMenu_80 : decode cX10_takeMenu 80 = .ok (.iload_n 3, 1) := by decide +kernel
theorem dX10_takeMenu_81 : decode cX10_takeMenu 81 = .ok (.iaload, 1) := by decide +kernel
theorem dX10_takeMenu_82 : decode cX10_takeMenu 82 = .ok (.iastore, 1) := by decide +kernel
theorem dX10_takeMenu_83 : decode cX10_takeMenu 83 = .ok (.iinc 3 1, 3) := by decide +kernel
theorem dX10_takeMenu_86 : decode cX10_takeMenu 86 = .ok (.goto (-22), 3) := by decide +kernel
theorem dX10_takeMenu_89 : decode cX10_takeMenu 89 = .ok (.aload_n 0, 1) := by decide +kernel
theorem dX10_takeMenu_90 : decode cX10_takeMenu 90 = .ok (.iload_n 1, 1) := by decide +kernel
theorem dX10_takeMenu_91 : decode cX10_takeMenu 91 = .ok (.putfield 130, 3) := by decide +kernel
theorem dX10_takeMenu_94 : decode cX10_takeMenu 94 = .ok (.aload_n 0, 1) := by decide +kernel
theorem dX10_takeMenu_95 : decode cX10_takeMenu 95 = .ok (.dup, 1) := by decide +kernel
theorem dX10_takeMenu_96 : decode cX10_takeMenu 96 = .ok (.getfield 259, 3) := by decide +kernel
theorem dX10_takeMenu_99 : decode cX10_takeMenu 99 = .ok (.iconst 1, 1) := by decide +kernel
theorem dX10_takeMenu_100 : decode cX10_takeMenu 100 = .ok (.iadd, 1) := by decide +kernel
theorem dX10_takeMenu_101 : decode cX10_takeMenu 101 = .ok (.putfield 259, 3) := by decide +kernel
theorem dX10_takeMenu_104 : decode cX10_takeMenu 104 = .ok (.iload_n 2, 1) := by decide +kernel
theorem dX10_takeMenu_105 : decode cX10_takeMenu 105 = .ok (.ireturn, 1) := by decide +kernel
theorem dX10_costNow_0 : decode cX10_costNow 0 = .ok (.iconst 0, 1) := by decide +kernel
theorem dX10_costNow_1 : decode cX10_costNow 1 = .ok (.istore_n 1, 1) := by decide +kernel
theorem dX10_costNow_2 : decode cX10_costNow 2 = .ok (.iconst 0, 1) := by decide +kernel
theorem dX10_costNow_3 : decode cX10_costNow 3 = .ok (.istore_n 2, 1) := by decide +kernel
theorem dX10_costNow_4 : decode cX10_costNow 4 = .ok (.iload_n 2, 1) := by decide +kernel
theorem dX10_costNow_5 : decode cX10_costNow 5 = .ok (.aload_n 0, 1) := by decide +kernel
theorem dX10_costNow_6 : decode cX10_costNow 6 = .ok (.getfield 109, 3) := by decide +kernel
theorem dX10_costNow_9 : decode cX10_costNow 9 = .ok (.if_icmp .ge 25, 3) := by decide +kernel
theorem dX10_costNow_12 : decode cX10_costNow 12 = .ok (.iload_n 1, 1) := by decide +kernel
theorem dX10_costNow_13 : decode cX10_costNow 13 = .ok (.aload_n 0, 1) := by decide +kernel
theorem dX10_costNow_14 : decode cX10_costNow 14 = .ok (.getfield 19, 3) := by decide +kernel
theorem dX10_costNow_17 : decode cX10_costNow 17 = .ok (.iload_n 2, 1) := by decide +kernel
theorem dX10_costNow_18 : decode cX10_costNow 18 = .ok (.iaload, 1) := by decide +kernel
theorem dX10_costNow_19 : decode cX10_costNow 19 = .ok (.aload_n 0, 1) := by decide +kernel
theorem dX10_costNow_20 : decode cX10_costNow 20 = .ok (.getfield 28, 3) := by decide +kernel
theorem dX10_costNow_23 : decode cX10_costNow 23 = .ok (.iload_n 2, 1) := by decide +kernel
theorem dX10_costNow_24 : decode cX10_costNow 24 = .ok (.iaload, 1) := by decide +kernel
theorem dX10_costNow_25 : decode cX10_costNow 25 = .ok (.imul, 1) := by decide +kernel
theorem dX10_costNow_26 : decode cX10_costNow 26 = .ok (.iadd, 1) := by decide +kernel
theorem dX10_costNow_27 : decode cX10_costNow 27 = .ok (.istore_n 1, 1) := by decide +kernel
theorem dX10_costNow_28 : decode cX10_costNow 28 = .ok (.iinc 2 1, 3) := by decide +kernel
theorem dX10_costNow_31 : decode cX10_costNow 31 = .ok (.goto (-27), 3) := by decide +kernel
theorem dX10_costNow_34 : decode cX10_costNow 34 = .ok (.iload_n 1, 1) := by decide +kernel
theorem dX10_costNow_35 : decode cX10_costNow 35 = .ok (.ireturn, 1) := by decide +kernel
theorem dX10_leastCost_0 : decode cX10_leastCost 0 = .ok (.aload_n 0, 1) := by decide +kernel
theorem dX10_leastCost_1 : decode cX10_leastCost 1 = .ok (.aload_n 0, 1) := by decide +kernel
theorem dX10_leastCost_2 : decode cX10_leastCost 2 = .ok (.getfield 130, 3) := by decide +kernel
theorem dX10_leastCost_5 : decode cX10_leastCost 5 = .ok (.invokevirtual 250, 3) := by decide +kernel
theorem dX10_leastCost_8 : decode cX10_leastCost 8 = .ok (.aload_n 0, 1) := by decide +kernel
theorem dX10_leastCost_9 : decode cX10_leastCost 9 = .ok (.iconst 0, 1) := by decide +kernel
theorem dX10_leastCost_10 : decode cX10_leastCost 10 = .ok (.aload_n 0, 1) := by decide +kernel
theorem dX10_leastCost_11 : decode cX10_leastCost 11 = .ok (.getfield 109, 3) := by decide +kernel
theorem dX10_leastCost_14 : decode cX10_leastCost 14 = .ok (.invokevirtual 232, 3) := by decide +kernel
theorem dX10_leastCost_17 : decode cX10_leastCost 17 = .ok (.ireturn, 1) := by decide +kernel
theorem dX10_build_0 : decode cX10_build 0 = .ok (.iload_n 1, 1) := by decide +kernel
theorem dX10_build_1 : decode cX10_build 1 = .ok (.iconst 2, 1) := by decide +kernel
theorem dX10_build_2 : decode cX10_build 2 = .ok (.iconst 4, 1) := by decide +kernel
theorem dX10_build_3 : decode cX10_build 3 = .ok (.invokestatic 73, 3) := by decide +kernel
theorem dX10_build_6 : decode cX10_build 6 = .ok (.ifCond .ne 6, 3) := by decide +kernel
theorem dX10_build_9 : decode cX10_build 9 = .ok (.bipush (-102), 2) := by decide +kernel
theorem dX10_build_11 : decode cX10_build 11 = .ok (.ireturn, 1) := by decide +kernel
theorem dX10_build_12 : decode cX10_build 12 = .ok (.aload_n 0, 1) := by decide +kernel
theorem dX10_build_13 : decode cX10_build 13 = .ok (.getfield 109, 3) := by decide +kernel
theorem dX10_build_16 : decode cX10_build 16 = .ok (.ifCond .ne 6, 3) := by decide +kernel
theorem dX10_build_19 : decode cX10_build 19 = .ok (.bipush (-103), 2) := by decide +kernel
theorem dX10_build_21 : decode cX10_build 21 = .ok (.ireturn, 1) := by decide +kernel
theorem dX10_build_22 : decode cX10_build 22 = .ok (.aload_n 0, 1) := by decide +kernel
theorem dX10_build_23 : decode cX10_build 23 = .ok (.iload_n 1, 1) := by decide +kernel
theorem dX10_build_24 : decode cX10_build 24 = .ok (.invokevirtual 172, 3) := by decide +kernel
theorem dX10_build_27 : decode cX10_build 27 = .ok (.aload_n 0, 1) := by decide +kernel
theorem dX10_build_28 : decode cX10_build 28 = .ok (.iload_n 1, 1) := by decide +kernel
theorem dX10_build_29 : decode cX10_build 29 = .ok (.invokevirtual 262, 3) := by decide +kernel
theorem dX10_build_32 : decode cX10_build 32 = .ok (.pop, 1) := by decide +kernel
theorem dX10_build_33 : decode cX10_build 33 = .ok (.aload_n 0, 1) := by decide +kernel
theorem dX10_build_34 : decode cX10_build 34 = .ok (.invokevirtual 265, 3) := by decide +kernel
theorem dX10_build_37 : decode cX10_build 37 = .ok (.ireturn, 1) := by decide +kernel
theorem dX10_tend_0 : decode cX10_tend 0 = .ok (.aload_n 0, 1) := by decide +kernel
theorem dX10_tend_1 : decode cX10_tend 1 = .ok (.getfield 130, 3) := by decide +kernel
theorem dX10_tend_4 : decode cX10_tend 4 = .ok (.ifCond .ne 6, 3) := by decide +kernel
theorem dX10_tend_7 : decode cX10_tend 7 = .ok (.bipush (-103), 2) := by decide +kernel
theorem dX10_tend_9 : decode cX10_tend 9 = .ok (.ireturn, 1) := by decide +kernel
theorem dX10_tend_10 : decode cX10_tend 10 = .ok (.iload_n 1, 1) := by decide +kernel
theorem dX10_tend_11 : decode cX10_tend 11 = .ok (.iconst 0, 1) := by decide +kernel
theorem dX10_tend_12 : decode cX10_tend 12 = .ok (.bipush 100, 2) := by decide +kernel
theorem dX10_tend_14 : decode cX10_tend 14 = .ok (.invokestatic 73, 3) := by decide +kernel
theorem dX10_tend_17 : decode cX10_tend 17 = .ok (.ifCond .ne 6, 3) := by decide +kernel
theorem dX10_tend_20 : decode cX10_tend 20 = .ok (.bipush (-102), 2) := by decide +kernel
theorem dX10_tend_22 : decode cX10_tend 22 = .ok (.ireturn, 1) := by decide +kernel
theorem dX10_tend_23 : decode cX10_tend 23 = .ok (.aload_n 0, 1) := by decide +kernel
theorem dX10_tend_24 : decode cX10_tend 24 = .ok (.invokevirtual 268, 3) := by decide +kernel
theorem dX10_tend_27 : decode cX10_tend 27 = .ok (.istore_n 2, 1) := by decide +kernel
theorem dX10_tend_28 : decode cX10_tend 28 = .ok (.bipush 100, 2) := by decide +kernel
theorem dX10_tend_30 : decode cX10_tend 30 = .ok (.aload_n 0, 1) := by decide +kernel
theorem dX10_tend_31 : decode cX10_tend 31 = .ok (.invokevirtual 265, 3) := by decide +kernel
theorem dX10_tend_34 : decode cX10_tend 34 = .ok (.iload_n 2, 1) := by decide +kernel
theorem dX10_tend_35 : decode cX10_tend 35 = .ok (.isub, 1) := by decide +kernel
theorem dX10_tend_36 : decode cX10_tend 36 = .ok (.imul, 1) := by decide +kernel
theorem dX10_tend_37 : decode cX10_tend 37 = .ok (.iload_n 1, 1) := by decide +kernel
theorem dX10_tend_38 : decode cX10_tend 38 = .ok (.iload_n 2, 1) := by decide +kernel
theorem dX10_tend_39 : decode cX10_tend 39 = .ok (.imul, 1) := by decide +kernel
theorem dX10_tend_40 : decode cX10_tend 40 = .ok (.if_icmp .gt 5, 3) := by decide +kernel
theorem dX10_tend_43 : decode cX10_tend 43 = .ok (.iconst (-1), 1) := by decide +kernel
theorem dX10_tend_44 : decode cX10_tend 44 = .ok (.ireturn, 1) := by decide +kernel
theorem dX10_tend_45 : decode cX10_tend 45 = .ok (.aload_n 0, 1) := by decide +kernel
theorem dX10_tend_46 : decode cX10_tend 46 = .ok (.aload_n 0, 1) := by decide +kernel
theorem dX10_tend_47 : decode cX10_tend 47 = .ok (.getfield 130, 3) := by decide +kernel
theorem dX10_tend_50 : decode cX10_tend 50 = .ok (.invokevirtual 172, 3) := by decide +kernel
theorem dX10_tend_53 : decode cX10_tend 53 = .ok (.aload_n 0, 1) := by decide +kernel
theorem dX10_tend_54 : decode cX10_tend 54 = .ok (.aload_n 0, 1) := by decide +kernel
theorem dX10_tend_55 : decode cX10_tend 55 = .ok (.getfield 130, 3) := by decide +kernel
theorem dX10_tend_58 : decode cX10_tend 58 = .ok (.invokevirtual 262, 3) := by decide +kernel
theorem dX10_tend_61 : decode cX10_tend 61 = .ok (.ireturn, 1) := by decide +kernel
theorem dX10_path_0 : decode cX10_path 0 = .ok (.aload_n 0, 1) := by decide +kernel
theorem dX10_path_1 : decode cX10_path 1 = .ok (.getfield 130, 3) := by decide +kernel
theorem dX10_path_4 : decode cX10_path 4 = .ok (.ifCond .ne 6, 3) := by decide +kernel
theorem dX10_path_7 : decode cX10_path 7 = .ok (.bipush (-103), 2) := by decide +kernel
theorem dX10_path_9 : decode cX10_path 9 = .ok (.ireturn, 1) := by decide +kernel
theorem dX10_path_10 : decode cX10_path 10 = .ok (.aload_n 0, 1) := by decide +kernel
theorem dX10_path_11 : decode cX10_path 11 = .ok (.iload_n 1, 1) := by decide +kernel
theorem dX10_path_12 : decode cX10_path 12 = .ok (.invokevirtual 139, 3) := by decide +kernel
theorem dX10_path_15 : decode cX10_path 15 = .ok (.ifCond .eq 33, 3) := by decide +kernel
theorem dX10_path_18 : decode cX10_path 18 = .ok (.iload_n 2, 1) := by decide +kernel
theorem dX10_path_19 : decode cX10_path 19 = .ok (.iconst 0, 1) := by decide +kernel
theorem dX10_path_20 : decode cX10_path 20 = .ok (.aload_n 0, 1) := by decide +kernel
theorem dX10_path_21 : decode cX10_path 21 = .ok (.getfield 28, 3) := by decide +kernel
theorem dX10_path_24 : decode cX10_path 24 = .ok (.iload_n 1, 1) := by decide +kernel
theorem dX10_path_25 : decode cX10_path 25 = .ok (.iaload, 1) := by decide +kernel
theorem dX10_path_26 : decode cX10_path 26 = .ok (.iconst 1, 1) := by decide +kernel
theorem dX10_path_27 : decode cX10_path 27 = .ok (.isub, 1) := by decide +kernel
theorem dX10_path_28 : decode cX10_path 28 = .ok (.invokestatic 73, 3) := by decide +kernel
theorem dX10_path_31 : decode cX10_path 31 = .ok (.ifCond .eq 17, 3) := by decide +kernel
theorem dX10_path_34 : decode cX10_path 34 = .ok (.aload_n 0, 1) := by decide +kernel
theorem dX10_path_35 : decode cX10_path 35 = .ok (.getfield 31, 3) := by decide +kernel
theorem dX10_path_38 : decode cX10_path 38 = .ok (.bipush 14, 2) := by decide +kernel
theorem dX10_path_40 : decode cX10_path 40 = .ok (.iload_n 1, 1) := by decide +kernel
theorem dX10_path_41 : decode cX10_path 41 = .ok (.imul, 1) := by decide +kernel
theorem dX10_path_42 : decode cX10_path 42 = .ok (.iload_n 2, 1) := by decide +kernel
theorem dX10_path_43 : decode cX10_path 43 = .ok (.iadd, 1) := by decide +kernel
theorem dX10_path_44 : decode cX10_path 44 = .ok (.iaload, 1) := by decide +kernel
theorem dX10_path_45 : decode cX10_path 45 = .ok (.goto 5, 3) := by decide +kernel
theorem dX10_path_48 : decode cX10_path 48 = .ok (.bipush (-101), 2) := by decide +kernel
theorem dX10_path_50 : decode cX10_path 50 = .ok (.ireturn, 1) := by decide +kernel
theorem dX10_layAsked_0 : decode cX10_layAsked 0 = .ok (.iconst 0, 1) := by decide +kernel
theorem dX10_layAsked_1 : decode cX10_layAsked 1 = .ok (.istore_n 2, 1) := by decide +kernel
theorem dX10_layAsked_2 : decode cX10_layAsked 2 = .ok (.iload_n 1, 1) := by decide +kernel
theorem dX10_layAsked_3 : decode cX10_layAsked 3 = .ok (.istore_n 3, 1) := by decide +kernel
theorem dX10_layAsked_4 : decode cX10_layAsked 4 = .ok (.iload_n 3, 1) := by decide +kernel
theorem dX10_layAsked_5 : decode cX10_layAsked 5 = .ok (.ifCond .le 14, 3) := by decide +kernel
theorem dX10_layAsked_8 : decode cX10_layAsked 8 = .ok (.iinc 2 1, 3) := by decide +kernel
theorem dX10_layAsked_11 : decode cX10_layAsked 11 = .ok (.iload_n 3, 1) := by decide +kernel
theorem dX10_layAsked_12 : decode cX10_layAsked 12 = .ok (.bipush 10, 2) := by decide +kernel
theorem dX10_layAsked_14 : decode cX10_layAsked 14 = .ok (.idiv, 1) := by decide +kernel
theorem dX10_layAsked_15 : decode cX10_layAsked 15 = .ok (.istore_n 3, 1) := by decide +kernel
theorem dX10_layAsked_16 : decode cX10_layAsked 16 = .ok (.goto (-12), 3) := by decide +kernel
theorem dX10_layAsked_19 : decode cX10_layAsked 19 = .ok (.aload_n 0, 1) := by decide +kernel
theorem dX10_layAsked_20 : decode cX10_layAsked 20 = .ok (.iload_n 2, 1) := by decide +kernel
theorem dX10_layAsked_21 : decode cX10_layAsked 21 = .ok (.putfield 271, 3) := by decide +kernel
theorem dX10_layAsked_24 : decode cX10_layAsked 24 = .ok (.iload_n 1, 1) := by decide +kernel
theorem dX10_layAsked_25 : decode cX10_layAsked 25 = .ok (.ifCond .lt 7, 3) := by decide +kernel
theorem dX10_layAsked_28 : decode cX10_layAsked 28 = .ok (.iconst 1, 1) := by decide +kernel
theorem dX10_layAsked_29 : decode cX10_layAsked 29 = .ok (.goto 4, 3) := by decide +kernel
theorem dX10_layAsked_32 : decode cX10_layAsked 32 = .ok (.iconst 0, 1) := by decide +kernel
theorem dX10_layAsked_33 : decode cX10_layAsked 33 = .ok (.istore_n 3, 1) := by decide +kernel
theorem dX10_layAsked_34 : decode cX10_layAsked 34 = .ok (.iload_n 1, 1) := by decide +kernel
theorem dX10_layAsked_35 : decode cX10_layAsked 35 = .ok (.istore 4, 2) := by decide +kernel
theorem dX10_layAsked_37 : decode cX10_layAsked 37 = .ok (.iload_n 2, 1) := by decide +kernel
theorem dX10_layAsked_38 : decode cX10_layAsked 38 = .ok (.iconst 1, 1) := by decide +kernel
theorem dX10_layAsked_39 : decode cX10_layAsked 39 = .ok (.isub, 1) := by decide +kernel
theorem dX10_layAsked_40 : decode cX10_layAsked 40 = .ok (.istore 5, 2) := by decide +kernel
theorem dX10_layAsked_42 : decode cX10_layAsked 42 = .ok (.iload 5, 2) := by decide +kernel
theorem dX10_layAsked_44 : decode cX10_layAsked 44 = .ok (.ifCond .lt 48, 3) := by decide +kernel
theorem dX10_layAsked_47 : decode cX10_layAsked 47 = .ok (.aload_n 0, 1) := by decide +kernel
theorem dX10_layAsked_48 : decode cX10_layAsked 48 = .ok (.getfield 70, 3) := by decide +kernel
theorem dX10_layAsked_51 : decode cX10_layAsked 51 = .ok (.iload 5, 2) := by decide +kernel
theorem dX10_layAsked_53 : decode cX10_layAsked 53 = .ok (.iload 4, 2) := by decide +kernel
theorem dX10_layAsked_55 : decode cX10_layAsked 55 = .ok (.bipush 10, 2) := by decide +kernel
theorem dX10_layAsked_57 : decode cX10_layAsked 57 = .ok (.irem, 1) := by decide +kernel
theorem dX10_layAsked_58 : decode cX10_layAsked 58 = .ok (.iastore, 1) := by decide +kernel
theorem dX10_layAsked_59 : decode cX10_layAsked 59 = .ok (.iload 4, 2) := by decide +kernel
theorem dX10_layAsked_61 : decode cX10_layAsked 61 = .ok (.bipush 10, 2) := by decide +kernel
theorem dX10_layAsked_63 : decode cX10_layAsked 63 = .ok (.idiv, 1) := by decide +kernel
theorem dX10_layAsked_64 : decode cX10_layAsked 64 = .ok (.istore 4, 2) := by decide +kernel
theorem dX10_layAsked_66 : decode cX10_layAsked 66 = .ok (.iload_n 3, 1) := by decide +kernel
theorem dX10_layAsked_67 : decode cX10_layAsked 67 = .ok (.ifCond .eq 17, 3) := by decide +kernel
theorem dX10_layAsked_70 : decode cX10_layAsked 70 = .ok (.aload_n 0, 1) := by decide +kernel
theorem dX10_layAsked_71 : decode cX10_layAsked 71 = .ok (.getfield 70, 3) := by decide +kernel
theorem dX10_layAsked_74 : decode cX10_layAsked 74 = .ok (.iload 5, 2) := by decide +kernel
theorem dX10_layAsked_76 : decode cX10_layAsked 76 = .ok (.iaload, 1) := by decide +kernel
theorem dX10_layAsked_77 : decode cX10_layAsked 77 = .ok (.ifCond .le 7, 3) := by decide +kernel
theorem dX10_layAsked_80 : decode cX10_layAsked 80 = .ok (.iconst 1, 1) := by decide +kernel
theorem dX10_layAsked_81 : decode cX10_layAsked 81 = .ok (.goto 4, 3) := by decide +kernel
theorem dX10_layAsked_84 : decode cX10_layAsked 84 = .ok (.iconst 0, 1) := by decide +kernel
theorem dX10_layAsked_85 : decode cX10_layAsked 85 = .ok (.istore_n 3, 1) := by decide +kernel
theorem dX10_layAsked_86 : decode cX10_layAsked 86 = .ok (.iinc 5 (-1), 3) := by decide +kernel
theorem dX10_layAsked_89 : decode cX10_layAsked 89 = .ok (.goto (-47), 3) := by decide +kernel
theorem dX10_layAsked_92 : decode cX10_layAsked 92 = .ok (.iload_n 3, 1) := by decide +kernel
theorem dX10_layAsked_93 : decode cX10_layAsked 93 = .ok (.ireturn, 1) := by decide +kernel
theorem dX10_isLed_0 : decode cX10_isLed 0 = .ok (.aload_n 0, 1) := by decide +kernel
theorem dX10_isLed_1 : decode cX10_isLed 1 = .ok (.getfield 271, 3) := by decide +kernel
theorem dX10_isLed_4 : decode cX10_isLed 4 = .ok (.aload_n 0, 1) := by decide +kernel
theorem dX10_isLed_5 : decode cX10_isLed 5 = .ok (.getfield 28, 3) := by decide +kernel
theorem dX10_isLed_8 : decode cX10_isLed 8 = .ok (.iload_n 1, 1) := by decide +kernel
theorem dX10_isLed_9 : decode cX10_isLed 9 = .ok (.iaload, 1) := by decide +kernel
theorem dX10_isLed_10 : decode cX10_isLed 10 = .ok (.if_icmp .gt 7, 3) := by decide +kernel
theorem dX10_isLed_13 : decode cX10_isLed 13 = .ok (.iconst 1, 1) := by decide +kernel
theorem dX10_isLed_14 : decode cX10_isLed 14 = .ok (.goto 4, 3) := by decide +kernel
theorem dX10_isLed_17 : decode cX10_isLed 17 = .ok (.iconst 0, 1) := by decide +kernel
theorem dX10_isLed_18 : decode cX10_isLed 18 = .ok (.istore_n 2, 1) := by decide +kernel
theorem dX10_isLed_19 : decode cX10_isLed 19 = .ok (.iconst 0, 1) := by decide +kernel
theorem dX10_isLed_20 : decode cX10_isLed 20 = .ok (.istore_n 3, 1) := by decide +kernel
theorem dX10_isLed_21 : decode cX10_isLed 21 = .ok (.iload_n 3, 1) := by decide +kernel
theorem dX10_isLed_22 : decode cX10_isLed 22 = .ok (.aload_n 0, 1) := by decide +kernel
theorem dX10_isLed_23 : decode cX10_isLed 23 = .ok (.getfield 271, 3) := by decide +kernel
theorem dX10_isLed_26 : decode cX10_isLed 26 = .ok (.if_icmp .ge 39, 3) := by decide +kernel
theorem dX10_isLed_29 : decode cX10_isLed 29 = .ok (.iload_n 2, 1) := by decide +kernel
theorem dX10_isLed_30 : decode cX10_isLed 30 = .ok (.ifCond .eq 35, 3) := by decide +kernel
theorem dX10_isLed_33 : decode cX10_isLed 33 = .ok (.aload_n 0, 1) := by decide +kernel
theorem dX10_isLed_34 : decode cX10_isLed 34 = .ok (.getfield 31, 3) := by decide +kernel
theorem dX10_isLed_37 : decode cX10_isLed 37 = .ok (.bipush 14, 2) := by decide +kernel
theorem dX10_isLed_39 : decode cX10_isLed 39 = .ok (.iload_n 1, 1) := by decide +kernel
theorem dX10_isLed_40 : decode cX10_isLed 40 = .ok (.imul, 1) := by decide +kernel
theorem dX10_isLed_41 : decode cX10_isLed 41 = .ok (.iload_n 3, 1) := by decide +kernel
theorem dX10_isLed_42 : decode cX10_isLed 42 = .ok (.iadd, 1) := by decide +kernel
theorem dX10_isLed_43 : decode cX10_isLed 43 = .ok (.iaload, 1) := by decide +kernel
theorem dX10_isLed_44 : decode cX10_isLed 44 = .ok (.aload_n 0, 1) := by decide +kernel
theorem dX10_isLed_45 : decode cX10_isLed 45 = .ok (.getfield 70, 3) := by decide +kernel
theorem dX10_isLed_48 : decode cX10_isLed 48 = .ok (.iload_n 3, 1) := by decide +kernel
theorem dX10_isLed_49 : decode cX10_isLed 49 = .ok (.iaload, 1) := by decide +kernel
theorem dX10_isLed_50 : decode cX10_isLed 50 = .ok (.if_icmp .ne 7, 3) := by decide +kernel
theorem dX10_isLed_53 : decode cX10_isLed 53 = .ok (.iconst 1, 1) := by decide +kernel
theorem dX10_isLed_54 : decode cX10_isLed 54 = .ok (.goto 4, 3) := by decide +kernel
theorem dX10_isLed_57 : decode cX10_isLed 57 = .ok (.iconst 0, 1) := by decide +kernel
theorem dX10_isLed_58 : decode cX10_isLed 58 = .ok (.istore_n 2, 1) := by decide +kernel
theorem dX10_isLed_59 : decode cX10_isLed 59 = .ok (.iinc 3 1, 3) := by decide +kernel
theorem dX10_isLed_62 : decode cX10_isLed 62 = .ok (.goto (-41), 3) := by decide +kernel
theorem dX10_isLed_65 : decode cX10_isLed 65 = .ok (.iload_n 2, 1) := by decide +kernel
theorem dX10_isLed_66 : decode cX10_isLed 66 = .ok (.ireturn, 1) := by decide +kernel
theorem dX10_leads_0 : decode cX10_leads 0 = .ok (.aload_n 0, 1) := by decide +kernel
theorem dX10_leads_1 : decode cX10_leads 1 = .ok (.getfield 130, 3) := by decide +kernel
theorem dX10_leads_4 : decode cX10_leads 4 = .ok (.ifCond .ne 6, 3) := by decide +kernel
theorem dX10_leads_7 : decode cX10_leads 7 = .ok (.bipush (-103), 2) := by decide +kernel
theorem dX10_leads_9 : decode cX10_leads 9 = .ok (.ireturn, 1) := by decide +kernel
theorem dX10_leads_10 : decode cX10_leads 10 = .ok (.aload_n 0, 1) := by decide +kernel
theorem dX10_leads_11 : decode cX10_leads 11 = .ok (.iload_n 1, 1) := by decide +kernel
theorem dX10_leads_12 : decode cX10_leads 12 = .ok (.invokevirtual 274, 3) := by decide +kernel
theorem dX10_leads_15 : decode cX10_leads 15 = .ok (.ifCond .ne 6, 3) := by decide +kernel
theorem dX10_leads_18 : decode cX10_leads 18 = .ok (.bipush (-101), 2) := by decide +kernel
theorem dX10_leads_20 : decode cX10_leads 20 = .ok (.ireturn, 1) := by decide +kernel
theorem dX10_leads_21 : decode cX10_leads 21 = .ok (.iconst 0, 1) := by decide +kernel
theorem dX10_leads_22 : decode cX10_leads 22 = .ok (.istore_n 2, 1) := by decide +kernel
theorem dX10_leads_23 : decode cX10_leads 23 = .ok (.iconst (-1), 1) := by decide +kernel
theorem dX10_leads_24 : decode cX10_leads 24 = .ok (.istore_n 3, 1) := by decide +kernel
theorem dX10_leads_25 : decode cX10_leads 25 = .ok (.iconst 0, 1) := by decide +kernel
theorem dX10_leads_26 : decode cX10_leads 26 = .ok (.istore 4, 2) := by decide +kernel
theorem dX10_leads_28 : decode cX10_leads 28 = .ok (.iload 4, 2) := by decide +kernel
theorem dX10_leads_30 : decode cX10_leads 30 = .ok (.aload_n 0, 1) := by decide +kernel
theorem dX10_leads_31 : decode cX10_leads 31 = .ok (.getfield 109, 3) := by decide +kernel
theorem dX10_leads_34 : decode cX10_leads 34 = .ok (.if_icmp .ge 42, 3) := by decide +kernel
theorem dX10_leads_37 : decode cX10_leads 37 = .ok (.iload_n 2, 1) := by decide +kernel
theorem dX10_leads_38 : decode cX10_leads 38 = .ok (.aload_n 0, 1) := by decide +kernel
theorem dX10_leads_39 : decode cX10_leads 39 = .ok (.iload 4, 2) := by decide +kernel
theorem dX10_leads_41 : decode cX10_leads 41 = .ok (.invokevirtual 277, 3) := by decide +kernel
theorem dX10_leads_44 : decode cX10_leads 44 = .ok (.ifCond .eq 7, 3) := by decide +kernel
theorem dX10_leads_47 : decode cX10_leads 47 = .ok (.iconst 1, 1) := by decide +kernel
theorem dX10_leads_48 : decode cX10_leads 48 = .ok (.goto 4, 3) := by decide +kernel
theorem dX10_leads_51 : decode cX10_leads 51 = .ok (.iconst 0, 1) := by decide +kernel
theorem dX10_leads_52 : decode cX10_leads 52 = .ok (.iadd, 1) := by decide +kernel
theorem dX10_leads_53 : decode cX10_leads 53 = .ok (.istore_n 2, 1) := by decide +kernel
theorem dX10_leads_54 : decode cX10_leads 54 = .ok (.aload_n 0, 1) := by decide +kernel
theorem dX10_leads_55 : decode cX10_leads 55 = .ok (.iload 4, 2) := by decide +kernel
theorem dX10_leads_57 : decode cX10_leads 57 = .ok (.invokevirtual 277, 3) := by decide +kernel
theorem dX10_leads_60 : decode cX10_leads 60 = .ok (.ifCond .eq 8, 3) := by decide +kernel
theorem dX10_leads_63 : decode cX10_leads 63 = .ok (.iload 4, 2) := by decide +kernel
theorem dX10_leads_65 : decode cX10_leads 65 = .ok (.goto 4, 3) := by decide +kernel
theorem dX10_leads_68 : decode cX10_leads 68 = .ok (.iload_n 3, 1) := by decide +kernel
theorem dX10_leads_69 : decode cX10_leads 69 = .ok (.istore_n 3, 1) := by decide +kernel
theorem dX10_leads_70 : decode cX10_leads 70 = .ok (.iinc 4 1, 3) := by decide +kernel
theorem dX10_leads_73 : decode cX10_leads 73 = .ok (.goto (-45), 3) := by decide +kernel
theorem dX10_leads_76 : decode cX10_leads 76 = .ok (.iload_n 2, 1) := by decide +kernel
theorem dX10_leads_77 : decode cX10_leads 77 = .ok (.ifCond .ne 8, 3) := by decide +kernel
theorem dX10_leads_80 : decode cX10_leads 80 = .ok (.bipush (-101), 2) := by decide +kernel
theorem dX10_leads_82 : decode cX10_leads 82 = .ok (.goto 13, 3) := by decide +kernel
theorem dX10_leads_85 : decode cX10_leads 85 = .ok (.iload_n 2, 1) := by decide +kernel
theorem dX10_leads_86 : decode cX10_leads 86 = .ok (.iconst 1, 1) := by decide +kernel
theorem dX10_leads_87 : decode cX10_leads 87 = .ok (.if_icmp .ne 7, 3) := by decide +kernel
theorem dX10_leads_90 : decode cX10_leads 90 = .ok (.iload_n 3, 1) := by decide +kernel
theorem dX10_leads_91 : decode cX10_leads 91 = .ok (.goto 4, 3) := by decide +kernel
theorem dX10_leads_94 : decode cX10_leads 94 = .ok (.iconst (-1), 1) := by decide +kernel
theorem dX10_leads_95 : decode cX10_leads 95 = .ok (.ireturn, 1) := by decide +kernel
theorem dX10_longest_0 : decode cX10_longest 0 = .ok (.iconst 0, 1) := by decide +kernel
theorem dX10_longest_1 : decode cX10_longest 1 = .ok (.istore_n 1, 1) := by decide +kernel
theorem dX10_longest_2 : decode cX10_longest 2 = .ok (.iconst 0, 1) := by decide +kernel
theorem dX10_longest_3 : decode cX10_longest 3 = .ok (.istore_n 2, 1) := by decide +kernel
theorem dX10_longest_4 : decode cX10_longest 4 = .ok (.iload_n 2, 1) := by decide +kernel
theorem dX10_longest_5 : decode cX10_longest 5 = .ok (.aload_n 0, 1) := by decide +kernel
theorem dX10_longest_6 : decode cX10_longest 6 = .ok (.getfield 109, 3) := by decide +kernel
theorem dX10_longest_9 : decode cX10_longest 9 = .ok (.if_icmp .ge 30, 3) := by decide +kernel
theorem dX10_longest_12 : decode cX10_longest 12 = .ok (.aload_n 0, 1) := by decide +kernel
theorem dX10_longest_13 : decode cX10_longest 13 = .ok (.getfield 28, 3) := by decide +kernel
theorem dX10_longest_16 : decode cX10_longest 16 = .ok (.iload_n 2, 1) := by decide +kernel
theorem dX10_longest_17 : decode cX10_longest 17 = .ok (.iaload, 1) := by decide +kernel
theorem dX10_longest_18 : decode cX10_longest 18 = .ok (.iload_n 1, 1) := by decide +kernel
theorem dX10_longest_19 : decode cX10_longest 19 = .ok (.if_icmp .le 12, 3) := by decide +kernel
theorem dX10_longest_22 : decode cX10_longest 22 = .ok (.aload_n 0, 1) := by decide +kernel
theorem dX10_longest_23 : decode cX10_longest 23 = .ok (.getfield 28, 3) := by decide +kernel
theorem dX10_longest_26 : decode cX10_longest 26 = .ok (.iload_n 2, 1) := by decide +kernel
theorem dX10_longest_27 : decode cX10_longest 27 = .ok (.iaload, 1) := by decide +kernel
theorem dX10_longest_28 : decode cX10_longest 28 = .ok (.goto 4, 3) := by decide +kernel
theorem dX10_longest_31 : decode cX10_longest 31 = .ok (.iload_n 1, 1) := by decide +kernel
theorem dX10_longest_32 : decode cX10_longest 32 = .ok (.istore_n 1, 1) := by decide +kernel
theorem dX10_longest_33 : decode cX10_longest 33 = .ok (.iinc 2 1, 3) := by decide +kernel
theorem dX10_longest_36 : decode cX10_longest 36 = .ok (.goto (-32), 3) := by decide +kernel
theorem dX10_longest_39 : decode cX10_longest 39 = .ok (.iload_n 1, 1) := by decide +kernel
theorem dX10_longest_40 : decode cX10_longest 40 = .ok (.ireturn, 1) := by decide +kernel
theorem dX10_isSamePath_0 : decode cX10_isSamePath 0 = .ok (.iload_n 3, 1) := by decide +kernel
theorem dX10_isSamePath_1 : decode cX10_isSamePath 1 = .ok (.aload_n 0, 1) := by decide +kernel
theorem dX10_isSamePath_2 : decode cX10_isSamePath 2 = .ok (.getfield 28, 3) := by decide +kernel
theorem dX10_isSamePath_5 : decode cX10_isSamePath 5 = .ok (.iload_n 1, 1) := by decide +kernel
theorem dX10_isSamePath_6 : decode cX10_isSamePath 6 = .ok (.iaload, 1) := by decide +kernel
theorem dX10_isSamePath_7 : decode cX10_isSamePath 7 = .ok (.if_icmp .gt 17, 3) := by decide +kernel
theorem dX10_isSamePath_10 : decode cX10_isSamePath 10 = .ok (.iload_n 3, 1) := by decide +kernel
theorem dX10_isSamePath_11 : decode cX10_isSamePath 11 = .ok (.aload_n 0, 1) := by decide +kernel
theorem dX10_isSamePath_12 : decode cX10_isSamePath 12 = .ok (.getfield 28, 3) := by decide +kernel
theorem dX10_isSamePath_15 : decode cX10_isSamePath 15 = .ok (.iload_n 2, 1) := by decide +kernel
theorem dX10_isSamePath_16 : decode cX10_isSamePath 16 = .ok (.iaload, 1) := by decide +kernel
theorem dX10_isSamePath_17 : decode cX10_isSamePath 17 = .ok (.if_icmp .gt 7, 3) := by decide +kernel
theorem dX10_isSamePath_20 : decode cX10_isSamePath 20 = .ok (.iconst 1, 1) := by decide +kernel
theorem dX10_isSamePath_21 : decode cX10_isSamePath 21 = .ok (.goto 4, 3) := by decide +kernel
theorem dX10_isSamePath_24 : decode cX10_isSamePath 24 = .ok (.iconst 0, 1) := by decide +kernel
theorem dX10_isSamePath_25 : decode cX10_isSamePath 25 = .ok (.istore 4, 2) := by decide +kernel
theorem dX10_isSamePath_27 : decode cX10_isSamePath 27 = .ok (.iconst 0, 1) := by decide +kernel
theorem dX10_isSamePath_28 : decode cX10_isSamePath 28 = .ok (.istore 5, 2) := by decide +kernel
theorem dX10_isSamePath_30 : decode cX10_isSamePath 30 = .ok (.iload 5, 2) := by decide +kernel
theorem dX10_isSamePath_32 : decode cX10_isSamePath 32 = .ok (.iload_n 3, 1) := by decide +kernel
theorem dX10_isSamePath_33 : decode cX10_isSamePath 33 = .ok (.if_icmp .ge 48, 3) := by decide +kernel
theorem dX10_isSamePath_36 : decode cX10_isSamePath 36 = .ok (.iload 4, 2) := by decide +kernel
theorem dX10_isSamePath_38 : decode cX10_isSamePath 38 = .ok (.ifCond .eq 43, 3) := by decide +kernel
theorem dX10_isSamePath_41 : decode cX10_isSamePath 41 = .ok (.aload_n 0, 1) := by decide +kernel
theorem dX10_isSamePath_42 : decode cX10_isSamePath 42 = .ok (.getfield 31, 3) := by decide +kernel
theorem dX10_isSamePath_45 : decode cX10_isSamePath 45 = .ok (.bipush 14, 2) := by decide +kernel
theorem dX10_isSamePath_47 : decode cX10_isSamePath 47 = .ok (.iload_n 1, 1) := by decide +kernel
theorem dX10_isSamePath_48 : decode cX10_isSamePath 48 = .ok (.imul, 1) := by decide +kernel
theorem dX10_isSamePath_49 : decode cX10_isSamePath 49 = .ok (.iload 5, 2) := by decide +kernel
theorem dX10_isSamePath_51 : decode cX10_isSamePath 51 = .ok (.iadd, 1) := by decide +kernel
theorem dX10_isSamePath_52 : decode cX10_isSamePath 52 = .ok (.iaload, 1) := by decide +kernel
theorem dX10_isSamePath_53 : decode cX10_isSamePath 53 = .ok (.aload_n 0, 1) := by decide +kernel
theorem dX10_isSamePath_54 : decode cX10_isSamePath 54 = .ok (.getfield 31, 3) := by decide +kernel
theorem dX10_isSamePath_57 : decode cX10_isSamePath 57 = .ok (.bipush 14, 2) := by decide +kernel
theorem dX10_isSamePath_59 : decode cX10_isSamePath 59 = .ok (.iload_n 2, 1) := by decide +kernel
theorem dX10_isSamePath_60 : decode cX10_isSamePath 60 = .ok (.imul, 1) := by decide +kernel
theorem dX10_isSamePath_61 : decode cX10_isSamePath 61 = .ok (.iload 5, 2) := by decide +kernel
theorem dX10_isSamePath_63 : decode cX10_isSamePath 63 = .ok (.iadd, 1) := by decide +kernel
theorem dX10_isSamePath_64 : decode cX10_isSamePath 64 = .ok (.iaload, 1) := by decide +kernel
theorem dX10_isSamePath_65 : decode cX10_isSamePath 65 = .ok (.if_icmp .ne 7, 3) := by decide +kernel
theorem dX10_isSamePath_68 : decode cX10_isSamePath 68 = .ok (.iconst 1, 1) := by decide +kernel
theorem dX10_isSamePath_69 : decode cX10_isSamePath 69 = .ok (.goto 4, 3) := by decide +kernel
theorem dX10_isSamePath_72 : decode cX10_isSamePath 72 = .ok (.iconst 0, 1) := by decide +kernel
theorem dX10_isSamePath_73 : decode cX10_isSamePath 73 = .ok (.istore 4, 2) := by decide +kernel
theorem dX10_isSamePath_75 : decode cX10_isSamePath 75 = .ok (.iinc 5 1, 3) := by decide +kernel
theorem dX10_isSamePath_78 : decode cX10_isSamePath 78 = .ok (.goto (-48), 3) := by decide +kernel
theorem dX10_isSamePath_81 : decode cX10_isSamePath 81 = .ok (.iload 4, 2) := by decide +kernel
theorem dX10_isSamePath_83 : decode cX10_isSamePath 83 = .ok (.ireturn, 1) := by decide +kernel
theorem dX10_menusMany_0 : decode cX10_menusMany 0 = .ok (.iconst 0, 1) := by decide +kernel
theorem dX10_menusMany_1 : decode cX10_menusMany 1 = .ok (.istore_n 1, 1) := by decide +kernel
theorem dX10_menusMany_2 : decode cX10_menusMany 2 = .ok (.iconst 0, 1) := by decide +kernel
theorem dX10_menusMany_3 : decode cX10_menusMany 3 = .ok (.istore_n 2, 1) := by decide +kernel
theorem dX10_menusMany_4 : decode cX10_menusMany 4 = .ok (.iload_n 2, 1) := by decide +kernel
theorem dX10_menusMany_5 : decode cX10_menusMany 5 = .ok (.aload_n 0, 1) := by decide +kernel
theorem dX10_menusMany_6 : decode cX10_menusMany 6 = .ok (.getfield 109, 3) := by decide +kernel
theorem dX10_menusMany_9 : decode cX10_menusMany 9 = .ok (.if_icmp .ge 51, 3) := by decide +kernel
theorem dX10_menusMany_12 : decode cX10_menusMany 12 = .ok (.iconst 0, 1) := by decide +kernel
theorem dX10_menusMany_13 : decode cX10_menusMany 13 = .ok (.istore_n 3, 1) := by decide +kernel
theorem dX10_menusMany_14 : decode cX10_menusMany 14 = .ok (.iload_n 3, 1) := by decide +kernel
theorem dX10_menusMany_15 : decode cX10_menusMany 15 = .ok (.aload_n 0, 1) := by decide +kernel
theorem dX10_menusMany_16 : decode cX10_menusMany 16 = .ok (.getfield 28, 3) := by decide +kernel
theorem dX10_menusMany_19 : decode cX10_menusMany 19 = .ok (.iload_n 2, 1) := by decide +kernel
theorem dX10_menusMany_20 : decode cX10_menusMany 20 = .ok (.iaload, 1) := by decide +kernel
theorem dX10_menusMany_21 : decode cX10_menusMany 21 = .ok (.if_icmp .ge 33, 3) := by decide +kernel
theorem dX10_menusMany_24 : decode cX10_menusMany 24 = .ok (.iload_n 1, 1) := by decide +kernel
theorem dX10_menusMany_25 : decode cX10_menusMany 25 = .ok (.iload_n 2, 1) := by decide +kernel
theorem dX10_menusMany_26 : decode cX10_menusMany 26 = .ok (.ifCond .eq 15, 3) := by decide +kernel
theorem dX10_menusMany_29 : decode cX10_menusMany 29 = .ok (.aload_n 0, 1) := by decide +kernel
theorem dX10_menusMany_30 : decode cX10_menusMany 30 = .ok (.iload_n 2, 1) := by decide +kernel
theorem dX10_menusMany_31 : decode cX10_menusMany 31 = .ok (.iconst 1, 1) := by decide +kernel
theorem dX10_menusMany_32 : decode cX10_menusMany 32 = .ok (.isub, 1) := by decide +kernel
theorem dX10_menusMany_33 : decode cX10_menusMany 33 = .ok (.iload_n 2, 1) := by decide +kernel
theorem dX10_menusMany_34 : decode cX10_menusMany 34 = .ok (.iload_n 3, 1) := by decide +kernel
theorem dX10_menusMany_35 : decode cX10_menusMany 35 = .ok (.invokevirtual 280, 3) := by decide +kernel
theorem dX10_menusMany_38 : decode cX10_menusMany 38 = .ok (.ifCond .ne 7, 3) := by decide +kernel
theorem dX10_menusMany_41 : decode cX10_menusMany 41 = .ok (.iconst 1, 1) := by decide +kernel
theorem dX10_menusMany_42 : decode cX10_menusMany 42 = .ok (.goto 4, 3) := by decide +kernel
theorem dX10_menusMany_45 : decode cX10_menusMany 45 = .ok (.iconst 0, 1) := by decide +kernel
theorem dX10_menusMany_46 : decode cX10_menusMany 46 = .ok (.iadd, 1) := by decide +kernel
theorem dX10_menusMany_47 : decode cX10_menusMany 47 = .ok (.istore_n 1, 1) := by decide +kernel
theorem dX10_menusMany_48 : decode cX10_menusMany 48 = .ok (.iinc 3 1, 3) := by decide +kernel
theorem dX10_menusMany_51 : decode cX10_menusMany 51 = .ok (.goto (-37), 3) := by decide +kernel
theorem dX10_menusMany_54 : decode cX10_menusMany 54 = .ok (.iinc 2 1, 3) := by decide +kernel
theorem dX10_menusMany_57 : decode cX10_menusMany 57 = .ok (.goto (-53), 3) := by decide +kernel
theorem dX10_menusMany_60 : decode cX10_menusMany 60 = .ok (.iload_n 1, 1) := by decide +kernel
theorem dX10_menusMany_61 : decode cX10_menusMany 61 = .ok (.ireturn, 1) := by decide +kernel
theorem dX10_wholeParts_0 : decode cX10_wholeParts 0 = .ok (.iconst 0, 1) := by decide +kernel
theorem dX10_wholeParts_1 : decode cX10_wholeParts 1 = .ok (.istore_n 1, 1) := by decide +kernel
theorem dX10_wholeParts_2 : decode cX10_wholeParts 2 = .ok (.iconst 0, 1) := by decide +kernel
theorem dX10_wholeParts_3 : decode cX10_wholeParts 3 = .ok (.istore_n 2, 1) := by decide +kernel
theorem dX10_wholeParts_4 : decode cX10_wholeParts 4 = .ok (.iload_n 2, 1) := by decide +kernel
theorem dX10_wholeParts_5 : decode cX10_wholeParts 5 = .ok (.aload_n 0, 1) := by decide +kernel
theorem dX10_wholeParts_6 : decode cX10_wholeParts 6 = .ok (.getfield 109, 3) := by decide +kernel
theorem dX10_wholeParts_9 : decode cX10_wholeParts 9 = .ok (.if_icmp .ge 45, 3) := by decide +kernel
theorem dX10_wholeParts_12 : decode cX10_wholeParts 12 = .ok (.aload_n 0, 1) := by decide +kernel
theorem dX10_wholeParts_13 : decode cX10_wholeParts 13 = .ok (.getfield 28, 3) := by decide +kernel
theorem dX10_wholeParts_16 : decode cX10_wholeParts 16 = .ok (.iload_n 2, 1) := by decide +kernel
theorem dX10_wholeParts_17 : decode cX10_wholeParts 17 = .ok (.iaload, 1) := by decide +kernel
theorem dX10_wholeParts_18 : decode cX10_wholeParts 18 = .ok (.ifCond .le 28, 3) := by decide +kernel
theorem dX10_wholeParts_21 : decode cX10_wholeParts 21 = .ok (.aload_n 0, 1) := by decide +kernel
theorem dX10_wholeParts_22 : decode cX10_wholeParts 22 = .ok (.getfield 31, 3) := by decide +kernel
theorem dX10_wholeParts_25 : decode cX10_wholeParts 25 = .ok (.bipush 14, 2) := by decide +kernel
theorem dX10_wholeParts_27 : decode cX10_wholeParts 27 = .ok (.iload_n 2, 1) := by decide +kernel
theorem dX10_wholeParts_28 : decode cX10_wholeParts 28 = .ok (.imul, 1) := by decide +kernel
theorem dX10_wholeParts_29 : decode cX10_wholeParts 29 = .ok (.iaload, 1) := by decide +kernel
theorem dX10_wholeParts_30 : decode cX10_wholeParts 30 = .ok (.iload_n 1, 1) := by decide +kernel
theorem dX10_wholeParts_31 : decode cX10_wholeParts 31 = .ok (.if_icmp .le 15, 3) := by decide +kernel
theorem dX10_wholeParts_34 : decode cX10_wholeParts 34 = .ok (.aload_n 0, 1) := by decide +kernel
theorem dX10_wholeParts_35 : decode cX10_wholeParts 35 = .ok (.getfield 31, 3) := by decide +kernel
theorem dX10_wholeParts_38 : decode cX10_wholeParts 38 = .ok (.bipush 14, 2) := by decide +kernel
theorem dX10_wholeParts_40 : decode cX10_wholeParts 40 = .ok (.iload_n 2, 1) := by decide +kernel
theorem dX10_wholeParts_41 : decode cX10_wholeParts 41 = .ok (.imul, 1) := by decide +kernel
theorem dX10_wholeParts_42 : decode cX10_wholeParts 42 = .ok (.iaload, 1) := by decide +kernel
theorem dX10_wholeParts_43 : decode cX10_wholeParts 43 = .ok (.goto 4, 3) := by decide +kernel
theorem dX10_wholeParts_46 : decode cX10_wholeParts 46 = .ok (.iload_n 1, 1) := by decide +kernel
theorem dX10_wholeParts_47 : decode cX10_wholeParts 47 = .ok (.istore_n 1, 1) := by decide +kernel
theorem dX10_wholeParts_48 : decode cX10_wholeParts 48 = .ok (.iinc 2 1, 3) := by decide +kernel
theorem dX10_wholeParts_51 : decode cX10_wholeParts 51 = .ok (.goto (-47), 3) := by decide +kernel
theorem dX10_wholeParts_54 : decode cX10_wholeParts 54 = .ok (.iload_n 1, 1) := by decide +kernel
theorem dX10_wholeParts_55 : decode cX10_wholeParts 55 = .ok (.ireturn, 1) := by decide +kernel
theorem dX10_menuNow_0 : decode cX10_menuNow 0 = .ok (.iload_n 1, 1) := by decide +kernel
theorem dX10_menuNow_1 : decode cX10_menuNow 1 = .ok (.tableswitch 69 0 5 #[39, 44, 49, 54, 59, 64], 39) := by decide +kernel
theorem dX10_menuNow_40 : decode cX10_menuNow 40 = .ok (.aload_n 0, 1) := by decide +kernel
theorem dX10_menuNow_41 : decode cX10_menuNow 41 = .ok (.getfield 130, 3) := by decide +kernel
theorem dX10_menuNow_44 : decode cX10_menuNow 44 = .ok (.ireturn, 1) := by decide +kernel
theorem dX10_menuNow_45 : decode cX10_menuNow 45 = .ok (.aload_n 0, 1) := by decide +kernel
theorem dX10_menuNow_46 : decode cX10_menuNow 46 = .ok (.invokevirtual 265, 3) := by decide +kernel
theorem dX10_menuNow_49 : decode cX10_menuNow 49 = .ok (.ireturn, 1) := by decide +kernel
theorem dX10_menuNow_50 : decode cX10_menuNow 50 = .ok (.aload_n 0, 1) := by decide +kernel
theorem dX10_menuNow_51 : decode cX10_menuNow 51 = .ok (.invokevirtual 268, 3) := by decide +kernel
theorem dX10_menuNow_54 : decode cX10_menuNow 54 = .ok (.ireturn, 1) := by decide +kernel
theorem dX10_menuNow_55 : decode cX10_menuNow 55 = .ok (.aload_n 0, 1) := by decide +kernel
theorem dX10_menuNow_56 : decode cX10_menuNow 56 = .ok (.invokevirtual 283, 3) := by decide +kernel
theorem dX10_menuNow_59 : decode cX10_menuNow 59 = .ok (.ireturn, 1) := by decide +kernel
theorem dX10_menuNow_60 : decode cX10_menuNow 60 = .ok (.aload_n 0, 1) := by decide +kernel
theorem dX10_menuNow_61 : decode cX10_menuNow 61 = .ok (.invokevirtual 286, 3) := by decide +kernel
theorem dX10_menuNow_64 : decode cX10_menuNow 64 = .ok (.ireturn, 1) := by decide +kernel
theorem dX10_menuNow_65 : decode cX10_menuNow 65 = .ok (.aload_n 0, 1) := by decide +kernel
theorem dX10_menuNow_66 : decode cX10_menuNow 66 = .ok (.invokevirtual 289, 3) := by decide +kernel
theorem dX10_menuNow_69 : decode cX10_menuNow 69 = .ok (.ireturn, 1) := by decide +kernel
theorem dX10_menuNow_70 : decode cX10_menuNow 70 = .ok (.aload_n 0, 1) := by decide +kernel
theorem dX10_menuNow_71 : decode cX10_menuNow 71 = .ok (.getfield 259, 3) := by decide +kernel
theorem dX10_menuNow_74 : decode cX10_menuNow 74 = .ok (.ireturn, 1) := by decide +kernel
theorem dX10_menu_0 : decode cX10_menu 0 = .ok (.aload_n 0, 1) := by decide +kernel
theorem dX10_menu_1 : decode cX10_menu 1 = .ok (.getfield 130, 3) := by decide +kernel
theorem dX10_menu_4 : decode cX10_menu 4 = .ok (.ifCond .ne 6, 3) := by decide +kernel
theorem dX10_menu_7 : decode cX10_menu 7 = .ok (.bipush (-103), 2) := by decide +kernel
theorem dX10_menu_9 : decode cX10_menu 9 = .ok (.ireturn, 1) := by decide +kernel
theorem dX10_menu_10 : decode cX10_menu 10 = .ok (.iload_n 1, 1) := by decide +kernel
theorem dX10_menu_11 : decode cX10_menu 11 = .ok (.iconst 0, 1) := by decide +kernel
theorem dX10_menu_12 : decode cX10_menu 12 = .ok (.bipush 6, 2) := by decide +kernel
theorem dX10_menu_14 : decode cX10_menu 14 = .ok (.invokestatic 73, 3) := by decide +kernel
theorem dX10_menu_17 : decode cX10_menu 17 = .ok (.ifCond .eq 11, 3) := by decide +kernel
theorem dX10_menu_20 : decode cX10_menu 20 = .ok (.aload_n 0, 1) := by decide +kernel
theorem dX10_menu_21 : decode cX10_menu 21 = .ok (.iload_n 1, 1) := by decide +kernel
theorem dX10_menu_22 : decode cX10_menu 22 = .ok (.invokevirtual 292, 3) := by decide +kernel
theorem dX10_menu_25 : decode cX10_menu 25 = .ok (.goto 5, 3) := by decide +kernel
theorem dX10_menu_28 : decode cX10_menu 28 = .ok (.bipush (-102), 2) := by decide +kernel
theorem dX10_menu_30 : decode cX10_menu 30 = .ok (.ireturn, 1) := by decide +kernel
theorem dX10_howMany_0 : decode cX10_howMany 0 = .ok (.iload_n 1, 1) := by decide +kernel
theorem dX10_howMany_1 : decode cX10_howMany 1 = .ok (.tableswitch 69 0 5 #[39, 44, 49, 54, 59, 64], 39) := by decide +kernel
theorem dX10_howMany_40 : decode cX10_howMany 40 = .ok (.aload_n 0, 1) := by decide +kernel
theorem dX10_howMany_41 : decode cX10_howMany 41 = .ok (.getfield 109, 3) := by decide +kernel
theorem dX10_howMany_44 : decode cX10_howMany 44 = .ok (.ireturn, 1) := by decide +kernel
theorem dX10_howMany_45 : decode cX10_howMany 45 = .ok (.aload_n 0, 1) := by decide +kernel
theorem dX10_howMany_46 : decode cX10_howMany 46 = .ok (.getfield 77, 3) := by decide +kernel
theorem dX10_howMany_49 : decode cX10_howMany 49 = .ok (.ireturn, 1) := by decide +kernel
theorem dX10_howMany_50 : decode cX10_howMany 50 = .ok (.aload_n 0, 1) := by decide +kernel
theorem dX10_howMany_51 : decode cX10_howMany 51 = .ok (.getfield 199, 3) := by decide +kernel
theorem dX10_howMany_54 : decode cX10_howMany 54 = .ok (.ireturn, 1) := by decide +kernel
theorem dX10_howMany_55 : decode cX10_howMany 55 = .ok (.aload_n 0, 1) := by decide +kernel
theorem dX10_howMany_56 : decode cX10_howMany 56 = .ok (.getfield 127, 3) := by decide +kernel
theorem dX10_howMany_59 : decode cX10_howMany 59 = .ok (.ireturn, 1) := by decide +kernel
theorem dX10_howMany_60 : decode cX10_howMany 60 = .ok (.aload_n 0, 1) := by decide +kernel
theorem dX10_howMany_61 : decode cX10_howMany 61 = .ok (.getfield 136, 3) := by decide +kernel
theorem dX10_howMany_64 : decode cX10_howMany 64 = .ok (.ireturn, 1) := by decide +kernel
theorem dX10_howMany_65 : decode cX10_howMany 65 = .ok (.aload_n 0, 1) := by decide +kernel
theorem dX10_howMany_66 : decode cX10_howMany 66 = .ok (.getfield 142, 3) := by decide +kernel
theorem dX10_howMany_69 : decode cX10_howMany 69 = .ok (.ireturn, 1) := by decide +kernel
theorem dX10_howMany_70 : decode cX10_howMany 70 = .ok (.bipush (-102), 2) := by decide +kernel
theorem dX10_howMany_72 : decode cX10_howMany 72 = .ok (.ireturn, 1) := by decide +kernel
theorem dX10_count_0 : decode cX10_count 0 = .ok (.aload_n 0, 1) := by decide +kernel
theorem dX10_count_1 : decode cX10_count 1 = .ok (.iload_n 1, 1) := by decide +kernel
theorem dX10_count_2 : decode cX10_count 2 = .ok (.invokevirtual 295, 3) := by decide +kernel
theorem dX10_count_5 : decode cX10_count 5 = .ok (.ireturn, 1) := by decide +kernel
theorem dX10_mix_0 : decode cX10_mix 0 = .ok (.aload_n 0, 1) := by decide +kernel
theorem dX10_mix_1 : decode cX10_mix 1 = .ok (.ldc2_w 298, 3) := by decide +kernel
theorem dX10_mix_4 : decode cX10_mix 4 = .ok (.aload_n 0, 1) := by decide +kernel
theorem dX10_mix_5 : decode cX10_mix 5 = .ok (.getfield 300, 3) := by decide +kernel
theorem dX10_mix_8 : decode cX10_mix 8 = .ok (.lmul, 1) := by decide +kernel
theorem dX10_mix_9 : decode cX10_mix 9 = .ok (.lload_n 1, 1) := by decide +kernel
theorem dX10_mix_10 : decode cX10_mix 10 = .ok (.ladd, 1) := by decide +kernel
theorem dX10_mix_11 : decode cX10_mix 11 = .ok (.putfield 300, 3) := by decide +kernel
theorem dX10_mix_14 : decode cX10_mix 14 = .ok (.return_, 1) := by decide +kernel
theorem dX10_mixName_0 : decode cX10_mixName 0 = .ok (.iconst 0, 1) := by decide +kernel
theorem dX10_mixName_1 : decode cX10_mixName 1 = .ok (.istore_n 2, 1) := by decide +kernel
theorem dX10_mixName_2 : decode cX10_mixName 2 = .ok (.iload_n 2, 1) := by decide +kernel
theorem dX10_mixName_3 : decode cX10_mixName 3 = .ok (.aload_n 0, 1) := by decide +kernel
theorem dX10_mixName_4 : decode cX10_mixName 4 = .ok (.getfield 13, 3) := by decide +kernel
theorem dX10_mixName_7 : decode cX10_mixName 7 = .ok (.iload_n 1, 1) := by decide +kernel
theorem dX10_mixName_8 : decode cX10_mixName 8 = .ok (.iaload, 1) := by decide +kernel
theorem dX10_mixName_9 : decode cX10_mixName 9 = .ok (.if_icmp .ge 25, 3) := by decide +kernel
theorem dX10_mixName_12 : decode cX10_mixName 12 = .ok (.aload_n 0, 1) := by decide +kernel
theorem dX10_mixName_13 : decode cX10_mixName 13 = .ok (.aload_n 0, 1) := by decide +kernel
theorem dX10_mixName_14 : decode cX10_mixName 14 = .ok (.getfield 16, 3) := by decide +kernel
theorem dX10_mixName_17 : decode cX10_mixName 17 = .ok (.bipush 8, 2) := by decide +kernel
theorem dX10_mixName_19 : decode cX10_mixName 19 = .ok (.iload_n 1, 1) := by decide +kernel
theorem dX10_mixName_20 : decode cX10_mixName 20 = .ok (.imul, 1) := by decide +kernel
theorem dX10_mixName_21 : decode cX10_mixName 21 = .ok (.iload_n 2, 1) := by decide +kernel
theorem dX10_mixName_22 : decode cX10_mixName 22 = .ok (.iadd, 1) := by decide +kernel
theorem dX10_mixName_23 : decode cX10_mixName 23 = .ok (.iaload, 1) := by decide +kernel
theorem dX10_mixName_24 : decode cX10_mixName 24 = .ok (.i2l, 1) := by decide +kernel
theorem dX10_mixName_25 : decode cX10_mixName 25 = .ok (.invokevirtual 304, 3) := by decide +kernel
theorem dX10_mixName_28 : decode cX10_mixName 28 = .ok (.iinc 2 1, 3) := by decide +kernel
theorem dX10_mixName_31 : decode cX10_mixName 31 = .ok (.goto (-29), 3) := by decide +kernel
theorem dX10_mixName_34 : decode cX10_mixName 34 = .ok (.iconst 0, 1) := by decide +kernel
theorem dX10_mixName_35 : decode cX10_mixName 35 = .ok (.istore_n 2, 1) := by decide +kernel
theorem dX10_mixName_36 : decode cX10_mixName 36 = .ok (.iload_n 2, 1) := by decide +kernel
theorem dX10_mixName_37 : decode cX10_mixName 37 = .ok (.bipush 8, 2) := by decide +kernel
theorem dX10_mixName_39 : decode cX10_mixName 39 = .ok (.if_icmp .ge 20, 3) := by decide +kernel
theorem dX10_mixName_42 : decode cX10_mixName 42 = .ok (.aload_n 0, 1) := by decide +kernel
theorem dX10_mixName_43 : decode cX10_mixName 43 = .ok (.aload_n 0, 1) := by decide +kernel
theorem dX10_mixName_44 : decode cX10_mixName 44 = .ok (.iload_n 1, 1) := by decide +kernel
theorem dX10_mixName_45 : decode cX10_mixName 45 = .ok (.iload_n 2, 1) := by decide +kernel
theorem dX10_mixName_46 : decode cX10_mixName 46 = .ok (.invokevirtual 175, 3) := by decide +kernel
theorem dX10_mixName_49 : decode cX10_mixName 49 = .ok (.i2l, 1) := by decide +kernel
theorem dX10_mixName_50 : decode cX10_mixName 50 = .ok (.invokevirtual 304, 3) := by decide +kernel
theorem dX10_mixName_53 : decode cX10_mixName 53 = .ok (.iinc 2 1, 3) := by decide +kernel
theorem dX10_mixName_56 : decode cX10_mixName 56 = .ok (.goto (-20), 3) := by decide +kernel
theorem dX10_mixName_59 : decode cX10_mixName 59 = .ok (.iconst 0, 1) := by decide +kernel
theorem dX10_mixName_60 : decode cX10_mixName 60 = .ok (.istore_n 2, 1) := by decide +kernel
theorem dX10_mixName_61 : decode cX10_mixName 61 = .ok (.iload_n 2, 1) := by decide +kernel
theorem dX10_mixName_62 : decode cX10_mixName 62 = .ok (.aload_n 0, 1) := by decide +kernel
theorem dX10_mixName_63 : decode cX10_mixName 63 = .ok (.getfield 13, 3) := by decide +kernel
theorem dX10_mixName_66 : decode cX10_mixName 66 = .ok (.iload_n 1, 1) := by decide +kernel
theorem dX10_mixName_67 : decode cX10_mixName 67 = .ok (.iaload, 1) := by decide +kernel
theorem dX10_mixName_68 : decode cX10_mixName 68 = .ok (.if_icmp .ge 20, 3) := by decide +kernel
theorem dX10_mixName_71 : decode cX10_mixName 71 = .ok (.aload_n 0, 1) := by decide +kernel
theorem dX10_mixName_72 : decode cX10_mixName 72 = .ok (.aload_n 0, 1) := by decide +kernel
theorem dX10_mixName_73 : decode cX10_mixName 73 = .ok (.iload_n 1, 1) := by decide +kernel
theorem dX10_mixName_74 : decode cX10_mixName 74 = .ok (.iload_n 2, 1) := by decide +kernel
theorem dX10_mixName_75 : decode cX10_mixName 75 = .ok (.invokevirtual 145, 3) := by decide +kernel
theorem dX10_mixName_78 : decode cX10_mixName 78 = .ok (.i2l, 1) := by decide +kernel
theorem dX10_mixName_79 : decode cX10_mixName 79 = .ok (.invokevirtual 304, 3) := by decide +kernel
theorem dX10_mixName_82 : decode cX10_mixName 82 = .ok (.iinc 2 1, 3) := by decide +kernel
theorem dX10_mixName_85 : decode cX10_mixName 85 = .ok (.goto (-24), 3) := by decide +kernel
theorem dX10_mixName_88 : decode cX10_mixName 88 = .ok (.return_, 1) := by decide +kernel
theorem dX10_mixTyped_0 : decode cX10_mixTyped 0 = .ok (.iconst 0, 1) := by decide +kernel
theorem dX10_mixTyped_1 : decode cX10_mixTyped 1 = .ok (.istore_n 1, 1) := by decide +kernel
theorem dX10_mixTyped_2 : decode cX10_mixTyped 2 = .ok (.iload_n 1, 1) := by decide +kernel
theorem dX10_mixTyped_3 : decode cX10_mixTyped 3 = .ok (.aload_n 0, 1) := by decide +kernel
theorem dX10_mixTyped_4 : decode cX10_mixTyped 4 = .ok (.getfield 199, 3) := by decide +kernel
theorem dX10_mixTyped_7 : decode cX10_mixTyped 7 = .ok (.if_icmp .ge 20, 3) := by decide +kernel
theorem dX10_mixTyped_10 : decode cX10_mixTyped 10 = .ok (.aload_n 0, 1) := by decide +kernel
theorem dX10_mixTyped_11 : decode cX10_mixTyped 11 = .ok (.aload_n 0, 1) := by decide +kernel
theorem dX10_mixTyped_12 : decode cX10_mixTyped 12 = .ok (.getfield 25, 3) := by decide +kernel
theorem dX10_mixTyped_15 : decode cX10_mixTyped 15 = .ok (.iload_n 1, 1) := by decide +kernel
theorem dX10_mixTyped_16 : decode cX10_mixTyped 16 = .ok (.iaload, 1) := by decide +kernel
theorem dX10_mixTyped_17 : decode cX10_mixTyped 17 = .ok (.i2l, 1) := by decide +kernel
theorem dX10_mixTyped_18 : decode cX10_mixTyped 18 = .ok (.invokevirtual 304, 3) := by decide +kernel
theorem dX10_mixTyped_21 : decode cX10_mixTyped 21 = .ok (.iinc 1 1, 3) := by decide +kernel
theorem dX10_mixTyped_24 : decode cX10_mixTyped 24 = .ok (.goto (-22), 3) := by decide +kernel
theorem dX10_mixTyped_27 : decode cX10_mixTyped 27 = .ok (.iconst 0, 1) := by decide +kernel
theorem dX10_mixTyped_28 : decode cX10_mixTyped 28 = .ok (.istore_n 1, 1) := by decide +kernel
theorem dX10_mixTyped_29 : decode cX10_mixTyped 29 = .ok (.aload_n 0, 1) := by decide +kernel
theorem dX10_mixTyped_30 : decode cX10_mixTyped 30 = .ok (.iload_n 1, 1) := by decide +kernel
theorem dX10_mixTyped_31 : decode cX10_mixTyped 31 = .ok (.invokevirtual 308, 3) := by decide +kernel
theorem dX10_mixTyped_34 : decode cX10_mixTyped 34 = .ok (.bipush (-101), 2) := by decide +kernel
theorem dX10_mixTyped_36 : decode cX10_mixTyped 36 = .ok (.if_icmp .eq 19, 3) := by decide +kernel
theorem dX10_mixTyped_39 : decode cX10_mixTyped 39 = .ok (.aload_n 0, 1) := by decide +kernel
theorem dX10_mixTyped_40 : decode cX10_mixTyped 40 = .ok (.aload_n 0, 1) := by decide +kernel
theorem dX10_mixTyped_41 : decode cX10_mixTyped 41 = .ok (.iload_n 1, 1) := by decide +kernel
theorem dX10_mixTyped_42 : decode cX10_mixTyped 42 = .ok (.invokevirtual 308, 3) := by decide +kernel
theorem dX10_mixTyped_45 : decode cX10_mixTyped 45 = .ok (.i2l, 1) := by decide +kernel
theorem dX10_mixTyped_46 : decode cX10_mixTyped 46 = .ok (.invokevirtual 304, 3) := by decide +kernel
theorem dX10_mixTyped_49 : decode cX10_mixTyped 49 = .ok (.iinc 1 1, 3) := by decide +kernel
theorem dX10_mixTyped_52 : decode cX10_mixTyped 52 = .ok (.goto (-23), 3) := by decide +kernel
theorem dX10_mixTyped_55 : decode cX10_mixTyped 55 = .ok (.iconst 0, 1) := by decide +kernel
theorem dX10_mixTyped_56 : decode cX10_mixTyped 56 = .ok (.istore_n 1, 1) := by decide +kernel
theorem dX10_mixTyped_57 : decode cX10_mixTyped 57 = .ok (.iload_n 1, 1) := by decide +kernel
theorem dX10_mixTyped_58 : decode cX10_mixTyped 58 = .ok (.iconst 4, 1) := by decide +kernel
theorem dX10_mixTyped_59 : decode cX10_mixTyped 59 = .ok (.if_icmp .ge 19, 3) := by decide +kernel
theorem dX10_mixTyped_62 : decode cX10_mixTyped 62 = .ok (.aload_n 0, 1) := by decide +kernel
theorem dX10_mixTyped_63 : decode cX10_mixTyped 63 = .ok (.aload_n 0, 1) := by decide +kernel
theorem dX10_mixTyped_64 : decode cX10_mixTyped 64 = .ok (.iload_n 1, 1) := by decide +kernel
theorem dX10_mixTyped_65 : decode cX10_mixTyped 65 = .ok (.invokevirtual 219, 3) := by decide +kernel
theorem dX10_mixTyped_68 : decode cX10_mixTyped 68 = .ok (.i2l, 1) := by decide +kernel
theorem dX10_mixTyped_69 : decode cX10_mixTyped 69 = .ok (.invokevirtual 304, 3) := by decide +kernel
theorem dX10_mixTyped_72 : decode cX10_mixTyped 72 = .ok (.iinc 1 1, 3) := by decide +kernel
theorem dX10_mixTyped_75 : decode cX10_mixTyped 75 = .ok (.goto (-18), 3) := by decide +kernel
theorem dX10_mixTyped_78 : decode cX10_mixTyped 78 = .ok (.iconst 0, 1) := by decide +kernel
theorem dX10_mixTyped_79 : decode cX10_mixTyped 79 = .ok (.istore_n 1, 1) := by decide +kernel
theorem dX10_mixTyped_80 : decode cX10_mixTyped 80 = .ok (.aload_n 0, 1) := by decide +kernel
theorem dX10_mixTyped_81 : decode cX10_mixTyped 81 = .ok (.iload_n 1, 1) := by decide +kernel
theorem dX10_mixTyped_82 : decode cX10_mixTyped 82 = .ok (.invokevirtual 225, 3) := by decide +kernel
theorem dX10_mixTyped_85 : decode cX10_mixTyped 85 = .ok (.bipush (-101), 2) := by decide +kernel
theorem dX10_mixTyped_87 : decode cX10_mixTyped 87 = .ok (.if_icmp .eq 19, 3) := by decide +kernel
theorem dX10_mixTyped_90 : decode cX10_mixTyped 90 = .ok (.aload_n 0, 1) := by decide +kernel
theorem dX10_mixTyped_91 : decode cX10_mixTyped 91 = .ok (.aload_n 0, 1) := by decide +kernel
theorem dX10_mixTyped_92 : decode cX10_mixTyped 92 = .ok (.iload_n 1, 1) := by decide +kernel
theorem dX10_mixTyped_93 : decode cX10_mixTyped 93 = .ok (.invokevirtual 225, 3) := by decide +kernel
theorem dX10_mixTyped_96 : decode cX10_mixTyped 96 = .ok (.i2l, 1) := by decide +kernel
theorem dX10_mixTyped_97 : decode cX10_mixTyped 97 = .ok (.invokevirtual 304, 3) := by decide +kernel
theorem dX10_mixTyped_100 : decode cX10_mixTyped 100 = .ok (.iinc 1 1, 3) := by decide +kernel
theorem dX10_mixTyped_103 : decode cX10_mixTyped 103 = .ok (.goto (-23), 3) := by decide +kernel
theorem dX10_mixTyped_106 : decode cX10_mixTyped 106 = .ok (.return_, 1) := by decide +kernel
theorem dX10_mixMenu_0 : decode cX10_mixMenu 0 = .ok (.iconst 0, 1) := by decide +kernel
theorem dX10_mixMenu_1 : decode cX10_mixMenu 1 = .ok (.istore_n 1, 1) := by decide +kernel
theorem dX10_mixMenu_2 : decode cX10_mixMenu 2 = .ok (.iload_n 1, 1) := by decide +kernel
theorem dX10_mixMenu_3 : decode cX10_mixMenu 3 = .ok (.bipush 7, 2) := by decide +kernel
theorem dX10_mixMenu_5 : decode cX10_mixMenu 5 = .ok (.if_icmp .ge 19, 3) := by decide +kernel
theorem dX10_mixMenu_8 : decode cX10_mixMenu 8 = .ok (.aload_n 0, 1) := by decide +kernel
theorem dX10_mixMenu_9 : decode cX10_mixMenu 9 = .ok (.aload_n 0, 1) := by decide +kernel
theorem dX10_mixMenu_10 : decode cX10_mixMenu 10 = .ok (.iload_n 1, 1) := by decide +kernel
theorem dX10_mixMenu_11 : decode cX10_mixMenu 11 = .ok (.invokevirtual 292, 3) := by decide +kernel
theorem dX10_mixMenu_14 : decode cX10_mixMenu 14 = .ok (.i2l, 1) := by decide +kernel
theorem dX10_mixMenu_15 : decode cX10_mixMenu 15 = .ok (.invokevirtual 304, 3) := by decide +kernel
theorem dX10_mixMenu_18 : decode cX10_mixMenu 18 = .ok (.iinc 1 1, 3) := by decide +kernel
theorem dX10_mixMenu_21 : decode cX10_mixMenu 21 = .ok (.goto (-19), 3) := by decide +kernel
theorem dX10_mixMenu_24 : decode cX10_mixMenu 24 = .ok (.iconst 0, 1) := by decide +kernel
theorem dX10_mixMenu_25 : decode cX10_mixMenu 25 = .ok (.istore_n 1, 1) := by decide +kernel
theorem dX10_mixMenu_26 : decode cX10_mixMenu 26 = .ok (.iload_n 1, 1) := by decide +kernel
theorem dX10_mixMenu_27 : decode cX10_mixMenu 27 = .ok (.aload_n 0, 1) := by decide +kernel
theorem dX10_mixMenu_28 : decode cX10_mixMenu 28 = .ok (.getfield 109, 3) := by decide +kernel
theorem dX10_mixMenu_31 : decode cX10_mixMenu 31 = .ok (.if_icmp .ge 43, 3) := by decide +kernel
theorem dX10_mixMenu_34 : decode cX10_mixMenu 34 = .ok (.iconst 0, 1) := by decide +kernel
theorem dX10_mixMenu_35 : decode cX10_mixMenu 35 = .ok (.istore_n 2, 1) := by decide +kernel
theorem dX10_mixMenu_36 : decode cX10_mixMenu 36 = .ok (.iload_n 2, 1) := by decide +kernel
theorem dX10_mixMenu_37 : decode cX10_mixMenu 37 = .ok (.aload_n 0, 1) := by decide +kernel
theorem dX10_mixMenu_38 : decode cX10_mixMenu 38 = .ok (.getfield 28, 3) := by decide +kernel
theorem dX10_mixMenu_41 : decode cX10_mixMenu 41 = .ok (.iload_n 1, 1) := by decide +kernel
theorem dX10_mixMenu_42 : decode cX10_mixMenu 42 = .ok (.iaload, 1) := by decide +kernel
theorem dX10_mixMenu_43 : decode cX10_mixMenu 43 = .ok (.if_icmp .ge 25, 3) := by decide +kernel
theorem dX10_mixMenu_46 : decode cX10_mixMenu 46 = .ok (.aload_n 0, 1) := by decide +kernel
theorem dX10_mixMenu_47 : decode cX10_mixMenu 47 = .ok (.aload_n 0, 1) := by decide +kernel
theorem dX10_mixMenu_48 : decode cX10_mixMenu 48 = .ok (.getfield 31, 3) := by decide +kernel
theorem dX10_mixMenu_51 : decode cX10_mixMenu 51 = .ok (.bipush 14, 2) := by decide +kernel
theorem dX10_mixMenu_53 : decode cX10_mixMenu 53 = .ok (.iload_n 1, 1) := by decide +kernel
theorem dX10_mixMenu_54 : decode cX10_mixMenu 54 = .ok (.imul, 1) := by decide +kernel
theorem dX10_mixMenu_55 : decode cX10_mixMenu 55 = .ok (.iload_n 2, 1) := by decide +kernel
theorem dX10_mixMenu_56 : decode cX10_mixMenu 56 = .ok (.iadd, 1) := by decide +kernel
theorem dX10_mixMenu_57 : decode cX10_mixMenu 57 = .ok (.iaload, 1) := by decide +kernel
theorem dX10_mixMenu_58 : decode cX10_mixMenu 58 = .ok (.i2l, 1) := by decide +kernel
theorem dX10_mixMenu_59 : decode cX10_mixMenu 59 = .ok (.invokevirtual 304, 3) := by decide +kernel
theorem dX10_mixMenu_62 : decode cX10_mixMenu 62 = .ok (.iinc 2 1, 3) := by decide +kernel
theorem dX10_mixMenu_65 : decode cX10_mixMenu 65 = .ok (.goto (-29), 3) := by decide +kernel
theorem dX10_mixMenu_68 : decode cX10_mixMenu 68 = .ok (.iinc 1 1, 3) := by decide +kernel
theorem dX10_mixMenu_71 : decode cX10_mixMenu 71 = .ok (.goto (-45), 3) := by decide +kernel
theorem dX10_mixMenu_74 : decode cX10_mixMenu 74 = .ok (.return_, 1) := by decide +kernel
theorem dX10_digest_0 : decode cX10_digest 0 = .ok (.aload_n 0, 1) := by decide +kernel
theorem dX10_digest_1 : decode cX10_digest 1 = .ok (.ldc2_w 311, 3) := by decide +kernel
theorem dX10_digest_4 : decode cX10_digest 4 = .ok (.putfield 300, 3) := by decide +kernel
theorem dX10_digest_7 : decode cX10_digest 7 = .ok (.iconst 0, 1) := by decide +kernel
theorem dX10_digest_8 : decode cX10_digest 8 = .ok (.istore_n 1, 1) := by decide +kernel
theorem dX10_digest_9 : decode cX10_digest 9 = .ok (.iload_n 1, 1) := by decide +kernel
theorem dX10_digest_10 : decode cX10_digest 10 = .ok (.bipush 26, 2) := by decide +kernel
theorem dX10_digest_12 : decode cX10_digest 12 = .ok (.if_icmp .ge 20, 3) := by decide +kernel
theorem dX10_digest_15 : decode cX10_digest 15 = .ok (.aload_n 0, 1) := by decide +kernel
theorem dX10_digest_16 : decode cX10_digest 16 = .ok (.aload_n 0, 1) := by decide +kernel
theorem dX10_digest_17 : decode cX10_digest 17 = .ok (.getfield 22, 3) := by decide +kernel
theorem dX10_digest_20 : decode cX10_digest 20 = .ok (.iload_n 1, 1) := by decide +kernel
theorem dX10_digest_21 : decode cX10_digest 21 = .ok (.iaload, 1) := by decide +kernel
theorem dX10_digest_22 : decode cX10_digest 22 = .ok (.i2l, 1) := by decide +kernel
theorem dX10_digest_23 : decode cX10_digest 23 = .ok (.invokevirtual 304, 3) := by decide +kernel
theorem dX10_digest_26 : decode cX10_digest 26 = .ok (.iinc 1 1, 3) := by decide +kernel
theorem dX10_digest_29 : decode cX10_digest 29 = .ok (.goto (-20), 3) := by decide +kernel
theorem dX10_digest_32 : decode cX10_digest 32 = .ok (.iconst 0, 1) := by decide +kernel
theorem dX10_digest_33 : decode cX10_digest 33 = .ok (.istore_n 1, 1) := by decide +kernel
theorem dX10_digest_34 : decode cX10_digest 34 = .ok (.iload_n 1, 1) := by decide +kernel
theorem dX10_digest_35 : decode cX10_digest 35 = .ok (.aload_n 0, 1) := by decide +kernel
theorem dX10_digest_36 : decode cX10_digest 36 = .ok (.getfield 109, 3) := by decide +kernel
theorem dX10_digest_39 : decode cX10_digest 39 = .ok (.if_icmp .ge 14, 3) := by decide +kernel
theorem dX10_digest_42 : decode cX10_digest 42 = .ok (.aload_n 0, 1) := by decide +kernel
theorem dX10_digest_43 : decode cX10_digest 43 = .ok (.iload_n 1, 1) := by decide +kernel
theorem dX10_digest_44 : decode cX10_digest 44 = .ok (.invokevirtual 313, 3) := by decide +kernel
theorem dX10_digest_47 : decode cX10_digest 47 = .ok (.iinc 1 1, 3) := by decide +kernel
theorem dX10_digest_50 : decode cX10_digest 50 = .ok (.goto (-16), 3) := by decide +kernel
theorem dX10_digest_53 : decode cX10_digest 53 = .ok (.iconst 0, 1) := by decide +kernel
theorem dX10_digest_54 : decode cX10_digest 54 = .ok (.istore_n 1, 1) := by decide +kernel
theorem dX10_digest_55 : decode cX10_digest 55 = .ok (.iload_n 1, 1) := by decide +kernel
theorem dX10_digest_56 : decode cX10_digest 56 = .ok (.bipush 7, 2) := by decide +kernel
theorem dX10_digest_58 : decode cX10_digest 58 = .ok (.if_icmp .ge 19, 3) := by decide +kernel
theorem dX10_digest_61 : decode cX10_digest 61 = .ok (.aload_n 0, 1) := by decide +kernel
theorem dX10_digest_62 : decode cX10_digest 62 = .ok (.aload_n 0, 1) := by decide +kernel
theorem dX10_digest_63 : decode cX10_digest 63 = .ok (.iload_n 1, 1) := by decide +kernel
theorem dX10_digest_64 : decode cX10_digest 64 = .ok (.invokevirtual 196, 3) := by decide +kernel
theorem dX10_digest_67 : decode cX10_digest 67 = .ok (.i2l, 1) := by decide +kernel
theorem dX10_digest_68 : decode cX10_digest 68 = .ok (.invokevirtual 304, 3) := by decide +kernel
theorem dX10_digest_71 : decode cX10_digest 71 = .ok (.iinc 1 1, 3) := by decide +kernel
theorem dX10_digest_74 : decode cX10_digest 74 = .ok (.goto (-19), 3) := by decide +kernel
theorem dX10_digest_77 : decode cX10_digest 77 = .ok (.aload_n 0, 1) := by decide +kernel
theorem dX10_digest_78 : decode cX10_digest 78 = .ok (.invokevirtual 316, 3) := by decide +kernel
theorem dX10_digest_81 : decode cX10_digest 81 = .ok (.aload_n 0, 1) := by decide +kernel
theorem dX10_digest_82 : decode cX10_digest 82 = .ok (.getfield 130, 3) := by decide +kernel
theorem dX10_digest_85 : decode cX10_digest 85 = .ok (.ifCond .le 7, 3) := by decide +kernel
theorem dX10_digest_88 : decode cX10_digest 88 = .ok (.aload_n 0, 1) := by decide +kernel
theorem dX10_digest_89 : decode cX10_digest 89 = .ok (.invokevirtual 319, 3) := by decide +kernel
theorem dX10_digest_92 : decode cX10_digest 92 = .ok (.iconst 0, 1) := by decide +kernel
theorem dX10_digest_93 : decode cX10_digest 93 = .ok (.istore_n 1, 1) := by decide +kernel
theorem dX10_digest_94 : decode cX10_digest 94 = .ok (.iload_n 1, 1) := by decide +kernel
theorem dX10_digest_95 : decode cX10_digest 95 = .ok (.aload_n 0, 1) := by decide +kernel
theorem dX10_digest_96 : decode cX10_digest 96 = .ok (.getfield 77, 3) := by decide +kernel
theorem dX10_digest_99 : decode cX10_digest 99 = .ok (.if_icmp .ge 20, 3) := by decide +kernel
theorem dX10_digest_102 : decode cX10_digest 102 = .ok (.aload_n 0, 1) := by decide +kernel
theorem dX10_digest_103 : decode cX10_digest 103 = .ok (.aload_n 0, 1) := by decide +kernel
theorem dX10_digest_104 : decode cX10_digest 104 = .ok (.getfield 7, 3) := by decide +kernel
theorem dX10_digest_107 : decode cX10_digest 107 = .ok (.iload_n 1, 1) := by decide +kernel
theorem dX10_digest_108 : decode cX10_digest 108 = .ok (.iaload, 1) := by decide +kernel
theorem dX10_digest_109 : decode cX10_digest 109 = .ok (.i2l, 1) := by decide +kernel
theorem dX10_digest_110 : decode cX10_digest 110 = .ok (.invokevirtual 304, 3) := by decide +kernel
theorem dX10_digest_113 : decode cX10_digest 113 = .ok (.iinc 1 1, 3) := by decide +kernel
theorem dX10_digest_116 : decode cX10_digest 116 = .ok (.goto (-22), 3) := by decide +kernel
theorem dX10_digest_119 : decode cX10_digest 119 = .ok (.iconst 0, 1) := by decide +kernel
theorem dX10_digest_120 : decode cX10_digest 120 = .ok (.istore_n 1, 1) := by decide +kernel
theorem dX10_digest_121 : decode cX10_digest 121 = .ok (.iload_n 1, 1) := by decide +kernel
theorem dX10_digest_122 : decode cX10_digest 122 = .ok (.bipush 6, 2) := by decide +kernel
theorem dX10_digest_124 : decode cX10_digest 124 = .ok (.if_icmp .ge 19, 3) := by decide +kernel
theorem dX10_digest_127 : decode cX10_digest 127 = .ok (.aload_n 0, 1) := by decide +kernel
theorem dX10_digest_128 : decode cX10_digest 128 = .ok (.aload_n 0, 1) := by decide +kernel
theorem dX10_digest_129 : decode cX10_digest 129 = .ok (.iload_n 1, 1) := by decide +kernel
theorem dX10_digest_130 : decode cX10_digest 130 = .ok (.invokevirtual 295, 3) := by decide +kernel
theorem dX10_digest_133 : decode cX10_digest 133 = .ok (.i2l, 1) := by decide +kernel
theorem dX10_digest_134 : decode cX10_digest 134 = .ok (.invokevirtual 304, 3) := by decide +kernel
theorem dX10_digest_137 : decode cX10_digest 137 = .ok (.iinc 1 1, 3) := by decide +kernel
theorem dX10_digest_140 : decode cX10_digest 140 = .ok (.goto (-19), 3) := by decide +kernel
theorem dX10_digest_143 : decode cX10_digest 143 = .ok (.aload_n 0, 1) := by decide +kernel
theorem dX10_digest_144 : decode cX10_digest 144 = .ok (.getfield 300, 3) := by decide +kernel
theorem dX10_digest_147 : decode cX10_digest 147 = .ok (.lreturn, 1) := by decide +kernel
theorem dJ7_fill_53178_0 : decode cJ7_fill_53178 0 = .ok (.iconst 0, 1) := by decide +kernel
theorem dJ7_fill_53178_1 : decode cJ7_fill_53178 1 = .ok (.istore_n 2, 1) := by decide +kernel
theorem dJ7_fill_53178_2 : decode cJ7_fill_53178 2 = .ok (.aload_n 0, 1) := by decide +kernel
theorem dJ7_fill_53178_3 : decode cJ7_fill_53178 3 = .ok (.arraylength, 1) := by decide +kernel
theorem dJ7_fill_53178_4 : decode cJ7_fill_53178 4 = .ok (.istore_n 3, 1) := by decide +kernel
theorem dJ7_fill_53178_5 : decode cJ7_fill_53178 5 = .ok (.iload_n 2, 1) := by decide +kernel
theorem dJ7_fill_53178_6 : decode cJ7_fill_53178 6 = .ok (.iload_n 3, 1) := by decide +kernel
theorem dJ7_fill_53178_7 : decode cJ7_fill_53178 7 = .ok (.if_icmp .ge 13, 3) := by decide +kernel
theorem dJ7_fill_53178_10 : decode cJ7_fill_53178 10 = .ok (.aload_n 0, 1) := by decide +kernel
theorem dJ7_fill_53178_11 : decode cJ7_fill_53178 11 = .ok (.iload_n 2, 1) := by decide +kernel
theorem dJ7_fill_53178_12 : decode cJ7_fill_53178 12 = .ok (.iload_n 1, 1) := by decide +kernel
theorem dJ7_fill_53178_13 : decode cJ7_fill_53178 13 = .ok (.iastore, 1) := by decide +kernel
theorem dJ7_fill_53178_14 : decode cJ7_fill_53178 14 = .ok (.iinc 2 1, 3) := by decide +kernel
theorem dJ7_fill_53178_17 : decode cJ7_fill_53178 17 = .ok (.goto (-12), 3) := by decide +kernel
theorem dJ7_fill_53178_20 : decode cJ7_fill_53178 20 = .ok (.return_, 1) := by decide +kernel
theorem dL_law_0 : decode cL_law 0 = .ok (.new 7, 3) := by decide +kernel
theorem dL_law_3 : decode cL_law 3 = .ok (.dup, 1) := by decide +kernel
theorem dL_law_4 : decode cL_law 4 = .ok (.invokespecial 9, 3) := by decide +kernel
theorem dL_law_7 : decode cL_law 7 = .ok (.astore_n 1, 1) := by decide +kernel
theorem dL_law_8 : decode cL_law 8 = .ok (.new 10, 3) := by decide +kernel
theorem dL_law_11 : decode cL_law 11 = .ok (.dup, 1) := by decide +kernel
theorem dL_law_12 : decode cL_law 12 = .ok (.invokespecial 12, 3) := by decide +kernel
theorem dL_law_15 : decode cL_law 15 = .ok (.astore_n 2, 1) := by decide +kernel
theorem dL_law_16 : decode cL_law 16 = .ok (.iconst 0, 1) := by decide +kernel
theorem dL_law_17 : decode cL_law 17 = .ok (.istore_n 3, 1) := by decide +kernel
theorem dL_law_18 : decode cL_law 18 = .ok (.iload_n 3, 1) := by decide +kernel
theorem dL_law_19 : decode cL_law 19 = .ok (.aload_n 0, 1) := by decide +kernel
theorem dL_law_20 : decode cL_law 20 = .ok (.arraylength, 1) := by decide +kernel
theorem dL_law_21 : decode cL_law 21 = .ok (.iconst 3, 1) := by decide +kernel
theorem dL_law_22 : decode cL_law 22 = .ok (.isub, 1) := by decide +kernel
theorem dL_law_23 : decode cL_law 23 = .ok (.if_icmp .gt 714, 3) := by decide +kernel
theorem dL_law_26 : decode cL_law 26 = .ok (.aload_n 0, 1) := by decide +kernel
theorem dL_law_27 : decode cL_law 27 = .ok (.iload_n 3, 1) := by decide +kernel
theorem dL_law_28 : decode cL_law 28 = .ok (.iaload, 1) := by decide +kernel
theorem dL_law_29 : decode cL_law 29 = .ok (.bipush 31, 2) := by decide +kernel
theorem dL_law_31 : decode cL_law 31 = .ok (.iand, 1) := by decide +kernel
theorem dL_law_32 : decode cL_law 32 = .ok (.tableswitch 699 0 25 #[120, 143, 156, 169, 182, 195, 218, 251, 284, 317, 350, 373, 396, 419, 432, 445, 468, 491, 514, 537, 560, 583, 616, 639, 662, 685], 120) := by decide +kernel
theorem dL_law_152 : decode cL_law 152 = .ok (.aload_n 1, 1) := by decide +kernel
theorem dL_law_153 : decode cL_law 153 = .ok (.aload_n 0, 1) := by decide +kernel
theorem dL_law_154 : decode cL_law 154 = .ok (.iload_n 3, 1) := by decide +kernel
theorem dL_law_155 : decode cL_law 155 = .ok (.iconst 1, 1) := by decide +kernel
theorem dL_law_156 : decode cL_law 156 = .ok (.iadd, 1) := by decide +kernel
theorem dL_law_157 : decode cL_law 157 = .ok (.iaload, 1) := by decide +kernel
theorem dL_law_158 : decode cL_law 158 = .ok (.invokevirtual 13, 3) := by decide +kernel
theorem dL_law_161 : decode cL_law 161 = .ok (.aload_n 2, 1) := by decide +kernel
theorem dL_law_162 : decode cL_law 162 = .ok (.aload_n 0, 1) := by decide +kernel
theorem dL_law_163 : decode cL_law 163 = .ok (.iload_n 3, 1) := by decide +kernel
theorem dL_law_164 : decode cL_law 164 = .ok (.iconst 1, 1) := by decide +kernel
theorem dL_law_165 : decode cL_law 165 = .ok (.iadd, 1) := by decide +kernel
theorem dL_law_166 : decode cL_law 166 = .ok (.iaload, 1) := by decide +kernel
theorem dL_law_167 : decode cL_law 167 = .ok (.invokevirtual 17, 3) := by decide +kernel
theorem dL_law_170 : decode cL_law 170 = .ok (.if_icmp .eq 561, 3) := by decide +kernel
theorem dL_law_173 : decode cL_law 173 = .ok (.iconst 0, 1) := by decide +kernel
theorem dL_law_174 : decode cL_law 174 = .ok (.ireturn, 1) := by decide +kernel
theorem dL_law_175 : decode cL_law 175 = .ok (.aload_n 1, 1) := by decide +kernel
theorem dL_law_176 : decode cL_law 176 = .ok (.invokevirtual 18, 3) := by decide +kernel
theorem dL_law_179 : decode cL_law 179 = .ok (.aload_n 2, 1) := by decide +kernel
theorem dL_law_180 : decode cL_law 180 = .ok (.invokevirtual 22, 3) := by decide +kernel
theorem dL_law_183 : decode cL_law 183 = .ok (.if_icmp .eq 548, 3) := by decide +kernel
theorem dL_law_186 : decode cL_law 186 = .ok (.iconst 0, 1) := by decide +kernel
theorem dL_law_187 : decode cL_law 187 = .ok (.ireturn, 1) := by decide +kernel
theorem dL_law_188 : decode cL_law 188 = .ok (.aload_n 1, 1) := by decide +kernel
theorem dL_law_189 : decode cL_law 189 = .ok (.invokevirtual 23, 3) := by decide +kernel
theorem dL_law_192 : decode cL_law 192 = .ok (.aload_n 2, 1) := by decide +kernel
theorem dL_law_193 : decode cL_law 193 = .ok (.invokevirtual 26, 3) := by decide +kernel
theorem dL_law_196 : decode cL_law 196 = .ok (.if_icmp .eq 535, 3) := by decide +kernel
theorem dL_law_199 : decode cL_law 199 = .ok (.iconst 0, 1) := by decide +kernel
theorem dL_law_200 : decode cL_law 200 = .ok (.ireturn, 1) := by decide +kernel
theorem dL_law_201 : decode cL_law 201 = .ok (.aload_n 1, 1) := by decide +kernel
theorem dL_law_202 : decode cL_law 202 = .ok (.invokevirtual 27, 3) := by decide +kernel
theorem dL_law_205 : decode cL_law 205 = .ok (.aload_n 2, 1) := by decide +kernel
theorem dL_law_206 : decode cL_law 206 = .ok (.invokevirtual 30, 3) := by decide +kernel
theorem dL_law_209 : decode cL_law 209 = .ok (.if_icmp .eq 522, 3) := by decide +kernel
theorem dL_law_212 : decode cL_law 212 = .ok (.iconst 0, 1) := by decide +kernel
theorem dL_law_213 : decode cL_law 213 = .ok (.ireturn, 1) := by decide +kernel
theorem dL_law_214 : decode cL_law 214 = .ok (.aload_n 1, 1) := by decide +kernel
theorem dL_law_215 : decode cL_law 215 = .ok (.invokevirtual 31, 3) := by decide +kernel
theorem dL_law_218 : decode cL_law 218 = .ok (.aload_n 2, 1) := by decide +kernel
theorem dL_law_219 : decode cL_law 219 = .ok (.invokevirtual 34, 3) := by decide +kernel
theorem dL_law_222 : decode cL_law 222 = .ok (.if_icmp .eq 509, 3) := by decide +kernel
theorem dL_law_225 : decode cL_law 225 = .ok (.iconst 0, 1) := by decide +kernel
theorem dL_law_226 : decode cL_law 226 = .ok (.ireturn, 1) := by decide +kernel
theorem dL_law_227 : decode cL_law 227 = .ok (.aload_n 1, 1) := by decide +kernel
theorem dL_law_228 : decode cL_law 228 = .ok (.aload_n 0, 1) := by decide +kernel
theorem dL_law_229 : decode cL_law 229 = .ok (.iload_n 3, 1) := by decide +kernel
theorem dL_law_230 : decode cL_law 230 = .ok (.iconst 1, 1) := by decide +kernel
theorem dL_law_231 : decode cL_law 231 = .ok (.iadd, 1) := by decide +kernel
theorem dL_law_232 : decode cL_law 232 = .ok (.iaload, 1) := by decide +kernel
theorem dL_law_233 : decode cL_law 233 = .ok (.invokevirtual 35, 3) := by decide +kernel
theorem dL_law_236 : decode cL_law 236 = .ok (.aload_n 2, 1) := by decide +kernel
theorem dL_law_237 : decode cL_law 237 = .ok (.aload_n 0, 1) := by decide +kernel
theorem dL_law_238 : decode cL_law 238 = .ok (.iload_n 3, 1) := by decide +kernel
theorem dL_law_239 : decode cL_law 239 = .ok (.iconst 1, 1) := by decide +kernel
theorem dL_law_240 : decode cL_law 240 = .ok (.iadd, 1) := by decide +kernel
theorem dL_law_241 : decode cL_law 241 = .ok (.iaload, 1) := by decide +kernel
theorem dL_law_242 : decode cL_law 242 = .ok (.invokevirtual 38, 3) := by decide +kernel
theorem dL_law_245 : decode cL_law 245 = .ok (.if_icmp .eq 486, 3) := by decide +kernel
theorem dL_law_248 : decode cL_law 248 = .ok (.iconst 0, 1) := by decide +kernel
theorem dL_law_249 : decode cL_law 249 = .ok (.ireturn, 1) := by decide +kernel
theorem dL_law_250 : decode cL_law 250 = .ok (.aload_n 1, 1) := by decide +kernel
theorem dL_law_251 : decode cL_law 251 = .ok (.aload_n 0, 1) := by decide +kernel
theorem dL_law_252 : decode cL_law 252 = .ok (.iload_n 3, 1) := by decide +kernel
theorem dL_law_253 : decode cL_law 253 = .ok (.iconst 1, 1) := by decide +kernel
theorem dL_law_254 : decode cL_law 254 = .ok (.iadd, 1) := by decide +kernel
theorem dL_law_255 : decode cL_law 255 = .ok (.iaload, 1) := by decide +kernel
theorem dL_law_256 : decode cL_law 256 = .ok (.aload_n 0, 1) := by decide +kernel
theorem dL_law_257 : decode cL_law 257 = .ok (.iload_n 3, 1) := by decide +kernel
theorem dL_law_258 : decode cL_law 258 = .ok (.iconst 2, 1) := by decide +kernel
theorem dL_law_259 : decode cL_law 259 = .ok (.iadd, 1) := by decide +kernel
theorem dL_law_260 : decode cL_law 260 = .ok (.iaload, 1) := by decide +kernel
theorem dL_law_261 : decode cL_law 261 = .ok (.invokevirtual 39, 3) := by decide +kernel
theorem dL_law_264 : decode cL_law 264 = .ok (.aload_n 2, 1) := by decide +kernel
theorem dL_law_265 : decode cL_law 265 = .ok (.aload_n 0, 1) := by decide +kernel
theorem dL_law_266 : decode cL_law 266 = .ok (.iload_n 3, 1) := by decide +kernel
theorem dL_law_267 : decode cL_law 267 = .ok (.iconst 1, 1) := by decide +kernel
theorem dL_law_268 : decode cL_law 268 = .ok (.iadd, 1) := by decide +kernel
theorem dL_law_269 : decode cL_law 269 = .ok (.iaload, 1) := by decide +kernel
theorem dL_law_270 : decode cL_law 270 = .ok (.aload_n 0, 1) := by decide +kernel
theorem dL_law_271 : decode cL_law 271 = .ok (.iload_n 3, 1) := by decide +kernel
theorem dL_law_272 : decode cL_law 272 = .ok (.iconst 2, 1) := by decide +kernel
theorem dL_law_273 : decode cL_law 273 = .ok (.iadd, 1) := by decide +kernel
theorem dL_law_274 : decode cL_law 274 = .ok (.iaload, 1) := by decide +kernel
theorem dL_law_275 : decode cL_law 275 = .ok (.invokevirtual 43, 3) := by decide +kernel
theorem dL_law_278 : decode cL_law 278 = .ok (.if_icmp .eq 453, 3) := by decide +kernel
theorem dL_law_281 : decode cL_law 281 = .ok (.iconst 0, 1) := by decide +kernel
theorem dL_law_282 : decode cL_law 282 = .ok (.ireturn, 1) := by decide +kernel
theorem dL_law_283 : decode cL_law 283 = .ok (.aload_n 1, 1) := by decide +kernel
theorem dL_law_284 : decode cL_law 284 = .ok (.aload_n 0, 1) := by decide +kernel
theorem dL_law_285 : decode cL_law 285 = .ok (.iload_n 3, 1) := by decide +kernel
theorem dL_law_286 : decode cL_law 286 = .ok (.iconst 1, 1) := by decide +kernel
theorem dL_law_287 : decode cL_law 287 = .ok (.iadd, 1) := by decide +kernel
theorem dL_law_288 : decode cL_law 288 = .ok (.iaload, 1) := by decide +kernel
theorem dL_law_289 : decode cL_law 289 = .ok (.aload_n 0, 1) := by decide +kernel
theorem dL_law_290 : decode cL_law 290 = .ok (.iload_n 3, 1) := by decide +kernel
theorem dL_law_291 : decode cL_law 291 = .ok (.iconst 2, 1) := by decide +kernel
theorem dL_law_292 : decode cL_law 292 = .ok (.iadd, 1) := by decide +kernel
theorem dL_law_293 : decode cL_law 293 = .ok (.iaload, 1) := by decide +kernel
theorem dL_law_294 : decode cL_law 294 = .ok (.invokevirtual 44, 3) := by decide +kernel
theorem dL_law_297 : decode cL_law 297 = .ok (.aload_n 2, 1) := by decide +kernel
theorem dL_law_298 : decode cL_law 298 = .ok (.aload_n 0, 1) := by decide +kernel
theorem dL_law_299 : decode cL_law 299 = .ok (.iload_n 3, 1) := by decide +kernel
theorem dL_law_300 : decode cL_law 300 = .ok (.iconst 1, 1) := by decide +kernel
theorem dL_law_301 : decode cL_law 301 = .ok (.iadd, 1) := by decide +kernel
theorem dL_law_302 : decode cL_law 302 = .ok (.iaload, 1) := by decide +kernel
theorem dL_law_303 : decode cL_law 303 = .ok (.aload_n 0, 1) := by decide +kernel
theorem dL_law_304 : decode cL_law 304 = .ok (.iload_n 3, 1) := by decide +kernel
theorem dL_law_305 : decode cL_law 305 = .ok (.iconst 2, 1) := by decide +kernel
theorem dL_law_306 : decode cL_law 306 = .ok (.iadd, 1) := by decide +kernel
theorem dL_law_307 : decode cL_law 307 = .ok (.iaload, 1) := by decide +kernel
theorem dL_law_308 : decode cL_law 308 = .ok (.invokevirtual 47, 3) := by decide +kernel
theorem dL_law_311 : decode cL_law 311 = .ok (.if_icmp .eq 420, 3) := by decide +kernel
theorem dL_law_314 : decode cL_law 314 = .ok (.iconst 0, 1) := by decide +kernel
theorem dL_law_315 : decode cL_law 315 = .ok (.ireturn, 1) := by decide +kernel
theorem dL_law_316 : decode cL_law 316 = .ok (.aload_n 1, 1) := by decide +kernel
theorem dL_law_317 : decode cL_law 317 = .ok (.aload_n 0, 1) := by decide +kernel
theorem dL_law_318 : decode cL_law 318 = .ok (.iload_n 3, 1) := by decide +kernel
theorem dL_law_319 : decode cL_law 319 = .ok (.iconst 1, 1) := by decide +kernel
theorem dL_law_320 : decode cL_law 320 = .ok (.iadd, 1) := by decide +kernel
theorem dL_law_321 : decode cL_law 321 = .ok (.iaload, 1) := by decide +kernel
theorem dL_law_322 : decode cL_law 322 = .ok (.aload_n 0, 1) := by decide +kernel
theorem dL_law_323 : decode cL_law 323 = .ok (.iload_n 3, 1) := by decide +kernel
theorem dL_law_324 : decode cL_law 324 = .ok (.iconst 2, 1) := by decide +kernel
theorem dL_law_325 : decode cL_law 325 = .ok (.iadd, 1) := by decide +kernel
theorem dL_law_326 : decode cL_law 326 = .ok (.iaload, 1) := by decide +kernel
theorem dL_law_327 : decode cL_law 327 = .ok (.invokevirtual 48, 3) := by decide +kernel
theorem dL_law_330 : decode cL_law 330 = .ok (.aload_n 2, 1) := by decide +kernel
theorem dL_law_331 : decode cL_law 331 = .ok (.aload_n 0, 1) := by decide +kernel
theorem dL_law_332 : decode cL_law 332 = .ok (.iload_n 3, 1) := by decide +kernel
theorem dL_law_333 : decode cL_law 333 = .ok (.iconst 1, 1) := by decide +kernel
theorem dL_law_334 : decode cL_law 334 = .ok (.iadd, 1) := by decide +kernel
theorem dL_law_335 : decode cL_law 335 = .ok (.iaload, 1) := by decide +kernel
theorem dL_law_336 : decode cL_law 336 = .ok (.aload_n 0, 1) := by decide +kernel
theorem dL_law_337 : decode cL_law 337 = .ok (.iload_n 3, 1) := by decide +kernel
theorem dL_law_338 : decode cL_law 338 = .ok (.iconst 2, 1) := by decide +kernel
theorem dL_law_339 : decode cL_law 339 = .ok (.iadd, 1) := by decide +kernel
theorem dL_law_340 : decode cL_law 340 = .ok (.iaload, 1) := by decide +kernel
theorem dL_law_341 : decode cL_law 341 = .ok (.invokevirtual 51, 3) := by decide +kernel
theorem dL_law_344 : decode cL_law 344 = .ok (.if_icmp .eq 387, 3) := by decide +kernel
theorem dL_law_347 : decode cL_law 347 = .ok (.iconst 0, 1) := by decide +kernel
theorem dL_law_348 : decode cL_law 348 = .ok (.ireturn, 1) := by decide +kernel
theorem dL_law_349 : decode cL_law 349 = .ok (.aload_n 1, 1) := by decide +kernel
theorem dL_law_350 : decode cL_law 350 = .ok (.aload_n 0, 1) := by decide +kernel
theorem dL_law_351 : decode cL_law 351 = .ok (.iload_n 3, 1) := by decide +kernel
theorem dL_law_352 : decode cL_law 352 = .ok (.iconst 1, 1) := by decide +kernel
theorem dL_law_353 : decode cL_law 353 = .ok (.iadd, 1) := by decide +kernel
theorem dL_law_354 : decode cL_law 354 = .ok (.iaload, 1) := by decide +kernel
theorem dL_law_355 : decode cL_law 355 = .ok (.aload_n 0, 1) := by decide +kernel
theorem dL_law_356 : decode cL_law 356 = .ok (.iload_n 3, 1) := by decide +kernel
theorem dL_law_357 : decode cL_law 357 = .ok (.iconst 2, 1) := by decide +kernel
theorem dL_law_358 : decode cL_law 358 = .ok (.iadd, 1) := by decide +kernel
theorem dL_law_359 : decode cL_law 359 = .ok (.iaload, 1) := by decide +kernel
theorem dL_law_360 : decode cL_law 360 = .ok (.invokevirtual 52, 3) := by decide +kernel
theorem dL_law_363 : decode cL_law 363 = .ok (.aload_n 2, 1) := by decide +kernel
theorem dL_law_364 : decode cL_law 364 = .ok (.aload_n 0, 1) := by decide +kernel
theorem dL_law_365 : decode cL_law 365 = .ok (.iload_n 3, 1) := by decide +kernel
theorem dL_law_366 : decode cL_law 366 = .ok (.iconst 1, 1) := by decide +kernel
theorem dL_law_367 : decode cL_law 367 = .ok (.iadd, 1) := by decide +kernel
theorem dL_law_368 : decode cL_law 368 = .ok (.iaload, 1) := by decide +kernel
theorem dL_law_369 : decode cL_law 369 = .ok (.aload_n 0, 1) := by decide +kernel
theorem dL_law_370 : decode cL_law 370 = .ok (.iload_n 3, 1) := by decide +kernel
theorem dL_law_371 : decode cL_law 371 = .ok (.iconst 2, 1) := by decide +kernel
theorem dL_law_372 : decode cL_law 372 = .ok (.iadd, 1) := by decide +kernel
theorem dL_law_373 : decode cL_law 373 = .ok (.iaload, 1) := by decide +kernel
theorem dL_law_374 : decode cL_law 374 = .ok (.invokevirtual 55, 3) := by decide +kernel
theorem dL_law_377 : decode cL_law 377 = .ok (.if_icmp .eq 354, 3) := by decide +kernel
theorem dL_law_380 : decode cL_law 380 = .ok (.iconst 0, 1) := by decide +kernel
theorem dL_law_381 : decode cL_law 381 = .ok (.ireturn, 1) := by decide +kernel
theorem dL_law_382 : decode cL_law 382 = .ok (.aload_n 1, 1) := by decide +kernel
theorem dL_law_383 : decode cL_law 383 = .ok (.aload_n 0, 1) := by decide +kernel
theorem dL_law_384 : decode cL_law 384 = .ok (.iload_n 3, 1) := by decide +kernel
theorem dL_law_385 : decode cL_law 385 = .ok (.iconst 1, 1) := by decide +kernel
theorem dL_law_386 : decode cL_law 386 = .ok (.iadd, 1) := by decide +kernel
theorem dL_law_387 : decode cL_law 387 = .ok (.iaload, 1) := by decide +kernel
theorem dL_law_388 : decode cL_law 388 = .ok (.invokevirtual 56, 3) := by decide +kernel
theorem dL_law_391 : decode cL_law 391 = .ok (.aload_n 2, 1) := by decide +kernel
theorem dL_law_392 : decode cL_law 392 = .ok (.aload_n 0, 1) := by decide +kernel
theorem dL_law_393 : decode cL_law 393 = .ok (.iload_n 3, 1) := by decide +kernel
theorem dL_law_394 : decode cL_law 394 = .ok (.iconst 1, 1) := by decide +kernel
theorem dL_law_395 : decode cL_law 395 = .ok (.iadd, 1) := by decide +kernel
theorem dL_law_396 : decode cL_law 396 = .ok (.iaload, 1) := by decide +kernel
theorem dL_law_397 : decode cL_law 397 = .ok (.invokevirtual 59, 3) := by decide +kernel
theorem dL_law_400 : decode cL_law 400 = .ok (.if_icmp .eq 331, 3) := by decide +kernel
theorem dL_law_403 : decode cL_law 403 = .ok (.iconst 0, 1) := by decide +kernel
theorem dL_law_404 : decode cL_law 404 = .ok (.ireturn, 1) := by decide +kernel
theorem dL_law_405 : decode cL_law 405 = .ok (.aload_n 1, 1) := by decide +kernel
theorem dL_law_406 : decode cL_law 406 = .ok (.aload_n 0, 1) := by decide +kernel
theorem dL_law_407 : decode cL_law 407 = .ok (.iload_n 3, 1) := by decide +kernel
theorem dL_law_408 : decode cL_law 408 = .ok (.iconst 1, 1) := by decide +kernel
theorem dL_law_409 : decode cL_law 409 = .ok (.iadd, 1) := by decide +kernel
theorem dL_law_410 : decode cL_law 410 = .ok (.iaload, 1) := by decide +kernel
theorem dL_law_411 : decode cL_law 411 = .ok (.invokevirtual 60, 3) := by decide +kernel
theorem dL_law_414 : decode cL_law 414 = .ok (.aload_n 2, 1) := by decide +kernel
theorem dL_law_415 : decode cL_law 415 = .ok (.aload_n 0, 1) := by decide +kernel
theorem dL_law_416 : decode cL_law 416 = .ok (.iload_n 3, 1) := by decide +kernel
theorem dL_law_417 : decode cL_law 417 = .ok (.iconst 1, 1) := by decide +kernel
theorem dL_law_418 : decode cL_law 418 = .ok (.iadd, 1) := by decide +kernel
theorem dL_law_419 : decode cL_law 419 = .ok (.iaload, 1) := by decide +kernel
theorem dL_law_420 : decode cL_law 420 = .ok (.invokevirtual 63, 3) := by decide +kernel
theorem dL_law_423 : decode cL_law 423 = .ok (.if_icmp .eq 308, 3) := by decide +kernel
theorem dL_law_426 : decode cL_law 426 = .ok (.iconst 0, 1) := by decide +kernel
theorem dL_law_427 : decode cL_law 427 = .ok (.ireturn, 1) := by decide +kernel
theorem dL_law_428 : decode cL_law 428 = .ok (.aload_n 1, 1) := by decide +kernel
theorem dL_law_429 : decode cL_law 429 = .ok (.aload_n 0, 1) := by decide +kernel
theorem dL_law_430 : decode cL_law 430 = .ok (.iload_n 3, 1) := by decide +kernel
theorem dL_law_431 : decode cL_law 431 = .ok (.iconst 1, 1) := by decide +kernel
theorem dL_law_432 : decode cL_law 432 = .ok (.iadd, 1) := by decide +kernel
theorem dL_law_433 : decode cL_law 433 = .ok (.iaload, 1) := by decide +kernel
theorem dL_law_434 : decode cL_law 434 = .ok (.invokevirtual 64, 3) := by decide +kernel
theorem dL_law_437 : decode cL_law 437 = .ok (.aload_n 2, 1) := by decide +kernel
theorem dL_law_438 : decode cL_law 438 = .ok (.aload_n 0, 1) := by decide +kernel
theorem dL_law_439 : decode cL_law 439 = .ok (.iload_n 3, 1) := by decide +kernel
theorem dL_law_440 : decode cL_law 440 = .ok (.iconst 1, 1) := by decide +kernel
theorem dL_law_441 : decode cL_law 441 = .ok (.iadd, 1) := by decide +kernel
theorem dL_law_442 : decode cL_law 442 = .ok (.iaload, 1) := by decide +kernel
theorem dL_law_443 : decode cL_law 443 = .ok (.invokevirtual 67, 3) := by decide +kernel
theorem dL_law_446 : decode cL_law 446 = .ok (.if_icmp .eq 285, 3) := by decide +kernel
theorem dL_law_449 : decode cL_law 449 = .ok (.iconst 0, 1) := by decide +kernel
theorem dL_law_450 : decode cL_law 450 = .ok (.ireturn, 1) := by decide +kernel
theorem dL_law_451 : decode cL_law 451 = .ok (.aload_n 1, 1) := by decide +kernel
theorem dL_law_452 : decode cL_law 452 = .ok (.invokevirtual 68, 3) := by decide +kernel
theorem dL_law_455 : decode cL_law 455 = .ok (.aload_n 2, 1) := by decide +kernel
theorem dL_law_456 : decode cL_law 456 = .ok (.invokevirtual 71, 3) := by decide +kernel
theorem dL_law_459 : decode cL_law 459 = .ok (.if_icmp .eq 272, 3) := by decide +kernel
theorem dL_law_462 : decode cL_law 462 = .ok (.iconst 0, 1) := by decide +kernel
theorem dL_law_463 : decode cL_law 463 = .ok (.ireturn, 1) := by decide +kernel
theorem dL_law_464 : decode cL_law 464 = .ok (.aload_n 1, 1) := by decide +kernel
theorem dL_law_465 : decode cL_law 465 = .ok (.invokevirtual 72, 3) := by decide +kernel
theorem dL_law_468 : decode cL_law 468 = .ok (.aload_n 2, 1) := by decide +kernel
theorem dL_law_469 : decode cL_law 469 = .ok (.invokevirtual 75, 3) := by decide +kernel
theorem dL_law_472 : decode cL_law 472 = .ok (.if_icmp .eq 259, 3) := by decide +kernel
theorem dL_law_475 : decode cL_law 475 = .ok (.iconst 0, 1) := by decide +kernel
theorem dL_law_476 : decode cL_law 476 = .ok (.ireturn, 1) := by decide +kernel
theorem dL_law_477 : decode cL_law 477 = .ok (.aload_n 1, 1) := by decide +kernel
theorem dL_law_478 : decode cL_law 478 = .ok (.aload_n 0, 1) := by decide +kernel
theorem dL_law_479 : decode cL_law 479 = .ok (.iload_n 3, 1) := by decide +kernel
theorem dL_law_480 : decode cL_law 480 = .ok (.iconst 1, 1) := by decide +kernel
theorem dL_law_481 : decode cL_law 481 = .ok (.iadd, 1) := by decide +kernel
theorem dL_law_482 : decode cL_law 482 = .ok (.iaload, 1) := by decide +kernel
theorem dL_law_483 : decode cL_law 483 = .ok (.invokevirtual 76, 3) := by decide +kernel
theorem dL_law_486 : decode cL_law 486 = .ok (.aload_n 2, 1) := by decide +kernel
theorem dL_law_487 : decode cL_law 487 = .ok (.aload_n 0, 1) := by decide +kernel
theorem dL_law_488 : decode cL_law 488 = .ok (.iload_n 3, 1) := by decide +kernel
theorem dL_law_489 : decode cL_law 489 = .ok (.iconst 1, 1) := by decide +kernel
theorem dL_law_490 : decode cL_law 490 = .ok (.iadd, 1) := by decide +kernel
theorem dL_law_491 : decode cL_law 491 = .ok (.iaload, 1) := by decide +kernel
theorem dL_law_492 : decode cL_law 492 = .ok (.invokevirtual 79, 3) := by decide +kernel
theorem dL_law_495 : decode cL_law 495 = .ok (.if_icmp .eq 236, 3) := by decide +kernel
theorem dL_law_498 : decode cL_law 498 = .ok (.iconst 0, 1) := by decide +kernel
theorem dL_law_499 : decode cL_law 499 = .ok (.ireturn, 1) := by decide +kernel
theorem dL_law_500 : decode cL_law 500 = .ok (.aload_n 1, 1) := by decide +kernel
theorem dL_law_501 : decode cL_law 501 = .ok (.aload_n 0, 1) := by decide +kernel
theorem dL_law_502 : decode cL_law 502 = .ok (.iload_n 3, 1) := by decide +kernel
theorem dL_law_503 : decode cL_law 503 = .ok (.iconst 1, 1) := by decide +kernel
theorem dL_law_504 : decode cL_law 504 = .ok (.iadd, 1) := by decide +kernel
theorem dL_law_505 : decode cL_law 505 = .ok (.iaload, 1) := by decide +kernel
theorem dL_law_506 : decode cL_law 506 = .ok (.invokevirtual 80, 3) := by decide +kernel
theorem dL_law_509 : decode cL_law 509 = .ok (.aload_n 2, 1) := by decide +kernel
theorem dL_law_510 : decode cL_law 510 = .ok (.aload_n 0, 1) := by decide +kernel
theorem dL_law_511 : decode cL_law 511 = .ok (.iload_n 3, 1) := by decide +kernel
theorem dL_law_512 : decode cL_law 512 = .ok (.iconst 1, 1) := by decide +kernel
theorem dL_law_513 : decode cL_law 513 = .ok (.iadd, 1) := by decide +kernel
theorem dL_law_514 : decode cL_law 514 = .ok (.iaload, 1) := by decide +kernel
theorem dL_law_515 : decode cL_law 515 = .ok (.invokevirtual 83, 3) := by decide +kernel
theorem dL_law_518 : decode cL_law 518 = .ok (.if_icmp .eq 213, 3) := by decide +kernel
theorem dL_law_521 : decode cL_law 521 = .ok (.iconst 0, 1) := by decide +kernel
theorem dL_law_522 : decode cL_law 522 = .ok (.ireturn, 1) := by decide +kernel
theorem dL_law_523 : decode cL_law 523 = .ok (.aload_n 1, 1) := by decide +kernel
theorem dL_law_524 : decode cL_law 524 = .ok (.aload_n 0, 1) := by decide +kernel
theorem dL_law_525 : decode cL_law 525 = .ok (.iload_n 3, 1) := by decide +kernel
theorem dL_law_526 : decode cL_law 526 = .ok (.iconst 1, 1) := by decide +kernel
theorem dL_law_527 : decode cL_law 527 = .ok (.iadd, 1) := by decide +kernel
theorem dL_law_528 : decode cL_law 528 = .ok (.iaload, 1) := by decide +kernel
theorem dL_law_529 : decode cL_law 529 = .ok (.invokevirtual 84, 3) := by decide +kernel
theorem dL_law_532 : decode cL_law 532 = .ok (.aload_n 2, 1) := by decide +kernel
theorem dL_law_533 : decode cL_law 533 = .ok (.aload_n 0, 1) := by decide +kernel
theorem dL_law_534 : decode cL_law 534 = .ok (.iload_n 3, 1) := by decide +kernel
theorem dL_law_535 : decode cL_law 535 = .ok (.iconst 1, 1) := by decide +kernel
theorem dL_law_536 : decode cL_law 536 = .ok (.iadd, 1) := by decide +kernel
theorem dL_law_537 : decode cL_law 537 = .ok (.iaload, 1) := by decide +kernel
theorem dL_law_538 : decode cL_law 538 = .ok (.invokevirtual 87, 3) := by decide +kernel
theorem dL_law_541 : decode cL_law 541 = .ok (.if_icmp .eq 190, 3) := by decide +kernel
theorem dL_law_544 : decode cL_law 544 = .ok (.iconst 0, 1) := by decide +kernel
theorem dL_law_545 : decode cL_law 545 = .ok (.ireturn, 1) := by decide +kernel
theorem dL_law_546 : decode cL_law 546 = .ok (.aload_n 1, 1) := by decide +kernel
theorem dL_law_547 : decode cL_law 547 = .ok (.aload_n 0, 1) := by decide +kernel
theorem dL_law_548 : decode cL_law 548 = .ok (.iload_n 3, 1) := by decide +kernel
theorem dL_law_549 : decode cL_law 549 = .ok (.iconst 1, 1) := by decide +kernel
theorem dL_law_550 : decode cL_law 550 = .ok (.iadd, 1) := by decide +kernel
theorem dL_law_551 : decode cL_law 551 = .ok (.iaload, 1) := by decide +kernel
theorem dL_law_552 : decode cL_law 552 = .ok (.invokevirtual 88, 3) := by decide +kernel
theorem dL_law_555 : decode cL_law 555 = .ok (.aload_n 2, 1) := by decide +kernel
theorem dL_law_556 : decode cL_law 556 = .ok (.aload_n 0, 1) := by decide +kernel
theorem dL_law_557 : decode cL_law 557 = .ok (.iload_n 3, 1) := by decide +kernel
theorem dL_law_558 : decode cL_law 558 = .ok (.iconst 1, 1) := by decide +kernel
theorem dL_law_559 : decode cL_law 559 = .ok (.iadd, 1) := by decide +kernel
theorem dL_law_560 : decode cL_law 560 = .ok (.iaload, 1) := by decide +kernel
theorem dL_law_561 : decode cL_law 561 = .ok (.invokevirtual 91, 3) := by decide +kernel
theorem dL_law_564 : decode cL_law 564 = .ok (.if_icmp .eq 167, 3) := by decide +kernel
theorem dL_law_567 : decode cL_law 567 = .ok (.iconst 0, 1) := by decide +kernel
theorem dL_law_568 : decode cL_law 568 = .ok (.ireturn, 1) := by decide +kernel
theorem dL_law_569 : decode cL_law 569 = .ok (.aload_n 1, 1) := by decide +kernel
theorem dL_law_570 : decode cL_law 570 = .ok (.aload_n 0, 1) := by decide +kernel
theorem dL_law_571 : decode cL_law 571 = .ok (.iload_n 3, 1) := by decide +kernel
theorem dL_law_572 : decode cL_law 572 = .ok (.iconst 1, 1) := by decide +kernel
theorem dL_law_573 : decode cL_law 573 = .ok (.iadd, 1) := by decide +kernel
theorem dL_law_574 : decode cL_law 574 = .ok (.iaload, 1) := by decide +kernel
theorem dL_law_575 : decode cL_law 575 = .ok (.invokevirtual 92, 3) := by decide +kernel
theorem dL_law_578 : decode cL_law 578 = .ok (.aload_n 2, 1) := by decide +kernel
theorem dL_law_579 : decode cL_law 579 = .ok (.aload_n 0, 1) := by decide +kernel
theorem dL_law_580 : decode cL_law 580 = .ok (.iload_n 3, 1) := by decide +kernel
theorem dL_law_581 : decode cL_law 581 = .ok (.iconst 1, 1) := by decide +kernel
theorem dL_law_582 : decode cL_law 582 = .ok (.iadd, 1) := by decide +kernel
theorem dL_law_583 : decode cL_law 583 = .ok (.iaload, 1) := by decide +kernel
theorem dL_law_584 : decode cL_law 584 = .ok (.invokevirtual 95, 3) := by decide +kernel
theorem dL_law_587 : decode cL_law 587 = .ok (.if_icmp .eq 144, 3) := by decide +kernel
theorem dL_law_590 : decode cL_law 590 = .ok (.iconst 0, 1) := by decide +kernel
theorem dL_law_591 : decode cL_law 591 = .ok (.ireturn, 1) := by decide +kernel
theorem dL_law_592 : decode cL_law 592 = .ok (.aload_n 1, 1) := by decide +kernel
theorem dL_law_593 : decode cL_law 593 = .ok (.aload_n 0, 1) := by decide +kernel
theorem dL_law_594 : decode cL_law 594 = .ok (.iload_n 3, 1) := by decide +kernel
theorem dL_law_595 : decode cL_law 595 = .ok (.iconst 1, 1) := by decide +kernel
theorem dL_law_596 : decode cL_law 596 = .ok (.iadd, 1) := by decide +kernel
theorem dL_law_597 : decode cL_law 597 = .ok (.iaload, 1) := by decide +kernel
theorem dL_law_598 : decode cL_law 598 = .ok (.invokevirtual 96, 3) := by decide +kernel
theorem dL_law_601 : decode cL_law 601 = .ok (.aload_n 2, 1) := by decide +kernel
theorem dL_law_602 : decode cL_law 602 = .ok (.aload_n 0, 1) := by decide +kernel
theorem dL_law_603 : decode cL_law 603 = .ok (.iload_n 3, 1) := by decide +kernel
theorem dL_law_604 : decode cL_law 604 = .ok (.iconst 1, 1) := by decide +kernel
theorem dL_law_605 : decode cL_law 605 = .ok (.iadd, 1) := by decide +kernel
theorem dL_law_606 : decode cL_law 606 = .ok (.iaload, 1) := by decide +kernel
theorem dL_law_607 : decode cL_law 607 = .ok (.invokevirtual 99, 3) := by decide +kernel
theorem dL_law_610 : decode cL_law 610 = .ok (.if_icmp .eq 121, 3) := by decide +kernel
theorem dL_law_613 : decode cL_law 613 = .ok (.iconst 0, 1) := by decide +kernel
theorem dL_law_614 : decode cL_law 614 = .ok (.ireturn, 1) := by decide +kernel
theorem dL_law_615 : decode cL_law 615 = .ok (.aload_n 1, 1) := by decide +kernel
theorem dL_law_616 : decode cL_law 616 = .ok (.aload_n 0, 1) := by decide +kernel
theorem dL_law_617 : decode cL_law 617 = .ok (.iload_n 3, 1) := by decide +kernel
theorem dL_law_618 : decode cL_law 618 = .ok (.iconst 1, 1) := by decide +kernel
theorem dL_law_619 : decode cL_law 619 = .ok (.iadd, 1) := by decide +kernel
theorem dL_law_620 : decode cL_law 620 = .ok (.iaload, 1) := by decide +kernel
theorem dL_law_621 : decode cL_law 621 = .ok (.aload_n 0, 1) := by decide +kernel
theorem dL_law_622 : decode cL_law 622 = .ok (.iload_n 3, 1) := by decide +kernel
theorem dL_law_623 : decode cL_law 623 = .ok (.iconst 2, 1) := by decide +kernel
theorem dL_law_624 : decode cL_law 624 = .ok (.iadd, 1) := by decide +kernel
theorem dL_law_625 : decode cL_law 625 = .ok (.iaload, 1) := by decide +kernel
theorem dL_law_626 : decode cL_law 626 = .ok (.invokevirtual 100, 3) := by decide +kernel
theorem dL_law_629 : decode cL_law 629 = .ok (.aload_n 2, 1) := by decide +kernel
theorem dL_law_630 : decode cL_law 630 = .ok (.aload_n 0, 1) := by decide +kernel
theorem dL_law_631 : decode cL_law 631 = .ok (.iload_n 3, 1) := by decide +kernel
theorem dL_law_632 : decode cL_law 632 = .ok (.iconst 1, 1) := by decide +kernel
theorem dL_law_633 : decode cL_law 633 = .ok (.iadd, 1) := by decide +kernel
theorem dL_law_634 : decode cL_law 634 = .ok (.iaload, 1) := by decide +kernel
theorem dL_law_635 : decode cL_law 635 = .ok (.aload_n 0, 1) := by decide +kernel
theorem dL_law_636 : decode cL_law 636 = .ok (.iload_n 3, 1) := by decide +kernel
theorem dL_law_637 : decode cL_law 637 = .ok (.iconst 2, 1) := by decide +kernel
theorem dL_law_638 : decode cL_law 638 = .ok (.iadd, 1) := by decide +kernel
theorem dL_law_639 : decode cL_law 639 = .ok (.iaload, 1) := by decide +kernel
theorem dL_law_640 : decode cL_law 640 = .ok (.invokevirtual 103, 3) := by decide +kernel
theorem dL_law_643 : decode cL_law 643 = .ok (.if_icmp .eq 88, 3) := by decide +kernel
theorem dL_law_646 : decode cL_law 646 = .ok (.iconst 0, 1) := by decide +kernel
theorem dL_law_647 : decode cL_law 647 = .ok (.ireturn, 1) := by decide +kernel
theorem dL_law_648 : decode cL_law 648 = .ok (.aload_n 1, 1) := by decide +kernel
theorem dL_law_649 : decode cL_law 649 = .ok (.aload_n 0, 1) := by decide +kernel
theorem dL_law_650 : decode cL_law 650 = .ok (.iload_n 3, 1) := by decide +kernel
theorem dL_law_651 : decode cL_law 651 = .ok (.iconst 1, 1) := by decide +kernel
theorem dL_law_652 : decode cL_law 652 = .ok (.iadd, 1) := by decide +kernel
theorem dL_law_653 : decode cL_law 653 = .ok (.iaload, 1) := by decide +kernel
theorem dL_law_654 : decode cL_law 654 = .ok (.invokevirtual 104, 3) := by decide +kernel
theorem dL_law_657 : decode cL_law 657 = .ok (.aload_n 2, 1) := by decide +kernel
theorem dL_law_658 : decode cL_law 658 = .ok (.aload_n 0, 1) := by decide +kernel
theorem dL_law_659 : decode cL_law 659 = .ok (.iload_n 3, 1) := by decide +kernel
theorem dL_law_660 : decode cL_law 660 = .ok (.iconst 1, 1) := by decide +kernel
theorem dL_law_661 : decode cL_law 661 = .ok (.iadd, 1) := by decide +kernel
theorem dL_law_662 : decode cL_law 662 = .ok (.iaload, 1) := by decide +kernel
theorem dL_law_663 : decode cL_law 663 = .ok (.invokevirtual 107, 3) := by decide +kernel
theorem dL_law_666 : decode cL_law 666 = .ok (.if_icmp .eq 65, 3) := by decide +kernel
theorem dL_law_669 : decode cL_law 669 = .ok (.iconst 0, 1) := by decide +kernel
theorem dL_law_670 : decode cL_law 670 = .ok (.ireturn, 1) := by decide +kernel
theorem dL_law_671 : decode cL_law 671 = .ok (.aload_n 1, 1) := by decide +kernel
theorem dL_law_672 : decode cL_law 672 = .ok (.aload_n 0, 1) := by decide +kernel
theorem dL_law_673 : decode cL_law 673 = .ok (.iload_n 3, 1) := by decide +kernel
theorem dL_law_674 : decode cL_law 674 = .ok (.iconst 1, 1) := by decide +kernel
theorem dL_law_675 : decode cL_law 675 = .ok (.iadd, 1) := by decide +kernel
theorem dL_law_676 : decode cL_law 676 = .ok (.iaload, 1) := by decide +kernel
theorem dL_law_677 : decode cL_law 677 = .ok (.invokevirtual 108, 3) := by decide +kernel
theorem dL_law_680 : decode cL_law 680 = .ok (.aload_n 2, 1) := by decide +kernel
theorem dL_law_681 : decode cL_law 681 = .ok (.aload_n 0, 1) := by decide +kernel
theorem dL_law_682 : decode cL_law 682 = .ok (.iload_n 3, 1) := by decide +kernel
theorem dL_law_683 : decode cL_law 683 = .ok (.iconst 1, 1) := by decide +kernel
theorem dL_law_684 : decode cL_law 684 = .ok (.iadd, 1) := by decide +kernel
theorem dL_law_685 : decode cL_law 685 = .ok (.iaload, 1) := by decide +kernel
theorem dL_law_686 : decode cL_law 686 = .ok (.invokevirtual 111, 3) := by decide +kernel
theorem dL_law_689 : decode cL_law 689 = .ok (.if_icmp .eq 42, 3) := by decide +kernel
theorem dL_law_692 : decode cL_law 692 = .ok (.iconst 0, 1) := by decide +kernel
theorem dL_law_693 : decode cL_law 693 = .ok (.ireturn, 1) := by decide +kernel
theorem dL_law_694 : decode cL_law 694 = .ok (.aload_n 1, 1) := by decide +kernel
theorem dL_law_695 : decode cL_law 695 = .ok (.aload_n 0, 1) := by decide +kernel
theorem dL_law_696 : decode cL_law 696 = .ok (.iload_n 3, 1) := by decide +kernel
theorem dL_law_697 : decode cL_law 697 = .ok (.iconst 1, 1) := by decide +kernel
theorem dL_law_698 : decode cL_law 698 = .ok (.iadd, 1) := by decide +kernel
theorem dL_law_699 : decode cL_law 699 = .ok (.iaload, 1) := by decide +kernel
theorem dL_law_700 : decode cL_law 700 = .ok (.invokevirtual 112, 3) := by decide +kernel
theorem dL_law_703 : decode cL_law 703 = .ok (.aload_n 2, 1) := by decide +kernel
theorem dL_law_704 : decode cL_law 704 = .ok (.aload_n 0, 1) := by decide +kernel
theorem dL_law_705 : decode cL_law 705 = .ok (.iload_n 3, 1) := by decide +kernel
theorem dL_law_706 : decode cL_law 706 = .ok (.iconst 1, 1) := by decide +kernel
theorem dL_law_707 : decode cL_law 707 = .ok (.iadd, 1) := by decide +kernel
theorem dL_law_708 : decode cL_law 708 = .ok (.iaload, 1) := by decide +kernel
theorem dL_law_709 : decode cL_law 709 = .ok (.invokevirtual 115, 3) := by decide +kernel
theorem dL_law_712 : decode cL_law 712 = .ok (.if_icmp .eq 19, 3) := by decide +kernel
theorem dL_law_715 : decode cL_law 715 = .ok (.iconst 0, 1) := by decide +kernel
theorem dL_law_716 : decode cL_law 716 = .ok (.ireturn, 1) := by decide +kernel
theorem dL_law_717 : decode cL_law 717 = .ok (.aload_n 1, 1) := by decide +kernel
theorem dL_law_718 : decode cL_law 718 = .ok (.invokevirtual 116, 3) := by decide +kernel
theorem dL_law_721 : decode cL_law 721 = .ok (.aload_n 2, 1) := by decide +kernel
theorem dL_law_722 : decode cL_law 722 = .ok (.invokevirtual 120, 3) := by decide +kernel
theorem dL_law_725 : decode cL_law 725 = .ok (.lcmp, 1) := by decide +kernel
theorem dL_law_726 : decode cL_law 726 = .ok (.ifCond .eq 5, 3) := by decide +kernel
theorem dL_law_729 : decode cL_law 729 = .ok (.iconst 0, 1) := by decide +kernel
theorem dL_law_730 : decode cL_law 730 = .ok (.ireturn, 1) := by decide +kernel
theorem dL_law_731 : decode cL_law 731 = .ok (.iinc 3 3, 3) := by decide +kernel
theorem dL_law_734 : decode cL_law 734 = .ok (.goto (-716), 3) := by decide +kernel
theorem dL_law_737 : decode cL_law 737 = .ok (.iconst 1, 1) := by decide +kernel
theorem dL_law_738 : decode cL_law 738 = .ok (.ireturn, 1) := by decide +kernel
